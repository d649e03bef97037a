/-! TREE: what both objects share besides: who is whose parent; an edge joins told ones -/
theorem bit_or (x y p : Int32) : bitAt (x ||| y) p = bitAt x p ||| bitAt y p := by
  unfold bitAt
  rw [Int32.shiftRight_or]
  apply Int32.toBitVec_inj.mp
  rw [Int32.toBitVec_and, Int32.toBitVec_or, Int32.toBitVec_or, Int32.toBitVec_and, Int32.toBitVec_and]
  exact BitVec.and_or_distrib_right
theorem trT_or {x y : Int32} {s : Nat} (h : trT x s) : trT (x ||| y) s := by
  unfold trT at *
  rw [bit_or]
  have h1 : bitAt x (nI s) = 1 := (ga_bit (x := bitAt x (nI s)) rfl).resolve_left h
  rcases ga_bit (x := bitAt y (nI s)) rfl with h2 | h2
  · rw [h1, h2]; decide
  · rw [h1, h2]; decide
def edT (pe : Int32) (g : Nat → Int32) : Prop := ∀ e, e < 36 → oN g e = true → trT pe (eP e) ∧ trT pe (eQ e)
def REL2 (u m : Nat → Nat → Int32) : Prop := (∀ e, e < 36 → u 5 e = m 4 e) ∧ edT (m 0 4) (m 4) ∧ (m 0 61 ≠ 0 → (∀ e, e < 36 → u 43 e = m 40 (21 + e)) ∧ edT (m 40 0) (fun e => m 40 (21 + e)))
def RELt (u m : Nat → Nat → Int32) : Prop := REL u m ∧ REL2 u m
theorem edT_cg {pe pe' : Int32} {g g' : Nat → Int32} (h : edT pe g) (hp : pe' = pe) (hg : ∀ e, e < 36 → g' e = g e) : edT pe' g' := fun e he ho => by
  rw [hp]
  exact h e he (oN_iff.mpr (by rw [← hg e he]; exact oN_iff.mp ho))
theorem REL2_K {u u' m m' : Nat → Nat → Int32} (h : REL2 u m) (ku : qK kU u u') (km : qK kM m m') : REL2 u' m' := by
  obtain ⟨h1, h2, h3⟩ := h
  refine ⟨fun e he => ?_, edT_cg h2 (km 0 4 rfl) (fun e _ => km 4 e rfl), fun hk => ?_⟩
  · rw [ku 5 e rfl, km 4 e rfl]; exact h1 e he
  · obtain ⟨g1, g2⟩ := h3 (by rw [← km 0 61 rfl]; exact hk)
    refine ⟨fun e he => ?_, edT_cg g2 (km 40 0 rfl) (fun e _ => km 40 (21 + e) rfl)⟩
    rw [ku 43 e rfl, km 40 (21 + e) rfl]; exact g1 e he
theorem RELt_K {u u' m m' : Nat → Nat → Int32} (h : RELt u m) (ku : qK kU u u') (km : qK kM m m') : RELt u' m' := ⟨REL_K h.1 ku km, REL2_K h.2 ku km⟩
/-- a change that leaves people, who is whose parent, what is kept -/
theorem REL2_s {u u' m m' : Nat → Nat → Int32} (h : REL2 u m) (u5 : ∀ e, u' 5 e = u 5 e) (u43 : ∀ e, u' 43 e = u 43 e) (m4 : ∀ e, m' 4 e = m 4 e) (m40 : ∀ e, m' 40 e = m 40 e) (mp : ∀ s, trT (m 0 4) s → trT (m' 0 4) s) (mk : m' 0 61 = m 0 61) : REL2 u' m' := by
  obtain ⟨h1, h2, h3⟩ := h
  refine ⟨fun e he => by rw [u5, m4]; exact h1 e he, fun e he ho => ?_, fun hk => ?_⟩
  · have h := h2 e he (oN_iff.mpr (by rw [← m4 e]; exact oN_iff.mp ho))
    exact ⟨mp _ h.1, mp _ h.2⟩
  · obtain ⟨g1, g2⟩ := h3 (by rw [← mk]; exact hk)
    exact ⟨fun e he => by rw [u43, m40]; exact g1 e he, edT_cg g2 (m40 0) (fun e _ => m40 (21 + e))⟩
theorem lawt_person {u u' m m' : Nat → Nat → Int32} {r t p l h : Int32} (R : RELt u m)
    (hu : (r = 1 ∧ (0 ≤ p.toInt ∧ p.toInt ≤ 5 ∧ 0 ≤ l.toInt ∧ h.toInt ≤ 99 ∧ l.toInt ≤ h.toInt) ∧ qK kU (qu (qu (qu (qu u 2 p.toNatClampNeg l) 3 p.toNatClampNeg h) 4 p.toNatClampNeg 100) 1 5 (u 1 5 ||| 1 <<< (p &&& 31))) u') ∨ (r = 0 ∧ (¬ (0 ≤ p.toInt ∧ p.toInt ≤ 5 ∧ 0 ≤ l.toInt ∧ h.toInt ≤ 99 ∧ l.toInt ≤ h.toInt)) ∧ qK kU u u'))
    (hm : (t = 1 ∧ (0 ≤ p.toInt ∧ p.toInt ≤ 5 ∧ 0 ≤ l.toInt ∧ h.toInt ≤ 99 ∧ l.toInt ≤ h.toInt) ∧ qK kM (qu (qu (qu (qu m 0 4 (m 0 4 ||| 1 <<< (p &&& 31))) 1 p.toNatClampNeg l) 2 p.toNatClampNeg h) 3 p.toNatClampNeg 100) m') ∨ (t = 0 ∧ (¬ (0 ≤ p.toInt ∧ p.toInt ≤ 5 ∧ 0 ≤ l.toInt ∧ h.toInt ≤ 99 ∧ l.toInt ≤ h.toInt)) ∧ qK kM m m')) : r = t ∧ RELt u' m' := by
  obtain ⟨e1, e2⟩ := law_person R.1 hu hm
  refine ⟨e1, e2, ?_⟩
  rcases hu with ⟨hr, hc, ku⟩ | ⟨hr, hc, ku⟩ <;> rcases hm with ⟨ht, hd, km⟩ | ⟨ht, hd, km⟩
  · refine REL2_K (REL2_s R.2 (fun e => ?_) (fun e => ?_) (fun e => ?_) (fun e => ?_) (fun s hs => ?_) ?_) ku km
    · rw [qu_ne (by decide), qu_ne (by decide), qu_ne (by decide), qu_ne (by decide)]
    · rw [qu_ne (by decide), qu_ne (by decide), qu_ne (by decide), qu_ne (by decide)]
    · rw [qu_ne (by decide), qu_ne (by decide), qu_ne (by decide), qu_ne (by decide)]
    · rw [qu_ne (by decide), qu_ne (by decide), qu_ne (by decide), qu_ne (by decide)]
    · rw [qu_ne (by decide), qu_ne (by decide), qu_ne (by decide), qu_at]; exact trT_or hs
    · rw [qu_ne (by decide), qu_ne (by decide), qu_ne (by decide), qu_off (by decide)]
  · exact absurd hc hd
  · exact absurd hd hc
  · exact REL2_K R.2 ku km
theorem lawt_dies {u u' m m' : Nat → Nat → Int32} {r t p d : Int32} (R : RELt u m)
    (hu : (r = 1 ∧ (pHas (u 1 5) p ∧ 0 ≤ d.toInt ∧ d.toInt ≤ 100) ∧ qK kU (qu u 4 p.toNatClampNeg d) u') ∨ (r = 0 ∧ (¬ (pHas (u 1 5) p ∧ 0 ≤ d.toInt ∧ d.toInt ≤ 100)) ∧ qK kU u u'))
    (hm : (t = 1 ∧ (pHas (m 0 4) p ∧ 0 ≤ d.toInt ∧ d.toInt ≤ 100) ∧ qK kM (qu m 3 p.toNatClampNeg d) m') ∨ (t = 0 ∧ (¬ (pHas (m 0 4) p ∧ 0 ≤ d.toInt ∧ d.toInt ≤ 100)) ∧ qK kM m m')) : r = t ∧ RELt u' m' := by
  obtain ⟨e1, e2⟩ := law_dies R.1 hu hm
  refine ⟨e1, e2, ?_⟩
  rw [R.1.1] at hu
  rcases hu with ⟨hr, hc, ku⟩ | ⟨hr, hc, ku⟩ <;> rcases hm with ⟨ht, hd, km⟩ | ⟨ht, hd, km⟩
  · refine REL2_K (REL2_s R.2 (fun e => ?_) (fun e => ?_) (fun e => ?_) (fun e => ?_) (fun s hs => ?_) ?_) ku km
    · rw [qu_ne (by decide)]
    · rw [qu_ne (by decide)]
    · rw [qu_ne (by decide)]
    · rw [qu_ne (by decide)]
    · rw [qu_ne (by decide)]; exact hs
    · rw [qu_ne (by decide)]
  · exact absurd hc hd
  · exact absurd hd hc
  · exact REL2_K R.2 ku km
theorem lawt_years {u u' m m' : Nat → Nat → Int32} {r t n : Int32} (R : RELt u m)
    (hu : ((1 ≤ n.toInt ∧ n.toInt ≤ 99 ∧ (u 1 7 + n).toInt ≤ 99) ∧ r = u 1 7 + n ∧ qK kU (qu u 1 7 (u 1 7 + n)) u') ∨ (¬ (1 ≤ n.toInt ∧ n.toInt ≤ 99 ∧ (u 1 7 + n).toInt ≤ 99) ∧ r = -1 ∧ qK kU u u'))
    (hm : ((1 ≤ n.toInt ∧ n.toInt ≤ 99 ∧ (m 0 5 + n).toInt ≤ 99) ∧ t = m 0 5 + n ∧ qK kM (qu m 0 5 (m 0 5 + n)) m') ∨ (¬ (1 ≤ n.toInt ∧ n.toInt ≤ 99 ∧ (m 0 5 + n).toInt ≤ 99) ∧ t = -1 ∧ qK kM m m')) : r = t ∧ RELt u' m' := by
  obtain ⟨e1, e2⟩ := law_years R.1 hu hm
  refine ⟨e1, e2, ?_⟩
  rw [R.1.2.1] at hu
  rcases hu with ⟨hc, hr, ku⟩ | ⟨hc, hr, ku⟩ <;> rcases hm with ⟨hd, ht, km⟩ | ⟨hd, ht, km⟩
  · refine REL2_K (REL2_s R.2 (fun e => ?_) (fun e => ?_) (fun e => ?_) (fun e => ?_) (fun s hs => ?_) ?_) ku km
    · rw [qu_ne (by decide)]
    · rw [qu_ne (by decide)]
    · rw [qu_ne (by decide)]
    · rw [qu_ne (by decide)]
    · rw [qu_off (by decide)]; exact hs
    · rw [qu_off (by decide)]
  · exact absurd hc hd
  · exact absurd hd hc
  · exact REL2_K R.2 ku km
theorem lawt_parent {u u' m m' : Nat → Nat → Int32} {r t p q d : Int32} (R : RELt u m)
    (hu : (r = 1 ∧ (pHas (u 1 5) p ∧ pHas (u 1 5) q ∧ p.toInt ≠ q.toInt ∧ -1 ≤ d.toInt ∧ d.toInt ≤ 99) ∧ qK kU (qu u 5 (p.toInt * 6 + q.toInt).toNat d) u') ∨ (r = 0 ∧ (¬ (pHas (u 1 5) p ∧ pHas (u 1 5) q ∧ p.toInt ≠ q.toInt ∧ -1 ≤ d.toInt ∧ d.toInt ≤ 99)) ∧ qK kU u u'))
    (hm : (t = 1 ∧ (pHas (m 0 4) p ∧ pHas (m 0 4) q ∧ p.toInt ≠ q.toInt ∧ -1 ≤ d.toInt ∧ d.toInt ≤ 99) ∧ qK kM (qu m 4 (p.toInt * 6 + q.toInt).toNat d) m') ∨ (t = 0 ∧ (¬ (pHas (m 0 4) p ∧ pHas (m 0 4) q ∧ p.toInt ≠ q.toInt ∧ -1 ≤ d.toInt ∧ d.toInt ≤ 99)) ∧ qK kM m m')) : r = t ∧ RELt u' m' := by
  obtain ⟨e1, e2⟩ := law_parent R.1 hu hm
  refine ⟨e1, e2, ?_⟩
  rw [R.1.1] at hu
  rcases hu with ⟨hr, hc, ku⟩ | ⟨hr, hc, ku⟩ <;> rcases hm with ⟨ht, hd, km⟩ | ⟨ht, hd, km⟩
  · refine REL2_K ?_ ku km
    obtain ⟨h1, h2, h3⟩ := R.2
    have hi : (p.toInt * 6 + q.toInt).toNat = p.toNatClampNeg * 6 + q.toNatClampNeg := by
      have g1 := gn_cast hd.1.1
      have g2 := gn_cast hd.2.1.1
      omega
    obtain ⟨x1, x2, x3⟩ := eX hd.1.1 hd.1.2.1 hd.2.1.1 hd.2.1.2.1
    rw [hi]
    refine ⟨fun e he => ?_, fun e he ho => ?_, fun hk => ?_⟩
    · by_cases w : e = p.toNatClampNeg * 6 + q.toNatClampNeg
      · rw [w, qu_at, qu_at]
      · rw [qu_off w, qu_off w]; exact h1 e he
    · rw [qu_ne (by decide)]
      by_cases w : e = p.toNatClampNeg * 6 + q.toNatClampNeg
      · rw [w, x2, x3]; exact ⟨trT_of hd.1, trT_of hd.2.1⟩
      · exact h2 e he (oN_iff.mpr (by have h := oN_iff.mp ho; rw [qu_off w] at h; exact h))
    · rw [qu_ne (by decide)] at hk
      obtain ⟨g1, g2⟩ := h3 hk
      refine ⟨fun e he => ?_, edT_cg g2 (by rw [qu_ne (by decide)]) (fun e _ => ?_)⟩
      · rw [qu_ne (by decide), qu_ne (by decide)]; exact g1 e he
      · show qu m 4 _ d 40 (21 + e) = m 40 (21 + e)
        rw [qu_ne (by decide)]
  · exact absurd hc hd
  · exact absurd hd hc
  · exact REL2_K R.2 ku km
theorem uoR_4 {s : Nat} (h : s < 36) : uoR 4 s = some (21 + s) := by
  unfold uoR
  rw [if_neg (by omega), if_neg (by omega), if_neg (by omega), if_neg (by omega), if_neg (by omega), if_neg (by omega), if_pos (by omega)]
theorem cpy_36 {f g : Nat → Int32} {j : Nat} (hj : j < 36) : va_cpy f g (Int32.toNatClampNeg 0) (Int32.toNatClampNeg 0) (Int32.toNatClampNeg 36) j = f j := by
  have h0 : Int32.toNatClampNeg 0 = 0 := by decide
  have h6 : Int32.toNatClampNeg 36 = 36 := by decide
  rw [h0, h6]
  unfold va_cpy
  rw [if_pos (by omega)]
  congr 1; omega
theorem lawt_keep {u u' m m' : Nat → Nat → Int32} (R : RELt u m) (ku : qK kU (qu (bec39 u) 0 2 1) u') (km : qK kM (kpF (qu m 0 61 1) 249) m') : RELt u' m' := by
  refine ⟨law_keep R.1 ku km, REL2_K ?_ ku km⟩
  obtain ⟨h1, h2, h3⟩ := R.2
  refine ⟨fun e he => ?_, edT_cg h2 ?_ (fun e _ => ?_), fun hk => ⟨fun e he => ?_, edT_cg h2 ?_ (fun e he => ?_)⟩⟩
  · rw [qu_ne (by decide), kpF_no (by decide) (Or.inl (by decide)), qu_ne (by decide)]
    unfold bec39
    rw [qu_ne (by decide), qu_ne (by decide), quf_ne (by decide), quf_ne (by decide), quf_ne (by decide), quf_ne (by decide)]; exact h1 e he
  · rw [kpF_no (by decide) (Or.inr (by decide)), qu_off (by decide)]
  · rw [kpF_no (by decide) (Or.inl (by decide)), qu_ne (by decide)]
  · rw [qu_ne (by decide), kpF_row (by omega), kvR_4 (by omega) (by omega), qu_ne (by decide), show 21 + e - 21 = e from by omega]
    unfold bec39
    rw [qu_ne (by decide), qu_ne (by decide), quf_eq, cpy_36 he]; exact h1 e he
  · rw [kpF_row (by decide)]
    show qu m 0 61 1 0 4 = m 0 4
    rw [qu_off (by decide)]
  · show kpF (qu m 0 61 1) 249 40 (21 + e) = m 4 e
    rw [kpF_row (by omega), kvR_4 (by omega) (by omega), qu_ne (by decide), show 21 + e - 21 = e from by omega]
theorem lawt_undo {u u' m m' : Nat → Nat → Int32} {r t : Int32} (R : RELt u m)
    (hu : (r = 1 ∧ (u 0 2 ≠ 0) ∧ (qK kU (bec1 u) u')) ∨ (r = 0 ∧ (u 0 2 = 0) ∧ (qK kU u u')))
    (hm : (t = 1 ∧ (m 0 61 ≠ 0) ∧ (qK kM (unF m 249) m')) ∨ (t = 0 ∧ (m 0 61 = 0) ∧ (qK kM m m'))) : r = t ∧ RELt u' m' := by
  obtain ⟨e1, e2⟩ := law_undo R.1 hu hm
  refine ⟨e1, e2, ?_⟩
  rw [R.1.2.2.2.1] at hu
  rcases hu with ⟨hr, hc, ku⟩ | ⟨hr, hc, ku⟩ <;> rcases hm with ⟨ht, hd, km⟩ | ⟨ht, hd, km⟩
  · refine REL2_K ?_ ku km
    obtain ⟨h1, h2, h3⟩ := R.2
    obtain ⟨g1, g2⟩ := h3 hd
    have u40 : ∀ s, unF m 249 40 s = m 40 s := fun s => unF_no (uo_40 s) (Or.inl (by decide))
    have p4 : unF m 249 0 4 = m 40 0 := unF_get (c := 0) (s := 4) (i := 0) rfl (by decide) (Or.inr (by decide))
    refine ⟨fun e he => ?_, edT_cg g2 p4 (fun e he => ?_), fun hk => ⟨fun e he => ?_, edT_cg g2 (u40 0) (fun e _ => u40 (21 + e))⟩⟩
    · rw [unF_get (uoR_4 he) (by omega) (Or.inl (by decide))]
      unfold bec1
      rw [qu_ne (by decide), qu_ne (by decide), quf_eq, cpy_36 he]; exact g1 e he
    · exact unF_get (uoR_4 he) (by omega) (Or.inl (by decide))
    · rw [u40]
      unfold bec1
      rw [qu_ne (by decide), qu_ne (by decide), quf_ne (by decide), quf_ne (by decide), quf_ne (by decide), quf_ne (by decide)]; exact g1 e he
  · exact absurd hd hc
  · exact absurd hc hd
  · exact REL2_K R.2 ku km
/-! the answers -/
theorem itG_cg {g g' : Nat → Int32} {up sr : Nat → Nat} {f f' : Nat → Int} (hu : ∀ e, e < 36 → up e < 6 ∧ sr e < 6) (hg : ∀ e, e < 36 → g e = g' e) (hf : ∀ s, s < 6 → f s = f' s) : ∀ k s, s < 6 → itG (oN g) up sr (oW g) f k s = itG (oN g') up sr (oW g') f' k s := by
  have hp : ∀ (a a' : Nat → Int), (∀ s, s < 6 → a s = a' s) → ∀ e, e ≤ 36 → ∀ s, s < 6 → pG (oN g) up sr (oW g) a e s = pG (oN g') up sr (oW g') a' e s := by
    intro a a' ha e
    induction e with
    | zero => intro _ s hs; exact ha s hs
    | succ e ih =>
      intro he s hs
      have ih := ih (by omega)
      have ho : oN g e = oN g' e := by unfold oN; rw [hg e (by omega)]
      have hw : oW g e = oW g' e := by unfold oW; rw [hg e (by omega)]
      obtain ⟨u1, u2⟩ := hu e (by omega)
      by_cases h : oN g e = true
      · rw [pG_s h, pG_s (by rw [← ho]; exact h), ih _ u1, ih _ u2, ih s hs, hw]
      · rw [pG_n h, pG_n (by rw [← ho]; exact h)]; exact ih s hs
  intro k
  induction k with
  | zero => exact hf
  | succ k ih => exact hp _ _ ih 36 (Nat.le_refl _)
theorem law_tree {u m : Nat → Nat → Int32} {r t p w : Int32} (R : RELt u m) (JM : qJM m m)
    (hu : (¬ (pHas (u 1 5) p ∧ 0 ≤ w.toInt ∧ w.toInt ≤ 1) ∧ r = -1) ∨ ((pHas (u 1 5) p ∧ 0 ≤ w.toInt ∧ w.toInt ≤ 1) ∧ trU0 (u 5) (u 2) (u 3) (u 1 5) ∧ r = -2) ∨ ((pHas (u 1 5) p ∧ 0 ≤ w.toInt ∧ w.toInt ≤ 1) ∧ trU1 (u 5) (u 2) (u 3) (u 1 5) ∧ ((w.toInt = 0 ∧ r.toInt = LA (u 5) (iI (u 2)) 7 p.toNatClampNeg) ∨ (w.toInt ≠ 0 ∧ r.toInt = -HB (u 5) (iN (u 3)) 7 p.toNatClampNeg))))
    (hm : (¬ (pHas (m 0 4) p ∧ 0 ≤ w.toInt ∧ w.toInt ≤ 1) ∧ t = -1) ∨ ((pHas (m 0 4) p ∧ 0 ≤ w.toInt ∧ w.toInt ≤ 1) ∧ trM0 (m 4) (m 1) (m 2) (m 0 4) ∧ t = -2) ∨ ((pHas (m 0 4) p ∧ 0 ≤ w.toInt ∧ w.toInt ≤ 1) ∧ trM1 (m 4) (m 1) (m 2) (m 0 4) ∧ ((w.toInt = 0 ∧ t.toInt = LA (m 4) (iI (m 1)) 700 p.toNatClampNeg) ∨ (w.toInt ≠ 0 ∧ t.toInt = -HB (m 4) (iN (m 2)) 700 p.toNatClampNeg)))) : r = t := by
  have hp : u 1 5 = m 0 4 := R.1.1
  have hL : ∀ k s, s < 6 → LA (u 5) (iI (u 2)) k s = LA (m 4) (iI (m 1)) k s := itG_cg eU R.2.1 (fun s hs => by show (u 2 s).toInt = (m 1 s).toInt; rw [(R.1.2.2.1 s hs).1])
  have hH : ∀ k s, s < 6 → HB (u 5) (iN (u 3)) k s = HB (m 4) (iN (m 2)) k s := itG_cg eU' R.2.1 (fun s hs => by show -(u 3 s).toInt = -(m 2 s).toInt; rw [(R.1.2.2.1 s hs).2])
  have hS : trS (u 5) (u 2) (u 3) ↔ trS (m 4) (m 1) (m 2) := by
    constructor
    · intro h s hs
      have := h s hs
      rw [hL 7 s hs, hL 6 s hs, hH 7 s hs, hH 6 s hs] at this; exact this
    · intro h s hs
      rw [hL 7 s hs, hL 6 s hs, hH 7 s hs, hH 6 s hs]; exact h s hs
  have h1 : trU1 (u 5) (u 2) (u 3) (u 1 5) → trU1 (m 4) (m 1) (m 2) (m 0 4) := fun h => ⟨hS.mp h.1, fun s hs hT => by
    have := h.2 s hs (by rw [hp]; exact hT)
    rw [hL 7 s hs, hH 7 s hs] at this; exact this⟩
  have h0 : trU0 (u 5) (u 2) (u 3) (u 1 5) → trU0 (m 4) (m 1) (m 2) (m 0 4) := fun h => by
    rcases h with h | ⟨s, hs, hT, h⟩
    · exact Or.inl (fun q => h (hS.mpr q))
    · refine Or.inr ⟨s, hs, by rw [← hp]; exact hT, ?_⟩
      rw [hL 7 s hs, hH 7 s hs] at h; exact h
  have hbl : ∀ s, s < 6 → 0 ≤ (m 1 s).toInt ∧ (m 1 s).toInt ≤ 99 := fun s _ => JM.1 1 s
  have hbh : ∀ s, s < 6 → 0 ≤ (m 2 s).toInt ∧ (m 2 s).toInt ≤ 99 := fun s _ => JM.1 2 s
  rw [hp] at hu
  rcases hu with ⟨a, b⟩ | ⟨a, b, c⟩ | ⟨a, b, c⟩ <;> rcases hm with ⟨a', b'⟩ | ⟨a', b', c'⟩ | ⟨a', b', c'⟩
  · exact b.trans b'.symm
  · exact absurd a' a
  · exact absurd a' a
  · exact absurd a a'
  · exact c.trans c'.symm
  · exact absurd (h0 (by rw [hp]; exact b)) (tr_01 hbl hbh b')
  · exact absurd a a'
  · exact absurd b' (tr_10 R.2.2.1 (h1 (by rw [hp]; exact b)))
  · have b := h1 (by rw [hp]; exact b)
    have hc := gn_cast a.1.1
    have h6 : p.toNatClampNeg < 6 := by have := a.1.2.1; omega
    have q1 := tr_far b.1 694 h6
    have q1 : LA (m 4) (iI (m 1)) 700 p.toNatClampNeg = LA (m 4) (iI (m 1)) 6 p.toNatClampNeg ∧ HB (m 4) (iN (m 2)) 700 p.toNatClampNeg = HB (m 4) (iN (m 2)) 6 p.toNatClampNeg := q1
    have q2 := b.1 _ h6
    rw [hL 7 _ h6, hH 7 _ h6] at c
    apply gr_eq
    omega
theorem z0_RELt (f0 : {g : Nat → Int32 // ∀ j, g j = if j < 6 then 100 else 0}) (f1 : {g : Nat → Int32 // ∀ j, g j = if j < 36 then -1 else 0}) (f2 : {g : Nat → Int32 // ∀ j, g j = if j < 6 then 100 else 0}) (f3 : {g : Nat → Int32 // ∀ j, g j = if j < 36 then -1 else 0}) (g0 : {g : Nat → Int32 // ∀ j, g j = if j < 6 then 100 else 0}) (g1 : {g : Nat → Int32 // ∀ j, g j = if j < 36 then -1 else 0}) : RELt (zU0 f0.1 f1.1 f2.1 f3.1) (zM0 g0.1 g1.1) := by
  refine ⟨z0_REL _ _ _ _ _ _, fun e he => ?_, fun e he ho => ?_, fun h => absurd rfl h⟩
  · show f1.1 e = g1.1 e
    rw [f1.2 e, g1.2 e]
  · exfalso
    apply oN_iff.mp ho
    show (g1.1 e).toInt = -1
    rw [g1.2 e, if_pos he]; rfl
