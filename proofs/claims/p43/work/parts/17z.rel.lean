/-! what both objects share: PEOPLE, THE YEAR, LOW, HIGH, and what is KEPT of them -/
def REL (u m : Nat → Nat → Int32) : Prop := u 1 5 = m 0 4 ∧ u 1 7 = m 0 5 ∧ (∀ s, s < 6 → u 2 s = m 1 s ∧ u 3 s = m 2 s) ∧ u 0 2 = m 0 61 ∧ (m 0 61 ≠ 0 → u 39 5 = m 40 0 ∧ u 39 7 = m 40 1 ∧ ∀ s, s < 6 → u 40 s = m 40 (3 + s) ∧ u 41 s = m 40 (9 + s))
theorem REL_K {u u' m m' : Nat → Nat → Int32} (h : REL u m) (ku : qK kU u u') (km : qK kM m m') : REL u' m' := by
  obtain ⟨h1, h2, h3, h4, h5⟩ := h
  refine ⟨?_, ?_, fun s hs => ⟨?_, ?_⟩, ?_, fun hk => ⟨?_, ?_, fun s hs => ⟨?_, ?_⟩⟩⟩
  · rw [ku 1 5 rfl, km 0 4 rfl]; exact h1
  · rw [ku 1 7 rfl, km 0 5 rfl]; exact h2
  · rw [ku 2 s rfl, km 1 s rfl]; exact (h3 s hs).1
  · rw [ku 3 s rfl, km 2 s rfl]; exact (h3 s hs).2
  · rw [ku 0 2 rfl, km 0 61 rfl]; exact h4
  · rw [ku 39 5 rfl, km 40 0 rfl]; exact (h5 (by rw [← km 0 61 rfl]; exact hk)).1
  · rw [ku 39 7 rfl, km 40 1 rfl]; exact (h5 (by rw [← km 0 61 rfl]; exact hk)).2.1
  · rw [ku 40 s rfl, km 40 (3 + s) rfl]; exact ((h5 (by rw [← km 0 61 rfl]; exact hk)).2.2 s hs).1
  · rw [ku 41 s rfl, km 40 (9 + s) rfl]; exact ((h5 (by rw [← km 0 61 rfl]; exact hk)).2.2 s hs).2
theorem pHas_eq {x y p : Int32} (h : x = y) : pHas x p ↔ pHas y p := by rw [h]
theorem law_person {u u' m m' : Nat → Nat → Int32} {r t p l h : Int32} (R : REL u m)
    (hu : (r = 1 ∧ (0 ≤ p.toInt ∧ p.toInt ≤ 5 ∧ 0 ≤ l.toInt ∧ h.toInt ≤ 99 ∧ l.toInt ≤ h.toInt) ∧ qK kU (qu (qu (qu (qu u 2 p.toNatClampNeg l) 3 p.toNatClampNeg h) 4 p.toNatClampNeg 100) 1 5 (u 1 5 ||| 1 <<< (p &&& 31))) u') ∨ (r = 0 ∧ (¬ (0 ≤ p.toInt ∧ p.toInt ≤ 5 ∧ 0 ≤ l.toInt ∧ h.toInt ≤ 99 ∧ l.toInt ≤ h.toInt)) ∧ qK kU u u'))
    (hm : (t = 1 ∧ (0 ≤ p.toInt ∧ p.toInt ≤ 5 ∧ 0 ≤ l.toInt ∧ h.toInt ≤ 99 ∧ l.toInt ≤ h.toInt) ∧ qK kM (qu (qu (qu (qu m 0 4 (m 0 4 ||| 1 <<< (p &&& 31))) 1 p.toNatClampNeg l) 2 p.toNatClampNeg h) 3 p.toNatClampNeg 100) m') ∨ (t = 0 ∧ (¬ (0 ≤ p.toInt ∧ p.toInt ≤ 5 ∧ 0 ≤ l.toInt ∧ h.toInt ≤ 99 ∧ l.toInt ≤ h.toInt)) ∧ qK kM m m')) : r = t ∧ REL u' m' := by
  rcases hu with ⟨hr, hc, ku⟩ | ⟨hr, hc, ku⟩ <;> rcases hm with ⟨ht, hd, km⟩ | ⟨ht, hd, km⟩
  · refine ⟨hr.trans ht.symm, REL_K ?_ ku km⟩
    obtain ⟨h1, h2, h3, h4, h5⟩ := R
    generalize p.toNatClampNeg = q at *
    refine ⟨?_, ?_, fun s hs => ⟨?_, ?_⟩, ?_, fun hk => ⟨?_, ?_, fun s hs => ⟨?_, ?_⟩⟩⟩
    · rw [qu_at, qu_ne (by decide), qu_ne (by decide), qu_ne (by decide), qu_at, h1]
    · simp only [qu_app]
      simpa using h2
    · simp only [qu_app]
      by_cases e : s = q
      · simp [e]
      · simp [e]; exact (h3 s hs).1
    · simp only [qu_app]
      by_cases e : s = q
      · simp [e]
      · simp [e]; exact (h3 s hs).2
    · simp only [qu_app]
      simpa using h4
    · simp only [qu_app] at hk ⊢
      simp at hk ⊢
      exact (h5 hk).1
    · simp only [qu_app] at hk ⊢
      simp at hk ⊢
      exact (h5 hk).2.1
    · simp only [qu_app] at hk ⊢
      simp at hk ⊢
      exact ((h5 hk).2.2 s hs).1
    · simp only [qu_app] at hk ⊢
      simp at hk ⊢
      exact ((h5 hk).2.2 s hs).2
  · exact absurd hc hd
  · exact absurd hd hc
  · exact ⟨hr.trans ht.symm, REL_K R ku km⟩
theorem law_dies {u u' m m' : Nat → Nat → Int32} {r t p d : Int32} (R : REL u m)
    (hu : (r = 1 ∧ (pHas (u 1 5) p ∧ 0 ≤ d.toInt ∧ d.toInt ≤ 100) ∧ qK kU (qu u 4 p.toNatClampNeg d) u') ∨ (r = 0 ∧ (¬ (pHas (u 1 5) p ∧ 0 ≤ d.toInt ∧ d.toInt ≤ 100)) ∧ qK kU u u'))
    (hm : (t = 1 ∧ (pHas (m 0 4) p ∧ 0 ≤ d.toInt ∧ d.toInt ≤ 100) ∧ qK kM (qu m 3 p.toNatClampNeg d) m') ∨ (t = 0 ∧ (¬ (pHas (m 0 4) p ∧ 0 ≤ d.toInt ∧ d.toInt ≤ 100)) ∧ qK kM m m')) : r = t ∧ REL u' m' := by
  rw [R.1] at hu
  rcases hu with ⟨hr, hc, ku⟩ | ⟨hr, hc, ku⟩ <;> rcases hm with ⟨ht, hd, km⟩ | ⟨ht, hd, km⟩
  · refine ⟨hr.trans ht.symm, REL_K ?_ ku km⟩
    obtain ⟨h1, h2, h3, h4, h5⟩ := R
    refine ⟨?_, ?_, fun s hs => ⟨?_, ?_⟩, ?_, fun hk => ⟨?_, ?_, fun s hs => ⟨?_, ?_⟩⟩⟩
    · rw [qu_ne (by decide), qu_ne (by decide)]; exact h1
    · rw [qu_ne (by decide), qu_ne (by decide)]; exact h2
    · rw [qu_ne (by decide), qu_ne (by decide)]; exact (h3 s hs).1
    · rw [qu_ne (by decide), qu_ne (by decide)]; exact (h3 s hs).2
    · rw [qu_ne (by decide), qu_ne (by decide)]; exact h4
    · rw [qu_ne (by decide)] at hk; rw [qu_ne (by decide), qu_ne (by decide)]; exact (h5 hk).1
    · rw [qu_ne (by decide)] at hk; rw [qu_ne (by decide), qu_ne (by decide)]; exact (h5 hk).2.1
    · rw [qu_ne (by decide)] at hk; rw [qu_ne (by decide), qu_ne (by decide)]; exact ((h5 hk).2.2 s hs).1
    · rw [qu_ne (by decide)] at hk; rw [qu_ne (by decide), qu_ne (by decide)]; exact ((h5 hk).2.2 s hs).2
  · exact absurd hc hd
  · exact absurd hd hc
  · exact ⟨hr.trans ht.symm, REL_K R ku km⟩
theorem law_years {u u' m m' : Nat → Nat → Int32} {r t n : Int32} (R : REL u m)
    (hu : ((1 ≤ n.toInt ∧ n.toInt ≤ 99 ∧ (u 1 7 + n).toInt ≤ 99) ∧ r = u 1 7 + n ∧ qK kU (qu u 1 7 (u 1 7 + n)) u') ∨ (¬ (1 ≤ n.toInt ∧ n.toInt ≤ 99 ∧ (u 1 7 + n).toInt ≤ 99) ∧ r = -1 ∧ qK kU u u'))
    (hm : ((1 ≤ n.toInt ∧ n.toInt ≤ 99 ∧ (m 0 5 + n).toInt ≤ 99) ∧ t = m 0 5 + n ∧ qK kM (qu m 0 5 (m 0 5 + n)) m') ∨ (¬ (1 ≤ n.toInt ∧ n.toInt ≤ 99 ∧ (m 0 5 + n).toInt ≤ 99) ∧ t = -1 ∧ qK kM m m')) : r = t ∧ REL u' m' := by
  rw [R.2.1] at hu
  rcases hu with ⟨hc, hr, ku⟩ | ⟨hc, hr, ku⟩ <;> rcases hm with ⟨hd, ht, km⟩ | ⟨hd, ht, km⟩
  · refine ⟨hr.trans ht.symm, REL_K ?_ ku km⟩
    obtain ⟨h1, h2, h3, h4, h5⟩ := R
    refine ⟨?_, ?_, fun s hs => ⟨?_, ?_⟩, ?_, fun hk => ⟨?_, ?_, fun s hs => ⟨?_, ?_⟩⟩⟩
    · rw [qu_off (by decide), qu_off (by decide)]; exact h1
    · rw [qu_at, qu_at]
    · rw [qu_ne (by decide), qu_ne (by decide)]; exact (h3 s hs).1
    · rw [qu_ne (by decide), qu_ne (by decide)]; exact (h3 s hs).2
    · rw [qu_ne (by decide), qu_off (by decide)]; exact h4
    · rw [qu_off (by decide)] at hk; rw [qu_ne (by decide), qu_ne (by decide)]; exact (h5 hk).1
    · rw [qu_off (by decide)] at hk; rw [qu_ne (by decide), qu_ne (by decide)]; exact (h5 hk).2.1
    · rw [qu_off (by decide)] at hk; rw [qu_ne (by decide), qu_ne (by decide)]; exact ((h5 hk).2.2 s hs).1
    · rw [qu_off (by decide)] at hk; rw [qu_ne (by decide), qu_ne (by decide)]; exact ((h5 hk).2.2 s hs).2
  · exact absurd hc hd
  · exact absurd hd hc
  · exact ⟨hr.trans ht.symm, REL_K R ku km⟩
theorem law_parent {u u' m m' : Nat → Nat → Int32} {r t p q d : Int32} (R : REL u m)
    (hu : (r = 1 ∧ (pHas (u 1 5) p ∧ pHas (u 1 5) q ∧ p.toInt ≠ q.toInt ∧ -1 ≤ d.toInt ∧ d.toInt ≤ 99) ∧ qK kU (qu u 5 (p.toInt * 6 + q.toInt).toNat d) u') ∨ (r = 0 ∧ (¬ (pHas (u 1 5) p ∧ pHas (u 1 5) q ∧ p.toInt ≠ q.toInt ∧ -1 ≤ d.toInt ∧ d.toInt ≤ 99)) ∧ qK kU u u'))
    (hm : (t = 1 ∧ (pHas (m 0 4) p ∧ pHas (m 0 4) q ∧ p.toInt ≠ q.toInt ∧ -1 ≤ d.toInt ∧ d.toInt ≤ 99) ∧ qK kM (qu m 4 (p.toInt * 6 + q.toInt).toNat d) m') ∨ (t = 0 ∧ (¬ (pHas (m 0 4) p ∧ pHas (m 0 4) q ∧ p.toInt ≠ q.toInt ∧ -1 ≤ d.toInt ∧ d.toInt ≤ 99)) ∧ qK kM m m')) : r = t ∧ REL u' m' := by
  rw [R.1] at hu
  rcases hu with ⟨hr, hc, ku⟩ | ⟨hr, hc, ku⟩ <;> rcases hm with ⟨ht, hd, km⟩ | ⟨ht, hd, km⟩
  · refine ⟨hr.trans ht.symm, REL_K ?_ ku km⟩
    obtain ⟨h1, h2, h3, h4, h5⟩ := R
    refine ⟨?_, ?_, fun s hs => ⟨?_, ?_⟩, ?_, fun hk => ⟨?_, ?_, fun s hs => ⟨?_, ?_⟩⟩⟩
    · rw [qu_ne (by decide), qu_ne (by decide)]; exact h1
    · rw [qu_ne (by decide), qu_ne (by decide)]; exact h2
    · rw [qu_ne (by decide), qu_ne (by decide)]; exact (h3 s hs).1
    · rw [qu_ne (by decide), qu_ne (by decide)]; exact (h3 s hs).2
    · rw [qu_ne (by decide), qu_ne (by decide)]; exact h4
    · rw [qu_ne (by decide)] at hk; rw [qu_ne (by decide), qu_ne (by decide)]; exact (h5 hk).1
    · rw [qu_ne (by decide)] at hk; rw [qu_ne (by decide), qu_ne (by decide)]; exact (h5 hk).2.1
    · rw [qu_ne (by decide)] at hk; rw [qu_ne (by decide), qu_ne (by decide)]; exact ((h5 hk).2.2 s hs).1
    · rw [qu_ne (by decide)] at hk; rw [qu_ne (by decide), qu_ne (by decide)]; exact ((h5 hk).2.2 s hs).2
  · exact absurd hc hd
  · exact absurd hd hc
  · exact ⟨hr.trans ht.symm, REL_K R ku km⟩
theorem cpy_in {f g : Nat → Int32} {n j : Nat} (hj : j < n) : va_cpy f g ((0 : Int32).toNatClampNeg) ((0 : Int32).toNatClampNeg) n j = f j := by
  have h0 : (0 : Int32).toNatClampNeg = 0 := by decide
  rw [h0]
  unfold va_cpy
  rw [if_pos (by omega)]
  congr 1; omega
theorem law_keep {u u' m m' : Nat → Nat → Int32} (R : REL u m) (ku : qK kU (qu (bec39 u) 0 2 1) u') (km : qK kM (kpF (qu m 0 61 1) 249) m') : REL u' m' := by
  refine REL_K ?_ ku km
  obtain ⟨h1, h2, h3, h4, h5⟩ := R
  have hb : ∀ c s, c < 39 → bec39 u c s = u c s := fun c s hc => by
    unfold bec39
    rw [qu_ne (by omega), qu_ne (by omega), quf_ne (by omega), quf_ne (by omega), quf_ne (by omega), quf_ne (by omega)]
  refine ⟨?_, ?_, fun s hs => ⟨?_, ?_⟩, ?_, fun hk => ⟨?_, ?_, fun s hs => ⟨?_, ?_⟩⟩⟩
  · rw [qu_ne (by decide), hb 1 5 (by decide), kpF_no (by decide) (by decide), qu_off (by decide)]; exact h1
  · rw [qu_ne (by decide), hb 1 7 (by decide), kpF_no (by decide) (by decide), qu_off (by decide)]; exact h2
  · rw [qu_ne (by decide), hb 2 s (by decide), kpF_no (by decide) (Or.inl (by decide)), qu_ne (by decide)]; exact (h3 s hs).1
  · rw [qu_ne (by decide), hb 3 s (by decide), kpF_no (by decide) (Or.inl (by decide)), qu_ne (by decide)]; exact (h3 s hs).2
  · rw [qu_at, kpF_no (by decide) (by decide), qu_at]
  · rw [qu_ne (by decide), kpF_row (by decide)]
    unfold bec39
    rw [qu_off (by decide), qu_at]
    show _ = qu m 0 61 1 0 4
    rw [qu_off (by decide)]; exact h1
  · rw [qu_ne (by decide), kpF_row (by decide)]
    unfold bec39
    rw [qu_at]
    show _ = qu m 0 61 1 0 5
    rw [qu_off (by decide)]; exact h2
  · rw [qu_ne (by decide), kpF_row (by omega), kvR_1 (by omega) (by omega), qu_ne (by decide), show 3 + s - 3 = s from by omega]
    unfold bec39
    rw [qu_ne (by decide), qu_ne (by decide), quf_ne (by decide), quf_ne (by decide), quf_ne (by decide), quf_eq, cpy_in (by show s < 6; exact hs)]; exact (h3 s hs).1
  · rw [qu_ne (by decide), kpF_row (by omega), kvR_2 (by omega) (by omega), qu_ne (by decide), show 9 + s - 9 = s from by omega]
    unfold bec39
    rw [qu_ne (by decide), qu_ne (by decide), quf_ne (by decide), quf_ne (by decide), quf_eq, cpy_in (by show s < 6; exact hs)]; exact (h3 s hs).2
theorem law_undo {u u' m m' : Nat → Nat → Int32} {r t : Int32} (R : REL u m)
    (hu : (r = 1 ∧ (u 0 2 ≠ 0) ∧ (qK kU (bec1 u) u')) ∨ (r = 0 ∧ (u 0 2 = 0) ∧ (qK kU u u')))
    (hm : (t = 1 ∧ (m 0 61 ≠ 0) ∧ (qK kM (unF m 249) m')) ∨ (t = 0 ∧ (m 0 61 = 0) ∧ (qK kM m m'))) : r = t ∧ REL u' m' := by
  rw [R.2.2.2.1] at hu
  rcases hu with ⟨hr, hc, ku⟩ | ⟨hr, hc, ku⟩ <;> rcases hm with ⟨ht, hd, km⟩ | ⟨ht, hd, km⟩
  · refine ⟨hr.trans ht.symm, REL_K ?_ ku km⟩
    obtain ⟨h1, h2, h3, h4, h5⟩ := R
    obtain ⟨g1, g2, g3⟩ := h5 hd
    have hb : ∀ c s, (c = 0 ∨ 39 ≤ c) → bec1 u c s = u c s := fun c s hc => by
      unfold bec1
      rw [qu_ne (by omega), qu_ne (by omega), quf_ne (by omega), quf_ne (by omega), quf_ne (by omega), quf_ne (by omega)]
    have u40 : ∀ s, unF m 249 40 s = m 40 s := fun s => unF_no (uo_40 s) (Or.inl (by decide))
    refine ⟨?_, ?_, fun s hs => ⟨?_, ?_⟩, ?_, fun hk => ⟨?_, ?_, fun s hs => ⟨?_, ?_⟩⟩⟩
    · unfold bec1
      rw [qu_off (by decide), qu_at]
      exact g1
    · unfold bec1
      rw [qu_at]
      exact g2
    · rw [unF_get (uoR_1 hs) (by omega) (Or.inl (by decide))]
      unfold bec1
      rw [qu_ne (by decide), qu_ne (by decide), quf_ne (by decide), quf_ne (by decide), quf_ne (by decide), quf_eq, cpy_in (by show s < 6; exact hs)]; exact (g3 s hs).1
    · rw [unF_get (uoR_2 hs) (by omega) (Or.inl (by decide))]
      unfold bec1
      rw [qu_ne (by decide), qu_ne (by decide), quf_ne (by decide), quf_ne (by decide), quf_eq, cpy_in (by show s < 6; exact hs)]; exact (g3 s hs).2
    · rw [hb 0 2 (by omega)]; exact h4
    · rw [hb 39 5 (by omega), u40]; exact g1
    · rw [hb 39 7 (by omega), u40]; exact g2
    · rw [hb 40 s (by omega), u40]; exact (g3 s hs).1
    · rw [hb 41 s (by omega), u40]; exact (g3 s hs).2
  · exact absurd hd hc
  · exact absurd hc hd
  · exact ⟨hr.trans ht.symm, REL_K R ku km⟩
/-! a new object of each -/
theorem bU_0 (c s : Nat) : (bU c s).1 ≤ 0 ∧ 0 ≤ (bU c s).2 := by
  unfold bU
  repeat' split
  all_goals exact ⟨by decide, by decide⟩
theorem bM_0 (c s : Nat) : (bM c s).1 ≤ 0 ∧ 0 ≤ (bM c s).2 := by
  unfold bM
  repeat' split
  all_goals exact ⟨by decide, by decide⟩
def zU0 (f0 f1 f2 f3 : Nat → Int32) : Nat → Nat → Int32 := fun k => if k = 4 then f0 else if k = 5 then f1 else if k = 42 then f2 else if k = 43 then f3 else fun _ => 0
def zM0 (f0 f1 : Nat → Int32) : Nat → Nat → Int32 := fun k => if k = 3 then f0 else if k = 4 then f1 else fun _ => 0
theorem zU0_J (f0 f1 f2 f3 : Nat → Int32) : qJU (zU0 f0 f1 f2 f3) (zU0 f0 f1 f2 f3) := by
  refine ⟨fun c s => ?_, qK_rf⟩
  by_cases h : c = 4 ∨ c = 5 ∨ c = 42 ∨ c = 43
  · have hb : bU c s = (-2147483648, 2147483647) := by rcases h with rfl | rfl | rfl | rfl <;> rfl
    rw [hb]; exact gl_b _
  · have hz : zU0 f0 f1 f2 f3 c s = 0 := by
      unfold zU0
      rw [if_neg (by omega), if_neg (by omega), if_neg (by omega), if_neg (by omega)]
    rw [hz]; exact bU_0 c s
theorem zM0_J (f0 f1 : Nat → Int32) : qJM (zM0 f0 f1) (zM0 f0 f1) := by
  have hz : ∀ c s, c ≠ 3 → c ≠ 4 → zM0 f0 f1 c s = 0 := fun c s h1 h2 => by
    unfold zM0
    rw [if_neg h1, if_neg h2]
  refine ⟨fun c s => ?_, qK_rf, fun s h => ?_, fun s h => ?_, fun s hs => ?_, fun s hs h => ?_, fun s hs => ?_⟩
  · by_cases h : c = 3 ∨ c = 4
    · have hb : bM c s = (-2147483648, 2147483647) := by rcases h with rfl | rfl <;> rfl
      rw [hb]; exact gl_b _
    · rw [hz c s (by omega) (by omega)]; exact bM_0 c s
  · rw [hz 8 s (by decide) (by decide)] at h; exact absurd h (by decide)
  · rw [hz 21 s (by decide) (by decide)]; exact Int.le_refl _
  · rw [hz 1 s (by decide) (by decide), hz 2 s (by decide) (by decide)]; exact Int.le_refl _
  · rw [hz 40 _ (by decide) (by decide)] at h; exact absurd h (by decide)
  · rw [hz 40 _ (by decide) (by decide), hz 40 _ (by decide) (by decide)]; exact Int.le_refl _
theorem z0_REL (f0 f1 f2 f3 g0 g1 : Nat → Int32) : REL (zU0 f0 f1 f2 f3) (zM0 g0 g1) := ⟨rfl, rfl, fun _ _ => ⟨rfl, rfl⟩, rfl, fun h => absurd rfl h⟩
