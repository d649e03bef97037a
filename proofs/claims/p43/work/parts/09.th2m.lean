/-! the rows that are left, as both ends of the walk count them: a number in mixed digits -/
def bitAt (x p : Int32) : Int32 := x >>> (p &&& 31) &&& 1
def rlw (z : Nat → Nat → Int32) (p : Nat) : Nat := if bitAt (z 0 4) (nI p) = 0 then 1 else ((z 2 p).toInt - (z 1 p).toInt).toNat + 1
def rld (z : Nat → Nat → Int32) (p : Nat) : Nat := if bitAt (z 0 4) (nI p) = 0 then 0 else ((z 2 p).toInt - (z 23 p).toInt).toNat
def rl (z : Nat → Nat → Int32) : Nat := ((((rld z 0 * rlw z 1 + rld z 1) * rlw z 2 + rld z 2) * rlw z 3 + rld z 3) * rlw z 4 + rld z 4) * rlw z 5 + rld z 5
def rwp (z : Nat → Nat → Int32) : Nat → Nat
  | 0 => 1
  | p + 1 => rwp z p * rlw z p
theorem rlw_eq {z z' : Nat → Nat → Int32} (h4 : z' 0 4 = z 0 4) (p : Nat) (h1 : z' 1 p = z 1 p) (h2 : z' 2 p = z 2 p) : rlw z' p = rlw z p := by unfold rlw; rw [h4, h1, h2]
theorem rlw_K {b z z' : Nat → Nat → Int32} (K0 : qK kM b z) (K1 : qK kM b z') (p : Nat) : rlw z' p = rlw z p :=
  rlw_eq ((K1 0 4 rfl).trans (K0 0 4 rfl).symm) p ((K1 1 p rfl).trans (K0 1 p rfl).symm) ((K1 2 p rfl).trans (K0 2 p rfl).symm)
theorem rld_eq {z z' : Nat → Nat → Int32} (h4 : z' 0 4 = z 0 4) (p : Nat) (h2 : z' 2 p = z 2 p) (h3 : z' 23 p = z 23 p) : rld z' p = rld z p := by unfold rld; rw [h4, h2, h3]
theorem rwp_K {b z z' : Nat → Nat → Int32} (K0 : qK kM b z) (K1 : qK kM b z') (p : Nat) : rwp z' p = rwp z p := by
  induction p with
  | zero => rfl
  | succ p ih => show rwp z' p * rlw z' p = rwp z p * rlw z p; rw [ih, rlw_K K0 K1]
theorem rl_up {z z1 : Nat → Nat → Int32} {c s : Nat} {x : Int32} (hz : z1 = qu z c s x) (hc : c ≠ 1 ∧ c ≠ 2 ∧ c ≠ 23 ∧ (c = 0 → s ≠ 4)) : rl z1 = rl z := by
  have h1 : z1 1 = z 1 := qt_row hz (Ne.symm hc.1)
  have h2 : z1 2 = z 2 := qt_row hz (Ne.symm hc.2.1)
  have h3 : z1 23 = z 23 := qt_row hz (Ne.symm hc.2.2.1)
  have h4 : z1 0 4 = z 0 4 := by
    rcases qu_in hz 0 4 with ⟨a, b, -⟩ | a
    · exact absurd b.symm (hc.2.2.2 a.symm)
    · exact a
  have hw : ∀ p, rlw z1 p = rlw z p := fun p => rlw_eq h4 p (by rw [h1]) (by rw [h2])
  have hd : ∀ p, rld z1 p = rld z p := fun p => rld_eq h4 p (by rw [h2]) (by rw [h3])
  unfold rl
  simp only [hw, hd]
theorem rl_h1 {T T' w d d' : Nat} (h : T' + 1 ≤ T) (hd : d = 0) (hd' : d' + 1 = w) : (T' * w + d') + 1 ≤ T * w + d := by
  have h1 : (T' + 1) * w ≤ T * w := Nat.mul_le_mul_right w h
  rw [Nat.add_mul, Nat.one_mul] at h1
  omega
theorem rl_h0 {T w d d' : Nat} (h : d = d' + 1) : (T * w + d') + 1 ≤ T * w + d := by omega
/-- one step of the walk over the rows -/
theorem rl_inc {b z z' : Nat → Nat → Int32} {p : Nat} (hp : p < 6) (K0 : qK kM b z) (K1 : qK kM b z') (hA : ∀ s, s < p → z' 23 s = z 23 s) (hd : rld z p = rld z' p + 1) (hB : ∀ s, p < s → s < 6 → rld z s = 0 ∧ rld z' s + 1 = rlw z s) : rl z' + 1 ≤ rl z := by
  have hw : ∀ s, rlw z' s = rlw z s := rlw_K K0 K1
  have h4 : z' 0 4 = z 0 4 := (K1 0 4 rfl).trans (K0 0 4 rfl).symm
  have hl : ∀ s, s < p → rld z' s = rld z s := fun s h => rld_eq h4 s ((K1 2 s rfl).trans (K0 2 s rfl).symm) (hA s h)
  unfold rl
  simp only [hw]
  rcases (by omega : p = 0 ∨ p = 1 ∨ p = 2 ∨ p = 3 ∨ p = 4 ∨ p = 5) with rfl | rfl | rfl | rfl | rfl | rfl
  · exact rl_h1 (rl_h1 (rl_h1 (rl_h1 (rl_h1 (Nat.le_of_eq hd.symm) (hB 1 (by omega) (by omega)).1 (hB 1 (by omega) (by omega)).2) (hB 2 (by omega) (by omega)).1 (hB 2 (by omega) (by omega)).2) (hB 3 (by omega) (by omega)).1 (hB 3 (by omega) (by omega)).2) (hB 4 (by omega) (by omega)).1 (hB 4 (by omega) (by omega)).2) (hB 5 (by omega) (by omega)).1 (hB 5 (by omega) (by omega)).2
  · rw [hl 0 (by omega)]
    exact rl_h1 (rl_h1 (rl_h1 (rl_h1 (rl_h0 hd) (hB 2 (by omega) (by omega)).1 (hB 2 (by omega) (by omega)).2) (hB 3 (by omega) (by omega)).1 (hB 3 (by omega) (by omega)).2) (hB 4 (by omega) (by omega)).1 (hB 4 (by omega) (by omega)).2) (hB 5 (by omega) (by omega)).1 (hB 5 (by omega) (by omega)).2
  · rw [hl 0 (by omega), hl 1 (by omega)]
    exact rl_h1 (rl_h1 (rl_h1 (rl_h0 hd) (hB 3 (by omega) (by omega)).1 (hB 3 (by omega) (by omega)).2) (hB 4 (by omega) (by omega)).1 (hB 4 (by omega) (by omega)).2) (hB 5 (by omega) (by omega)).1 (hB 5 (by omega) (by omega)).2
  · rw [hl 0 (by omega), hl 1 (by omega), hl 2 (by omega)]
    exact rl_h1 (rl_h1 (rl_h0 hd) (hB 4 (by omega) (by omega)).1 (hB 4 (by omega) (by omega)).2) (hB 5 (by omega) (by omega)).1 (hB 5 (by omega) (by omega)).2
  · rw [hl 0 (by omega), hl 1 (by omega), hl 2 (by omega), hl 3 (by omega)]
    exact rl_h1 (rl_h0 hd) (hB 5 (by omega) (by omega)).1 (hB 5 (by omega) (by omega)).2
  · rw [hl 0 (by omega), hl 1 (by omega), hl 2 (by omega), hl 3 (by omega), hl 4 (by omega)]
    exact rl_h0 hd
theorem gn_cast {x : Int32} (h : 0 ≤ x.toInt) : (x.toNatClampNeg : Int) = x.toInt := Int.toNat_of_nonneg h
theorem gn_nI {x : Int32} (h : 0 ≤ x.toInt) : nI x.toNatClampNeg = x := by
  obtain ⟨i, hi, rfl⟩ := nJ_of h
  have hb := gl_b (nI i)
  have h2 : i < 2 ^ 31 := by
    have := nJ_of h
    obtain ⟨j, hj, hje⟩ := this
    omega
  rw [nI_clamp h2]
def nrA (z zn : Nat → Nat → Int32) (p : Int32) : Prop := ∀ s : Nat, (s : Int) ≤ p.toInt → zn 23 s = z 23 s
def nrB (z zn : Nat → Nat → Int32) (p : Int32) : Prop := ∀ s : Nat, p.toInt < (s : Int) → s < 6 → rld z s = 0 ∧ rld zn s + 1 = rlw z s
theorem pHas_bit {x p : Int32} (h : pHas x p) : bitAt x p ≠ 0 := h.2.2
theorem pHas_nbit {x p : Int32} (h : ¬ pHas x p) (h0 : 0 ≤ p.toInt) (h5 : p.toInt ≤ 5) : bitAt x p = 0 := Classical.byContradiction fun q => h ⟨h0, h5, q⟩
theorem nr_skip {b z zn : Nat → Nat → Int32} {p p' : Int32} (K0 : qK kM b z) (K1 : qK kM b zn) (h0 : 0 ≤ p.toInt) (h5 : p.toInt ≤ 5) (hp : p'.toInt = p.toInt - 1) (hb : ¬ pHas (zn 0 4) p) (hA : nrA z zn p) (hB : nrB z zn p) : nrA z zn p' ∧ nrB z zn p' := by
  refine ⟨fun s hs => hA s (by omega), fun s h1 h2 => ?_⟩
  by_cases e : (s : Int) = p.toInt
  · have hs : s = p.toNatClampNeg := by have := gn_cast h0; omega
    have h4 : zn 0 4 = z 0 4 := (K1 0 4 rfl).trans (K0 0 4 rfl).symm
    have hbit : bitAt (z 0 4) (nI s) = 0 := by rw [hs, gn_nI h0, ← h4]; exact pHas_nbit hb h0 h5
    have hbit2 : bitAt (zn 0 4) (nI s) = 0 := by rw [h4]; exact hbit
    unfold rld rlw
    rw [if_pos hbit, if_pos hbit2, if_pos hbit]
    exact ⟨rfl, rfl⟩
  · exact hB s (by omega) h2
theorem nr_reset {b z zn z' : Nat → Nat → Int32} {p p' x : Int32} (K0 : qK kM b z) (K1 : qK kM b zn) (K2 : qK kM b z') (h0 : 0 ≤ p.toInt) (h5 : p.toInt ≤ 5) (hp : p'.toInt = p.toInt - 1) (hb : pHas (zn 0 4) p) (hz : z' = qu zn 23 p.toNatClampNeg x) (hx : x = zn 1 p.toNatClampNeg) (hge : (zn 2 p.toNatClampNeg).toInt ≤ (zn 23 p.toNatClampNeg).toInt) (hA : nrA z zn p) (hB : nrB z zn p) : nrA z z' p' ∧ nrB z z' p' := by
  have hc := gn_cast h0
  have h4 : zn 0 4 = z 0 4 := (K1 0 4 rfl).trans (K0 0 4 rfl).symm
  have h4' : z' 0 4 = zn 0 4 := (K2 0 4 rfl).trans (K1 0 4 rfl).symm
  have hne : ∀ s : Nat, (s : Int) ≠ p.toInt → z' 23 s = zn 23 s := fun s hs => qt_off hz (by omega)
  refine ⟨fun s hs => (hne s (by omega)).trans (hA s (by omega)), fun s h1 h2 => ?_⟩
  by_cases e : (s : Int) = p.toInt
  · have hs : s = p.toNatClampNeg := by omega
    have hbn : bitAt (zn 0 4) (nI s) ≠ 0 := by rw [hs, gn_nI h0]; exact pHas_bit hb
    have hbz : bitAt (z 0 4) (nI s) ≠ 0 := by rw [← h4]; exact hbn
    have hb' : bitAt (z' 0 4) (nI s) ≠ 0 := by rw [h4']; exact hbn
    have e2 : zn 2 s = z 2 s := (K1 2 s rfl).trans (K0 2 s rfl).symm
    have e2' : z' 2 s = z 2 s := (K2 2 s rfl).trans (K0 2 s rfl).symm
    have e1 : zn 1 s = z 1 s := (K1 1 s rfl).trans (K0 1 s rfl).symm
    have e3 : z' 23 s = z 1 s := by rw [hs, qt_at hz, hx, ← hs, e1]
    have e4 : zn 23 s = z 23 s := hA s (by omega)
    rw [← hs, e2, e4] at hge
    unfold rld rlw
    rw [if_neg hbz, if_neg hb', if_neg hbz, e2', e3]
    exact ⟨by omega, rfl⟩
  · have h3 : rld z' s = rld zn s := rld_eq h4' s ((K2 2 s rfl).trans (K1 2 s rfl).symm) (hne s e)
    rw [h3]; exact hB s (by omega) h2
theorem nr_inc {b z zn z' : Nat → Nat → Int32} {p x y : Int32} (K0 : qK kM b z) (K1 : qK kM b zn) (K2 : qK kM b z') (h0 : 0 ≤ p.toInt) (h5 : p.toInt ≤ 5) (hb : pHas (zn 0 4) p) (hz : z' = qu zn 23 p.toNatClampNeg x) (hy : y = zn 23 p.toNatClampNeg) (hx : x.toInt = y.toInt + 1) (hlt : (zn 23 p.toNatClampNeg).toInt < (zn 2 p.toNatClampNeg).toInt) (hA : nrA z zn p) (hB : nrB z zn p) : rl z' + 1 ≤ rl z := by
  have hc := gn_cast h0
  have h4 : zn 0 4 = z 0 4 := (K1 0 4 rfl).trans (K0 0 4 rfl).symm
  have h4' : z' 0 4 = zn 0 4 := (K2 0 4 rfl).trans (K1 0 4 rfl).symm
  have hne : ∀ s : Nat, (s : Int) ≠ p.toInt → z' 23 s = zn 23 s := fun s hs => qt_off hz (by omega)
  refine rl_inc (p := p.toNatClampNeg) (by omega) K0 K2 (fun s hs => (hne s (by omega)).trans (hA s (by omega))) ?_ (fun s h1 h2 => ?_)
  · generalize hs : p.toNatClampNeg = s at *
    have hbn : bitAt (zn 0 4) (nI s) ≠ 0 := by rw [← hs, gn_nI h0]; exact pHas_bit hb
    have hbz : bitAt (z 0 4) (nI s) ≠ 0 := by rw [← h4]; exact hbn
    have hb' : bitAt (z' 0 4) (nI s) ≠ 0 := by rw [h4']; exact hbn
    have e2 : zn 2 s = z 2 s := (K1 2 s rfl).trans (K0 2 s rfl).symm
    have e2' : z' 2 s = z 2 s := (K2 2 s rfl).trans (K0 2 s rfl).symm
    have e4 : zn 23 s = z 23 s := hA s (by omega)
    have e3 : (z' 23 s).toInt = (z 23 s).toInt + 1 := by rw [qt_at hz, hx, hy, e4]
    rw [e2, e4] at hlt
    unfold rld
    rw [if_neg hbz, if_neg hb', e2', e3]
    omega
  · have h3 : rld z' s = rld zn s := rld_eq h4' s ((K2 2 s rfl).trans (K1 2 s rfl).symm) (hne s (by omega))
    rw [h3]; exact hB s (by omega) h2
theorem rl_top {T A w d : Nat} (h : T + 1 = A) (hd : d + 1 = w) : (T * w + d) + 1 = A * w := by
  rw [← h, Nat.add_mul, Nat.one_mul, ← hd]; omega
theorem rl_first {z : Nat → Nat → Int32} (h : ∀ s, s < 6 → z 23 s = z 1 s) : rl z + 1 = rwp z 6 := by
  have hd : ∀ s, s < 6 → rld z s + 1 = rlw z s := fun s hs => by
    unfold rld rlw
    split
    · rfl
    · rw [h s hs]
  show rl z + 1 = (((((1 * rlw z 0) * rlw z 1) * rlw z 2) * rlw z 3) * rlw z 4) * rlw z 5
  rw [Nat.one_mul]
  exact rl_top (rl_top (rl_top (rl_top (rl_top (hd 0 (by omega)) (hd 1 (by omega))) (hd 2 (by omega))) (hd 3 (by omega))) (hd 4 (by omega))) (hd 5 (by omega))
/-! how many rows -/
def rmI (z : Nat → Nat → Int32) (p n : Int32) : Prop := n.toInt = (rwp z p.toNatClampNeg : Int) ∨ (200000 < n.toInt ∧ 200000 < rwp z p.toNatClampNeg)
theorem rlw_pos (z : Nat → Nat → Int32) (p : Nat) : 1 ≤ rlw z p := by unfold rlw; split <;> omega
theorem rwp_mono (z : Nat → Nat → Int32) (p : Nat) : rwp z p ≤ rwp z (p + 1) := by
  show rwp z p ≤ rwp z p * rlw z p
  have := Nat.mul_le_mul_left (rwp z p) (rlw_pos z p)
  omega
theorem gn_succ {x y : Int32} (h0 : 0 ≤ x.toInt) (h : y.toInt = x.toInt + 1) : y.toNatClampNeg = x.toNatClampNeg + 1 := by
  have h1 := gn_cast h0
  have h2 := gn_cast (x := y) (by omega)
  omega
theorem rm_no {z : Nat → Nat → Int32} {p p' n : Int32} (h0 : 0 ≤ p.toInt) (h5 : p.toInt ≤ 5) (hp : p'.toInt = p.toInt + 1) (hb : ¬ pHas (z 0 4) p) (h : rmI z p n) : rmI z p' n := by
  have hw : rlw z p.toNatClampNeg = 1 := by unfold rlw; rw [if_pos (by rw [gn_nI h0]; exact pHas_nbit hb h0 h5)]
  unfold rmI at *
  rw [gn_succ h0 hp]
  show _ = ((rwp z p.toNatClampNeg * rlw z p.toNatClampNeg : Nat) : Int) ∨ (_ ∧ _ < rwp z p.toNatClampNeg * rlw z p.toNatClampNeg)
  rw [hw, Nat.mul_one]; exact h
theorem rm_many {z : Nat → Nat → Int32} {p p' n : Int32} (h0 : 0 ≤ p.toInt) (hp : p'.toInt = p.toInt + 1) (hn : 200000 < n.toInt) (h : rmI z p n) : rmI z p' n := by
  unfold rmI at *
  rw [gn_succ h0 hp]
  have := rwp_mono z p.toNatClampNeg
  refine Or.inr ⟨hn, ?_⟩
  rcases h with h | h
  · omega
  · omega
theorem rm_mul {b z : Nat → Nat → Int32} {p p' n m w l h d : Int32} (J : qJM b z) (h0 : 0 ≤ p.toInt) (h5 : p.toInt ≤ 5) (hp : p'.toInt = p.toInt + 1) (hb : pHas (z 0 4) p) (hn : n.toInt ≤ 200000) (eh : h = z 2 p.toNatClampNeg) (el : l = z 1 p.toNatClampNeg) (ed : d.toInt = h.toInt - l.toInt) (ew : w.toInt = d.toInt + 1) (em : m = n * w) (hI : rmI z p n) : rmI z p' m := by
  have hb1 := J.1 2 p.toNatClampNeg
  have hb2 := J.1 1 p.toNatClampNeg
  have hle := J.2.2.2.2.1 p.toNatClampNeg (by have := gn_cast h0; omega)
  have hb1 : (0 : Int) ≤ (z 2 p.toNatClampNeg).toInt ∧ (z 2 p.toNatClampNeg).toInt ≤ 99 := hb1
  have hb2 : (0 : Int) ≤ (z 1 p.toNatClampNeg).toInt ∧ (z 1 p.toNatClampNeg).toInt ≤ 99 := hb2
  have hw : (rlw z p.toNatClampNeg : Int) = w.toInt := by
    unfold rlw
    rw [if_neg (by rw [gn_nI h0]; exact pHas_bit hb), ew, ed, eh, el]
    omega
  have hw1 : 1 ≤ w.toInt ∧ w.toInt ≤ 100 := by rw [ew, ed, eh, el]; omega
  unfold rmI at *
  rw [gn_succ h0 hp]
  rcases hI with hI | hI
  · refine Or.inl ?_
    have h1 : 0 ≤ n.toInt := by omega
    have h2 : n.toInt * w.toInt ≤ 200000 * 100 := Int.mul_le_mul hn hw1.2 (by omega) (by omega)
    have h3 : 0 ≤ n.toInt * w.toInt := Int.mul_nonneg h1 (by omega)
    rw [em, gi_mul (by omega) (by omega), hI, ← hw]
    show _ = ((rwp z p.toNatClampNeg * rlw z p.toNatClampNeg : Nat) : Int)
    rw [Int.natCast_mul]
  · omega
/-! sums -/
def bsum (x : Int32) : Nat → Int32
  | 0 => 0
  | k + 1 => bsum x k + bitAt x (nI k)
def sA (f : Nat → Int32) : Nat → Int32
  | 0 => 0
  | k + 1 => sA f k + f k
theorem sA_b {f : Nat → Int32} {n : Nat} (h : ∀ s, s < n → 0 ≤ (f s).toInt ∧ (f s).toInt ≤ 200000) (hn : n ≤ 100) : ∀ k, k ≤ n → 0 ≤ (sA f k).toInt ∧ (sA f k).toInt ≤ 200000 * (k : Int)
  | 0, _ => ⟨Int.le_refl 0, Int.le_refl 0⟩
  | k + 1, hk => by
    have h1 := sA_b h hn k (by omega)
    have h2 := h k (by omega)
    show 0 ≤ (sA f k + f k).toInt ∧ (sA f k + f k).toInt ≤ 200000 * ((k + 1 : Nat) : Int)
    rw [gi_add (by omega) (by omega)]
    omega
/-! stores of two places that belong together -/
theorem jM_lh {b z z1 z2 : Nat → Nat → Int32} {s : Nat} {l h : Int32} (J : qJM b z) (hz1 : z1 = qu z 1 s l) (hz2 : z2 = qu z1 2 s h) (hl : 0 ≤ l.toInt ∧ l.toInt ≤ 99) (hh : 0 ≤ h.toInt ∧ h.toInt ≤ 99) (hlh : l.toInt ≤ h.toInt) : qJM (qu (qu b 1 s l) 2 s h) z2 := by
  refine ⟨qI_up (qI_up J.1 hz1 hl) hz2 hh, qK_upc (qK_upc J.2.1 hz1) hz2, ?_⟩
  have hne : ∀ c, c ≠ 1 → c ≠ 2 → z2 c = z c := fun c h1 h2 => (qt_row hz2 h2).trans (qt_row hz1 h1)
  obtain ⟨x1, x2, x3, x4, x5⟩ := J.2.2
  refine ⟨fun t => ?_, fun t => ?_, fun t ht => ?_, fun t ht => ?_, fun t ht => ?_⟩
  · rw [hne 8 (by decide) (by decide), hne 9 (by decide) (by decide)]; exact x1 t
  · rw [hne 20 (by decide) (by decide), hne 21 (by decide) (by decide)]; exact x2 t
  · by_cases e : t = s
    · rw [e, qt_at hz2, qt_ne hz2 s (by decide), qt_at hz1]; exact hlh
    · rw [qt_off hz2 e, qt_ne hz1 t (by decide), qt_ne hz2 t (by decide), qt_off hz1 e]; exact x3 t ht
  · rw [hne 40 (by decide) (by decide)]; exact x4 t ht
  · rw [hne 40 (by decide) (by decide)]; exact x5 t ht
theorem jM_fs {b z z1 z2 : Nat → Nat → Int32} {s s' : Nat} {f g : Int32} (J : qJM b z) (hz1 : z1 = qu z 20 s f) (hz2 : z2 = qu z1 21 s' g) (hs : s' = s) (hf : -1 ≤ f.toInt ∧ f.toInt ≤ 5) (hg : -1 ≤ g.toInt ∧ g.toInt ≤ 5) (hfg : f.toInt = -1 ∨ 0 ≤ g.toInt) : qJM b z2 := by
  subst hs
  refine ⟨qI_up (qI_up J.1 hz1 hf) hz2 hg, qK_up (qK_up J.2.1 hz1 rfl) hz2 rfl, ?_⟩
  have hne : ∀ c, c ≠ 20 → c ≠ 21 → z2 c = z c := fun c h1 h2 => (qt_row hz2 h2).trans (qt_row hz1 h1)
  obtain ⟨x1, x2, x3, x4, x5⟩ := J.2.2
  refine ⟨fun t => ?_, fun t => ?_, fun t ht => ?_, fun t ht => ?_, fun t ht => ?_⟩
  · rw [hne 8 (by decide) (by decide), hne 9 (by decide) (by decide)]; exact x1 t
  · by_cases e : t = s'
    · rw [e, qt_at hz2, qt_ne hz2 s' (by decide), qt_at hz1]; omega
    · rw [qt_off hz2 e, qt_ne hz1 t (by decide), qt_ne hz2 t (by decide), qt_off hz1 e]; exact x2 t
  · rw [hne 1 (by decide) (by decide), hne 2 (by decide) (by decide)]; exact x3 t ht
  · rw [hne 40 (by decide) (by decide)]; exact x4 t ht
  · rw [hne 40 (by decide) (by decide)]; exact x5 t ht
theorem jM_sr {b z z1 z2 : Nat → Nat → Int32} {s : Nat} {f g : Int32} (J : qJM b z) (hz1 : z1 = qu z 8 s f) (hz2 : z2 = qu z1 9 s g) (hf : 0 ≤ f.toInt ∧ f.toInt ≤ 3) (hfg : f.toInt ≠ 3 ∨ g.toInt ≠ 0) : qJM b z2 := by
  refine ⟨qI_up (qI_up J.1 hz1 hf) hz2 (gl_b g), qK_up (qK_up J.2.1 hz1 rfl) hz2 rfl, ?_⟩
  have hne : ∀ c, c ≠ 8 → c ≠ 9 → z2 c = z c := fun c h1 h2 => (qt_row hz2 h2).trans (qt_row hz1 h1)
  obtain ⟨x1, x2, x3, x4, x5⟩ := J.2.2
  refine ⟨fun t => ?_, fun t => ?_, fun t ht => ?_, fun t ht => ?_, fun t ht => ?_⟩
  · by_cases e : t = s
    · rw [e, qt_at hz2, qt_ne hz2 s (by decide), qt_at hz1]; omega
    · rw [qt_off hz2 e, qt_ne hz1 t (by decide), qt_ne hz2 t (by decide), qt_off hz1 e]; exact x1 t
  · rw [hne 20 (by decide) (by decide), hne 21 (by decide) (by decide)]; exact x2 t
  · rw [hne 1 (by decide) (by decide), hne 2 (by decide) (by decide)]; exact x3 t ht
  · rw [hne 40 (by decide) (by decide)]; exact x4 t ht
  · rw [hne 40 (by decide) (by decide)]; exact x5 t ht
