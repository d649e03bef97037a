/-! HOW OLD: in how many ways -/
def hIn (f : Nat → Int64) (v k : Nat) : Nat → Nat → Int64
  | 0 => f
  | m + 1 => vp_updL (hIn f v k m) (401 * k + (v + m)) (hIn f v k m (401 * k + (v + m)) + hIn f v k m (401 * (k - 1) + m))
def hMid (f : Nat → Int64) (v c : Nat) : Nat → Nat → Int64
  | 0 => f
  | j + 1 => hIn (hMid f v c j) v (j + 1) (c - v)
def hOut (f : Nat → Int64) (lo c n : Nat) : Nat → Nat → Int64
  | 0 => f
  | j + 1 => hMid (hOut f lo c n j) (lo + j) c n
def hF0 : Nat → Int64 := fun j => if j = 0 then 1 else 0
def hoV (n s lo hi : Nat) : Int64 := hOut hF0 lo (s + 1) n (hi + 1 - lo) (401 * n + s)
def hoE (f g : Nat → Int64) : Prop := ∀ j, j < 2807 → f j = g j
def hoC (n s lo hi : Int32) : Prop := 1 ≤ n.toInt ∧ n.toInt ≤ 6 ∧ 0 ≤ s.toInt ∧ s.toInt ≤ 400 ∧ 0 ≤ lo.toInt ∧ hi.toInt ≤ 99 ∧ lo.toInt ≤ hi.toInt
theorem hy_at {y y1 : Nat → Nat → Int64} {c b : Nat} {x : Int64} (h : y1 = qul y c b x) : y1 c = vp_updL (y c) b x := by rw [h, qul_eq]
theorem hin_step {f : Nat → Int64} {y y1 : Nat → Nat → Int64} {c v k m : Nat} {i j : Nat} {x p q : Int64} (h : hoE (y c) (hIn f v k m)) (hy : y1 = qul y c i x) (hx : x = p + q) (hp : p = y c i) (hq : q = y c j) (hi : i = 401 * k + (v + m)) (hj : j = 401 * (k - 1) + m) (hi2 : i < 2807) (hj2 : j < 2807) : hoE (y1 c) (hIn f v k (m + 1)) := by
  intro t ht
  rw [hy_at hy]
  show vp_updL (y c) i x t = vp_updL (hIn f v k m) (401 * k + (v + m)) (hIn f v k m (401 * k + (v + m)) + hIn f v k m (401 * (k - 1) + m)) t
  rw [hx, hp, hq, h i hi2, h j hj2, ← hi, ← hj]
  unfold vp_updL
  by_cases e : t = i
  · simp [e]
  · simp [e]; exact h t ht
theorem ho_re {f g g' : Nat → Int64} (h : hoE f g) (e : g = g') : hoE f g' := by rw [← e]; exact h
/-- the row of zeros, and the one at its head -/
def hzI (f : Nat → Int64) (p : Int32) : Prop := ∀ s : Nat, (s : Int) < p.toInt → f s = 0
theorem hz_0 (f : Nat → Int64) : hzI f 0 := fun s h => by
  have h1 : (s : Int) < 0 := h
  omega
theorem hz_step {y y1 : Nat → Nat → Int64} {c : Nat} {p p' : Int32} {x : Int64} (h0 : 0 ≤ p.toInt) (hp : p'.toInt = p.toInt + 1) (h : hzI (y c) p) (hy : y1 = qul y c p.toNatClampNeg x) (hx : x = 0) : hzI (y1 c) p' := by
  intro s hs
  have hc := gn_cast h0
  rw [hy_at hy]
  unfold vp_updL
  by_cases e : s = p.toNatClampNeg
  · simp [e, hx]
  · simp [e]; exact h s (by omega)
theorem ho_0 {y y1 : Nat → Nat → Int64} {c : Nat} (h : ∀ j, j < 2807 → y c j = 0) (hy : y1 = qul y c (Int32.toNatClampNeg 0) 1) : hoE (y1 c) hF0 := by
  intro j hj
  rw [hy_at hy]
  unfold vp_updL hF0
  show (if j = 0 then (1 : Int64) else y c j) = if j = 0 then 1 else 0
  by_cases e : j = 0
  · rw [if_pos e, if_pos e]
  · rw [if_neg e, if_neg e]; exact h j hj
theorem ho_i {y y1 : Nat → Nat → Int64} {c : Nat} {p : Int32} (h : hzI (y c) p) (hp : 2807 ≤ p.toInt) (hy : y1 = qul y c (Int32.toNatClampNeg 0) 1) : hoE (y1 c) hF0 := ho_0 (fun j hj => h j (by omega)) hy
theorem int_d {a b : Int32} {n : Nat} (h : a.toInt = b.toInt + (n : Int)) : (a.toInt - b.toInt).toNat = n := by omega
/-- the three loops -/
def hA (y : Nat → Int64) (n s lo v : Int32) : Prop := hoE y (hOut hF0 lo.toInt.toNat (s.toInt.toNat + 1) n.toInt.toNat (v.toInt.toNat - lo.toInt.toNat))
def hB (y : Nat → Int64) (n s lo v k : Int32) : Prop := hoE y (hMid (hOut hF0 lo.toInt.toNat (s.toInt.toNat + 1) n.toInt.toNat (v.toInt.toNat - lo.toInt.toNat)) v.toInt.toNat (s.toInt.toNat + 1) (k.toInt.toNat - 1))
def hC (y : Nat → Int64) (n s lo v k t : Int32) : Prop := hoE y (hIn (hMid (hOut hF0 lo.toInt.toNat (s.toInt.toNat + 1) n.toInt.toNat (v.toInt.toNat - lo.toInt.toNat)) v.toInt.toNat (s.toInt.toNat + 1) (k.toInt.toNat - 1)) v.toInt.toNat k.toInt.toNat (t.toInt.toNat - v.toInt.toNat))
theorem hA_0 {y : Nat → Int64} {n s lo : Int32} (h : hoE y hF0) : hA y n s lo lo := by
  unfold hA
  rw [Nat.sub_self]; exact h
theorem hB_0 {y : Nat → Int64} {n s lo v : Int32} (h : hA y n s lo v) : hB y n s lo v 1 := h
theorem hC_0 {y : Nat → Int64} {n s lo v k : Int32} (h : hB y n s lo v k) : hC y n s lo v k v := by
  unfold hC
  rw [Nat.sub_self]; exact h
theorem hC_s {y y1 : Nat → Nat → Int64} {c : Nat} {n s lo v k t t' i i1 j : Int32} {x p q : Int64} (h : hC (y c) n s lo v k t) (hv : 0 ≤ v.toInt) (hk : 1 ≤ k.toInt) (hk6 : k.toInt ≤ 6) (ht : v.toInt ≤ t.toInt) (ht4 : t.toInt ≤ 400) (h' : t'.toInt = t.toInt + 1) (hy : y1 = qul y c i.toNatClampNeg x) (hx : x = p + q) (hp : p = y c i1.toNatClampNeg) (hi1 : i1.toInt = i.toInt) (hq : q = y c j.toNatClampNeg) (hi : i.toInt = k.toInt * 401 + t.toInt) (hj : j.toInt = (k.toInt - 1) * 401 + t.toInt - v.toInt) : hC (y1 c) n s lo v k t' := by
  rw [gr_eq hi1] at hp
  have gi := gn_cast (x := i) (by omega)
  have gj := gn_cast (x := j) (by omega)
  unfold hC
  rw [show t'.toInt.toNat - v.toInt.toNat = (t.toInt.toNat - v.toInt.toNat) + 1 from by omega]
  exact hin_step h hy hx hp hq (by omega) (by omega) (by omega) (by omega)
theorem hC_e {y : Nat → Int64} {n s lo v k k' t : Int32} (h : hC y n s lo v k t) (hv : 0 ≤ v.toInt) (hs : 0 ≤ s.toInt) (hk : 1 ≤ k.toInt) (h' : k'.toInt = k.toInt + 1) (ht : s.toInt < t.toInt) (ht2 : t.toInt ≤ s.toInt + 1 ∨ t.toInt = v.toInt) : hB y n s lo v k' := by
  unfold hC at h
  unfold hB
  rw [show k'.toInt.toNat - 1 = (k.toInt.toNat - 1) + 1 from by omega]
  show hoE y (hIn _ v.toInt.toNat (k.toInt.toNat - 1 + 1) (s.toInt.toNat + 1 - v.toInt.toNat))
  rw [show k.toInt.toNat - 1 + 1 = k.toInt.toNat from by omega, show s.toInt.toNat + 1 - v.toInt.toNat = t.toInt.toNat - v.toInt.toNat from by omega]
  exact h
theorem hB_e {y : Nat → Int64} {n s lo v v' k : Int32} (h : hB y n s lo v k) (hv : 0 ≤ lo.toInt) (hl : lo.toInt ≤ v.toInt) (hn : 1 ≤ n.toInt) (h' : v'.toInt = v.toInt + 1) (hk : k.toInt = n.toInt + 1) : hA y n s lo v' := by
  unfold hB at h
  unfold hA
  rw [show v'.toInt.toNat - lo.toInt.toNat = (v.toInt.toNat - lo.toInt.toNat) + 1 from by omega]
  show hoE y (hMid _ (lo.toInt.toNat + (v.toInt.toNat - lo.toInt.toNat)) _ n.toInt.toNat)
  rw [show lo.toInt.toNat + (v.toInt.toNat - lo.toInt.toNat) = v.toInt.toNat from by omega, show n.toInt.toNat = k.toInt.toNat - 1 from by omega]
  rw [show k.toInt.toNat - 1 = n.toInt.toNat from by omega] at h ⊢
  exact h
theorem hA_e {y : Nat → Int64} {n s lo hi v i : Int32} {r : Int64} (h : hA y n s lo v) (hn : 1 ≤ n.toInt) (hn6 : n.toInt ≤ 6) (hs : 0 ≤ s.toInt) (hs4 : s.toInt ≤ 400) (h0 : 0 ≤ lo.toInt) (hh : lo.toInt ≤ hi.toInt) (hv : v.toInt = hi.toInt + 1) (hr : r = y i.toNatClampNeg) (hi2 : i.toInt = n.toInt * 401 + s.toInt) : r = hoV n.toInt.toNat s.toInt.toNat lo.toInt.toNat hi.toInt.toNat := by
  have gi := gn_cast (x := i) (by omega)
  rw [hr, h i.toNatClampNeg (by omega)]
  unfold hoV
  rw [show i.toNatClampNeg = 401 * n.toInt.toNat + s.toInt.toNat from by omega, show v.toInt.toNat - lo.toInt.toNat = hi.toInt.toNat + 1 - lo.toInt.toNat from by omega]
theorem hz_le {f : Nat → Int64} {p p' : Int32} (h : hzI f p) (hp : p'.toInt ≤ p.toInt) : hzI f p' := fun s hs => h s (by omega)
/-! ROWS: the product -/
theorem gj_bm {a : Int} (h1 : -9223372036854775808 ≤ a) (h2 : a ≤ 9223372036854775807) : a.bmod (2 ^ 64) = a := by
  rw [Int.bmod_def]
  split <;> omega
def prU (pe : Int32) (lo hi : Nat → Int32) : Nat → Int
  | 0 => 1
  | k + 1 => prU pe lo hi k * (if bitAt pe (nI k) = 0 then 1 else (hi k).toInt - (lo k).toInt + 1)
theorem prU_b {pe : Int32} {lo hi : Nat → Int32} (hl : ∀ s, 0 ≤ (lo s).toInt ∧ (lo s).toInt ≤ 99) (hh : ∀ s, 0 ≤ (hi s).toInt ∧ (hi s).toInt ≤ 99) : ∀ k, (prU pe lo hi k).natAbs ≤ 100 ^ k
  | 0 => Nat.le_refl 1
  | k + 1 => by
    have h := prU_b (pe := pe) hl hh k
    show (prU pe lo hi k * (if bitAt pe (nI k) = 0 then 1 else (hi k).toInt - (lo k).toInt + 1)).natAbs ≤ 100 ^ k * 100
    rw [Int.natAbs_mul]
    refine Nat.mul_le_mul h ?_
    have h1 := hl k
    have h2 := hh k
    split
    · decide
    · omega
theorem pr_no {pe : Int32} {lo hi : Nat → Int32} {p p' : Int32} {j : Int64} (h0 : 0 ≤ p.toInt) (h5 : p.toInt ≤ 5) (hp : p'.toInt = p.toInt + 1) (hb : ¬ pHas pe p) (h : j.toInt = prU pe lo hi p.toNatClampNeg) : j.toInt = prU pe lo hi p'.toNatClampNeg := by
  rw [gn_succ h0 hp]
  show _ = prU pe lo hi p.toNatClampNeg * _
  rw [if_pos (by rw [gn_nI h0]; exact pHas_nbit hb h0 h5), Int.mul_one]; exact h
theorem pr_mul {b z : Nat → Nat → Int32} {p p' d w l h : Int32} {j j' w6 : Int64} (J : qJU b z) (h0 : 0 ≤ p.toInt) (h5 : p.toInt ≤ 5) (hp : p'.toInt = p.toInt + 1) (hb : pHas (z 1 5) p) (eh : h = z 3 p.toNatClampNeg) (el : l = z 2 p.toNatClampNeg) (ed : d.toInt = h.toInt - l.toInt) (ew : w.toInt = d.toInt + 1) (e6 : w6.toInt = w.toInt) (em : j' = j * w6) (hI : j.toInt = prU (z 1 5) (z 2) (z 3) p.toNatClampNeg) : j'.toInt = prU (z 1 5) (z 2) (z 3) p'.toNatClampNeg := by
  have hl : ∀ s, 0 ≤ (z 2 s).toInt ∧ (z 2 s).toInt ≤ 99 := fun s => J.1 2 s
  have hh : ∀ s, 0 ≤ (z 3 s).toInt ∧ (z 3 s).toInt ≤ 99 := fun s => J.1 3 s
  have hc := gn_cast h0
  have hB := prU_b (pe := z 1 5) hl hh p'.toNatClampNeg
  rw [gn_succ h0 hp] at hB ⊢
  have hs : prU (z 1 5) (z 2) (z 3) (p.toNatClampNeg + 1) = prU (z 1 5) (z 2) (z 3) p.toNatClampNeg * ((z 3 p.toNatClampNeg).toInt - (z 2 p.toNatClampNeg).toInt + 1) := by
    show _ * _ = _
    rw [if_neg (by rw [gn_nI h0]; exact pHas_bit hb)]
  have h6 : 100 ^ (p.toNatClampNeg + 1) ≤ 100 ^ 6 := Nat.pow_le_pow_right (by decide) (by omega)
  have h7 : (100 : Nat) ^ 6 = 1000000000000 := by decide
  have hw : w6.toInt = (z 3 p.toNatClampNeg).toInt - (z 2 p.toNatClampNeg).toInt + 1 := by rw [e6, ew, ed, eh, el]
  rw [em, Int64.toInt_mul, hI, hw, ← hs]
  exact gj_bm (by omega) (by omega)
