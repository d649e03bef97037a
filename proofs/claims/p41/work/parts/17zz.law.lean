theorem pr_rw {u m : Nat → Nat → Int32} (R : REL u m) (J : qJM m m) : ∀ k, k ≤ 6 → prU (u 1 5) (u 2) (u 3) k = (rwp m k : Int)
  | 0, _ => rfl
  | k + 1, hk => by
    have h := pr_rw R J k (by omega)
    have h1 := R.2.2.1 k (by omega)
    have h2 := J.2.2.2.2.1 k (by omega)
    show prU (u 1 5) (u 2) (u 3) k * _ = ((rwp m k * rlw m k : Nat) : Int)
    rw [h, Int.natCast_mul, h1.1, h1.2, R.1]
    congr 1
    unfold rlw
    split
    · rfl
    · omega
theorem law_rows {u m : Nat → Nat → Int32} {r t : Int32} (R : REL u m) (J : qJM m m) (hu : (200000 < prU (u 1 5) (u 2) (u 3) 6 ∧ r = -3) ∨ (prU (u 1 5) (u 2) (u 3) 6 ≤ 200000 ∧ r.toInt = (prU (u 1 5) (u 2) (u 3) 6).bmod (2 ^ 32))) (hm : (200000 < (rwp m 6 : Int) ∧ t = -3) ∨ ((rwp m 6 : Int) ≤ 200000 ∧ t.toInt = (rwp m 6 : Int))) : r = t := by
  rw [pr_rw R J 6 (by decide)] at hu
  rcases hu with ⟨a, b⟩ | ⟨a, b⟩ <;> rcases hm with ⟨c, d⟩ | ⟨c, d⟩
  · exact b.trans d.symm
  · omega
  · omega
  · apply gr_eq
    rw [b, d]
    exact gi_bm (by omega) (by omega)
theorem law_howOld {r t V : Int64} {C : Prop} (hu : (C ∧ r = V) ∨ (¬ C ∧ r = -1)) (hm : (C ∧ t = V) ∨ (¬ C ∧ t = -1)) : r = t := by
  rcases hu with ⟨a, b⟩ | ⟨a, b⟩ <;> rcases hm with ⟨c, d⟩ | ⟨c, d⟩
  · exact b.trans d.symm
  · exact absurd a c
  · exact absurd c a
  · exact b.trans d.symm
