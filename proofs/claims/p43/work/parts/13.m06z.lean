theorem okS_of {z : Nat → Nat → Int32} {x : Int32} {a b c : Int} (h : x.toInt = a + 21 * b + 441 * c) (a0 : 0 ≤ a) (a1 : a ≤ 20) (b0 : 0 ≤ b) (b1 : b ≤ 20) (c0 : 0 ≤ c) (sa : a ≤ (z 35 0).toInt) (sb : b ≤ (z 35 1).toInt) (sc : c ≤ (z 35 2).toInt) : okS z x := by
  have h1 : x.toInt = a + 21 * (b + 21 * c) := by omega
  have h2 : x.toInt % 21 = a := by rw [h1, Int.add_mul_emod_self_left]; exact Int.emod_eq_of_lt a0 (by omega)
  have h3 : x.toInt / 21 = b + 21 * c := by rw [h1, Int.add_mul_ediv_left _ _ (by decide), Int.ediv_eq_zero_of_lt a0 (by omega), Int.zero_add]
  have h4 : x.toInt / 21 % 21 = b := by rw [h3, Int.add_mul_emod_self_left]; exact Int.emod_eq_of_lt b0 (by omega)
  have h5 : x.toInt / 441 = c := by rw [show x.toInt = (a + 21 * b) + 441 * c from by omega, Int.add_mul_ediv_left _ _ (by decide), Int.ediv_eq_zero_of_lt (by omega) (by omega), Int.zero_add]
  exact ⟨by rw [h2]; exact sa, by rw [h4]; exact sb, by rw [h5]; exact sc⟩
