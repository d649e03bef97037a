def bU (c s : Nat) : Int × Int := if (c = 0 ∧ s = 2) ∨ (c = 108 ∧ s = 1) then (0, 1) else if (c = 0 ∧ s = 4) then (0, 260) else if c = 2 ∨ c = 3 ∨ c = 40 ∨ c = 41 ∨ c = 105 then (0, 99) else if c = 106 then (0, 9) else if (c = 104 ∧ s = 4) then (0, 10) else if (c = 110 ∧ s = 3) then (0, 2000) else if c = 117 then (0, 5) else if c = 129 then (0, 440) else if (c = 123 ∧ s = 6) then (0, 441) else (-2147483648, 2147483647)
def kU (c s : Nat) : Bool := c == 2 || c == 3 || c == 4 || c == 5 || c == 40 || c == 41 || c == 42 || c == 43 || (c == 1 && s == 5) || (c == 1 && s == 7) || (c == 39 && s == 5) || (c == 39 && s == 7) || (c == 0 && s == 2)
def qJU (z0 z : Nat → Nat → Int32) : Prop := qI bU z ∧ qK kU z0 z
theorem iU_0_2 {z0 z : Nat → Nat → Int32} {x : Int32} (J : qJU z0 z) (e : x = z 0 2) : (0 : Int) ≤ x.toInt ∧ x.toInt ≤ 1 := by rw [e]; exact J.1 0 2
theorem jU_0_2 {z0 z z1 : Nat → Nat → Int32} {x : Int32} (J : qJU z0 z) (hz : z1 = qu z 0 2 x) (hx : (0 : Int) ≤ x.toInt ∧ x.toInt ≤ 1) : qJU (qu z0 0 2 x) z1 := ⟨qI_up J.1 hz hx, qK_upc J.2 hz⟩
theorem iU_0_4 {z0 z : Nat → Nat → Int32} {x : Int32} (J : qJU z0 z) (e : x = z 0 4) : (0 : Int) ≤ x.toInt ∧ x.toInt ≤ 260 := by rw [e]; exact J.1 0 4
theorem jU_0_4 {z0 z z1 : Nat → Nat → Int32} {x : Int32} (J : qJU z0 z) (hz : z1 = qu z 0 4 x) (hx : (0 : Int) ≤ x.toInt ∧ x.toInt ≤ 260) : qJU z0 z1 := ⟨qI_up J.1 hz hx, qK_up J.2 hz rfl⟩
theorem jU_1_5 {z0 z z1 : Nat → Nat → Int32} {x : Int32} (J : qJU z0 z) (hz : z1 = qu z 1 5 x) : qJU (qu z0 1 5 x) z1 := ⟨qI_up J.1 hz (gl_b x), qK_upc J.2 hz⟩
theorem jU_1_6 {z0 z z1 : Nat → Nat → Int32} {x : Int32} (J : qJU z0 z) (hz : z1 = qu z 1 6 x) : qJU z0 z1 := ⟨qI_up J.1 hz (gl_b x), qK_up J.2 hz rfl⟩
theorem jU_1_7 {z0 z z1 : Nat → Nat → Int32} {x : Int32} (J : qJU z0 z) (hz : z1 = qu z 1 7 x) : qJU (qu z0 1 7 x) z1 := ⟨qI_up J.1 hz (gl_b x), qK_upc J.2 hz⟩
theorem iU_2 {z0 z : Nat → Nat → Int32} {s : Nat} {x : Int32} (J : qJU z0 z) (e : x = z 2 s) : (0 : Int) ≤ x.toInt ∧ x.toInt ≤ 99 := by rw [e]; exact J.1 2 s
theorem jU_2 {z0 z z1 : Nat → Nat → Int32} {s : Nat} {x : Int32} (J : qJU z0 z) (hz : z1 = qu z 2 s x) (hx : (0 : Int) ≤ x.toInt ∧ x.toInt ≤ 99) : qJU (qu z0 2 s x) z1 := ⟨qI_up J.1 hz hx, qK_upc J.2 hz⟩
theorem jfU_2 {z0 z z1 : Nat → Nat → Int32} {f : Nat → Int32} (J : qJU z0 z) (hz : z1 = quf z 2 f) (hf : ∀ s, (0 : Int) ≤ (f s).toInt ∧ (f s).toInt ≤ 99) : qJU (quf z0 2 f) z1 := ⟨qI_upf J.1 hz hf, qK_upfc J.2 hz⟩
theorem iU_3 {z0 z : Nat → Nat → Int32} {s : Nat} {x : Int32} (J : qJU z0 z) (e : x = z 3 s) : (0 : Int) ≤ x.toInt ∧ x.toInt ≤ 99 := by rw [e]; exact J.1 3 s
theorem jU_3 {z0 z z1 : Nat → Nat → Int32} {s : Nat} {x : Int32} (J : qJU z0 z) (hz : z1 = qu z 3 s x) (hx : (0 : Int) ≤ x.toInt ∧ x.toInt ≤ 99) : qJU (qu z0 3 s x) z1 := ⟨qI_up J.1 hz hx, qK_upc J.2 hz⟩
theorem jfU_3 {z0 z z1 : Nat → Nat → Int32} {f : Nat → Int32} (J : qJU z0 z) (hz : z1 = quf z 3 f) (hf : ∀ s, (0 : Int) ≤ (f s).toInt ∧ (f s).toInt ≤ 99) : qJU (quf z0 3 f) z1 := ⟨qI_upf J.1 hz hf, qK_upfc J.2 hz⟩
theorem jU_4 {z0 z z1 : Nat → Nat → Int32} {s : Nat} {x : Int32} (J : qJU z0 z) (hz : z1 = qu z 4 s x) : qJU (qu z0 4 s x) z1 := ⟨qI_up J.1 hz (gl_b x), qK_upc J.2 hz⟩
theorem jfU_4 {z0 z z1 : Nat → Nat → Int32} {f : Nat → Int32} (J : qJU z0 z) (hz : z1 = quf z 4 f) : qJU (quf z0 4 f) z1 := ⟨qI_upf J.1 hz (fun s => gl_b (f s)), qK_upfc J.2 hz⟩
theorem jU_5 {z0 z z1 : Nat → Nat → Int32} {s : Nat} {x : Int32} (J : qJU z0 z) (hz : z1 = qu z 5 s x) : qJU (qu z0 5 s x) z1 := ⟨qI_up J.1 hz (gl_b x), qK_upc J.2 hz⟩
theorem jfU_5 {z0 z z1 : Nat → Nat → Int32} {f : Nat → Int32} (J : qJU z0 z) (hz : z1 = quf z 5 f) : qJU (quf z0 5 f) z1 := ⟨qI_upf J.1 hz (fun s => gl_b (f s)), qK_upfc J.2 hz⟩
theorem jU_39_5 {z0 z z1 : Nat → Nat → Int32} {x : Int32} (J : qJU z0 z) (hz : z1 = qu z 39 5 x) : qJU (qu z0 39 5 x) z1 := ⟨qI_up J.1 hz (gl_b x), qK_upc J.2 hz⟩
theorem jU_39_6 {z0 z z1 : Nat → Nat → Int32} {x : Int32} (J : qJU z0 z) (hz : z1 = qu z 39 6 x) : qJU z0 z1 := ⟨qI_up J.1 hz (gl_b x), qK_up J.2 hz rfl⟩
theorem jU_39_7 {z0 z z1 : Nat → Nat → Int32} {x : Int32} (J : qJU z0 z) (hz : z1 = qu z 39 7 x) : qJU (qu z0 39 7 x) z1 := ⟨qI_up J.1 hz (gl_b x), qK_upc J.2 hz⟩
theorem iU_40 {z0 z : Nat → Nat → Int32} {s : Nat} {x : Int32} (J : qJU z0 z) (e : x = z 40 s) : (0 : Int) ≤ x.toInt ∧ x.toInt ≤ 99 := by rw [e]; exact J.1 40 s
theorem jU_40 {z0 z z1 : Nat → Nat → Int32} {s : Nat} {x : Int32} (J : qJU z0 z) (hz : z1 = qu z 40 s x) (hx : (0 : Int) ≤ x.toInt ∧ x.toInt ≤ 99) : qJU (qu z0 40 s x) z1 := ⟨qI_up J.1 hz hx, qK_upc J.2 hz⟩
theorem jfU_40 {z0 z z1 : Nat → Nat → Int32} {f : Nat → Int32} (J : qJU z0 z) (hz : z1 = quf z 40 f) (hf : ∀ s, (0 : Int) ≤ (f s).toInt ∧ (f s).toInt ≤ 99) : qJU (quf z0 40 f) z1 := ⟨qI_upf J.1 hz hf, qK_upfc J.2 hz⟩
theorem iU_41 {z0 z : Nat → Nat → Int32} {s : Nat} {x : Int32} (J : qJU z0 z) (e : x = z 41 s) : (0 : Int) ≤ x.toInt ∧ x.toInt ≤ 99 := by rw [e]; exact J.1 41 s
theorem jU_41 {z0 z z1 : Nat → Nat → Int32} {s : Nat} {x : Int32} (J : qJU z0 z) (hz : z1 = qu z 41 s x) (hx : (0 : Int) ≤ x.toInt ∧ x.toInt ≤ 99) : qJU (qu z0 41 s x) z1 := ⟨qI_up J.1 hz hx, qK_upc J.2 hz⟩
theorem jfU_41 {z0 z z1 : Nat → Nat → Int32} {f : Nat → Int32} (J : qJU z0 z) (hz : z1 = quf z 41 f) (hf : ∀ s, (0 : Int) ≤ (f s).toInt ∧ (f s).toInt ≤ 99) : qJU (quf z0 41 f) z1 := ⟨qI_upf J.1 hz hf, qK_upfc J.2 hz⟩
theorem jU_42 {z0 z z1 : Nat → Nat → Int32} {s : Nat} {x : Int32} (J : qJU z0 z) (hz : z1 = qu z 42 s x) : qJU (qu z0 42 s x) z1 := ⟨qI_up J.1 hz (gl_b x), qK_upc J.2 hz⟩
theorem jfU_42 {z0 z z1 : Nat → Nat → Int32} {f : Nat → Int32} (J : qJU z0 z) (hz : z1 = quf z 42 f) : qJU (quf z0 42 f) z1 := ⟨qI_upf J.1 hz (fun s => gl_b (f s)), qK_upfc J.2 hz⟩
theorem jU_43 {z0 z z1 : Nat → Nat → Int32} {s : Nat} {x : Int32} (J : qJU z0 z) (hz : z1 = qu z 43 s x) : qJU (qu z0 43 s x) z1 := ⟨qI_up J.1 hz (gl_b x), qK_upc J.2 hz⟩
theorem jfU_43 {z0 z z1 : Nat → Nat → Int32} {f : Nat → Int32} (J : qJU z0 z) (hz : z1 = quf z 43 f) : qJU (quf z0 43 f) z1 := ⟨qI_upf J.1 hz (fun s => gl_b (f s)), qK_upfc J.2 hz⟩
theorem jU_77 {z0 z z1 : Nat → Nat → Int32} {s : Nat} {x : Int32} (J : qJU z0 z) (hz : z1 = qu z 77 s x) : qJU z0 z1 := ⟨qI_up J.1 hz (gl_b x), qK_up J.2 hz rfl⟩
theorem jfU_77 {z0 z z1 : Nat → Nat → Int32} {f : Nat → Int32} (J : qJU z0 z) (hz : z1 = quf z 77 f) : qJU z0 z1 := ⟨qI_upf J.1 hz (fun s => gl_b (f s)), qK_upf J.2 hz (fun _ => rfl)⟩
theorem jU_78_5 {z0 z z1 : Nat → Nat → Int32} {x : Int32} (J : qJU z0 z) (hz : z1 = qu z 78 5 x) : qJU z0 z1 := ⟨qI_up J.1 hz (gl_b x), qK_up J.2 hz rfl⟩
theorem jU_78_6 {z0 z z1 : Nat → Nat → Int32} {x : Int32} (J : qJU z0 z) (hz : z1 = qu z 78 6 x) : qJU z0 z1 := ⟨qI_up J.1 hz (gl_b x), qK_up J.2 hz rfl⟩
theorem jU_78_7 {z0 z z1 : Nat → Nat → Int32} {x : Int32} (J : qJU z0 z) (hz : z1 = qu z 78 7 x) : qJU z0 z1 := ⟨qI_up J.1 hz (gl_b x), qK_up J.2 hz rfl⟩
theorem jU_78_8 {z0 z z1 : Nat → Nat → Int32} {x : Int32} (J : qJU z0 z) (hz : z1 = qu z 78 8 x) : qJU z0 z1 := ⟨qI_up J.1 hz (gl_b x), qK_up J.2 hz rfl⟩
theorem jU_78_9 {z0 z z1 : Nat → Nat → Int32} {x : Int32} (J : qJU z0 z) (hz : z1 = qu z 78 9 x) : qJU z0 z1 := ⟨qI_up J.1 hz (gl_b x), qK_up J.2 hz rfl⟩
theorem jU_78_10 {z0 z z1 : Nat → Nat → Int32} {x : Int32} (J : qJU z0 z) (hz : z1 = qu z 78 10 x) : qJU z0 z1 := ⟨qI_up J.1 hz (gl_b x), qK_up J.2 hz rfl⟩
theorem jU_78_11 {z0 z z1 : Nat → Nat → Int32} {x : Int32} (J : qJU z0 z) (hz : z1 = qu z 78 11 x) : qJU z0 z1 := ⟨qI_up J.1 hz (gl_b x), qK_up J.2 hz rfl⟩
theorem jU_78_12 {z0 z z1 : Nat → Nat → Int32} {x : Int32} (J : qJU z0 z) (hz : z1 = qu z 78 12 x) : qJU z0 z1 := ⟨qI_up J.1 hz (gl_b x), qK_up J.2 hz rfl⟩
theorem jU_78_13 {z0 z z1 : Nat → Nat → Int32} {x : Int32} (J : qJU z0 z) (hz : z1 = qu z 78 13 x) : qJU z0 z1 := ⟨qI_up J.1 hz (gl_b x), qK_up J.2 hz rfl⟩
theorem jU_78_14 {z0 z z1 : Nat → Nat → Int32} {x : Int32} (J : qJU z0 z) (hz : z1 = qu z 78 14 x) : qJU z0 z1 := ⟨qI_up J.1 hz (gl_b x), qK_up J.2 hz rfl⟩
theorem jU_80 {z0 z z1 : Nat → Nat → Int32} {s : Nat} {x : Int32} (J : qJU z0 z) (hz : z1 = qu z 80 s x) : qJU z0 z1 := ⟨qI_up J.1 hz (gl_b x), qK_up J.2 hz rfl⟩
theorem jfU_80 {z0 z z1 : Nat → Nat → Int32} {f : Nat → Int32} (J : qJU z0 z) (hz : z1 = quf z 80 f) : qJU z0 z1 := ⟨qI_upf J.1 hz (fun s => gl_b (f s)), qK_upf J.2 hz (fun _ => rfl)⟩
theorem jU_81 {z0 z z1 : Nat → Nat → Int32} {s : Nat} {x : Int32} (J : qJU z0 z) (hz : z1 = qu z 81 s x) : qJU z0 z1 := ⟨qI_up J.1 hz (gl_b x), qK_up J.2 hz rfl⟩
theorem jfU_81 {z0 z z1 : Nat → Nat → Int32} {f : Nat → Int32} (J : qJU z0 z) (hz : z1 = quf z 81 f) : qJU z0 z1 := ⟨qI_upf J.1 hz (fun s => gl_b (f s)), qK_upf J.2 hz (fun _ => rfl)⟩
theorem jU_82 {z0 z z1 : Nat → Nat → Int32} {s : Nat} {x : Int32} (J : qJU z0 z) (hz : z1 = qu z 82 s x) : qJU z0 z1 := ⟨qI_up J.1 hz (gl_b x), qK_up J.2 hz rfl⟩
theorem jfU_82 {z0 z z1 : Nat → Nat → Int32} {f : Nat → Int32} (J : qJU z0 z) (hz : z1 = quf z 82 f) : qJU z0 z1 := ⟨qI_upf J.1 hz (fun s => gl_b (f s)), qK_upf J.2 hz (fun _ => rfl)⟩
theorem jU_83 {z0 z z1 : Nat → Nat → Int32} {s : Nat} {x : Int32} (J : qJU z0 z) (hz : z1 = qu z 83 s x) : qJU z0 z1 := ⟨qI_up J.1 hz (gl_b x), qK_up J.2 hz rfl⟩
theorem jfU_83 {z0 z z1 : Nat → Nat → Int32} {f : Nat → Int32} (J : qJU z0 z) (hz : z1 = quf z 83 f) : qJU z0 z1 := ⟨qI_upf J.1 hz (fun s => gl_b (f s)), qK_upf J.2 hz (fun _ => rfl)⟩
theorem jU_84 {z0 z z1 : Nat → Nat → Int32} {s : Nat} {x : Int32} (J : qJU z0 z) (hz : z1 = qu z 84 s x) : qJU z0 z1 := ⟨qI_up J.1 hz (gl_b x), qK_up J.2 hz rfl⟩
theorem jfU_84 {z0 z z1 : Nat → Nat → Int32} {f : Nat → Int32} (J : qJU z0 z) (hz : z1 = quf z 84 f) : qJU z0 z1 := ⟨qI_upf J.1 hz (fun s => gl_b (f s)), qK_upf J.2 hz (fun _ => rfl)⟩
theorem jU_85 {z0 z z1 : Nat → Nat → Int32} {s : Nat} {x : Int32} (J : qJU z0 z) (hz : z1 = qu z 85 s x) : qJU z0 z1 := ⟨qI_up J.1 hz (gl_b x), qK_up J.2 hz rfl⟩
theorem jfU_85 {z0 z z1 : Nat → Nat → Int32} {f : Nat → Int32} (J : qJU z0 z) (hz : z1 = quf z 85 f) : qJU z0 z1 := ⟨qI_upf J.1 hz (fun s => gl_b (f s)), qK_upf J.2 hz (fun _ => rfl)⟩
theorem jU_86 {z0 z z1 : Nat → Nat → Int32} {s : Nat} {x : Int32} (J : qJU z0 z) (hz : z1 = qu z 86 s x) : qJU z0 z1 := ⟨qI_up J.1 hz (gl_b x), qK_up J.2 hz rfl⟩
theorem jfU_86 {z0 z z1 : Nat → Nat → Int32} {f : Nat → Int32} (J : qJU z0 z) (hz : z1 = quf z 86 f) : qJU z0 z1 := ⟨qI_upf J.1 hz (fun s => gl_b (f s)), qK_upf J.2 hz (fun _ => rfl)⟩
theorem jU_88 {z0 z z1 : Nat → Nat → Int32} {s : Nat} {x : Int32} (J : qJU z0 z) (hz : z1 = qu z 88 s x) : qJU z0 z1 := ⟨qI_up J.1 hz (gl_b x), qK_up J.2 hz rfl⟩
theorem jfU_88 {z0 z z1 : Nat → Nat → Int32} {f : Nat → Int32} (J : qJU z0 z) (hz : z1 = quf z 88 f) : qJU z0 z1 := ⟨qI_upf J.1 hz (fun s => gl_b (f s)), qK_upf J.2 hz (fun _ => rfl)⟩
theorem jU_89 {z0 z z1 : Nat → Nat → Int32} {s : Nat} {x : Int32} (J : qJU z0 z) (hz : z1 = qu z 89 s x) : qJU z0 z1 := ⟨qI_up J.1 hz (gl_b x), qK_up J.2 hz rfl⟩
theorem jfU_89 {z0 z z1 : Nat → Nat → Int32} {f : Nat → Int32} (J : qJU z0 z) (hz : z1 = quf z 89 f) : qJU z0 z1 := ⟨qI_upf J.1 hz (fun s => gl_b (f s)), qK_upf J.2 hz (fun _ => rfl)⟩
theorem jU_90 {z0 z z1 : Nat → Nat → Int32} {s : Nat} {x : Int32} (J : qJU z0 z) (hz : z1 = qu z 90 s x) : qJU z0 z1 := ⟨qI_up J.1 hz (gl_b x), qK_up J.2 hz rfl⟩
theorem jfU_90 {z0 z z1 : Nat → Nat → Int32} {f : Nat → Int32} (J : qJU z0 z) (hz : z1 = quf z 90 f) : qJU z0 z1 := ⟨qI_upf J.1 hz (fun s => gl_b (f s)), qK_upf J.2 hz (fun _ => rfl)⟩
theorem jU_91 {z0 z z1 : Nat → Nat → Int32} {s : Nat} {x : Int32} (J : qJU z0 z) (hz : z1 = qu z 91 s x) : qJU z0 z1 := ⟨qI_up J.1 hz (gl_b x), qK_up J.2 hz rfl⟩
theorem jfU_91 {z0 z z1 : Nat → Nat → Int32} {f : Nat → Int32} (J : qJU z0 z) (hz : z1 = quf z 91 f) : qJU z0 z1 := ⟨qI_upf J.1 hz (fun s => gl_b (f s)), qK_upf J.2 hz (fun _ => rfl)⟩
theorem jU_92 {z0 z z1 : Nat → Nat → Int32} {s : Nat} {x : Int32} (J : qJU z0 z) (hz : z1 = qu z 92 s x) : qJU z0 z1 := ⟨qI_up J.1 hz (gl_b x), qK_up J.2 hz rfl⟩
theorem jfU_92 {z0 z z1 : Nat → Nat → Int32} {f : Nat → Int32} (J : qJU z0 z) (hz : z1 = quf z 92 f) : qJU z0 z1 := ⟨qI_upf J.1 hz (fun s => gl_b (f s)), qK_upf J.2 hz (fun _ => rfl)⟩
theorem jU_93 {z0 z z1 : Nat → Nat → Int32} {s : Nat} {x : Int32} (J : qJU z0 z) (hz : z1 = qu z 93 s x) : qJU z0 z1 := ⟨qI_up J.1 hz (gl_b x), qK_up J.2 hz rfl⟩
theorem jfU_93 {z0 z z1 : Nat → Nat → Int32} {f : Nat → Int32} (J : qJU z0 z) (hz : z1 = quf z 93 f) : qJU z0 z1 := ⟨qI_upf J.1 hz (fun s => gl_b (f s)), qK_upf J.2 hz (fun _ => rfl)⟩
theorem jU_94 {z0 z z1 : Nat → Nat → Int32} {s : Nat} {x : Int32} (J : qJU z0 z) (hz : z1 = qu z 94 s x) : qJU z0 z1 := ⟨qI_up J.1 hz (gl_b x), qK_up J.2 hz rfl⟩
theorem jfU_94 {z0 z z1 : Nat → Nat → Int32} {f : Nat → Int32} (J : qJU z0 z) (hz : z1 = quf z 94 f) : qJU z0 z1 := ⟨qI_upf J.1 hz (fun s => gl_b (f s)), qK_upf J.2 hz (fun _ => rfl)⟩
theorem jU_96 {z0 z z1 : Nat → Nat → Int32} {s : Nat} {x : Int32} (J : qJU z0 z) (hz : z1 = qu z 96 s x) : qJU z0 z1 := ⟨qI_up J.1 hz (gl_b x), qK_up J.2 hz rfl⟩
theorem jfU_96 {z0 z z1 : Nat → Nat → Int32} {f : Nat → Int32} (J : qJU z0 z) (hz : z1 = quf z 96 f) : qJU z0 z1 := ⟨qI_upf J.1 hz (fun s => gl_b (f s)), qK_upf J.2 hz (fun _ => rfl)⟩
theorem jU_97 {z0 z z1 : Nat → Nat → Int32} {s : Nat} {x : Int32} (J : qJU z0 z) (hz : z1 = qu z 97 s x) : qJU z0 z1 := ⟨qI_up J.1 hz (gl_b x), qK_up J.2 hz rfl⟩
theorem jfU_97 {z0 z z1 : Nat → Nat → Int32} {f : Nat → Int32} (J : qJU z0 z) (hz : z1 = quf z 97 f) : qJU z0 z1 := ⟨qI_upf J.1 hz (fun s => gl_b (f s)), qK_upf J.2 hz (fun _ => rfl)⟩
theorem jU_98 {z0 z z1 : Nat → Nat → Int32} {s : Nat} {x : Int32} (J : qJU z0 z) (hz : z1 = qu z 98 s x) : qJU z0 z1 := ⟨qI_up J.1 hz (gl_b x), qK_up J.2 hz rfl⟩
theorem jfU_98 {z0 z z1 : Nat → Nat → Int32} {f : Nat → Int32} (J : qJU z0 z) (hz : z1 = quf z 98 f) : qJU z0 z1 := ⟨qI_upf J.1 hz (fun s => gl_b (f s)), qK_upf J.2 hz (fun _ => rfl)⟩
theorem jU_99 {z0 z z1 : Nat → Nat → Int32} {s : Nat} {x : Int32} (J : qJU z0 z) (hz : z1 = qu z 99 s x) : qJU z0 z1 := ⟨qI_up J.1 hz (gl_b x), qK_up J.2 hz rfl⟩
theorem jfU_99 {z0 z z1 : Nat → Nat → Int32} {f : Nat → Int32} (J : qJU z0 z) (hz : z1 = quf z 99 f) : qJU z0 z1 := ⟨qI_upf J.1 hz (fun s => gl_b (f s)), qK_upf J.2 hz (fun _ => rfl)⟩
theorem jU_100 {z0 z z1 : Nat → Nat → Int32} {s : Nat} {x : Int32} (J : qJU z0 z) (hz : z1 = qu z 100 s x) : qJU z0 z1 := ⟨qI_up J.1 hz (gl_b x), qK_up J.2 hz rfl⟩
theorem jfU_100 {z0 z z1 : Nat → Nat → Int32} {f : Nat → Int32} (J : qJU z0 z) (hz : z1 = quf z 100 f) : qJU z0 z1 := ⟨qI_upf J.1 hz (fun s => gl_b (f s)), qK_upf J.2 hz (fun _ => rfl)⟩
theorem jU_101 {z0 z z1 : Nat → Nat → Int32} {s : Nat} {x : Int32} (J : qJU z0 z) (hz : z1 = qu z 101 s x) : qJU z0 z1 := ⟨qI_up J.1 hz (gl_b x), qK_up J.2 hz rfl⟩
theorem jfU_101 {z0 z z1 : Nat → Nat → Int32} {f : Nat → Int32} (J : qJU z0 z) (hz : z1 = quf z 101 f) : qJU z0 z1 := ⟨qI_upf J.1 hz (fun s => gl_b (f s)), qK_upf J.2 hz (fun _ => rfl)⟩
theorem jU_102 {z0 z z1 : Nat → Nat → Int32} {s : Nat} {x : Int32} (J : qJU z0 z) (hz : z1 = qu z 102 s x) : qJU z0 z1 := ⟨qI_up J.1 hz (gl_b x), qK_up J.2 hz rfl⟩
theorem jfU_102 {z0 z z1 : Nat → Nat → Int32} {f : Nat → Int32} (J : qJU z0 z) (hz : z1 = quf z 102 f) : qJU z0 z1 := ⟨qI_upf J.1 hz (fun s => gl_b (f s)), qK_upf J.2 hz (fun _ => rfl)⟩
theorem jU_103 {z0 z z1 : Nat → Nat → Int32} {s : Nat} {x : Int32} (J : qJU z0 z) (hz : z1 = qu z 103 s x) : qJU z0 z1 := ⟨qI_up J.1 hz (gl_b x), qK_up J.2 hz rfl⟩
theorem jfU_103 {z0 z z1 : Nat → Nat → Int32} {f : Nat → Int32} (J : qJU z0 z) (hz : z1 = quf z 103 f) : qJU z0 z1 := ⟨qI_upf J.1 hz (fun s => gl_b (f s)), qK_upf J.2 hz (fun _ => rfl)⟩
theorem iU_104_4 {z0 z : Nat → Nat → Int32} {x : Int32} (J : qJU z0 z) (e : x = z 104 4) : (0 : Int) ≤ x.toInt ∧ x.toInt ≤ 10 := by rw [e]; exact J.1 104 4
theorem jU_104_4 {z0 z z1 : Nat → Nat → Int32} {x : Int32} (J : qJU z0 z) (hz : z1 = qu z 104 4 x) (hx : (0 : Int) ≤ x.toInt ∧ x.toInt ≤ 10) : qJU z0 z1 := ⟨qI_up J.1 hz hx, qK_up J.2 hz rfl⟩
theorem jU_104_5 {z0 z z1 : Nat → Nat → Int32} {x : Int32} (J : qJU z0 z) (hz : z1 = qu z 104 5 x) : qJU z0 z1 := ⟨qI_up J.1 hz (gl_b x), qK_up J.2 hz rfl⟩
theorem jU_104_6 {z0 z z1 : Nat → Nat → Int32} {x : Int32} (J : qJU z0 z) (hz : z1 = qu z 104 6 x) : qJU z0 z1 := ⟨qI_up J.1 hz (gl_b x), qK_up J.2 hz rfl⟩
theorem iU_105 {z0 z : Nat → Nat → Int32} {s : Nat} {x : Int32} (J : qJU z0 z) (e : x = z 105 s) : (0 : Int) ≤ x.toInt ∧ x.toInt ≤ 99 := by rw [e]; exact J.1 105 s
theorem jU_105 {z0 z z1 : Nat → Nat → Int32} {s : Nat} {x : Int32} (J : qJU z0 z) (hz : z1 = qu z 105 s x) (hx : (0 : Int) ≤ x.toInt ∧ x.toInt ≤ 99) : qJU z0 z1 := ⟨qI_up J.1 hz hx, qK_up J.2 hz rfl⟩
theorem iU_106 {z0 z : Nat → Nat → Int32} {s : Nat} {x : Int32} (J : qJU z0 z) (e : x = z 106 s) : (0 : Int) ≤ x.toInt ∧ x.toInt ≤ 9 := by rw [e]; exact J.1 106 s
theorem jU_106 {z0 z z1 : Nat → Nat → Int32} {s : Nat} {x : Int32} (J : qJU z0 z) (hz : z1 = qu z 106 s x) (hx : (0 : Int) ≤ x.toInt ∧ x.toInt ≤ 9) : qJU z0 z1 := ⟨qI_up J.1 hz hx, qK_up J.2 hz rfl⟩
theorem jU_107 {z0 z z1 : Nat → Nat → Int32} {s : Nat} {x : Int32} (J : qJU z0 z) (hz : z1 = qu z 107 s x) : qJU z0 z1 := ⟨qI_up J.1 hz (gl_b x), qK_up J.2 hz rfl⟩
theorem jfU_107 {z0 z z1 : Nat → Nat → Int32} {f : Nat → Int32} (J : qJU z0 z) (hz : z1 = quf z 107 f) : qJU z0 z1 := ⟨qI_upf J.1 hz (fun s => gl_b (f s)), qK_upf J.2 hz (fun _ => rfl)⟩
theorem iU_108_1 {z0 z : Nat → Nat → Int32} {x : Int32} (J : qJU z0 z) (e : x = z 108 1) : (0 : Int) ≤ x.toInt ∧ x.toInt ≤ 1 := by rw [e]; exact J.1 108 1
theorem jU_108_1 {z0 z z1 : Nat → Nat → Int32} {x : Int32} (J : qJU z0 z) (hz : z1 = qu z 108 1 x) (hx : (0 : Int) ≤ x.toInt ∧ x.toInt ≤ 1) : qJU z0 z1 := ⟨qI_up J.1 hz hx, qK_up J.2 hz rfl⟩
theorem jU_109 {z0 z z1 : Nat → Nat → Int32} {s : Nat} {x : Int32} (J : qJU z0 z) (hz : z1 = qu z 109 s x) : qJU z0 z1 := ⟨qI_up J.1 hz (gl_b x), qK_up J.2 hz rfl⟩
theorem jfU_109 {z0 z z1 : Nat → Nat → Int32} {f : Nat → Int32} (J : qJU z0 z) (hz : z1 = quf z 109 f) : qJU z0 z1 := ⟨qI_upf J.1 hz (fun s => gl_b (f s)), qK_upf J.2 hz (fun _ => rfl)⟩
theorem iU_110_3 {z0 z : Nat → Nat → Int32} {x : Int32} (J : qJU z0 z) (e : x = z 110 3) : (0 : Int) ≤ x.toInt ∧ x.toInt ≤ 2000 := by rw [e]; exact J.1 110 3
theorem jU_110_3 {z0 z z1 : Nat → Nat → Int32} {x : Int32} (J : qJU z0 z) (hz : z1 = qu z 110 3 x) (hx : (0 : Int) ≤ x.toInt ∧ x.toInt ≤ 2000) : qJU z0 z1 := ⟨qI_up J.1 hz hx, qK_up J.2 hz rfl⟩
theorem jU_110_4 {z0 z z1 : Nat → Nat → Int32} {x : Int32} (J : qJU z0 z) (hz : z1 = qu z 110 4 x) : qJU z0 z1 := ⟨qI_up J.1 hz (gl_b x), qK_up J.2 hz rfl⟩
theorem jU_110_5 {z0 z z1 : Nat → Nat → Int32} {x : Int32} (J : qJU z0 z) (hz : z1 = qu z 110 5 x) : qJU z0 z1 := ⟨qI_up J.1 hz (gl_b x), qK_up J.2 hz rfl⟩
theorem jU_110_6 {z0 z z1 : Nat → Nat → Int32} {x : Int32} (J : qJU z0 z) (hz : z1 = qu z 110 6 x) : qJU z0 z1 := ⟨qI_up J.1 hz (gl_b x), qK_up J.2 hz rfl⟩
theorem jU_111 {z0 z z1 : Nat → Nat → Int32} {s : Nat} {x : Int32} (J : qJU z0 z) (hz : z1 = qu z 111 s x) : qJU z0 z1 := ⟨qI_up J.1 hz (gl_b x), qK_up J.2 hz rfl⟩
theorem jfU_111 {z0 z z1 : Nat → Nat → Int32} {f : Nat → Int32} (J : qJU z0 z) (hz : z1 = quf z 111 f) : qJU z0 z1 := ⟨qI_upf J.1 hz (fun s => gl_b (f s)), qK_upf J.2 hz (fun _ => rfl)⟩
theorem jU_113 {z0 z z1 : Nat → Nat → Int32} {s : Nat} {x : Int32} (J : qJU z0 z) (hz : z1 = qu z 113 s x) : qJU z0 z1 := ⟨qI_up J.1 hz (gl_b x), qK_up J.2 hz rfl⟩
theorem jfU_113 {z0 z z1 : Nat → Nat → Int32} {f : Nat → Int32} (J : qJU z0 z) (hz : z1 = quf z 113 f) : qJU z0 z1 := ⟨qI_upf J.1 hz (fun s => gl_b (f s)), qK_upf J.2 hz (fun _ => rfl)⟩
theorem jU_114_1 {z0 z z1 : Nat → Nat → Int32} {x : Int32} (J : qJU z0 z) (hz : z1 = qu z 114 1 x) : qJU z0 z1 := ⟨qI_up J.1 hz (gl_b x), qK_up J.2 hz rfl⟩
theorem jU_114_2 {z0 z z1 : Nat → Nat → Int32} {x : Int32} (J : qJU z0 z) (hz : z1 = qu z 114 2 x) : qJU z0 z1 := ⟨qI_up J.1 hz (gl_b x), qK_up J.2 hz rfl⟩
theorem jU_114_3 {z0 z z1 : Nat → Nat → Int32} {x : Int32} (J : qJU z0 z) (hz : z1 = qu z 114 3 x) : qJU z0 z1 := ⟨qI_up J.1 hz (gl_b x), qK_up J.2 hz rfl⟩
theorem jU_114_4 {z0 z z1 : Nat → Nat → Int32} {x : Int32} (J : qJU z0 z) (hz : z1 = qu z 114 4 x) : qJU z0 z1 := ⟨qI_up J.1 hz (gl_b x), qK_up J.2 hz rfl⟩
theorem jU_114_5 {z0 z z1 : Nat → Nat → Int32} {x : Int32} (J : qJU z0 z) (hz : z1 = qu z 114 5 x) : qJU z0 z1 := ⟨qI_up J.1 hz (gl_b x), qK_up J.2 hz rfl⟩
theorem jU_115 {z0 z z1 : Nat → Nat → Int32} {s : Nat} {x : Int32} (J : qJU z0 z) (hz : z1 = qu z 115 s x) : qJU z0 z1 := ⟨qI_up J.1 hz (gl_b x), qK_up J.2 hz rfl⟩
theorem jfU_115 {z0 z z1 : Nat → Nat → Int32} {f : Nat → Int32} (J : qJU z0 z) (hz : z1 = quf z 115 f) : qJU z0 z1 := ⟨qI_upf J.1 hz (fun s => gl_b (f s)), qK_upf J.2 hz (fun _ => rfl)⟩
theorem jU_116_3 {z0 z z1 : Nat → Nat → Int32} {x : Int32} (J : qJU z0 z) (hz : z1 = qu z 116 3 x) : qJU z0 z1 := ⟨qI_up J.1 hz (gl_b x), qK_up J.2 hz rfl⟩
theorem iU_117 {z0 z : Nat → Nat → Int32} {s : Nat} {x : Int32} (J : qJU z0 z) (e : x = z 117 s) : (0 : Int) ≤ x.toInt ∧ x.toInt ≤ 5 := by rw [e]; exact J.1 117 s
theorem jU_117 {z0 z z1 : Nat → Nat → Int32} {s : Nat} {x : Int32} (J : qJU z0 z) (hz : z1 = qu z 117 s x) (hx : (0 : Int) ≤ x.toInt ∧ x.toInt ≤ 5) : qJU z0 z1 := ⟨qI_up J.1 hz hx, qK_up J.2 hz rfl⟩
theorem jU_118 {z0 z z1 : Nat → Nat → Int32} {s : Nat} {x : Int32} (J : qJU z0 z) (hz : z1 = qu z 118 s x) : qJU z0 z1 := ⟨qI_up J.1 hz (gl_b x), qK_up J.2 hz rfl⟩
theorem jfU_118 {z0 z z1 : Nat → Nat → Int32} {f : Nat → Int32} (J : qJU z0 z) (hz : z1 = quf z 118 f) : qJU z0 z1 := ⟨qI_upf J.1 hz (fun s => gl_b (f s)), qK_upf J.2 hz (fun _ => rfl)⟩
theorem jU_119 {z0 z z1 : Nat → Nat → Int32} {s : Nat} {x : Int32} (J : qJU z0 z) (hz : z1 = qu z 119 s x) : qJU z0 z1 := ⟨qI_up J.1 hz (gl_b x), qK_up J.2 hz rfl⟩
theorem jfU_119 {z0 z z1 : Nat → Nat → Int32} {f : Nat → Int32} (J : qJU z0 z) (hz : z1 = quf z 119 f) : qJU z0 z1 := ⟨qI_upf J.1 hz (fun s => gl_b (f s)), qK_upf J.2 hz (fun _ => rfl)⟩
theorem jU_121 {z0 z z1 : Nat → Nat → Int32} {s : Nat} {x : Int32} (J : qJU z0 z) (hz : z1 = qu z 121 s x) : qJU z0 z1 := ⟨qI_up J.1 hz (gl_b x), qK_up J.2 hz rfl⟩
theorem jfU_121 {z0 z z1 : Nat → Nat → Int32} {f : Nat → Int32} (J : qJU z0 z) (hz : z1 = quf z 121 f) : qJU z0 z1 := ⟨qI_upf J.1 hz (fun s => gl_b (f s)), qK_upf J.2 hz (fun _ => rfl)⟩
theorem jU_122 {z0 z z1 : Nat → Nat → Int32} {s : Nat} {x : Int32} (J : qJU z0 z) (hz : z1 = qu z 122 s x) : qJU z0 z1 := ⟨qI_up J.1 hz (gl_b x), qK_up J.2 hz rfl⟩
theorem jfU_122 {z0 z z1 : Nat → Nat → Int32} {f : Nat → Int32} (J : qJU z0 z) (hz : z1 = quf z 122 f) : qJU z0 z1 := ⟨qI_upf J.1 hz (fun s => gl_b (f s)), qK_upf J.2 hz (fun _ => rfl)⟩
theorem iU_123_6 {z0 z : Nat → Nat → Int32} {x : Int32} (J : qJU z0 z) (e : x = z 123 6) : (0 : Int) ≤ x.toInt ∧ x.toInt ≤ 441 := by rw [e]; exact J.1 123 6
theorem jU_123_6 {z0 z z1 : Nat → Nat → Int32} {x : Int32} (J : qJU z0 z) (hz : z1 = qu z 123 6 x) (hx : (0 : Int) ≤ x.toInt ∧ x.toInt ≤ 441) : qJU z0 z1 := ⟨qI_up J.1 hz hx, qK_up J.2 hz rfl⟩
theorem jU_124 {z0 z z1 : Nat → Nat → Int32} {s : Nat} {x : Int32} (J : qJU z0 z) (hz : z1 = qu z 124 s x) : qJU z0 z1 := ⟨qI_up J.1 hz (gl_b x), qK_up J.2 hz rfl⟩
theorem jfU_124 {z0 z z1 : Nat → Nat → Int32} {f : Nat → Int32} (J : qJU z0 z) (hz : z1 = quf z 124 f) : qJU z0 z1 := ⟨qI_upf J.1 hz (fun s => gl_b (f s)), qK_upf J.2 hz (fun _ => rfl)⟩
theorem jU_125 {z0 z z1 : Nat → Nat → Int32} {s : Nat} {x : Int32} (J : qJU z0 z) (hz : z1 = qu z 125 s x) : qJU z0 z1 := ⟨qI_up J.1 hz (gl_b x), qK_up J.2 hz rfl⟩
theorem jfU_125 {z0 z z1 : Nat → Nat → Int32} {f : Nat → Int32} (J : qJU z0 z) (hz : z1 = quf z 125 f) : qJU z0 z1 := ⟨qI_upf J.1 hz (fun s => gl_b (f s)), qK_upf J.2 hz (fun _ => rfl)⟩
theorem jU_126 {z0 z z1 : Nat → Nat → Int32} {s : Nat} {x : Int32} (J : qJU z0 z) (hz : z1 = qu z 126 s x) : qJU z0 z1 := ⟨qI_up J.1 hz (gl_b x), qK_up J.2 hz rfl⟩
theorem jfU_126 {z0 z z1 : Nat → Nat → Int32} {f : Nat → Int32} (J : qJU z0 z) (hz : z1 = quf z 126 f) : qJU z0 z1 := ⟨qI_upf J.1 hz (fun s => gl_b (f s)), qK_upf J.2 hz (fun _ => rfl)⟩
theorem jU_127 {z0 z z1 : Nat → Nat → Int32} {s : Nat} {x : Int32} (J : qJU z0 z) (hz : z1 = qu z 127 s x) : qJU z0 z1 := ⟨qI_up J.1 hz (gl_b x), qK_up J.2 hz rfl⟩
theorem jfU_127 {z0 z z1 : Nat → Nat → Int32} {f : Nat → Int32} (J : qJU z0 z) (hz : z1 = quf z 127 f) : qJU z0 z1 := ⟨qI_upf J.1 hz (fun s => gl_b (f s)), qK_upf J.2 hz (fun _ => rfl)⟩
theorem jU_128 {z0 z z1 : Nat → Nat → Int32} {s : Nat} {x : Int32} (J : qJU z0 z) (hz : z1 = qu z 128 s x) : qJU z0 z1 := ⟨qI_up J.1 hz (gl_b x), qK_up J.2 hz rfl⟩
theorem jfU_128 {z0 z z1 : Nat → Nat → Int32} {f : Nat → Int32} (J : qJU z0 z) (hz : z1 = quf z 128 f) : qJU z0 z1 := ⟨qI_upf J.1 hz (fun s => gl_b (f s)), qK_upf J.2 hz (fun _ => rfl)⟩
theorem iU_129 {z0 z : Nat → Nat → Int32} {s : Nat} {x : Int32} (J : qJU z0 z) (e : x = z 129 s) : (0 : Int) ≤ x.toInt ∧ x.toInt ≤ 440 := by rw [e]; exact J.1 129 s
theorem jU_129 {z0 z z1 : Nat → Nat → Int32} {s : Nat} {x : Int32} (J : qJU z0 z) (hz : z1 = qu z 129 s x) (hx : (0 : Int) ≤ x.toInt ∧ x.toInt ≤ 440) : qJU z0 z1 := ⟨qI_up J.1 hz hx, qK_up J.2 hz rfl⟩
theorem jU_130 {z0 z z1 : Nat → Nat → Int32} {s : Nat} {x : Int32} (J : qJU z0 z) (hz : z1 = qu z 130 s x) : qJU z0 z1 := ⟨qI_up J.1 hz (gl_b x), qK_up J.2 hz rfl⟩
theorem jfU_130 {z0 z z1 : Nat → Nat → Int32} {f : Nat → Int32} (J : qJU z0 z) (hz : z1 = quf z 130 f) : qJU z0 z1 := ⟨qI_upf J.1 hz (fun s => gl_b (f s)), qK_upf J.2 hz (fun _ => rfl)⟩
def bM (c s : Nat) : Int × Int := if (c = 0 ∧ s = 15) ∨ (c = 0 ∧ s = 16) ∨ (c = 0 ∧ s = 17) then (0, 260) else if (c = 0 ∧ s = 29) then (0, 6) else if (c = 0 ∧ s = 41) then (0, 2000) else if (c = 0 ∧ s = 5) ∨ c = 1 ∨ c = 2 ∨ c = 23 ∨ c = 26 ∨ (c = 40 ∧ (s = 1 ∨ (3 ≤ s ∧ s < 15))) then (0, 99) else if (c = 0 ∧ s = 61) then (0, 1) else if (c = 0 ∧ s = 58) then (0, 9261) else if c = 20 ∨ c = 21 then ((-1), 5) else if c = 8 ∨ (c = 40 ∧ (185 ≤ s ∧ s < 201)) then (0, 3) else if c = 30 ∨ c = 32 then (0, 5) else if c = 37 then (0, 9260) else (-2147483648, 2147483647)
def kM (c s : Nat) : Bool := c == 1 || c == 2 || c == 3 || c == 4 || c == 40 || (c == 0 && s == 4) || (c == 0 && s == 5) || (c == 0 && s == 61)
def qX (z : Nat → Nat → Int32) : Prop := (∀ s, (z 8 s).toInt = 3 → (z 9 s).toInt ≠ 0) ∧ (∀ s, (z 20 s).toInt ≠ -1 → 0 ≤ (z 21 s).toInt) ∧ (∀ s, s < 6 → (z 1 s).toInt ≤ (z 2 s).toInt) ∧ (∀ s, s < 16 → (z 40 (185 + s)).toInt = 3 → (z 40 (201 + s)).toInt ≠ 0) ∧ (∀ s, s < 6 → (z 40 (3 + s)).toInt ≤ (z 40 (9 + s)).toInt)
theorem qX_eq {z z1 : Nat → Nat → Int32} (h : qX z) (h8 : z1 8 = z 8) (h9 : z1 9 = z 9) (h20 : z1 20 = z 20) (h21 : z1 21 = z 21) (h1 : z1 1 = z 1) (h2 : z1 2 = z 2) (h40 : z1 40 = z 40) : qX z1 := by
  unfold qX at *
  simp only [h8, h9, h20, h21, h1, h2, h40]
  exact h
theorem qX_up {z z1 : Nat → Nat → Int32} {c s : Nat} {x : Int32} (h : qX z) (hz : z1 = qu z c s x) (hc : c ≠ 8 ∧ c ≠ 9 ∧ c ≠ 20 ∧ c ≠ 21 ∧ c ≠ 1 ∧ c ≠ 2 ∧ c ≠ 40) : qX z1 := qX_eq h (qt_row hz (Ne.symm hc.1)) (qt_row hz (Ne.symm hc.2.1)) (qt_row hz (Ne.symm hc.2.2.1)) (qt_row hz (Ne.symm hc.2.2.2.1)) (qt_row hz (Ne.symm hc.2.2.2.2.1)) (qt_row hz (Ne.symm hc.2.2.2.2.2.1)) (qt_row hz (Ne.symm hc.2.2.2.2.2.2))
theorem qX_upf {z z1 : Nat → Nat → Int32} {c : Nat} {f : Nat → Int32} (h : qX z) (hz : z1 = quf z c f) (hc : c ≠ 8 ∧ c ≠ 9 ∧ c ≠ 20 ∧ c ≠ 21 ∧ c ≠ 1 ∧ c ≠ 2 ∧ c ≠ 40) : qX z1 := qX_eq h (by rw [hz, quf_ne (Ne.symm hc.1)]) (by rw [hz, quf_ne (Ne.symm hc.2.1)]) (by rw [hz, quf_ne (Ne.symm hc.2.2.1)]) (by rw [hz, quf_ne (Ne.symm hc.2.2.2.1)]) (by rw [hz, quf_ne (Ne.symm hc.2.2.2.2.1)]) (by rw [hz, quf_ne (Ne.symm hc.2.2.2.2.2.1)]) (by rw [hz, quf_ne (Ne.symm hc.2.2.2.2.2.2)])
def qJM (z0 z : Nat → Nat → Int32) : Prop := qI bM z ∧ qK kM z0 z ∧ qX z
theorem jM_0_4 {z0 z z1 : Nat → Nat → Int32} {x : Int32} (J : qJM z0 z) (hz : z1 = qu z 0 4 x) : qJM (qu z0 0 4 x) z1 := ⟨qI_up J.1 hz (gl_b x), qK_upc J.2.1 hz, qX_up J.2.2 hz (by decide)⟩
theorem iM_0_5 {z0 z : Nat → Nat → Int32} {x : Int32} (J : qJM z0 z) (e : x = z 0 5) : (0 : Int) ≤ x.toInt ∧ x.toInt ≤ 99 := by rw [e]; exact J.1 0 5
theorem jM_0_5 {z0 z z1 : Nat → Nat → Int32} {x : Int32} (J : qJM z0 z) (hz : z1 = qu z 0 5 x) (hx : (0 : Int) ≤ x.toInt ∧ x.toInt ≤ 99) : qJM (qu z0 0 5 x) z1 := ⟨qI_up J.1 hz hx, qK_upc J.2.1 hz, qX_up J.2.2 hz (by decide)⟩
theorem jM_0_6 {z0 z z1 : Nat → Nat → Int32} {x : Int32} (J : qJM z0 z) (hz : z1 = qu z 0 6 x) : qJM z0 z1 := ⟨qI_up J.1 hz (gl_b x), qK_up J.2.1 hz rfl, qX_up J.2.2 hz (by decide)⟩
theorem iM_0_15 {z0 z : Nat → Nat → Int32} {x : Int32} (J : qJM z0 z) (e : x = z 0 15) : (0 : Int) ≤ x.toInt ∧ x.toInt ≤ 260 := by rw [e]; exact J.1 0 15
theorem jM_0_15 {z0 z z1 : Nat → Nat → Int32} {x : Int32} (J : qJM z0 z) (hz : z1 = qu z 0 15 x) (hx : (0 : Int) ≤ x.toInt ∧ x.toInt ≤ 260) : qJM z0 z1 := ⟨qI_up J.1 hz hx, qK_up J.2.1 hz rfl, qX_up J.2.2 hz (by decide)⟩
theorem iM_0_16 {z0 z : Nat → Nat → Int32} {x : Int32} (J : qJM z0 z) (e : x = z 0 16) : (0 : Int) ≤ x.toInt ∧ x.toInt ≤ 260 := by rw [e]; exact J.1 0 16
theorem jM_0_16 {z0 z z1 : Nat → Nat → Int32} {x : Int32} (J : qJM z0 z) (hz : z1 = qu z 0 16 x) (hx : (0 : Int) ≤ x.toInt ∧ x.toInt ≤ 260) : qJM z0 z1 := ⟨qI_up J.1 hz hx, qK_up J.2.1 hz rfl, qX_up J.2.2 hz (by decide)⟩
theorem iM_0_17 {z0 z : Nat → Nat → Int32} {x : Int32} (J : qJM z0 z) (e : x = z 0 17) : (0 : Int) ≤ x.toInt ∧ x.toInt ≤ 260 := by rw [e]; exact J.1 0 17
theorem jM_0_17 {z0 z z1 : Nat → Nat → Int32} {x : Int32} (J : qJM z0 z) (hz : z1 = qu z 0 17 x) (hx : (0 : Int) ≤ x.toInt ∧ x.toInt ≤ 260) : qJM z0 z1 := ⟨qI_up J.1 hz hx, qK_up J.2.1 hz rfl, qX_up J.2.2 hz (by decide)⟩
theorem jM_0_18 {z0 z z1 : Nat → Nat → Int32} {x : Int32} (J : qJM z0 z) (hz : z1 = qu z 0 18 x) : qJM z0 z1 := ⟨qI_up J.1 hz (gl_b x), qK_up J.2.1 hz rfl, qX_up J.2.2 hz (by decide)⟩
theorem jM_0_19 {z0 z z1 : Nat → Nat → Int32} {x : Int32} (J : qJM z0 z) (hz : z1 = qu z 0 19 x) : qJM z0 z1 := ⟨qI_up J.1 hz (gl_b x), qK_up J.2.1 hz rfl, qX_up J.2.2 hz (by decide)⟩
theorem iM_0_29 {z0 z : Nat → Nat → Int32} {x : Int32} (J : qJM z0 z) (e : x = z 0 29) : (0 : Int) ≤ x.toInt ∧ x.toInt ≤ 6 := by rw [e]; exact J.1 0 29
theorem jM_0_29 {z0 z z1 : Nat → Nat → Int32} {x : Int32} (J : qJM z0 z) (hz : z1 = qu z 0 29 x) (hx : (0 : Int) ≤ x.toInt ∧ x.toInt ≤ 6) : qJM z0 z1 := ⟨qI_up J.1 hz hx, qK_up J.2.1 hz rfl, qX_up J.2.2 hz (by decide)⟩
theorem jM_0_30 {z0 z z1 : Nat → Nat → Int32} {x : Int32} (J : qJM z0 z) (hz : z1 = qu z 0 30 x) : qJM z0 z1 := ⟨qI_up J.1 hz (gl_b x), qK_up J.2.1 hz rfl, qX_up J.2.2 hz (by decide)⟩
theorem jM_0_31 {z0 z z1 : Nat → Nat → Int32} {x : Int32} (J : qJM z0 z) (hz : z1 = qu z 0 31 x) : qJM z0 z1 := ⟨qI_up J.1 hz (gl_b x), qK_up J.2.1 hz rfl, qX_up J.2.2 hz (by decide)⟩
theorem jM_0_33 {z0 z z1 : Nat → Nat → Int32} {x : Int32} (J : qJM z0 z) (hz : z1 = qu z 0 33 x) : qJM z0 z1 := ⟨qI_up J.1 hz (gl_b x), qK_up J.2.1 hz rfl, qX_up J.2.2 hz (by decide)⟩
theorem jM_0_34 {z0 z z1 : Nat → Nat → Int32} {x : Int32} (J : qJM z0 z) (hz : z1 = qu z 0 34 x) : qJM z0 z1 := ⟨qI_up J.1 hz (gl_b x), qK_up J.2.1 hz rfl, qX_up J.2.2 hz (by decide)⟩
theorem jM_0_35 {z0 z z1 : Nat → Nat → Int32} {x : Int32} (J : qJM z0 z) (hz : z1 = qu z 0 35 x) : qJM z0 z1 := ⟨qI_up J.1 hz (gl_b x), qK_up J.2.1 hz rfl, qX_up J.2.2 hz (by decide)⟩
theorem iM_0_41 {z0 z : Nat → Nat → Int32} {x : Int32} (J : qJM z0 z) (e : x = z 0 41) : (0 : Int) ≤ x.toInt ∧ x.toInt ≤ 2000 := by rw [e]; exact J.1 0 41
theorem jM_0_41 {z0 z z1 : Nat → Nat → Int32} {x : Int32} (J : qJM z0 z) (hz : z1 = qu z 0 41 x) (hx : (0 : Int) ≤ x.toInt ∧ x.toInt ≤ 2000) : qJM z0 z1 := ⟨qI_up J.1 hz hx, qK_up J.2.1 hz rfl, qX_up J.2.2 hz (by decide)⟩
theorem jM_0_43 {z0 z z1 : Nat → Nat → Int32} {x : Int32} (J : qJM z0 z) (hz : z1 = qu z 0 43 x) : qJM z0 z1 := ⟨qI_up J.1 hz (gl_b x), qK_up J.2.1 hz rfl, qX_up J.2.2 hz (by decide)⟩
theorem jM_0_44 {z0 z z1 : Nat → Nat → Int32} {x : Int32} (J : qJM z0 z) (hz : z1 = qu z 0 44 x) : qJM z0 z1 := ⟨qI_up J.1 hz (gl_b x), qK_up J.2.1 hz rfl, qX_up J.2.2 hz (by decide)⟩
theorem jM_0_45 {z0 z z1 : Nat → Nat → Int32} {x : Int32} (J : qJM z0 z) (hz : z1 = qu z 0 45 x) : qJM z0 z1 := ⟨qI_up J.1 hz (gl_b x), qK_up J.2.1 hz rfl, qX_up J.2.2 hz (by decide)⟩
theorem jM_0_46 {z0 z z1 : Nat → Nat → Int32} {x : Int32} (J : qJM z0 z) (hz : z1 = qu z 0 46 x) : qJM z0 z1 := ⟨qI_up J.1 hz (gl_b x), qK_up J.2.1 hz rfl, qX_up J.2.2 hz (by decide)⟩
theorem jM_0_47 {z0 z z1 : Nat → Nat → Int32} {x : Int32} (J : qJM z0 z) (hz : z1 = qu z 0 47 x) : qJM z0 z1 := ⟨qI_up J.1 hz (gl_b x), qK_up J.2.1 hz rfl, qX_up J.2.2 hz (by decide)⟩
theorem iM_0_58 {z0 z : Nat → Nat → Int32} {x : Int32} (J : qJM z0 z) (e : x = z 0 58) : (0 : Int) ≤ x.toInt ∧ x.toInt ≤ 9261 := by rw [e]; exact J.1 0 58
theorem jM_0_58 {z0 z z1 : Nat → Nat → Int32} {x : Int32} (J : qJM z0 z) (hz : z1 = qu z 0 58 x) (hx : (0 : Int) ≤ x.toInt ∧ x.toInt ≤ 9261) : qJM z0 z1 := ⟨qI_up J.1 hz hx, qK_up J.2.1 hz rfl, qX_up J.2.2 hz (by decide)⟩
theorem iM_0_61 {z0 z : Nat → Nat → Int32} {x : Int32} (J : qJM z0 z) (e : x = z 0 61) : (0 : Int) ≤ x.toInt ∧ x.toInt ≤ 1 := by rw [e]; exact J.1 0 61
theorem jM_0_61 {z0 z z1 : Nat → Nat → Int32} {x : Int32} (J : qJM z0 z) (hz : z1 = qu z 0 61 x) (hx : (0 : Int) ≤ x.toInt ∧ x.toInt ≤ 1) : qJM (qu z0 0 61 x) z1 := ⟨qI_up J.1 hz hx, qK_upc J.2.1 hz, qX_up J.2.2 hz (by decide)⟩
theorem jM_0_62 {z0 z z1 : Nat → Nat → Int32} {x : Int32} (J : qJM z0 z) (hz : z1 = qu z 0 62 x) : qJM z0 z1 := ⟨qI_up J.1 hz (gl_b x), qK_up J.2.1 hz rfl, qX_up J.2.2 hz (by decide)⟩
theorem iM_1 {z0 z : Nat → Nat → Int32} {s : Nat} {x : Int32} (J : qJM z0 z) (e : x = z 1 s) : (0 : Int) ≤ x.toInt ∧ x.toInt ≤ 99 := by rw [e]; exact J.1 1 s
theorem iM_2 {z0 z : Nat → Nat → Int32} {s : Nat} {x : Int32} (J : qJM z0 z) (e : x = z 2 s) : (0 : Int) ≤ x.toInt ∧ x.toInt ≤ 99 := by rw [e]; exact J.1 2 s
theorem jM_3 {z0 z z1 : Nat → Nat → Int32} {s : Nat} {x : Int32} (J : qJM z0 z) (hz : z1 = qu z 3 s x) : qJM (qu z0 3 s x) z1 := ⟨qI_up J.1 hz (gl_b x), qK_upc J.2.1 hz, qX_up J.2.2 hz (by decide)⟩
theorem jfM_3 {z0 z z1 : Nat → Nat → Int32} {f : Nat → Int32} (J : qJM z0 z) (hz : z1 = quf z 3 f) : qJM (quf z0 3 f) z1 := ⟨qI_upf J.1 hz (fun s => gl_b (f s)), qK_upfc J.2.1 hz, qX_upf J.2.2 hz (by decide)⟩
theorem jM_4 {z0 z z1 : Nat → Nat → Int32} {s : Nat} {x : Int32} (J : qJM z0 z) (hz : z1 = qu z 4 s x) : qJM (qu z0 4 s x) z1 := ⟨qI_up J.1 hz (gl_b x), qK_upc J.2.1 hz, qX_up J.2.2 hz (by decide)⟩
theorem jfM_4 {z0 z z1 : Nat → Nat → Int32} {f : Nat → Int32} (J : qJM z0 z) (hz : z1 = quf z 4 f) : qJM (quf z0 4 f) z1 := ⟨qI_upf J.1 hz (fun s => gl_b (f s)), qK_upfc J.2.1 hz, qX_upf J.2.2 hz (by decide)⟩
theorem jM_5 {z0 z z1 : Nat → Nat → Int32} {s : Nat} {x : Int32} (J : qJM z0 z) (hz : z1 = qu z 5 s x) : qJM z0 z1 := ⟨qI_up J.1 hz (gl_b x), qK_up J.2.1 hz rfl, qX_up J.2.2 hz (by decide)⟩
theorem jfM_5 {z0 z z1 : Nat → Nat → Int32} {f : Nat → Int32} (J : qJM z0 z) (hz : z1 = quf z 5 f) : qJM z0 z1 := ⟨qI_upf J.1 hz (fun s => gl_b (f s)), qK_upf J.2.1 hz (fun _ => rfl), qX_upf J.2.2 hz (by decide)⟩
theorem jM_6 {z0 z z1 : Nat → Nat → Int32} {s : Nat} {x : Int32} (J : qJM z0 z) (hz : z1 = qu z 6 s x) : qJM z0 z1 := ⟨qI_up J.1 hz (gl_b x), qK_up J.2.1 hz rfl, qX_up J.2.2 hz (by decide)⟩
theorem jfM_6 {z0 z z1 : Nat → Nat → Int32} {f : Nat → Int32} (J : qJM z0 z) (hz : z1 = quf z 6 f) : qJM z0 z1 := ⟨qI_upf J.1 hz (fun s => gl_b (f s)), qK_upf J.2.1 hz (fun _ => rfl), qX_upf J.2.2 hz (by decide)⟩
theorem jM_7 {z0 z z1 : Nat → Nat → Int32} {s : Nat} {x : Int32} (J : qJM z0 z) (hz : z1 = qu z 7 s x) : qJM z0 z1 := ⟨qI_up J.1 hz (gl_b x), qK_up J.2.1 hz rfl, qX_up J.2.2 hz (by decide)⟩
theorem jfM_7 {z0 z z1 : Nat → Nat → Int32} {f : Nat → Int32} (J : qJM z0 z) (hz : z1 = quf z 7 f) : qJM z0 z1 := ⟨qI_upf J.1 hz (fun s => gl_b (f s)), qK_upf J.2.1 hz (fun _ => rfl), qX_upf J.2.2 hz (by decide)⟩
theorem iM_8 {z0 z : Nat → Nat → Int32} {s : Nat} {x : Int32} (J : qJM z0 z) (e : x = z 8 s) : (0 : Int) ≤ x.toInt ∧ x.toInt ≤ 3 := by rw [e]; exact J.1 8 s
theorem jM_10 {z0 z z1 : Nat → Nat → Int32} {s : Nat} {x : Int32} (J : qJM z0 z) (hz : z1 = qu z 10 s x) : qJM z0 z1 := ⟨qI_up J.1 hz (gl_b x), qK_up J.2.1 hz rfl, qX_up J.2.2 hz (by decide)⟩
theorem jfM_10 {z0 z z1 : Nat → Nat → Int32} {f : Nat → Int32} (J : qJM z0 z) (hz : z1 = quf z 10 f) : qJM z0 z1 := ⟨qI_upf J.1 hz (fun s => gl_b (f s)), qK_upf J.2.1 hz (fun _ => rfl), qX_upf J.2.2 hz (by decide)⟩
theorem jM_11 {z0 z z1 : Nat → Nat → Int32} {s : Nat} {x : Int32} (J : qJM z0 z) (hz : z1 = qu z 11 s x) : qJM z0 z1 := ⟨qI_up J.1 hz (gl_b x), qK_up J.2.1 hz rfl, qX_up J.2.2 hz (by decide)⟩
theorem jfM_11 {z0 z z1 : Nat → Nat → Int32} {f : Nat → Int32} (J : qJM z0 z) (hz : z1 = quf z 11 f) : qJM z0 z1 := ⟨qI_upf J.1 hz (fun s => gl_b (f s)), qK_upf J.2.1 hz (fun _ => rfl), qX_upf J.2.2 hz (by decide)⟩
theorem jM_12 {z0 z z1 : Nat → Nat → Int32} {s : Nat} {x : Int32} (J : qJM z0 z) (hz : z1 = qu z 12 s x) : qJM z0 z1 := ⟨qI_up J.1 hz (gl_b x), qK_up J.2.1 hz rfl, qX_up J.2.2 hz (by decide)⟩
theorem jfM_12 {z0 z z1 : Nat → Nat → Int32} {f : Nat → Int32} (J : qJM z0 z) (hz : z1 = quf z 12 f) : qJM z0 z1 := ⟨qI_upf J.1 hz (fun s => gl_b (f s)), qK_upf J.2.1 hz (fun _ => rfl), qX_upf J.2.2 hz (by decide)⟩
theorem jM_13 {z0 z z1 : Nat → Nat → Int32} {s : Nat} {x : Int32} (J : qJM z0 z) (hz : z1 = qu z 13 s x) : qJM z0 z1 := ⟨qI_up J.1 hz (gl_b x), qK_up J.2.1 hz rfl, qX_up J.2.2 hz (by decide)⟩
theorem jfM_13 {z0 z z1 : Nat → Nat → Int32} {f : Nat → Int32} (J : qJM z0 z) (hz : z1 = quf z 13 f) : qJM z0 z1 := ⟨qI_upf J.1 hz (fun s => gl_b (f s)), qK_upf J.2.1 hz (fun _ => rfl), qX_upf J.2.2 hz (by decide)⟩
theorem jM_14 {z0 z z1 : Nat → Nat → Int32} {s : Nat} {x : Int32} (J : qJM z0 z) (hz : z1 = qu z 14 s x) : qJM z0 z1 := ⟨qI_up J.1 hz (gl_b x), qK_up J.2.1 hz rfl, qX_up J.2.2 hz (by decide)⟩
theorem jfM_14 {z0 z z1 : Nat → Nat → Int32} {f : Nat → Int32} (J : qJM z0 z) (hz : z1 = quf z 14 f) : qJM z0 z1 := ⟨qI_upf J.1 hz (fun s => gl_b (f s)), qK_upf J.2.1 hz (fun _ => rfl), qX_upf J.2.2 hz (by decide)⟩
theorem jM_15 {z0 z z1 : Nat → Nat → Int32} {s : Nat} {x : Int32} (J : qJM z0 z) (hz : z1 = qu z 15 s x) : qJM z0 z1 := ⟨qI_up J.1 hz (gl_b x), qK_up J.2.1 hz rfl, qX_up J.2.2 hz (by decide)⟩
theorem jfM_15 {z0 z z1 : Nat → Nat → Int32} {f : Nat → Int32} (J : qJM z0 z) (hz : z1 = quf z 15 f) : qJM z0 z1 := ⟨qI_upf J.1 hz (fun s => gl_b (f s)), qK_upf J.2.1 hz (fun _ => rfl), qX_upf J.2.2 hz (by decide)⟩
theorem jM_16 {z0 z z1 : Nat → Nat → Int32} {s : Nat} {x : Int32} (J : qJM z0 z) (hz : z1 = qu z 16 s x) : qJM z0 z1 := ⟨qI_up J.1 hz (gl_b x), qK_up J.2.1 hz rfl, qX_up J.2.2 hz (by decide)⟩
theorem jfM_16 {z0 z z1 : Nat → Nat → Int32} {f : Nat → Int32} (J : qJM z0 z) (hz : z1 = quf z 16 f) : qJM z0 z1 := ⟨qI_upf J.1 hz (fun s => gl_b (f s)), qK_upf J.2.1 hz (fun _ => rfl), qX_upf J.2.2 hz (by decide)⟩
theorem jM_17 {z0 z z1 : Nat → Nat → Int32} {s : Nat} {x : Int32} (J : qJM z0 z) (hz : z1 = qu z 17 s x) : qJM z0 z1 := ⟨qI_up J.1 hz (gl_b x), qK_up J.2.1 hz rfl, qX_up J.2.2 hz (by decide)⟩
theorem jfM_17 {z0 z z1 : Nat → Nat → Int32} {f : Nat → Int32} (J : qJM z0 z) (hz : z1 = quf z 17 f) : qJM z0 z1 := ⟨qI_upf J.1 hz (fun s => gl_b (f s)), qK_upf J.2.1 hz (fun _ => rfl), qX_upf J.2.2 hz (by decide)⟩
theorem jM_18 {z0 z z1 : Nat → Nat → Int32} {s : Nat} {x : Int32} (J : qJM z0 z) (hz : z1 = qu z 18 s x) : qJM z0 z1 := ⟨qI_up J.1 hz (gl_b x), qK_up J.2.1 hz rfl, qX_up J.2.2 hz (by decide)⟩
theorem jfM_18 {z0 z z1 : Nat → Nat → Int32} {f : Nat → Int32} (J : qJM z0 z) (hz : z1 = quf z 18 f) : qJM z0 z1 := ⟨qI_upf J.1 hz (fun s => gl_b (f s)), qK_upf J.2.1 hz (fun _ => rfl), qX_upf J.2.2 hz (by decide)⟩
theorem jM_19 {z0 z z1 : Nat → Nat → Int32} {s : Nat} {x : Int32} (J : qJM z0 z) (hz : z1 = qu z 19 s x) : qJM z0 z1 := ⟨qI_up J.1 hz (gl_b x), qK_up J.2.1 hz rfl, qX_up J.2.2 hz (by decide)⟩
theorem jfM_19 {z0 z z1 : Nat → Nat → Int32} {f : Nat → Int32} (J : qJM z0 z) (hz : z1 = quf z 19 f) : qJM z0 z1 := ⟨qI_upf J.1 hz (fun s => gl_b (f s)), qK_upf J.2.1 hz (fun _ => rfl), qX_upf J.2.2 hz (by decide)⟩
theorem iM_20 {z0 z : Nat → Nat → Int32} {s : Nat} {x : Int32} (J : qJM z0 z) (e : x = z 20 s) : (-1 : Int) ≤ x.toInt ∧ x.toInt ≤ 5 := by rw [e]; exact J.1 20 s
theorem iM_21 {z0 z : Nat → Nat → Int32} {s : Nat} {x : Int32} (J : qJM z0 z) (e : x = z 21 s) : (-1 : Int) ≤ x.toInt ∧ x.toInt ≤ 5 := by rw [e]; exact J.1 21 s
theorem jM_22 {z0 z z1 : Nat → Nat → Int32} {s : Nat} {x : Int32} (J : qJM z0 z) (hz : z1 = qu z 22 s x) : qJM z0 z1 := ⟨qI_up J.1 hz (gl_b x), qK_up J.2.1 hz rfl, qX_up J.2.2 hz (by decide)⟩
theorem jfM_22 {z0 z z1 : Nat → Nat → Int32} {f : Nat → Int32} (J : qJM z0 z) (hz : z1 = quf z 22 f) : qJM z0 z1 := ⟨qI_upf J.1 hz (fun s => gl_b (f s)), qK_upf J.2.1 hz (fun _ => rfl), qX_upf J.2.2 hz (by decide)⟩
theorem iM_23 {z0 z : Nat → Nat → Int32} {s : Nat} {x : Int32} (J : qJM z0 z) (e : x = z 23 s) : (0 : Int) ≤ x.toInt ∧ x.toInt ≤ 99 := by rw [e]; exact J.1 23 s
theorem jM_23 {z0 z z1 : Nat → Nat → Int32} {s : Nat} {x : Int32} (J : qJM z0 z) (hz : z1 = qu z 23 s x) (hx : (0 : Int) ≤ x.toInt ∧ x.toInt ≤ 99) : qJM z0 z1 := ⟨qI_up J.1 hz hx, qK_up J.2.1 hz rfl, qX_up J.2.2 hz (by decide)⟩
theorem jM_24 {z0 z z1 : Nat → Nat → Int32} {s : Nat} {x : Int32} (J : qJM z0 z) (hz : z1 = qu z 24 s x) : qJM z0 z1 := ⟨qI_up J.1 hz (gl_b x), qK_up J.2.1 hz rfl, qX_up J.2.2 hz (by decide)⟩
theorem jfM_24 {z0 z z1 : Nat → Nat → Int32} {f : Nat → Int32} (J : qJM z0 z) (hz : z1 = quf z 24 f) : qJM z0 z1 := ⟨qI_upf J.1 hz (fun s => gl_b (f s)), qK_upf J.2.1 hz (fun _ => rfl), qX_upf J.2.2 hz (by decide)⟩
theorem jM_25 {z0 z z1 : Nat → Nat → Int32} {s : Nat} {x : Int32} (J : qJM z0 z) (hz : z1 = qu z 25 s x) : qJM z0 z1 := ⟨qI_up J.1 hz (gl_b x), qK_up J.2.1 hz rfl, qX_up J.2.2 hz (by decide)⟩
theorem jfM_25 {z0 z z1 : Nat → Nat → Int32} {f : Nat → Int32} (J : qJM z0 z) (hz : z1 = quf z 25 f) : qJM z0 z1 := ⟨qI_upf J.1 hz (fun s => gl_b (f s)), qK_upf J.2.1 hz (fun _ => rfl), qX_upf J.2.2 hz (by decide)⟩
theorem iM_26 {z0 z : Nat → Nat → Int32} {s : Nat} {x : Int32} (J : qJM z0 z) (e : x = z 26 s) : (0 : Int) ≤ x.toInt ∧ x.toInt ≤ 99 := by rw [e]; exact J.1 26 s
theorem jM_26 {z0 z z1 : Nat → Nat → Int32} {s : Nat} {x : Int32} (J : qJM z0 z) (hz : z1 = qu z 26 s x) (hx : (0 : Int) ≤ x.toInt ∧ x.toInt ≤ 99) : qJM z0 z1 := ⟨qI_up J.1 hz hx, qK_up J.2.1 hz rfl, qX_up J.2.2 hz (by decide)⟩
theorem jM_27 {z0 z z1 : Nat → Nat → Int32} {s : Nat} {x : Int32} (J : qJM z0 z) (hz : z1 = qu z 27 s x) : qJM z0 z1 := ⟨qI_up J.1 hz (gl_b x), qK_up J.2.1 hz rfl, qX_up J.2.2 hz (by decide)⟩
theorem jfM_27 {z0 z z1 : Nat → Nat → Int32} {f : Nat → Int32} (J : qJM z0 z) (hz : z1 = quf z 27 f) : qJM z0 z1 := ⟨qI_upf J.1 hz (fun s => gl_b (f s)), qK_upf J.2.1 hz (fun _ => rfl), qX_upf J.2.2 hz (by decide)⟩
theorem jM_28 {z0 z z1 : Nat → Nat → Int32} {s : Nat} {x : Int32} (J : qJM z0 z) (hz : z1 = qu z 28 s x) : qJM z0 z1 := ⟨qI_up J.1 hz (gl_b x), qK_up J.2.1 hz rfl, qX_up J.2.2 hz (by decide)⟩
theorem jfM_28 {z0 z z1 : Nat → Nat → Int32} {f : Nat → Int32} (J : qJM z0 z) (hz : z1 = quf z 28 f) : qJM z0 z1 := ⟨qI_upf J.1 hz (fun s => gl_b (f s)), qK_upf J.2.1 hz (fun _ => rfl), qX_upf J.2.2 hz (by decide)⟩
theorem jM_29 {z0 z z1 : Nat → Nat → Int32} {s : Nat} {x : Int32} (J : qJM z0 z) (hz : z1 = qu z 29 s x) : qJM z0 z1 := ⟨qI_up J.1 hz (gl_b x), qK_up J.2.1 hz rfl, qX_up J.2.2 hz (by decide)⟩
theorem jfM_29 {z0 z z1 : Nat → Nat → Int32} {f : Nat → Int32} (J : qJM z0 z) (hz : z1 = quf z 29 f) : qJM z0 z1 := ⟨qI_upf J.1 hz (fun s => gl_b (f s)), qK_upf J.2.1 hz (fun _ => rfl), qX_upf J.2.2 hz (by decide)⟩
theorem iM_30 {z0 z : Nat → Nat → Int32} {s : Nat} {x : Int32} (J : qJM z0 z) (e : x = z 30 s) : (0 : Int) ≤ x.toInt ∧ x.toInt ≤ 5 := by rw [e]; exact J.1 30 s
theorem jM_30 {z0 z z1 : Nat → Nat → Int32} {s : Nat} {x : Int32} (J : qJM z0 z) (hz : z1 = qu z 30 s x) (hx : (0 : Int) ≤ x.toInt ∧ x.toInt ≤ 5) : qJM z0 z1 := ⟨qI_up J.1 hz hx, qK_up J.2.1 hz rfl, qX_up J.2.2 hz (by decide)⟩
theorem jM_31 {z0 z z1 : Nat → Nat → Int32} {s : Nat} {x : Int32} (J : qJM z0 z) (hz : z1 = qu z 31 s x) : qJM z0 z1 := ⟨qI_up J.1 hz (gl_b x), qK_up J.2.1 hz rfl, qX_up J.2.2 hz (by decide)⟩
theorem jfM_31 {z0 z z1 : Nat → Nat → Int32} {f : Nat → Int32} (J : qJM z0 z) (hz : z1 = quf z 31 f) : qJM z0 z1 := ⟨qI_upf J.1 hz (fun s => gl_b (f s)), qK_upf J.2.1 hz (fun _ => rfl), qX_upf J.2.2 hz (by decide)⟩
theorem iM_32 {z0 z : Nat → Nat → Int32} {s : Nat} {x : Int32} (J : qJM z0 z) (e : x = z 32 s) : (0 : Int) ≤ x.toInt ∧ x.toInt ≤ 5 := by rw [e]; exact J.1 32 s
theorem jM_32 {z0 z z1 : Nat → Nat → Int32} {s : Nat} {x : Int32} (J : qJM z0 z) (hz : z1 = qu z 32 s x) (hx : (0 : Int) ≤ x.toInt ∧ x.toInt ≤ 5) : qJM z0 z1 := ⟨qI_up J.1 hz hx, qK_up J.2.1 hz rfl, qX_up J.2.2 hz (by decide)⟩
theorem jM_33 {z0 z z1 : Nat → Nat → Int32} {s : Nat} {x : Int32} (J : qJM z0 z) (hz : z1 = qu z 33 s x) : qJM z0 z1 := ⟨qI_up J.1 hz (gl_b x), qK_up J.2.1 hz rfl, qX_up J.2.2 hz (by decide)⟩
theorem jfM_33 {z0 z z1 : Nat → Nat → Int32} {f : Nat → Int32} (J : qJM z0 z) (hz : z1 = quf z 33 f) : qJM z0 z1 := ⟨qI_upf J.1 hz (fun s => gl_b (f s)), qK_upf J.2.1 hz (fun _ => rfl), qX_upf J.2.2 hz (by decide)⟩
theorem jM_34 {z0 z z1 : Nat → Nat → Int32} {s : Nat} {x : Int32} (J : qJM z0 z) (hz : z1 = qu z 34 s x) : qJM z0 z1 := ⟨qI_up J.1 hz (gl_b x), qK_up J.2.1 hz rfl, qX_up J.2.2 hz (by decide)⟩
theorem jfM_34 {z0 z z1 : Nat → Nat → Int32} {f : Nat → Int32} (J : qJM z0 z) (hz : z1 = quf z 34 f) : qJM z0 z1 := ⟨qI_upf J.1 hz (fun s => gl_b (f s)), qK_upf J.2.1 hz (fun _ => rfl), qX_upf J.2.2 hz (by decide)⟩
theorem jM_35 {z0 z z1 : Nat → Nat → Int32} {s : Nat} {x : Int32} (J : qJM z0 z) (hz : z1 = qu z 35 s x) : qJM z0 z1 := ⟨qI_up J.1 hz (gl_b x), qK_up J.2.1 hz rfl, qX_up J.2.2 hz (by decide)⟩
theorem jfM_35 {z0 z z1 : Nat → Nat → Int32} {f : Nat → Int32} (J : qJM z0 z) (hz : z1 = quf z 35 f) : qJM z0 z1 := ⟨qI_upf J.1 hz (fun s => gl_b (f s)), qK_upf J.2.1 hz (fun _ => rfl), qX_upf J.2.2 hz (by decide)⟩
theorem jM_36 {z0 z z1 : Nat → Nat → Int32} {s : Nat} {x : Int32} (J : qJM z0 z) (hz : z1 = qu z 36 s x) : qJM z0 z1 := ⟨qI_up J.1 hz (gl_b x), qK_up J.2.1 hz rfl, qX_up J.2.2 hz (by decide)⟩
theorem jfM_36 {z0 z z1 : Nat → Nat → Int32} {f : Nat → Int32} (J : qJM z0 z) (hz : z1 = quf z 36 f) : qJM z0 z1 := ⟨qI_upf J.1 hz (fun s => gl_b (f s)), qK_upf J.2.1 hz (fun _ => rfl), qX_upf J.2.2 hz (by decide)⟩
theorem iM_37 {z0 z : Nat → Nat → Int32} {s : Nat} {x : Int32} (J : qJM z0 z) (e : x = z 37 s) : (0 : Int) ≤ x.toInt ∧ x.toInt ≤ 9260 := by rw [e]; exact J.1 37 s
theorem jM_37 {z0 z z1 : Nat → Nat → Int32} {s : Nat} {x : Int32} (J : qJM z0 z) (hz : z1 = qu z 37 s x) (hx : (0 : Int) ≤ x.toInt ∧ x.toInt ≤ 9260) : qJM z0 z1 := ⟨qI_up J.1 hz hx, qK_up J.2.1 hz rfl, qX_up J.2.2 hz (by decide)⟩
theorem jM_38 {z0 z z1 : Nat → Nat → Int32} {s : Nat} {x : Int32} (J : qJM z0 z) (hz : z1 = qu z 38 s x) : qJM z0 z1 := ⟨qI_up J.1 hz (gl_b x), qK_up J.2.1 hz rfl, qX_up J.2.2 hz (by decide)⟩
theorem jfM_38 {z0 z z1 : Nat → Nat → Int32} {f : Nat → Int32} (J : qJM z0 z) (hz : z1 = quf z 38 f) : qJM z0 z1 := ⟨qI_upf J.1 hz (fun s => gl_b (f s)), qK_upf J.2.1 hz (fun _ => rfl), qX_upf J.2.2 hz (by decide)⟩
theorem bU_L {c : Nat} (s : Nat) (h : (7 ≤ c ∧ c < 39) ∨ (45 ≤ c ∧ c < 77)) : bU c s = (-2147483648, 2147483647) := by
  unfold bU
  rw [if_neg (by omega), if_neg (by omega), if_neg (by omega), if_neg (by omega), if_neg (by omega), if_neg (by omega), if_neg (by omega), if_neg (by omega), if_neg (by omega)]
theorem kU_L {c : Nat} (s : Nat) (h : (7 ≤ c ∧ c < 39) ∨ (45 ≤ c ∧ c < 77)) : kU c s = false := by
  apply Bool.eq_false_iff.mpr
  intro q
  simp only [kU, Bool.or_eq_true, Bool.and_eq_true, beq_iff_eq] at q
  omega
theorem jU_L {z0 z z1 : Nat → Nat → Int32} {c s : Nat} {x : Int32} (h : (7 ≤ c ∧ c < 39) ∨ (45 ≤ c ∧ c < 77)) (J : qJU z0 z) (hz : z1 = qu z c s x) : qJU z0 z1 := ⟨qI_up J.1 hz (by rw [bU_L s h]; exact gl_b x), qK_up J.2 hz (kU_L s h)⟩
theorem jfU_L {z0 z z1 : Nat → Nat → Int32} {c : Nat} {f : Nat → Int32} (h : (7 ≤ c ∧ c < 39) ∨ (45 ≤ c ∧ c < 77)) (J : qJU z0 z) (hz : z1 = quf z c f) : qJU z0 z1 := ⟨qI_upf J.1 hz (fun s => by rw [bU_L s h]; exact gl_b (f s)), qK_upf J.2 hz (fun s => kU_L s h)⟩
