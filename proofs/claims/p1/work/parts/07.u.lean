theorem kc_yX9_hasPerson : qV yX9_hasPerson cX9_hasPerson 2 (some .boolean) 1 := ⟨wq_412, wq_413, wq_2, wq_414, by decide +kernel, by decide +kernel, by decide +kernel⟩
theorem kc_yX9_hasLine : qV yX9_hasLine cX9_hasLine 2 (some .boolean) 1 := ⟨wq_532, wq_533, wq_2, wq_534, by decide +kernel, by decide +kernel, by decide +kernel⟩
theorem kc_yX9_hasRemark : qV yX9_hasRemark cX9_hasRemark 2 (some .boolean) 1 := ⟨wq_528, wq_529, wq_2, wq_530, by decide +kernel, by decide +kernel, by decide +kernel⟩
theorem kc_yX9_hasForm : qV yX9_hasForm cX9_hasForm 2 (some .boolean) 1 := ⟨wq_744, wq_745, wq_2, wq_746, by decide +kernel, by decide +kernel, by decide +kernel⟩
theorem kc_yX9_remarksSaid : qV yX9_remarksSaid cX9_remarksSaid 1 (some .int) 0 := ⟨wq_554, wq_555, wq_2, wq_556, by decide +kernel, by decide +kernel, by decide +kernel⟩
theorem kc_yX9_allRows : qV yX9_allRows cX9_allRows 4 (some .long) 0 := ⟨wq_574, wq_575, wq_2, wq_576, by decide +kernel, by decide +kernel, by decide +kernel⟩
theorem kc_yX9_lived : qV yX9_lived cX9_lived 2 (some .int) 1 := ⟨wq_509, wq_510, wq_2, wq_511, by decide +kernel, by decide +kernel, by decide +kernel⟩
theorem kc_yX7_start : qV yX7_start cX7_start 5 (some .boolean) 1 := ⟨wq_592, wq_593, wq_6, wq_594, by decide +kernel, by decide +kernel, by decide +kernel⟩
set_option maxRecDepth 100000 in
set_option maxHeartbeats 4000000 in
theorem u1_hasPerson (l : Launch) (D : va_G) (ca : Nat → ClassId) (o : Nat) (z : Nat → Nat → Int32) (y : Nat → Nat → Int64) (a1 : Int32) (h1_5 : z 1 5 = 0) : qM l yX9_hasPerson cX9_hasPerson 2 (some .boolean) 1 60 (qPre D vwCl (qT6 ca) o 132 (qG (GU ca o) z y) [.ref (o + 1), .int a1]) (va_Qi (fun r _ => r = 0) (qB D vwCl (qT6 ca) o 132 (fun _ : Unit => qG (GU ca o) z y)) (qw_A o 132)) (qw_A o 132) := by
  refine Met.ofW (cc := cX9_hasPerson) (maxL := 2) (ret := (some .boolean)) (by decide) rfl ?_
  intro p e s m args below meth c s₁ B hml hv
  obtain ⟨rfl, hP, hK⟩ := hv
  have hx := B.exec
  have hb := B.bytes
  have hr := B.returns
  have hts0 := atoms_spec (ws := Cond.code yX9_hasPerson cX9_hasPerson 2 (some .boolean) :: qtbl) B.pre
  have hts : ∀ w ∈ qtbl, w.before _ s = true := fun w h => hts0 w (List.mem_cons_of_mem _ h)
  have hown : s.vm.findClass RX9 = some m.cls := findClass_of_methodNamed B.named
  have hlocks := B.notSynchronized
  have hS : va_S (qw_A o 132) s.heap s.heap [] := va_S.rf
  have hl := lv_entry ([.ref (o + 1), .int a1]) (n := 2) (Nat.le_of_ble_eq_true rfl)
  rw [lg_entry_eq]
  generalize (lg_sl ([.ref (o + 1), .int a1]) ++ List.replicate (2 - (lg_sl ([.ref (o + 1), .int a1])).length) Slot.unset).toArray = ls at hl ⊢
  have hl : lv_has ls 2 [(0, .ref (o + 1)), (1, .int a1)] := hl
  refine lv_iload_n hx hb dX9_hasPerson_0 rfl (lv_at hl 1 rfl) ?_
  refine lv_if_lt (tgt := 25) hx hb dX9_hasPerson_1 (by decide) (fun c1 => ?_) (fun c1 => ?_)
  · have t1 : a1.toInt < (0 : Int) := gl_lt c1
    refine lv_iconst (v := 0) hx hb dX9_hasPerson_25 (by decide) ?_
    exact W.zret (v := 0) (ty := .boolean) hx hb hr rfl (fun t ht hW => ⟨⟨0, (), rfl, rfl, by rw [ht]; exact hP, va_K.moved hW.alike hK⟩, hS.F ht⟩) hS.2.2 dX9_hasPerson_26
  · have t1 : a1.toInt ≥ (0 : Int) := gl_nlt c1
    refine lv_iload_n hx hb dX9_hasPerson_4 rfl (lv_at hl 1 rfl) ?_
    refine lv_bipush (v := 6) hx hb dX9_hasPerson_5 (by decide) ?_
    refine lv_icmp_ge (tgt := 25) hx hb dX9_hasPerson_7 (by decide) (fun c2 => ?_) (fun c2 => ?_)
    · have t2 : a1.toInt ≥ (6 : Int) := gl_le c2
      refine lv_iconst (v := 0) hx hb dX9_hasPerson_25 (by decide) ?_
      exact W.zret (v := 0) (ty := .boolean) hx hb hr rfl (fun t ht hW => ⟨⟨0, (), rfl, rfl, by rw [ht]; exact hP, va_K.moved hW.alike hK⟩, hS.F ht⟩) hS.2.2 dX9_hasPerson_26
    · have t2 : a1.toInt < (6 : Int) := gl_nle c2
      refine lv_aload_n hx hb dX9_hasPerson_10 rfl (lv_at hl 0 rfl) ?_
      refine qf_get hx hb hts inX9 hown hK hP (q0 := 1) (by decide) (hgU_1 ca o) rfl 5 (by decide) wq_99 (v := .int (z 1 5)) rfl dX9_hasPerson_11 ?_
      refine qtop (x' := 0) h1_5 ?_
      refine lv_iload_n hx hb dX9_hasPerson_14 rfl (lv_at hl 1 rfl) ?_
      refine lv_ishr hx hb dX9_hasPerson_15 ?_
      refine qtop (gi_0s _) ?_
      refine lv_iconst (v := 1) hx hb dX9_hasPerson_16 (by decide) ?_
      refine lv_iand hx hb dX9_hasPerson_17 ?_
      refine qtop (x' := 0) (by decide) ?_
      refine lv_if_eq (tgt := 25) hx hb dX9_hasPerson_18 (by decide) (fun _ => ?_) (fun q => absurd (by decide) q)
      refine lv_iconst (v := 0) hx hb dX9_hasPerson_25 (by decide) ?_
      exact W.zret (v := 0) (ty := .boolean) hx hb hr rfl (fun t ht hW => ⟨⟨0, (), rfl, rfl, by rw [ht]; exact hP, va_K.moved hW.alike hK⟩, hS.F ht⟩) hS.2.2 dX9_hasPerson_26

set_option maxRecDepth 100000 in
set_option maxHeartbeats 4000000 in
theorem u1_hasLine (l : Launch) (D : va_G) (ca : Nat → ClassId) (o : Nat) (z : Nat → Nat → Int32) (y : Nat → Nat → Int64) (a1 : Int32) (h1_6 : z 1 6 = 0) : qM l yX9_hasLine cX9_hasLine 2 (some .boolean) 1 60 (qPre D vwCl (qT6 ca) o 132 (qG (GU ca o) z y) [.ref (o + 1), .int a1]) (va_Qi (fun r _ => r = 0) (qB D vwCl (qT6 ca) o 132 (fun _ : Unit => qG (GU ca o) z y)) (qw_A o 132)) (qw_A o 132) := by
  refine Met.ofW (cc := cX9_hasLine) (maxL := 2) (ret := (some .boolean)) (by decide) rfl ?_
  intro p e s m args below meth c s₁ B hml hv
  obtain ⟨rfl, hP, hK⟩ := hv
  have hx := B.exec
  have hb := B.bytes
  have hr := B.returns
  have hts0 := atoms_spec (ws := Cond.code yX9_hasLine cX9_hasLine 2 (some .boolean) :: qtbl) B.pre
  have hts : ∀ w ∈ qtbl, w.before _ s = true := fun w h => hts0 w (List.mem_cons_of_mem _ h)
  have hown : s.vm.findClass RX9 = some m.cls := findClass_of_methodNamed B.named
  have hlocks := B.notSynchronized
  have hS : va_S (qw_A o 132) s.heap s.heap [] := va_S.rf
  have hl := lv_entry ([.ref (o + 1), .int a1]) (n := 2) (Nat.le_of_ble_eq_true rfl)
  rw [lg_entry_eq]
  generalize (lg_sl ([.ref (o + 1), .int a1]) ++ List.replicate (2 - (lg_sl ([.ref (o + 1), .int a1])).length) Slot.unset).toArray = ls at hl ⊢
  have hl : lv_has ls 2 [(0, .ref (o + 1)), (1, .int a1)] := hl
  refine lv_iload_n hx hb dX9_hasLine_0 rfl (lv_at hl 1 rfl) ?_
  refine lv_if_lt (tgt := 25) hx hb dX9_hasLine_1 (by decide) (fun c1 => ?_) (fun c1 => ?_)
  · have t1 : a1.toInt < (0 : Int) := gl_lt c1
    refine lv_iconst (v := 0) hx hb dX9_hasLine_25 (by decide) ?_
    exact W.zret (v := 0) (ty := .boolean) hx hb hr rfl (fun t ht hW => ⟨⟨0, (), rfl, rfl, by rw [ht]; exact hP, va_K.moved hW.alike hK⟩, hS.F ht⟩) hS.2.2 dX9_hasLine_26
  · have t1 : a1.toInt ≥ (0 : Int) := gl_nlt c1
    refine lv_iload_n hx hb dX9_hasLine_4 rfl (lv_at hl 1 rfl) ?_
    refine lv_bipush (v := 16) hx hb dX9_hasLine_5 (by decide) ?_
    refine lv_icmp_ge (tgt := 25) hx hb dX9_hasLine_7 (by decide) (fun c2 => ?_) (fun c2 => ?_)
    · have t2 : a1.toInt ≥ (16 : Int) := gl_le c2
      refine lv_iconst (v := 0) hx hb dX9_hasLine_25 (by decide) ?_
      exact W.zret (v := 0) (ty := .boolean) hx hb hr rfl (fun t ht hW => ⟨⟨0, (), rfl, rfl, by rw [ht]; exact hP, va_K.moved hW.alike hK⟩, hS.F ht⟩) hS.2.2 dX9_hasLine_26
    · have t2 : a1.toInt < (16 : Int) := gl_nle c2
      refine lv_aload_n hx hb dX9_hasLine_10 rfl (lv_at hl 0 rfl) ?_
      refine qf_get hx hb hts inX9 hown hK hP (q0 := 1) (by decide) (hgU_1 ca o) rfl 6 (by decide) wq_100 (v := .int (z 1 6)) rfl dX9_hasLine_11 ?_
      refine qtop (x' := 0) h1_6 ?_
      refine lv_iload_n hx hb dX9_hasLine_14 rfl (lv_at hl 1 rfl) ?_
      refine lv_ishr hx hb dX9_hasLine_15 ?_
      refine qtop (gi_0s _) ?_
      refine lv_iconst (v := 1) hx hb dX9_hasLine_16 (by decide) ?_
      refine lv_iand hx hb dX9_hasLine_17 ?_
      refine qtop (x' := 0) (by decide) ?_
      refine lv_if_eq (tgt := 25) hx hb dX9_hasLine_18 (by decide) (fun _ => ?_) (fun q => absurd (by decide) q)
      refine lv_iconst (v := 0) hx hb dX9_hasLine_25 (by decide) ?_
      exact W.zret (v := 0) (ty := .boolean) hx hb hr rfl (fun t ht hW => ⟨⟨0, (), rfl, rfl, by rw [ht]; exact hP, va_K.moved hW.alike hK⟩, hS.F ht⟩) hS.2.2 dX9_hasLine_26

set_option maxRecDepth 100000 in
set_option maxHeartbeats 4000000 in
theorem u1_hasRemark (l : Launch) (D : va_G) (ca : Nat → ClassId) (o : Nat) (z : Nat → Nat → Int32) (y : Nat → Nat → Int64) (a1 : Int32) (h1_6 : z 1 6 = 0) : qM l yX9_hasRemark cX9_hasRemark 2 (some .boolean) 2 81 (qPre D vwCl (qT6 ca) o 132 (qG (GU ca o) z y) [.ref (o + 1), .int a1]) (va_Qi (fun r _ => r = 0) (qB D vwCl (qT6 ca) o 132 (fun _ : Unit => qG (GU ca o) z y)) (qw_A o 132)) (qw_A o 132) := by
  refine Met.ofW (cc := cX9_hasRemark) (maxL := 2) (ret := (some .boolean)) (by decide) rfl ?_
  intro p e s m args below meth c s₁ B hml hv
  obtain ⟨rfl, hP, hK⟩ := hv
  have hx := B.exec
  have hb := B.bytes
  have hr := B.returns
  have hts0 := atoms_spec (ws := Cond.code yX9_hasRemark cX9_hasRemark 2 (some .boolean) :: qtbl) B.pre
  have hts : ∀ w ∈ qtbl, w.before _ s = true := fun w h => hts0 w (List.mem_cons_of_mem _ h)
  have hown : s.vm.findClass RX9 = some m.cls := findClass_of_methodNamed B.named
  have hlocks := B.notSynchronized
  have hS : va_S (qw_A o 132) s.heap s.heap [] := va_S.rf
  have hl := lv_entry ([.ref (o + 1), .int a1]) (n := 2) (Nat.le_of_ble_eq_true rfl)
  rw [lg_entry_eq]
  generalize (lg_sl ([.ref (o + 1), .int a1]) ++ List.replicate (2 - (lg_sl ([.ref (o + 1), .int a1])).length) Slot.unset).toArray = ls at hl ⊢
  have hl : lv_has ls 2 [(0, .ref (o + 1)), (1, .int a1)] := hl
  refine lv_iload_n hx hb dX9_hasRemark_0 rfl (lv_at hl 1 rfl) ?_
  refine lv_bipush (v := 10) hx hb dX9_hasRemark_1 (by decide) ?_
  refine lv_icmp_ge (tgt := 18) hx hb dX9_hasRemark_3 (by decide) (fun c1 => ?_) (fun c1 => ?_)
  · have t1 : a1.toInt ≥ (10 : Int) := gl_le c1
    refine lv_iconst (v := 0) hx hb dX9_hasRemark_18 (by decide) ?_
    exact W.zret (v := 0) (ty := .boolean) hx hb hr rfl (fun t ht hW => ⟨⟨0, (), rfl, rfl, by rw [ht]; exact hP, va_K.moved hW.alike hK⟩, hS.F ht⟩) hS.2.2 dX9_hasRemark_19
  · have t1 : a1.toInt < (10 : Int) := gl_nle c1
    refine lv_aload_n hx hb dX9_hasRemark_6 rfl (lv_at hl 0 rfl) ?_
    refine lv_iload_n hx hb dX9_hasRemark_7 rfl (lv_at hl 1 rfl) ?_
    refine qc_Vi (As := [.int a1]) (rest := []) (k0 := 1) (u1_hasLine l D ca o z y a1 (h1_6)) kc_yX9_hasLine ⟨hx, hb, hml, hown, hts⟩ wq_531 rfl rfl ⟨Nat.le_of_ble_eq_true rfl, Nat.le_of_ble_eq_true rfl⟩ wq_all hP hK hS qw_Ai (q0 := 1) (by decide) (hgU_1 ca o _ _) rfl rfl hl.1 rfl (Nat.le_of_ble_eq_true rfl) dX9_hasRemark_8 ⟨Nat.zero_le _, Nat.zero_le _⟩ (fun r2 u2 H locs h2 hP hS _ _ => ?_)
    subst h2
    refine lv_if_eq (tgt := 18) hx hb dX9_hasRemark_11 (by decide) (fun _ => ?_) (fun q => absurd (by decide) q)
    refine lv_iconst (v := 0) hx hb dX9_hasRemark_18 (by decide) ?_
    exact W.zret (v := 0) (ty := .boolean) hx hb hr rfl (fun t ht hW => ⟨⟨0, (), rfl, rfl, by rw [ht]; exact hP, va_K.moved hW.alike hK⟩, hS.F ht⟩) hS.2.2 dX9_hasRemark_19

set_option maxRecDepth 100000 in
set_option maxHeartbeats 4000000 in
theorem u1_hasForm (l : Launch) (D : va_G) (ca : Nat → ClassId) (o : Nat) (z : Nat → Nat → Int32) (y : Nat → Nat → Int64) (a1 : Int32) (h1_6 : z 1 6 = 0) : qM l yX9_hasForm cX9_hasForm 2 (some .boolean) 2 81 (qPre D vwCl (qT6 ca) o 132 (qG (GU ca o) z y) [.ref (o + 1), .int a1]) (va_Qi (fun r _ => r = 0) (qB D vwCl (qT6 ca) o 132 (fun _ : Unit => qG (GU ca o) z y)) (qw_A o 132)) (qw_A o 132) := by
  refine Met.ofW (cc := cX9_hasForm) (maxL := 2) (ret := (some .boolean)) (by decide) rfl ?_
  intro p e s m args below meth c s₁ B hml hv
  obtain ⟨rfl, hP, hK⟩ := hv
  have hx := B.exec
  have hb := B.bytes
  have hr := B.returns
  have hts0 := atoms_spec (ws := Cond.code yX9_hasForm cX9_hasForm 2 (some .boolean) :: qtbl) B.pre
  have hts : ∀ w ∈ qtbl, w.before _ s = true := fun w h => hts0 w (List.mem_cons_of_mem _ h)
  have hown : s.vm.findClass RX9 = some m.cls := findClass_of_methodNamed B.named
  have hlocks := B.notSynchronized
  have hS : va_S (qw_A o 132) s.heap s.heap [] := va_S.rf
  have hl := lv_entry ([.ref (o + 1), .int a1]) (n := 2) (Nat.le_of_ble_eq_true rfl)
  rw [lg_entry_eq]
  generalize (lg_sl ([.ref (o + 1), .int a1]) ++ List.replicate (2 - (lg_sl ([.ref (o + 1), .int a1])).length) Slot.unset).toArray = ls at hl ⊢
  have hl : lv_has ls 2 [(0, .ref (o + 1)), (1, .int a1)] := hl
  refine lv_iload_n hx hb dX9_hasForm_0 rfl (lv_at hl 1 rfl) ?_
  refine lv_if_lt (tgt := 25) hx hb dX9_hasForm_1 (by decide) (fun c1 => ?_) (fun c1 => ?_)
  · have t1 : a1.toInt < (0 : Int) := gl_lt c1
    refine lv_iconst (v := 0) hx hb dX9_hasForm_25 (by decide) ?_
    exact W.zret (v := 0) (ty := .boolean) hx hb hr rfl (fun t ht hW => ⟨⟨0, (), rfl, rfl, by rw [ht]; exact hP, va_K.moved hW.alike hK⟩, hS.F ht⟩) hS.2.2 dX9_hasForm_26
  · have t1 : a1.toInt ≥ (0 : Int) := gl_nlt c1
    refine lv_iload_n hx hb dX9_hasForm_4 rfl (lv_at hl 1 rfl) ?_
    refine lv_bipush (v := 6) hx hb dX9_hasForm_5 (by decide) ?_
    refine lv_icmp_ge (tgt := 25) hx hb dX9_hasForm_7 (by decide) (fun c2 => ?_) (fun c2 => ?_)
    · have t2 : a1.toInt ≥ (6 : Int) := gl_le c2
      refine lv_iconst (v := 0) hx hb dX9_hasForm_25 (by decide) ?_
      exact W.zret (v := 0) (ty := .boolean) hx hb hr rfl (fun t ht hW => ⟨⟨0, (), rfl, rfl, by rw [ht]; exact hP, va_K.moved hW.alike hK⟩, hS.F ht⟩) hS.2.2 dX9_hasForm_26
    · have t2 : a1.toInt < (6 : Int) := gl_nle c2
      refine lv_aload_n hx hb dX9_hasForm_10 rfl (lv_at hl 0 rfl) ?_
      refine lv_bipush (v := 10) hx hb dX9_hasForm_11 (by decide) ?_
      refine lv_iload_n hx hb dX9_hasForm_13 rfl (lv_at hl 1 rfl) ?_
      refine lv_iadd hx hb dX9_hasForm_14 ?_
      refine lv_topi (fun x3 e3 => ?_)
      refine qc_Vi (As := [.int x3]) (rest := []) (k0 := 1) (u1_hasLine l D ca o z y x3 (h1_6)) kc_yX9_hasLine ⟨hx, hb, hml, hown, hts⟩ wq_531 rfl rfl ⟨Nat.le_of_ble_eq_true rfl, Nat.le_of_ble_eq_true rfl⟩ wq_all hP hK hS qw_Ai (q0 := 1) (by decide) (hgU_1 ca o _ _) rfl rfl hl.1 rfl (Nat.le_of_ble_eq_true rfl) dX9_hasForm_15 ⟨Nat.zero_le _, Nat.zero_le _⟩ (fun r4 u4 H locs h4 hP hS _ _ => ?_)
      subst h4
      refine lv_if_eq (tgt := 25) hx hb dX9_hasForm_18 (by decide) (fun _ => ?_) (fun q => absurd (by decide) q)
      refine lv_iconst (v := 0) hx hb dX9_hasForm_25 (by decide) ?_
      exact W.zret (v := 0) (ty := .boolean) hx hb hr rfl (fun t ht hW => ⟨⟨0, (), rfl, rfl, by rw [ht]; exact hP, va_K.moved hW.alike hK⟩, hS.F ht⟩) hS.2.2 dX9_hasForm_26

set_option maxRecDepth 100000 in
set_option maxHeartbeats 4000000 in
theorem u1_remarksSaid (l : Launch) (D : va_G) (ca : Nat → ClassId) (o : Nat) (z : Nat → Nat → Int32) (y : Nat → Nat → Int64)  (h1_6 : z 1 6 = 0) : qM l yX9_remarksSaid cX9_remarksSaid 1 (some .int) 1 60 (qPre D vwCl (qT6 ca) o 132 (qG (GU ca o) z y) [.ref (o + 1)]) (va_Qi (fun r _ => r = 0) (qB D vwCl (qT6 ca) o 132 (fun _ : Unit => qG (GU ca o) z y)) (qw_A o 132)) (qw_A o 132) := by
  refine Met.ofW (cc := cX9_remarksSaid) (maxL := 1) (ret := (some .int)) (by decide) rfl ?_
  intro p e s m args below meth c s₁ B hml hv
  obtain ⟨rfl, hP, hK⟩ := hv
  have hx := B.exec
  have hb := B.bytes
  have hr := B.returns
  have hts0 := atoms_spec (ws := Cond.code yX9_remarksSaid cX9_remarksSaid 1 (some .int) :: qtbl) B.pre
  have hts : ∀ w ∈ qtbl, w.before _ s = true := fun w h => hts0 w (List.mem_cons_of_mem _ h)
  have hown : s.vm.findClass RX9 = some m.cls := findClass_of_methodNamed B.named
  have hlocks := B.notSynchronized
  have hS : va_S (qw_A o 132) s.heap s.heap [] := va_S.rf
  have hl := lv_entry ([.ref (o + 1)]) (n := 1) (Nat.le_of_ble_eq_true rfl)
  rw [lg_entry_eq]
  generalize (lg_sl ([.ref (o + 1)]) ++ List.replicate (1 - (lg_sl ([.ref (o + 1)])).length) Slot.unset).toArray = ls at hl ⊢
  have hl : lv_has ls 1 [(0, .ref (o + 1))] := hl
  refine lv_aload_n hx hb dX9_remarksSaid_0 rfl (lv_at hl 0 rfl) ?_
  refine qf_get hx hb hts inX9 hown hK hP (q0 := 1) (by decide) (hgU_1 ca o) rfl 6 (by decide) wq_100 (v := .int (z 1 6)) rfl dX9_remarksSaid_1 ?_
  refine qtop (x' := 0) h1_6 ?_
  refine lv_sipush (v := 1023) hx hb dX9_remarksSaid_4 (by decide) ?_
  refine lv_iand hx hb dX9_remarksSaid_7 ?_
  refine qtop (x' := 0) (by decide) ?_
  exact W.iret (v := 0) hx hb hr (fun t ht hW => ⟨⟨0, (), rfl, rfl, by rw [ht]; exact hP, va_K.moved hW.alike hK⟩, hS.F ht⟩) hS.2.2 dX9_remarksSaid_8

set_option maxRecDepth 100000 in
set_option maxHeartbeats 4000000 in
theorem u1_allRows (l : Launch) (D : va_G) (ca : Nat → ClassId) (o : Nat) (z : Nat → Nat → Int32) (y : Nat → Nat → Int64)  (h1_5 : z 1 5 = 0) : qM l yX9_allRows cX9_allRows 4 (some .long) 2 81 (qPre D vwCl (qT6 ca) o 132 (qG (GU ca o) z y) [.ref (o + 1)]) (va_Ql (fun r _ => r = 1) (qB D vwCl (qT6 ca) o 132 (fun _ : Unit => qG (GU ca o) z y)) (qw_A o 132)) (qw_A o 132) := by
  refine Met.ofW (cc := cX9_allRows) (maxL := 4) (ret := (some .long)) (by decide) rfl ?_
  intro p e s m args below meth c s₁ B hml hv
  obtain ⟨rfl, hP, hK⟩ := hv
  have hx := B.exec
  have hb := B.bytes
  have hr := B.returns
  have hts0 := atoms_spec (ws := Cond.code yX9_allRows cX9_allRows 4 (some .long) :: qtbl) B.pre
  have hts : ∀ w ∈ qtbl, w.before _ s = true := fun w h => hts0 w (List.mem_cons_of_mem _ h)
  have hown : s.vm.findClass RX9 = some m.cls := findClass_of_methodNamed B.named
  have hlocks := B.notSynchronized
  have hS : va_S (qw_A o 132) s.heap s.heap [] := va_S.rf
  have hl := lv_entry ([.ref (o + 1)]) (n := 4) (Nat.le_of_ble_eq_true rfl)
  rw [lg_entry_eq]
  generalize (lg_sl ([.ref (o + 1)]) ++ List.replicate (4 - (lg_sl ([.ref (o + 1)])).length) Slot.unset).toArray = ls at hl ⊢
  have hl : lv_has ls 4 [(0, .ref (o + 1))] := hl
  refine lv_lconst (v := 1) hx hb dX9_allRows_0 (by decide) ?_
  refine lv_lstore_n (lv' := [(1, .long 1), (0, .ref (o + 1))]) hx hb dX9_allRows_1 rfl hl (by decide) rfl (fun ls hl => ?_)
  refine lv_iconst (v := 0) hx hb dX9_allRows_2 (by decide) ?_
  refine lv_istore_n (lv' := [(3, .int 0), (1, .long 1), (0, .ref (o + 1))]) hx hb dX9_allRows_3 rfl hl (by decide) rfl (fun ls hl => ?_)
  refine lv_iload_n hx hb dX9_allRows_4 rfl (lv_at hl 0 rfl) ?_
  refine lv_bipush (v := 6) hx hb dX9_allRows_5 (by decide) ?_
  refine lv_icmp_ge (tgt := 43) hx hb dX9_allRows_7 (by decide) (fun q => absurd q (by decide)) (fun _ => ?_)
  refine lv_aload_n hx hb dX9_allRows_10 rfl (lv_at hl 2 rfl) ?_
  refine lv_iload_n hx hb dX9_allRows_11 rfl (lv_at hl 0 rfl) ?_
  refine qc_Vi (As := [.int 0]) (rest := []) (k0 := 1) (u1_hasPerson l D ca o z y 0 (h1_5)) kc_yX9_hasPerson ⟨hx, hb, hml, hown, hts⟩ wq_577 rfl rfl ⟨Nat.le_of_ble_eq_true rfl, Nat.le_of_ble_eq_true rfl⟩ wq_all hP hK hS qw_Ai (q0 := 1) (by decide) (hgU_1 ca o _ _) rfl rfl hl.1 rfl (Nat.le_of_ble_eq_true rfl) dX9_allRows_12 ⟨Nat.zero_le _, Nat.zero_le _⟩ (fun r1 u1 H locs h1 hP hS _ _ => ?_)
  subst h1
  refine lv_if_eq (tgt := 37) hx hb dX9_allRows_15 (by decide) (fun _ => ?_) (fun q => absurd (by decide) q)
  refine lv_iinc (v := 1) (lv' := [(3, .int 1), (1, .long 1), (0, .ref (o + 1))]) hx hb dX9_allRows_37 hl (k := 0) rfl (by decide) (by decide) rfl (fun ls hl => ?_)
  refine lv_goto (tgt := 4) hx hb dX9_allRows_40 (by decide) ?_
  refine lv_iload_n hx hb dX9_allRows_4 rfl (lv_at hl 0 rfl) ?_
  refine lv_bipush (v := 6) hx hb dX9_allRows_5 (by decide) ?_
  refine lv_icmp_ge (tgt := 43) hx hb dX9_allRows_7 (by decide) (fun q => absurd q (by decide)) (fun _ => ?_)
  refine lv_aload_n hx hb dX9_allRows_10 rfl (lv_at hl 2 rfl) ?_
  refine lv_iload_n hx hb dX9_allRows_11 rfl (lv_at hl 0 rfl) ?_
  refine qc_Vi (As := [.int 1]) (rest := []) (k0 := 1) (u1_hasPerson l D ca o z y 1 (h1_5)) kc_yX9_hasPerson ⟨hx, hb, hml, hown, hts⟩ wq_577 rfl rfl ⟨Nat.le_of_ble_eq_true rfl, Nat.le_of_ble_eq_true rfl⟩ wq_all hP hK hS qw_Ai (q0 := 1) (by decide) (hgU_1 ca o _ _) rfl rfl hl.1 rfl (Nat.le_of_ble_eq_true rfl) dX9_allRows_12 ⟨Nat.zero_le _, Nat.zero_le _⟩ (fun r2 u2 H locs h2 hP hS _ _ => ?_)
  subst h2
  refine lv_if_eq (tgt := 37) hx hb dX9_allRows_15 (by decide) (fun _ => ?_) (fun q => absurd (by decide) q)
  refine lv_iinc (v := 2) (lv' := [(3, .int 2), (1, .long 1), (0, .ref (o + 1))]) hx hb dX9_allRows_37 hl (k := 0) rfl (by decide) (by decide) rfl (fun ls hl => ?_)
  refine lv_goto (tgt := 4) hx hb dX9_allRows_40 (by decide) ?_
  refine lv_iload_n hx hb dX9_allRows_4 rfl (lv_at hl 0 rfl) ?_
  refine lv_bipush (v := 6) hx hb dX9_allRows_5 (by decide) ?_
  refine lv_icmp_ge (tgt := 43) hx hb dX9_allRows_7 (by decide) (fun q => absurd q (by decide)) (fun _ => ?_)
  refine lv_aload_n hx hb dX9_allRows_10 rfl (lv_at hl 2 rfl) ?_
  refine lv_iload_n hx hb dX9_allRows_11 rfl (lv_at hl 0 rfl) ?_
  refine qc_Vi (As := [.int 2]) (rest := []) (k0 := 1) (u1_hasPerson l D ca o z y 2 (h1_5)) kc_yX9_hasPerson ⟨hx, hb, hml, hown, hts⟩ wq_577 rfl rfl ⟨Nat.le_of_ble_eq_true rfl, Nat.le_of_ble_eq_true rfl⟩ wq_all hP hK hS qw_Ai (q0 := 1) (by decide) (hgU_1 ca o _ _) rfl rfl hl.1 rfl (Nat.le_of_ble_eq_true rfl) dX9_allRows_12 ⟨Nat.zero_le _, Nat.zero_le _⟩ (fun r3 u3 H locs h3 hP hS _ _ => ?_)
  subst h3
  refine lv_if_eq (tgt := 37) hx hb dX9_allRows_15 (by decide) (fun _ => ?_) (fun q => absurd (by decide) q)
  refine lv_iinc (v := 3) (lv' := [(3, .int 3), (1, .long 1), (0, .ref (o + 1))]) hx hb dX9_allRows_37 hl (k := 0) rfl (by decide) (by decide) rfl (fun ls hl => ?_)
  refine lv_goto (tgt := 4) hx hb dX9_allRows_40 (by decide) ?_
  refine lv_iload_n hx hb dX9_allRows_4 rfl (lv_at hl 0 rfl) ?_
  refine lv_bipush (v := 6) hx hb dX9_allRows_5 (by decide) ?_
  refine lv_icmp_ge (tgt := 43) hx hb dX9_allRows_7 (by decide) (fun q => absurd q (by decide)) (fun _ => ?_)
  refine lv_aload_n hx hb dX9_allRows_10 rfl (lv_at hl 2 rfl) ?_
  refine lv_iload_n hx hb dX9_allRows_11 rfl (lv_at hl 0 rfl) ?_
  refine qc_Vi (As := [.int 3]) (rest := []) (k0 := 1) (u1_hasPerson l D ca o z y 3 (h1_5)) kc_yX9_hasPerson ⟨hx, hb, hml, hown, hts⟩ wq_577 rfl rfl ⟨Nat.le_of_ble_eq_true rfl, Nat.le_of_ble_eq_true rfl⟩ wq_all hP hK hS qw_Ai (q0 := 1) (by decide) (hgU_1 ca o _ _) rfl rfl hl.1 rfl (Nat.le_of_ble_eq_true rfl) dX9_allRows_12 ⟨Nat.zero_le _, Nat.zero_le _⟩ (fun r4 u4 H locs h4 hP hS _ _ => ?_)
  subst h4
  refine lv_if_eq (tgt := 37) hx hb dX9_allRows_15 (by decide) (fun _ => ?_) (fun q => absurd (by decide) q)
  refine lv_iinc (v := 4) (lv' := [(3, .int 4), (1, .long 1), (0, .ref (o + 1))]) hx hb dX9_allRows_37 hl (k := 0) rfl (by decide) (by decide) rfl (fun ls hl => ?_)
  refine lv_goto (tgt := 4) hx hb dX9_allRows_40 (by decide) ?_
  refine lv_iload_n hx hb dX9_allRows_4 rfl (lv_at hl 0 rfl) ?_
  refine lv_bipush (v := 6) hx hb dX9_allRows_5 (by decide) ?_
  refine lv_icmp_ge (tgt := 43) hx hb dX9_allRows_7 (by decide) (fun q => absurd q (by decide)) (fun _ => ?_)
  refine lv_aload_n hx hb dX9_allRows_10 rfl (lv_at hl 2 rfl) ?_
  refine lv_iload_n hx hb dX9_allRows_11 rfl (lv_at hl 0 rfl) ?_
  refine qc_Vi (As := [.int 4]) (rest := []) (k0 := 1) (u1_hasPerson l D ca o z y 4 (h1_5)) kc_yX9_hasPerson ⟨hx, hb, hml, hown, hts⟩ wq_577 rfl rfl ⟨Nat.le_of_ble_eq_true rfl, Nat.le_of_ble_eq_true rfl⟩ wq_all hP hK hS qw_Ai (q0 := 1) (by decide) (hgU_1 ca o _ _) rfl rfl hl.1 rfl (Nat.le_of_ble_eq_true rfl) dX9_allRows_12 ⟨Nat.zero_le _, Nat.zero_le _⟩ (fun r5 u5 H locs h5 hP hS _ _ => ?_)
  subst h5
  refine lv_if_eq (tgt := 37) hx hb dX9_allRows_15 (by decide) (fun _ => ?_) (fun q => absurd (by decide) q)
  refine lv_iinc (v := 5) (lv' := [(3, .int 5), (1, .long 1), (0, .ref (o + 1))]) hx hb dX9_allRows_37 hl (k := 0) rfl (by decide) (by decide) rfl (fun ls hl => ?_)
  refine lv_goto (tgt := 4) hx hb dX9_allRows_40 (by decide) ?_
  refine lv_iload_n hx hb dX9_allRows_4 rfl (lv_at hl 0 rfl) ?_
  refine lv_bipush (v := 6) hx hb dX9_allRows_5 (by decide) ?_
  refine lv_icmp_ge (tgt := 43) hx hb dX9_allRows_7 (by decide) (fun q => absurd q (by decide)) (fun _ => ?_)
  refine lv_aload_n hx hb dX9_allRows_10 rfl (lv_at hl 2 rfl) ?_
  refine lv_iload_n hx hb dX9_allRows_11 rfl (lv_at hl 0 rfl) ?_
  refine qc_Vi (As := [.int 5]) (rest := []) (k0 := 1) (u1_hasPerson l D ca o z y 5 (h1_5)) kc_yX9_hasPerson ⟨hx, hb, hml, hown, hts⟩ wq_577 rfl rfl ⟨Nat.le_of_ble_eq_true rfl, Nat.le_of_ble_eq_true rfl⟩ wq_all hP hK hS qw_Ai (q0 := 1) (by decide) (hgU_1 ca o _ _) rfl rfl hl.1 rfl (Nat.le_of_ble_eq_true rfl) dX9_allRows_12 ⟨Nat.zero_le _, Nat.zero_le _⟩ (fun r6 u6 H locs h6 hP hS _ _ => ?_)
  subst h6
  refine lv_if_eq (tgt := 37) hx hb dX9_allRows_15 (by decide) (fun _ => ?_) (fun q => absurd (by decide) q)
  refine lv_iinc (v := 6) (lv' := [(3, .int 6), (1, .long 1), (0, .ref (o + 1))]) hx hb dX9_allRows_37 hl (k := 0) rfl (by decide) (by decide) rfl (fun ls hl => ?_)
  refine lv_goto (tgt := 4) hx hb dX9_allRows_40 (by decide) ?_
  refine lv_iload_n hx hb dX9_allRows_4 rfl (lv_at hl 0 rfl) ?_
  refine lv_bipush (v := 6) hx hb dX9_allRows_5 (by decide) ?_
  refine lv_icmp_ge (tgt := 43) hx hb dX9_allRows_7 (by decide) (fun _ => ?_) (fun q => absurd (by decide) q)
  refine lv_lload_n hx hb dX9_allRows_43 rfl (lv_at hl 1 rfl) ?_
  exact W.lret (v := 1) hx hb hr (fun t ht hW => ⟨⟨1, (), rfl, rfl, by rw [ht]; exact hP, va_K.moved hW.alike hK⟩, hS.F ht⟩) hS.2.2 dX9_allRows_44

set_option maxRecDepth 100000 in
set_option maxHeartbeats 4000000 in
theorem u1_lived (l : Launch) (D : va_G) (ca : Nat → ClassId) (o : Nat) (z : Nat → Nat → Int32) (y : Nat → Nat → Int64) (a1 : Int32)  : qM l yX9_lived cX9_lived 2 (some .int) 2 60 (qPre D vwCl (qT6 ca) o 132 (qG (GU ca o) z y) [.ref (o + 1), .int a1]) (va_Qi (fun _ _ => True) (qB D vwCl (qT6 ca) o 132 (fun _ : Unit => qG (GU ca o) z y)) (qw_A o 132)) (qw_A o 132) := by
  refine Met.ofW (cc := cX9_lived) (maxL := 2) (ret := (some .int)) (by decide) rfl ?_
  intro p e s m args below meth c s₁ B hml hv
  obtain ⟨rfl, hP, hK⟩ := hv
  have hx := B.exec
  have hb := B.bytes
  have hr := B.returns
  have hts0 := atoms_spec (ws := Cond.code yX9_lived cX9_lived 2 (some .int) :: qtbl) B.pre
  have hts : ∀ w ∈ qtbl, w.before _ s = true := fun w h => hts0 w (List.mem_cons_of_mem _ h)
  have hown : s.vm.findClass RX9 = some m.cls := findClass_of_methodNamed B.named
  have hlocks := B.notSynchronized
  have hS : va_S (qw_A o 132) s.heap s.heap [] := va_S.rf
  have hl := lv_entry ([.ref (o + 1), .int a1]) (n := 2) (Nat.le_of_ble_eq_true rfl)
  rw [lg_entry_eq]
  generalize (lg_sl ([.ref (o + 1), .int a1]) ++ List.replicate (2 - (lg_sl ([.ref (o + 1), .int a1])).length) Slot.unset).toArray = ls at hl ⊢
  have hl : lv_has ls 2 [(0, .ref (o + 1)), (1, .int a1)] := hl
  refine lv_iload_n hx hb dX9_lived_0 rfl (lv_at hl 1 rfl) ?_
  refine lv_if_lt (tgt := 26) hx hb dX9_lived_1 (by decide) (fun c1 => ?_) (fun c1 => ?_)
  · have t1 : a1.toInt < (0 : Int) := gl_lt c1
    refine lv_aload_n hx hb dX9_lived_26 rfl (lv_at hl 0 rfl) ?_
    refine qf_get hx hb hts inX9 hown hK hP (q0 := 1) (by decide) (hgU_1 ca o) rfl 7 (by decide) wq_102 (v := .int (z 1 7)) rfl dX9_lived_27 ?_
    refine lv_topi (fun x2 e2 => ?_)
    exact W.iret (v := x2) hx hb hr (fun t ht hW => ⟨⟨x2, (), rfl, trivial, by rw [ht]; exact hP, va_K.moved hW.alike hK⟩, hS.F ht⟩) hS.2.2 dX9_lived_30
  · have t1 : a1.toInt ≥ (0 : Int) := gl_nlt c1
    refine lv_iload_n hx hb dX9_lived_4 rfl (lv_at hl 1 rfl) ?_
    refine lv_bipush (v := 6) hx hb dX9_lived_5 (by decide) ?_
    refine lv_icmp_ge (tgt := 26) hx hb dX9_lived_7 (by decide) (fun c3 => ?_) (fun c3 => ?_)
    · have t3 : a1.toInt ≥ (6 : Int) := gl_le c3
      refine lv_aload_n hx hb dX9_lived_26 rfl (lv_at hl 0 rfl) ?_
      refine qf_get hx hb hts inX9 hown hK hP (q0 := 1) (by decide) (hgU_1 ca o) rfl 7 (by decide) wq_102 (v := .int (z 1 7)) rfl dX9_lived_27 ?_
      refine lv_topi (fun x4 e4 => ?_)
      exact W.iret (v := x4) hx hb hr (fun t ht hW => ⟨⟨x4, (), rfl, trivial, by rw [ht]; exact hP, va_K.moved hW.alike hK⟩, hS.F ht⟩) hS.2.2 dX9_lived_30
    · have t3 : a1.toInt < (6 : Int) := gl_nle c3
      refine lv_aload_n hx hb dX9_lived_10 rfl (lv_at hl 0 rfl) ?_
      refine qf_get hx hb hts inX9 hown hK hP (q0 := 1) (by decide) (hgU_1 ca o) rfl 7 (by decide) wq_102 (v := .int (z 1 7)) rfl dX9_lived_11 ?_
      refine lv_topi (fun x5 e5 => ?_)
      refine lv_aload_n hx hb dX9_lived_14 rfl (lv_at hl 0 rfl) ?_
      refine qf_get hx hb hts inX9 hown hK hP (q0 := 1) (by decide) (hgU_1 ca o) rfl 2 (by decide) wq_89 (v := .ref (o + 4)) rfl dX9_lived_15 ?_
      refine lv_iload_n hx hb dX9_lived_18 rfl (lv_at hl 1 rfl) ?_
      refine qa_iald hx hb hK hP (q0 := 4) (by decide) 0 (N := 6) (hgU_4 ca o) rfl (gi_in (by omega) (by omega)) dX9_lived_19 ?_
      refine lv_topi (fun x6 e6 => ?_)
      refine va_mmin hx hb (hml.trans hl.1.symm) hown (hts _ wq_512) (hts _ wq_444) (hts _ wq_14) (hts _ wq_445) (Nat.le_of_ble_eq_true rfl) (Nat.le_of_ble_eq_true rfl) (Nat.zero_le _) (Nat.zero_le _) dX9_lived_20 ?_
      refine lv_topi (fun x7 e7 => ?_)
      refine lv_goto (tgt := 30) hx hb dX9_lived_23 (by decide) ?_
      exact W.iret (v := x7) hx hb hr (fun t ht hW => ⟨⟨x7, (), rfl, trivial, by rw [ht]; exact hP, va_K.moved hW.alike hK⟩, hS.F ht⟩) hS.2.2 dX9_lived_30

set_option maxRecDepth 100000 in
set_option maxHeartbeats 4000000 in
theorem u1_start (l : Launch) (D : va_G) (ca : Nat → ClassId) (o : Nat) (z : Nat → Nat → Int32) (y : Nat → Nat → Int64)  (h1_5 : z 1 5 = 0) : qM l yX7_start cX7_start 5 (some .boolean) 3 104 (qPre D vwCl (qT6 ca) o 132 (qG (GU ca o) z y) [.ref (o + 104), .int 0]) (va_Qi (fun r u => r = 1 ∧ (∀ k : Nat, k ≠ 104 → k ≠ 105 → u.1 k = z k) ∧ u.2 = y ∧ u.1 104 5 = 1 ∧ u.1 104 6 = 0 ∧ u.1 104 4 = 0) (qB D vwCl (qT6 ca) o 132 (fun u : qZ => qG (GU ca o) u.1 u.2)) (qw_A o 132)) (qw_A o 132) := by
  refine Met.ofW (cc := cX7_start) (maxL := 5) (ret := (some .boolean)) (by decide) rfl ?_
  intro p e s m args below meth c s₁ B hml hv
  obtain ⟨rfl, hP, hK⟩ := hv
  have hx := B.exec
  have hb := B.bytes
  have hr := B.returns
  have hts0 := atoms_spec (ws := Cond.code yX7_start cX7_start 5 (some .boolean) :: qtbl) B.pre
  have hts : ∀ w ∈ qtbl, w.before _ s = true := fun w h => hts0 w (List.mem_cons_of_mem _ h)
  have hown : s.vm.findClass RX7 = some m.cls := findClass_of_methodNamed B.named
  have hlocks := B.notSynchronized
  have hS : va_S (qw_A o 132) s.heap s.heap [] := va_S.rf
  have hl := lv_entry ([.ref (o + 104), .int 0]) (n := 5) (Nat.le_of_ble_eq_true rfl)
  rw [lg_entry_eq]
  generalize (lg_sl ([.ref (o + 104), .int 0]) ++ List.replicate (5 - (lg_sl ([.ref (o + 104), .int 0])).length) Slot.unset).toArray = ls at hl ⊢
  have hl : lv_has ls 5 [(0, .ref (o + 104)), (1, .int 0)] := hl
  refine lv_aload_n hx hb dX7_start_0 rfl (lv_at hl 0 rfl) ?_
  refine qf_get hx hb hts inX7 hown hK hP (q0 := 104) (by decide) (hgU_104 ca o) rfl 0 (by decide) wq_185 (v := .ref (o + 1)) rfl dX7_start_1 ?_
  refine qc_Vl (As := []) (rest := []) (k0 := 0) (u1_allRows l D ca o z y (h1_5)) kc_yX9_allRows ⟨hx, hb, hml, hown, hts⟩ wq_595 rfl rfl ⟨Nat.le_of_ble_eq_true rfl, Nat.le_of_ble_eq_true rfl⟩ wq_all hP hK hS qw_Ai (q0 := 1) (by decide) (hgU_1 ca o _ _) rfl rfl hl.1 rfl (Nat.le_of_ble_eq_true rfl) dX7_start_4 ⟨Nat.zero_le _, Nat.zero_le _⟩ (fun r1 u1 H locs h1 hP hS _ _ => ?_)
  subst h1
  refine lv_lstore_n (lv' := [(2, .long 1), (0, .ref (o + 104)), (1, .int 0)]) hx hb dX7_start_7 rfl hl (by decide) rfl (fun ls hl => ?_)
  refine lv_lload_n hx hb dX7_start_8 rfl (lv_at hl 0 rfl) ?_
  refine lv_ldc2 (v := 200000) hx hb hown (hts _ wq_596) dX7_start_9 ?_
  refine W.lcmp hx hb dX7_start_12 ?_
  refine qtop (x' := (-1)) (by decide) ?_
  refine lv_if_le (tgt := 18) hx hb dX7_start_13 (by decide) (fun _ => ?_) (fun q => absurd (by decide) q)
  refine lv_aload_n hx hb dX7_start_18 rfl (lv_at hl 1 rfl) ?_
  refine lv_lload_n hx hb dX7_start_19 rfl (lv_at hl 0 rfl) ?_
  refine lv_l2i (v := 1) hx hb dX7_start_20 (by decide) ?_
  refine qf_put hx hb hts inX7 tyX7 tyX7_ok nmX7 hown hK hP hS qw_Ai (q0 := 104) (by decide) (hgU_104 ca o) rfl 5 (by decide) wq_193 rfl (x := 1) 5 rfl rfl rfl (Nat.le_of_ble_eq_true rfl) dX7_start_21 (fun H locs hP hS => ?_)
  refine lv_aload_n hx hb dX7_start_24 rfl (lv_at hl 1 rfl) ?_
  refine lv_iconst (v := 0) hx hb dX7_start_25 (by decide) ?_
  refine qf_put hx hb hts inX7 tyX7 tyX7_ok nmX7 hown hK hP hS qw_Ai (q0 := 104) (by decide) (hgU_104 ca o) rfl 6 (by decide) wq_194 rfl (x := 0) 6 rfl rfl rfl (Nat.le_of_ble_eq_true rfl) dX7_start_26 (fun H locs hP hS => ?_)
  refine lv_iconst (v := 0) hx hb dX7_start_29 (by decide) ?_
  refine lv_istore (lv' := [(4, .int 0), (2, .long 1), (0, .ref (o + 104)), (1, .int 0)]) hx hb dX7_start_30 hl (by decide) rfl (fun ls hl => ?_)
  refine lv_iload hx hb dX7_start_32 (lv_at hl 0 rfl) ?_
  refine lv_bipush (v := 6) hx hb dX7_start_34 (by decide) ?_
  refine lv_icmp_ge (tgt := 78) hx hb dX7_start_36 (by decide) (fun q => absurd q (by decide)) (fun _ => ?_)
  refine lv_aload_n hx hb dX7_start_39 rfl (lv_at hl 2 rfl) ?_
  refine qf_get hx hb hts inX7 hown hK hP (q0 := 104) (by decide) (hgU_104 ca o) rfl 1 (by decide) wq_187 (v := .ref (o + 105)) rfl dX7_start_40 ?_
  refine lv_iload hx hb dX7_start_43 (lv_at hl 0 rfl) ?_
  refine lv_aload_n hx hb dX7_start_45 rfl (lv_at hl 2 rfl) ?_
  refine qf_get hx hb hts inX7 hown hK hP (q0 := 104) (by decide) (hgU_104 ca o) rfl 0 (by decide) wq_185 (v := .ref (o + 1)) rfl dX7_start_46 ?_
  refine lv_iload hx hb dX7_start_49 (lv_at hl 0 rfl) ?_
  refine qc_Vi (As := [.int 0]) (rest := [.int 0, .ref (o + 105)]) (k0 := 1) (u1_hasPerson l D ca o (qu (qu z 104 5 1) 104 6 0) y 0 (h1_5)) kc_yX9_hasPerson ⟨hx, hb, hml, hown, hts⟩ wq_597 rfl rfl ⟨Nat.le_of_ble_eq_true rfl, Nat.le_of_ble_eq_true rfl⟩ wq_all hP hK hS qw_Ai (q0 := 1) (by decide) (hgU_1 ca o _ _) rfl rfl hl.1 rfl (Nat.le_of_ble_eq_true rfl) dX7_start_51 ⟨Nat.zero_le _, Nat.zero_le _⟩ (fun r2 u2 H locs h2 hP hS _ _ => ?_)
  subst h2
  refine lv_if_eq (tgt := 70) hx hb dX7_start_54 (by decide) (fun _ => ?_) (fun q => absurd (by decide) q)
  refine lv_iconst (v := 0) hx hb dX7_start_70 (by decide) ?_
  refine qa_iast hx hb hK hP hS qw_Ai (q0 := 105) (by decide) 0 (N := 6) (hgU_105 ca o) rfl (gi_in (by decide) (by decide)) dX7_start_71 (fun H locs hP hS => ?_)
  refine lv_iinc (v := 1) (lv' := [(4, .int 1), (2, .long 1), (0, .ref (o + 104)), (1, .int 0)]) hx hb dX7_start_72 hl (k := 0) rfl (by decide) (by decide) rfl (fun ls hl => ?_)
  refine lv_goto (tgt := 32) hx hb dX7_start_75 (by decide) ?_
  refine lv_iload hx hb dX7_start_32 (lv_at hl 0 rfl) ?_
  refine lv_bipush (v := 6) hx hb dX7_start_34 (by decide) ?_
  refine lv_icmp_ge (tgt := 78) hx hb dX7_start_36 (by decide) (fun q => absurd q (by decide)) (fun _ => ?_)
  refine lv_aload_n hx hb dX7_start_39 rfl (lv_at hl 2 rfl) ?_
  refine qf_get hx hb hts inX7 hown hK hP (q0 := 104) (by decide) (hgU_104 ca o) rfl 1 (by decide) wq_187 (v := .ref (o + 105)) rfl dX7_start_40 ?_
  refine lv_iload hx hb dX7_start_43 (lv_at hl 0 rfl) ?_
  refine lv_aload_n hx hb dX7_start_45 rfl (lv_at hl 2 rfl) ?_
  refine qf_get hx hb hts inX7 hown hK hP (q0 := 104) (by decide) (hgU_104 ca o) rfl 0 (by decide) wq_185 (v := .ref (o + 1)) rfl dX7_start_46 ?_
  refine lv_iload hx hb dX7_start_49 (lv_at hl 0 rfl) ?_
  refine qc_Vi (As := [.int 1]) (rest := [.int 1, .ref (o + 105)]) (k0 := 1) (u1_hasPerson l D ca o (qu (qu (qu z 104 5 1) 104 6 0) 105 ((0 : Int32).toNatClampNeg) 0) y 1 (h1_5)) kc_yX9_hasPerson ⟨hx, hb, hml, hown, hts⟩ wq_597 rfl rfl ⟨Nat.le_of_ble_eq_true rfl, Nat.le_of_ble_eq_true rfl⟩ wq_all hP hK hS qw_Ai (q0 := 1) (by decide) (hgU_1 ca o _ _) rfl rfl hl.1 rfl (Nat.le_of_ble_eq_true rfl) dX7_start_51 ⟨Nat.zero_le _, Nat.zero_le _⟩ (fun r3 u3 H locs h3 hP hS _ _ => ?_)
  subst h3
  refine lv_if_eq (tgt := 70) hx hb dX7_start_54 (by decide) (fun _ => ?_) (fun q => absurd (by decide) q)
  refine lv_iconst (v := 0) hx hb dX7_start_70 (by decide) ?_
  refine qa_iast hx hb hK hP hS qw_Ai (q0 := 105) (by decide) 0 (N := 6) (hgU_105 ca o) rfl (gi_in (by decide) (by decide)) dX7_start_71 (fun H locs hP hS => ?_)
  refine lv_iinc (v := 2) (lv' := [(4, .int 2), (2, .long 1), (0, .ref (o + 104)), (1, .int 0)]) hx hb dX7_start_72 hl (k := 0) rfl (by decide) (by decide) rfl (fun ls hl => ?_)
  refine lv_goto (tgt := 32) hx hb dX7_start_75 (by decide) ?_
  refine lv_iload hx hb dX7_start_32 (lv_at hl 0 rfl) ?_
  refine lv_bipush (v := 6) hx hb dX7_start_34 (by decide) ?_
  refine lv_icmp_ge (tgt := 78) hx hb dX7_start_36 (by decide) (fun q => absurd q (by decide)) (fun _ => ?_)
  refine lv_aload_n hx hb dX7_start_39 rfl (lv_at hl 2 rfl) ?_
  refine qf_get hx hb hts inX7 hown hK hP (q0 := 104) (by decide) (hgU_104 ca o) rfl 1 (by decide) wq_187 (v := .ref (o + 105)) rfl dX7_start_40 ?_
  refine lv_iload hx hb dX7_start_43 (lv_at hl 0 rfl) ?_
  refine lv_aload_n hx hb dX7_start_45 rfl (lv_at hl 2 rfl) ?_
  refine qf_get hx hb hts inX7 hown hK hP (q0 := 104) (by decide) (hgU_104 ca o) rfl 0 (by decide) wq_185 (v := .ref (o + 1)) rfl dX7_start_46 ?_
  refine lv_iload hx hb dX7_start_49 (lv_at hl 0 rfl) ?_
  refine qc_Vi (As := [.int 2]) (rest := [.int 2, .ref (o + 105)]) (k0 := 1) (u1_hasPerson l D ca o (qu (qu (qu (qu z 104 5 1) 104 6 0) 105 ((0 : Int32).toNatClampNeg) 0) 105 ((1 : Int32).toNatClampNeg) 0) y 2 (h1_5)) kc_yX9_hasPerson ⟨hx, hb, hml, hown, hts⟩ wq_597 rfl rfl ⟨Nat.le_of_ble_eq_true rfl, Nat.le_of_ble_eq_true rfl⟩ wq_all hP hK hS qw_Ai (q0 := 1) (by decide) (hgU_1 ca o _ _) rfl rfl hl.1 rfl (Nat.le_of_ble_eq_true rfl) dX7_start_51 ⟨Nat.zero_le _, Nat.zero_le _⟩ (fun r4 u4 H locs h4 hP hS _ _ => ?_)
  subst h4
  refine lv_if_eq (tgt := 70) hx hb dX7_start_54 (by decide) (fun _ => ?_) (fun q => absurd (by decide) q)
  refine lv_iconst (v := 0) hx hb dX7_start_70 (by decide) ?_
  refine qa_iast hx hb hK hP hS qw_Ai (q0 := 105) (by decide) 0 (N := 6) (hgU_105 ca o) rfl (gi_in (by decide) (by decide)) dX7_start_71 (fun H locs hP hS => ?_)
  refine lv_iinc (v := 3) (lv' := [(4, .int 3), (2, .long 1), (0, .ref (o + 104)), (1, .int 0)]) hx hb dX7_start_72 hl (k := 0) rfl (by decide) (by decide) rfl (fun ls hl => ?_)
  refine lv_goto (tgt := 32) hx hb dX7_start_75 (by decide) ?_
  refine lv_iload hx hb dX7_start_32 (lv_at hl 0 rfl) ?_
  refine lv_bipush (v := 6) hx hb dX7_start_34 (by decide) ?_
  refine lv_icmp_ge (tgt := 78) hx hb dX7_start_36 (by decide) (fun q => absurd q (by decide)) (fun _ => ?_)
  refine lv_aload_n hx hb dX7_start_39 rfl (lv_at hl 2 rfl) ?_
  refine qf_get hx hb hts inX7 hown hK hP (q0 := 104) (by decide) (hgU_104 ca o) rfl 1 (by decide) wq_187 (v := .ref (o + 105)) rfl dX7_start_40 ?_
  refine lv_iload hx hb dX7_start_43 (lv_at hl 0 rfl) ?_
  refine lv_aload_n hx hb dX7_start_45 rfl (lv_at hl 2 rfl) ?_
  refine qf_get hx hb hts inX7 hown hK hP (q0 := 104) (by decide) (hgU_104 ca o) rfl 0 (by decide) wq_185 (v := .ref (o + 1)) rfl dX7_start_46 ?_
  refine lv_iload hx hb dX7_start_49 (lv_at hl 0 rfl) ?_
  refine qc_Vi (As := [.int 3]) (rest := [.int 3, .ref (o + 105)]) (k0 := 1) (u1_hasPerson l D ca o (qu (qu (qu (qu (qu z 104 5 1) 104 6 0) 105 ((0 : Int32).toNatClampNeg) 0) 105 ((1 : Int32).toNatClampNeg) 0) 105 ((2 : Int32).toNatClampNeg) 0) y 3 (h1_5)) kc_yX9_hasPerson ⟨hx, hb, hml, hown, hts⟩ wq_597 rfl rfl ⟨Nat.le_of_ble_eq_true rfl, Nat.le_of_ble_eq_true rfl⟩ wq_all hP hK hS qw_Ai (q0 := 1) (by decide) (hgU_1 ca o _ _) rfl rfl hl.1 rfl (Nat.le_of_ble_eq_true rfl) dX7_start_51 ⟨Nat.zero_le _, Nat.zero_le _⟩ (fun r5 u5 H locs h5 hP hS _ _ => ?_)
  subst h5
  refine lv_if_eq (tgt := 70) hx hb dX7_start_54 (by decide) (fun _ => ?_) (fun q => absurd (by decide) q)
  refine lv_iconst (v := 0) hx hb dX7_start_70 (by decide) ?_
  refine qa_iast hx hb hK hP hS qw_Ai (q0 := 105) (by decide) 0 (N := 6) (hgU_105 ca o) rfl (gi_in (by decide) (by decide)) dX7_start_71 (fun H locs hP hS => ?_)
  refine lv_iinc (v := 4) (lv' := [(4, .int 4), (2, .long 1), (0, .ref (o + 104)), (1, .int 0)]) hx hb dX7_start_72 hl (k := 0) rfl (by decide) (by decide) rfl (fun ls hl => ?_)
  refine lv_goto (tgt := 32) hx hb dX7_start_75 (by decide) ?_
  refine lv_iload hx hb dX7_start_32 (lv_at hl 0 rfl) ?_
  refine lv_bipush (v := 6) hx hb dX7_start_34 (by decide) ?_
  refine lv_icmp_ge (tgt := 78) hx hb dX7_start_36 (by decide) (fun q => absurd q (by decide)) (fun _ => ?_)
  refine lv_aload_n hx hb dX7_start_39 rfl (lv_at hl 2 rfl) ?_
  refine qf_get hx hb hts inX7 hown hK hP (q0 := 104) (by decide) (hgU_104 ca o) rfl 1 (by decide) wq_187 (v := .ref (o + 105)) rfl dX7_start_40 ?_
  refine lv_iload hx hb dX7_start_43 (lv_at hl 0 rfl) ?_
  refine lv_aload_n hx hb dX7_start_45 rfl (lv_at hl 2 rfl) ?_
  refine qf_get hx hb hts inX7 hown hK hP (q0 := 104) (by decide) (hgU_104 ca o) rfl 0 (by decide) wq_185 (v := .ref (o + 1)) rfl dX7_start_46 ?_
  refine lv_iload hx hb dX7_start_49 (lv_at hl 0 rfl) ?_
  refine qc_Vi (As := [.int 4]) (rest := [.int 4, .ref (o + 105)]) (k0 := 1) (u1_hasPerson l D ca o (qu (qu (qu (qu (qu (qu z 104 5 1) 104 6 0) 105 ((0 : Int32).toNatClampNeg) 0) 105 ((1 : Int32).toNatClampNeg) 0) 105 ((2 : Int32).toNatClampNeg) 0) 105 ((3 : Int32).toNatClampNeg) 0) y 4 (h1_5)) kc_yX9_hasPerson ⟨hx, hb, hml, hown, hts⟩ wq_597 rfl rfl ⟨Nat.le_of_ble_eq_true rfl, Nat.le_of_ble_eq_true rfl⟩ wq_all hP hK hS qw_Ai (q0 := 1) (by decide) (hgU_1 ca o _ _) rfl rfl hl.1 rfl (Nat.le_of_ble_eq_true rfl) dX7_start_51 ⟨Nat.zero_le _, Nat.zero_le _⟩ (fun r6 u6 H locs h6 hP hS _ _ => ?_)
  subst h6
  refine lv_if_eq (tgt := 70) hx hb dX7_start_54 (by decide) (fun _ => ?_) (fun q => absurd (by decide) q)
  refine lv_iconst (v := 0) hx hb dX7_start_70 (by decide) ?_
  refine qa_iast hx hb hK hP hS qw_Ai (q0 := 105) (by decide) 0 (N := 6) (hgU_105 ca o) rfl (gi_in (by decide) (by decide)) dX7_start_71 (fun H locs hP hS => ?_)
  refine lv_iinc (v := 5) (lv' := [(4, .int 5), (2, .long 1), (0, .ref (o + 104)), (1, .int 0)]) hx hb dX7_start_72 hl (k := 0) rfl (by decide) (by decide) rfl (fun ls hl => ?_)
  refine lv_goto (tgt := 32) hx hb dX7_start_75 (by decide) ?_
  refine lv_iload hx hb dX7_start_32 (lv_at hl 0 rfl) ?_
  refine lv_bipush (v := 6) hx hb dX7_start_34 (by decide) ?_
  refine lv_icmp_ge (tgt := 78) hx hb dX7_start_36 (by decide) (fun q => absurd q (by decide)) (fun _ => ?_)
  refine lv_aload_n hx hb dX7_start_39 rfl (lv_at hl 2 rfl) ?_
  refine qf_get hx hb hts inX7 hown hK hP (q0 := 104) (by decide) (hgU_104 ca o) rfl 1 (by decide) wq_187 (v := .ref (o + 105)) rfl dX7_start_40 ?_
  refine lv_iload hx hb dX7_start_43 (lv_at hl 0 rfl) ?_
  refine lv_aload_n hx hb dX7_start_45 rfl (lv_at hl 2 rfl) ?_
  refine qf_get hx hb hts inX7 hown hK hP (q0 := 104) (by decide) (hgU_104 ca o) rfl 0 (by decide) wq_185 (v := .ref (o + 1)) rfl dX7_start_46 ?_
  refine lv_iload hx hb dX7_start_49 (lv_at hl 0 rfl) ?_
  refine qc_Vi (As := [.int 5]) (rest := [.int 5, .ref (o + 105)]) (k0 := 1) (u1_hasPerson l D ca o (qu (qu (qu (qu (qu (qu (qu z 104 5 1) 104 6 0) 105 ((0 : Int32).toNatClampNeg) 0) 105 ((1 : Int32).toNatClampNeg) 0) 105 ((2 : Int32).toNatClampNeg) 0) 105 ((3 : Int32).toNatClampNeg) 0) 105 ((4 : Int32).toNatClampNeg) 0) y 5 (h1_5)) kc_yX9_hasPerson ⟨hx, hb, hml, hown, hts⟩ wq_597 rfl rfl ⟨Nat.le_of_ble_eq_true rfl, Nat.le_of_ble_eq_true rfl⟩ wq_all hP hK hS qw_Ai (q0 := 1) (by decide) (hgU_1 ca o _ _) rfl rfl hl.1 rfl (Nat.le_of_ble_eq_true rfl) dX7_start_51 ⟨Nat.zero_le _, Nat.zero_le _⟩ (fun r7 u7 H locs h7 hP hS _ _ => ?_)
  subst h7
  refine lv_if_eq (tgt := 70) hx hb dX7_start_54 (by decide) (fun _ => ?_) (fun q => absurd (by decide) q)
  refine lv_iconst (v := 0) hx hb dX7_start_70 (by decide) ?_
  refine qa_iast hx hb hK hP hS qw_Ai (q0 := 105) (by decide) 0 (N := 6) (hgU_105 ca o) rfl (gi_in (by decide) (by decide)) dX7_start_71 (fun H locs hP hS => ?_)
  refine lv_iinc (v := 6) (lv' := [(4, .int 6), (2, .long 1), (0, .ref (o + 104)), (1, .int 0)]) hx hb dX7_start_72 hl (k := 0) rfl (by decide) (by decide) rfl (fun ls hl => ?_)
  refine lv_goto (tgt := 32) hx hb dX7_start_75 (by decide) ?_
  refine lv_iload hx hb dX7_start_32 (lv_at hl 0 rfl) ?_
  refine lv_bipush (v := 6) hx hb dX7_start_34 (by decide) ?_
  refine lv_icmp_ge (tgt := 78) hx hb dX7_start_36 (by decide) (fun _ => ?_) (fun q => absurd (by decide) q)
  refine lv_aload_n hx hb dX7_start_78 rfl (lv_at hl 2 rfl) ?_
  refine lv_iconst (v := 0) hx hb dX7_start_79 (by decide) ?_
  refine qf_put hx hb hts inX7 tyX7 tyX7_ok nmX7 hown hK hP hS qw_Ai (q0 := 104) (by decide) (hgU_104 ca o) rfl 4 (by decide) wq_192 rfl (x := 0) 4 rfl rfl rfl (Nat.le_of_ble_eq_true rfl) dX7_start_80 (fun H locs hP hS => ?_)
  refine lv_iconst (v := 0) hx hb dX7_start_83 (by decide) ?_
  refine lv_istore (lv' := [(4, .int 0), (2, .long 1), (0, .ref (o + 104)), (1, .int 0)]) hx hb dX7_start_84 hl (by decide) rfl (fun ls hl => ?_)
  refine lv_iload hx hb dX7_start_86 (lv_at hl 0 rfl) ?_
  refine lv_bipush (v := 10) hx hb dX7_start_88 (by decide) ?_
  refine lv_icmp_ge (tgt := 155) hx hb dX7_start_90 (by decide) (fun q => absurd q (by decide)) (fun _ => ?_)
  refine lv_iload_n hx hb dX7_start_93 rfl (lv_at hl 3 rfl) ?_
  refine lv_iload hx hb dX7_start_94 (lv_at hl 0 rfl) ?_
  refine lv_ishr hx hb dX7_start_96 ?_
  refine qtop (x' := 0) (by decide) ?_
  refine lv_iconst (v := 1) hx hb dX7_start_97 (by decide) ?_
  refine lv_iand hx hb dX7_start_98 ?_
  refine qtop (x' := 0) (by decide) ?_
  refine lv_if_eq (tgt := 149) hx hb dX7_start_99 (by decide) (fun _ => ?_) (fun q => absurd (by decide) q)
  refine lv_iinc (v := 1) (lv' := [(4, .int 1), (2, .long 1), (0, .ref (o + 104)), (1, .int 0)]) hx hb dX7_start_149 hl (k := 0) rfl (by decide) (by decide) rfl (fun ls hl => ?_)
  refine lv_goto (tgt := 86) hx hb dX7_start_152 (by decide) ?_
  refine lv_iload hx hb dX7_start_86 (lv_at hl 0 rfl) ?_
  refine lv_bipush (v := 10) hx hb dX7_start_88 (by decide) ?_
  refine lv_icmp_ge (tgt := 155) hx hb dX7_start_90 (by decide) (fun q => absurd q (by decide)) (fun _ => ?_)
  refine lv_iload_n hx hb dX7_start_93 rfl (lv_at hl 3 rfl) ?_
  refine lv_iload hx hb dX7_start_94 (lv_at hl 0 rfl) ?_
  refine lv_ishr hx hb dX7_start_96 ?_
  refine qtop (x' := 0) (by decide) ?_
  refine lv_iconst (v := 1) hx hb dX7_start_97 (by decide) ?_
  refine lv_iand hx hb dX7_start_98 ?_
  refine qtop (x' := 0) (by decide) ?_
  refine lv_if_eq (tgt := 149) hx hb dX7_start_99 (by decide) (fun _ => ?_) (fun q => absurd (by decide) q)
  refine lv_iinc (v := 2) (lv' := [(4, .int 2), (2, .long 1), (0, .ref (o + 104)), (1, .int 0)]) hx hb dX7_start_149 hl (k := 0) rfl (by decide) (by decide) rfl (fun ls hl => ?_)
  refine lv_goto (tgt := 86) hx hb dX7_start_152 (by decide) ?_
  refine lv_iload hx hb dX7_start_86 (lv_at hl 0 rfl) ?_
  refine lv_bipush (v := 10) hx hb dX7_start_88 (by decide) ?_
  refine lv_icmp_ge (tgt := 155) hx hb dX7_start_90 (by decide) (fun q => absurd q (by decide)) (fun _ => ?_)
  refine lv_iload_n hx hb dX7_start_93 rfl (lv_at hl 3 rfl) ?_
  refine lv_iload hx hb dX7_start_94 (lv_at hl 0 rfl) ?_
  refine lv_ishr hx hb dX7_start_96 ?_
  refine qtop (x' := 0) (by decide) ?_
  refine lv_iconst (v := 1) hx hb dX7_start_97 (by decide) ?_
  refine lv_iand hx hb dX7_start_98 ?_
  refine qtop (x' := 0) (by decide) ?_
  refine lv_if_eq (tgt := 149) hx hb dX7_start_99 (by decide) (fun _ => ?_) (fun q => absurd (by decide) q)
  refine lv_iinc (v := 3) (lv' := [(4, .int 3), (2, .long 1), (0, .ref (o + 104)), (1, .int 0)]) hx hb dX7_start_149 hl (k := 0) rfl (by decide) (by decide) rfl (fun ls hl => ?_)
  refine lv_goto (tgt := 86) hx hb dX7_start_152 (by decide) ?_
  refine lv_iload hx hb dX7_start_86 (lv_at hl 0 rfl) ?_
  refine lv_bipush (v := 10) hx hb dX7_start_88 (by decide) ?_
  refine lv_icmp_ge (tgt := 155) hx hb dX7_start_90 (by decide) (fun q => absurd q (by decide)) (fun _ => ?_)
  refine lv_iload_n hx hb dX7_start_93 rfl (lv_at hl 3 rfl) ?_
  refine lv_iload hx hb dX7_start_94 (lv_at hl 0 rfl) ?_
  refine lv_ishr hx hb dX7_start_96 ?_
  refine qtop (x' := 0) (by decide) ?_
  refine lv_iconst (v := 1) hx hb dX7_start_97 (by decide) ?_
  refine lv_iand hx hb dX7_start_98 ?_
  refine qtop (x' := 0) (by decide) ?_
  refine lv_if_eq (tgt := 149) hx hb dX7_start_99 (by decide) (fun _ => ?_) (fun q => absurd (by decide) q)
  refine lv_iinc (v := 4) (lv' := [(4, .int 4), (2, .long 1), (0, .ref (o + 104)), (1, .int 0)]) hx hb dX7_start_149 hl (k := 0) rfl (by decide) (by decide) rfl (fun ls hl => ?_)
  refine lv_goto (tgt := 86) hx hb dX7_start_152 (by decide) ?_
  refine lv_iload hx hb dX7_start_86 (lv_at hl 0 rfl) ?_
  refine lv_bipush (v := 10) hx hb dX7_start_88 (by decide) ?_
  refine lv_icmp_ge (tgt := 155) hx hb dX7_start_90 (by decide) (fun q => absurd q (by decide)) (fun _ => ?_)
  refine lv_iload_n hx hb dX7_start_93 rfl (lv_at hl 3 rfl) ?_
  refine lv_iload hx hb dX7_start_94 (lv_at hl 0 rfl) ?_
  refine lv_ishr hx hb dX7_start_96 ?_
  refine qtop (x' := 0) (by decide) ?_
  refine lv_iconst (v := 1) hx hb dX7_start_97 (by decide) ?_
  refine lv_iand hx hb dX7_start_98 ?_
  refine qtop (x' := 0) (by decide) ?_
  refine lv_if_eq (tgt := 149) hx hb dX7_start_99 (by decide) (fun _ => ?_) (fun q => absurd (by decide) q)
  refine lv_iinc (v := 5) (lv' := [(4, .int 5), (2, .long 1), (0, .ref (o + 104)), (1, .int 0)]) hx hb dX7_start_149 hl (k := 0) rfl (by decide) (by decide) rfl (fun ls hl => ?_)
  refine lv_goto (tgt := 86) hx hb dX7_start_152 (by decide) ?_
  refine lv_iload hx hb dX7_start_86 (lv_at hl 0 rfl) ?_
  refine lv_bipush (v := 10) hx hb dX7_start_88 (by decide) ?_
  refine lv_icmp_ge (tgt := 155) hx hb dX7_start_90 (by decide) (fun q => absurd q (by decide)) (fun _ => ?_)
  refine lv_iload_n hx hb dX7_start_93 rfl (lv_at hl 3 rfl) ?_
  refine lv_iload hx hb dX7_start_94 (lv_at hl 0 rfl) ?_
  refine lv_ishr hx hb dX7_start_96 ?_
  refine qtop (x' := 0) (by decide) ?_
  refine lv_iconst (v := 1) hx hb dX7_start_97 (by decide) ?_
  refine lv_iand hx hb dX7_start_98 ?_
  refine qtop (x' := 0) (by decide) ?_
  refine lv_if_eq (tgt := 149) hx hb dX7_start_99 (by decide) (fun _ => ?_) (fun q => absurd (by decide) q)
  refine lv_iinc (v := 6) (lv' := [(4, .int 6), (2, .long 1), (0, .ref (o + 104)), (1, .int 0)]) hx hb dX7_start_149 hl (k := 0) rfl (by decide) (by decide) rfl (fun ls hl => ?_)
  refine lv_goto (tgt := 86) hx hb dX7_start_152 (by decide) ?_
  refine lv_iload hx hb dX7_start_86 (lv_at hl 0 rfl) ?_
  refine lv_bipush (v := 10) hx hb dX7_start_88 (by decide) ?_
  refine lv_icmp_ge (tgt := 155) hx hb dX7_start_90 (by decide) (fun q => absurd q (by decide)) (fun _ => ?_)
  refine lv_iload_n hx hb dX7_start_93 rfl (lv_at hl 3 rfl) ?_
  refine lv_iload hx hb dX7_start_94 (lv_at hl 0 rfl) ?_
  refine lv_ishr hx hb dX7_start_96 ?_
  refine qtop (x' := 0) (by decide) ?_
  refine lv_iconst (v := 1) hx hb dX7_start_97 (by decide) ?_
  refine lv_iand hx hb dX7_start_98 ?_
  refine qtop (x' := 0) (by decide) ?_
  refine lv_if_eq (tgt := 149) hx hb dX7_start_99 (by decide) (fun _ => ?_) (fun q => absurd (by decide) q)
  refine lv_iinc (v := 7) (lv' := [(4, .int 7), (2, .long 1), (0, .ref (o + 104)), (1, .int 0)]) hx hb dX7_start_149 hl (k := 0) rfl (by decide) (by decide) rfl (fun ls hl => ?_)
  refine lv_goto (tgt := 86) hx hb dX7_start_152 (by decide) ?_
  refine lv_iload hx hb dX7_start_86 (lv_at hl 0 rfl) ?_
  refine lv_bipush (v := 10) hx hb dX7_start_88 (by decide) ?_
  refine lv_icmp_ge (tgt := 155) hx hb dX7_start_90 (by decide) (fun q => absurd q (by decide)) (fun _ => ?_)
  refine lv_iload_n hx hb dX7_start_93 rfl (lv_at hl 3 rfl) ?_
  refine lv_iload hx hb dX7_start_94 (lv_at hl 0 rfl) ?_
  refine lv_ishr hx hb dX7_start_96 ?_
  refine qtop (x' := 0) (by decide) ?_
  refine lv_iconst (v := 1) hx hb dX7_start_97 (by decide) ?_
  refine lv_iand hx hb dX7_start_98 ?_
  refine qtop (x' := 0) (by decide) ?_
  refine lv_if_eq (tgt := 149) hx hb dX7_start_99 (by decide) (fun _ => ?_) (fun q => absurd (by decide) q)
  refine lv_iinc (v := 8) (lv' := [(4, .int 8), (2, .long 1), (0, .ref (o + 104)), (1, .int 0)]) hx hb dX7_start_149 hl (k := 0) rfl (by decide) (by decide) rfl (fun ls hl => ?_)
  refine lv_goto (tgt := 86) hx hb dX7_start_152 (by decide) ?_
  refine lv_iload hx hb dX7_start_86 (lv_at hl 0 rfl) ?_
  refine lv_bipush (v := 10) hx hb dX7_start_88 (by decide) ?_
  refine lv_icmp_ge (tgt := 155) hx hb dX7_start_90 (by decide) (fun q => absurd q (by decide)) (fun _ => ?_)
  refine lv_iload_n hx hb dX7_start_93 rfl (lv_at hl 3 rfl) ?_
  refine lv_iload hx hb dX7_start_94 (lv_at hl 0 rfl) ?_
  refine lv_ishr hx hb dX7_start_96 ?_
  refine qtop (x' := 0) (by decide) ?_
  refine lv_iconst (v := 1) hx hb dX7_start_97 (by decide) ?_
  refine lv_iand hx hb dX7_start_98 ?_
  refine qtop (x' := 0) (by decide) ?_
  refine lv_if_eq (tgt := 149) hx hb dX7_start_99 (by decide) (fun _ => ?_) (fun q => absurd (by decide) q)
  refine lv_iinc (v := 9) (lv' := [(4, .int 9), (2, .long 1), (0, .ref (o + 104)), (1, .int 0)]) hx hb dX7_start_149 hl (k := 0) rfl (by decide) (by decide) rfl (fun ls hl => ?_)
  refine lv_goto (tgt := 86) hx hb dX7_start_152 (by decide) ?_
  refine lv_iload hx hb dX7_start_86 (lv_at hl 0 rfl) ?_
  refine lv_bipush (v := 10) hx hb dX7_start_88 (by decide) ?_
  refine lv_icmp_ge (tgt := 155) hx hb dX7_start_90 (by decide) (fun q => absurd q (by decide)) (fun _ => ?_)
  refine lv_iload_n hx hb dX7_start_93 rfl (lv_at hl 3 rfl) ?_
  refine lv_iload hx hb dX7_start_94 (lv_at hl 0 rfl) ?_
  refine lv_ishr hx hb dX7_start_96 ?_
  refine qtop (x' := 0) (by decide) ?_
  refine lv_iconst (v := 1) hx hb dX7_start_97 (by decide) ?_
  refine lv_iand hx hb dX7_start_98 ?_
  refine qtop (x' := 0) (by decide) ?_
  refine lv_if_eq (tgt := 149) hx hb dX7_start_99 (by decide) (fun _ => ?_) (fun q => absurd (by decide) q)
  refine lv_iinc (v := 10) (lv' := [(4, .int 10), (2, .long 1), (0, .ref (o + 104)), (1, .int 0)]) hx hb dX7_start_149 hl (k := 0) rfl (by decide) (by decide) rfl (fun ls hl => ?_)
  refine lv_goto (tgt := 86) hx hb dX7_start_152 (by decide) ?_
  refine lv_iload hx hb dX7_start_86 (lv_at hl 0 rfl) ?_
  refine lv_bipush (v := 10) hx hb dX7_start_88 (by decide) ?_
  refine lv_icmp_ge (tgt := 155) hx hb dX7_start_90 (by decide) (fun _ => ?_) (fun q => absurd (by decide) q)
  refine lv_iconst (v := 1) hx hb dX7_start_155 (by decide) ?_
  exact W.zret (v := 1) (ty := .boolean) hx hb hr rfl (fun t ht hW => ⟨⟨1, ((qu (qu (qu (qu (qu (qu (qu (qu (qu z 104 5 1) 104 6 0) 105 ((0 : Int32).toNatClampNeg) 0) 105 ((1 : Int32).toNatClampNeg) 0) 105 ((2 : Int32).toNatClampNeg) 0) 105 ((3 : Int32).toNatClampNeg) 0) 105 ((4 : Int32).toNatClampNeg) 0) 105 ((5 : Int32).toNatClampNeg) 0) 104 4 0), y), rfl, ⟨rfl, fun k h0 h1 => by simp only [qu_ne h0, qu_ne h1], rfl, rfl, rfl, rfl⟩, by rw [ht]; exact hP, va_K.moved hW.alike hK⟩, hS.F ht⟩) hS.2.2 dX7_start_156
