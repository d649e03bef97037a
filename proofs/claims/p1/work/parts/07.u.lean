theorem kc_yX9_hasPerson : qV yX9_hasPerson cX9_hasPerson 2 (some .boolean) 1 := ⟨wq_412, wq_413, wq_2, wq_414, by decide +kernel, by decide +kernel, by decide +kernel⟩
theorem kc_yX9_hasLine : qV yX9_hasLine cX9_hasLine 2 (some .boolean) 1 := ⟨wq_532, wq_533, wq_2, wq_534, by decide +kernel, by decide +kernel, by decide +kernel⟩
theorem kc_yX9_hasRemark : qV yX9_hasRemark cX9_hasRemark 2 (some .boolean) 1 := ⟨wq_528, wq_529, wq_2, wq_530, by decide +kernel, by decide +kernel, by decide +kernel⟩
theorem kc_yX9_hasForm : qV yX9_hasForm cX9_hasForm 2 (some .boolean) 1 := ⟨wq_744, wq_745, wq_2, wq_746, by decide +kernel, by decide +kernel, by decide +kernel⟩
theorem kc_yX9_remarksSaid : qV yX9_remarksSaid cX9_remarksSaid 1 (some .int) 0 := ⟨wq_554, wq_555, wq_2, wq_556, by decide +kernel, by decide +kernel, by decide +kernel⟩
theorem kc_yX9_allRows : qV yX9_allRows cX9_allRows 4 (some .long) 0 := ⟨wq_574, wq_575, wq_2, wq_576, by decide +kernel, by decide +kernel, by decide +kernel⟩
theorem kc_yX9_lived : qV yX9_lived cX9_lived 2 (some .int) 1 := ⟨wq_509, wq_510, wq_2, wq_511, by decide +kernel, by decide +kernel, by decide +kernel⟩
theorem kc_yX7_start : qV yX7_start cX7_start 5 (some .boolean) 1 := ⟨wq_592, wq_593, wq_6, wq_594, by decide +kernel, by decide +kernel, by decide +kernel⟩
theorem kc_yX7_move : qV yX7_move cX7_move 1 (some .boolean) 0 := ⟨wq_608, wq_609, wq_6, wq_610, by decide +kernel, by decide +kernel, by decide +kernel⟩
theorem kc_yX7_allHold : qV yX7_allHold cX7_allHold 2 (some .boolean) 0 := ⟨wq_621, wS_yX7_allHold, wq_6, wq_622, by decide +kernel, by decide +kernel, by decide +kernel⟩
theorem kc_yX7_holding : qV yX7_holding cX7_holding 3 (some .int) 0 := ⟨wq_641, wq_642, wq_6, wq_643, by decide +kernel, by decide +kernel, by decide +kernel⟩
theorem kc_yX7_offByOne : qV yX7_offByOne cX7_offByOne 4 (some .int) 0 := ⟨wq_695, wq_696, wq_6, wq_697, by decide +kernel, by decide +kernel, by decide +kernel⟩
theorem kc_yX7_next : qV yX7_next cX7_next 2 (some .boolean) 0 := ⟨wq_603, wq_604, wq_6, wq_605, by decide +kernel, by decide +kernel, by decide +kernel⟩
theorem kc_yX7_seek : qV yX7_seek cX7_seek 2 (some .int) 1 := ⟨wq_588, wq_589, wq_6, wq_590, by decide +kernel, by decide +kernel, by decide +kernel⟩
theorem kc_yJ7_fill_53178 : qT yJ7_fill_53178 cJ7_fill_53178 4 none 2 := ⟨wq_34, wq_3, wq_35, by decide +kernel, by decide +kernel, by decide +kernel⟩
theorem kc_yX3_forget : qV yX3_forget cX3_forget 1 none 0 := ⟨wq_404, wq_405, wq_7, wq_406, by decide +kernel, by decide +kernel, by decide +kernel⟩
theorem kc_yX3_countAll : qV yX3_countAll cX3_countAll 5 none 1 := ⟨wq_635, wS_yX3_countAll, wq_7, wq_636, by decide +kernel, by decide +kernel, by decide +kernel⟩
theorem kc_yX3_isCounted : qV yX3_isCounted cX3_isCounted 2 (some .boolean) 1 := ⟨wq_628, wq_629, wq_7, wq_630, by decide +kernel, by decide +kernel, by decide +kernel⟩
theorem kc_yX3_of : qV yX3_of cX3_of 2 (some .int) 1 := ⟨wq_645, wq_646, wq_7, wq_647, by decide +kernel, by decide +kernel, by decide +kernel⟩
theorem kc_yX3_allButOne : qV yX3_allButOne cX3_allButOne 5 (some .int) 1 := ⟨wq_649, wq_650, wq_7, wq_651, by decide +kernel, by decide +kernel, by decide +kernel⟩
theorem kc_yX2_gather : qV yX2_gather cX2_gather 4 (some .boolean) 2 := ⟨wq_748, wq_749, wq_8, wq_750, by decide +kernel, by decide +kernel, by decide +kernel⟩
theorem kc_yX2_ageOf : qV yX2_ageOf cX2_ageOf 3 (some .int) 2 := ⟨wq_760, wq_761, wq_8, wq_762, by decide +kernel, by decide +kernel, by decide +kernel⟩
theorem kc_yX8_numberBetween : qT yX8_numberBetween cX8_numberBetween 4 (some .int) 3 := ⟨wq_879, wq_9, wq_880, by decide +kernel, by decide +kernel, by decide +kernel⟩
theorem kc_yX8_offerPairs : qV yX8_offerPairs cX8_offerPairs 7 none 3 := ⟨wq_876, wS_yX8_offerPairs, wq_9, wq_877, by decide +kernel, by decide +kernel, by decide +kernel⟩
theorem kc_yX8_find : qV yX8_find cX8_find 4 (some .boolean) 2 := ⟨wq_861, wq_862, wq_9, wq_863, by decide +kernel, by decide +kernel, by decide +kernel⟩
theorem kc_yX5_become : qV yX5_become cX5_become 2 none 1 := ⟨wq_549, wq_550, wq_4, wq_551, by decide +kernel, by decide +kernel, by decide +kernel⟩
theorem kc_yX9_become : qV yX9_become cX9_become 3 none 1 := ⟨wq_544, wq_545, wq_2, wq_546, by decide +kernel, by decide +kernel, by decide +kernel⟩
set_option maxRecDepth 100000 in
set_option maxHeartbeats 4000000 in
theorem u1_hasPerson (l : Launch) (D : va_G) (ca : Nat → ClassId) (o : Nat) (z : Nat → Nat → Int32) (y : Nat → Nat → Int64) (a1 : Int32) (h1_5 : z 1 5 = 0) : qM l yX9_hasPerson cX9_hasPerson 2 (some .boolean) 1 60 (qPre D vwCl (qT6 ca) o 132 (qG (GU ca o) z y) [.ref (o + 1), .int a1]) (va_Qi (fun r _ => r = 0) (qB D vwCl (qT6 ca) o 132 (fun _ : Unit => qG (GU ca o) z y)) (qw_A o 132)) (qw_A o 132) := by
  refine Met.ofW (cc := cX9_hasPerson) (maxL := 2) (ret := (some .boolean)) (by decide) rfl ?_
  intro p e s m args below meth c s₁ B hml hv
  obtain ⟨rfl, hP, hK⟩ := hv
  have hx := B.exec
  have hb := B.bytes
  have hr := B.returns
  have hts0 := atoms_spec (ws := Cond.code yX9_hasPerson cX9_hasPerson 2 (some .boolean) :: qtbl) B.pre
  have hts : ∀ w ∈ qtbl, w.before _ s = true := fun w h => hts0 w (List.mem_cons_of_mem _ h)
  have hown : s.vm.findClass RX9 = some m.cls := findClass_of_methodNamed B.named
  have hlocks := B.notSynchronized
  have hz0 : (0 : Int32).toInt = 0 := rfl
  have hS : va_S (qw_A o 132) s.heap s.heap [] := va_S.rf
  have hl := lv_entry ([.ref (o + 1), .int a1]) (n := 2) (Nat.le_of_ble_eq_true rfl)
  rw [lg_entry_eq]
  generalize (lg_sl ([.ref (o + 1), .int a1]) ++ List.replicate (2 - (lg_sl ([.ref (o + 1), .int a1])).length) Slot.unset).toArray = ls at hl ⊢
  have hl : lv_has ls 2 [(0, .ref (o + 1)), (1, .int a1)] := hl
  refine lv_iload_n hx hb dX9_hasPerson_0 rfl (lv_at hl 1 rfl) ?_
  refine lv_if_lt (tgt := 25) hx hb dX9_hasPerson_1 (by decide) (fun c1 => ?_) (fun c1 => ?_)
  · have t1 : a1.toInt < (0 : Int) := gl_lt c1
    refine lv_iconst (v := 0) hx hb dX9_hasPerson_25 (by decide) ?_
    exact W.zret (v := 0) (ty := .boolean) hx hb hr rfl (fun t ht hW => ⟨⟨0, (), rfl, rfl, by rw [ht]; exact hP, va_K.moved hW.alike hK⟩, hS.F ht⟩) hS.2.2 dX9_hasPerson_26
  · have t1 : a1.toInt ≥ (0 : Int) := gl_nlt c1
    refine lv_iload_n hx hb dX9_hasPerson_4 rfl (lv_at hl 1 rfl) ?_
    refine lv_bipush (v := 6) hx hb dX9_hasPerson_5 (by decide) ?_
    refine lv_icmp_ge (tgt := 25) hx hb dX9_hasPerson_7 (by decide) (fun c2 => ?_) (fun c2 => ?_)
    · have t2 : a1.toInt ≥ (6 : Int) := gl_le c2
      refine lv_iconst (v := 0) hx hb dX9_hasPerson_25 (by decide) ?_
      exact W.zret (v := 0) (ty := .boolean) hx hb hr rfl (fun t ht hW => ⟨⟨0, (), rfl, rfl, by rw [ht]; exact hP, va_K.moved hW.alike hK⟩, hS.F ht⟩) hS.2.2 dX9_hasPerson_26
    · have t2 : a1.toInt < (6 : Int) := gl_nle c2
      refine lv_aload_n hx hb dX9_hasPerson_10 rfl (lv_at hl 0 rfl) ?_
      refine qf_get hx hb hts inX9 hown hK hP (q0 := 1) (by decide) (hgU_1 ca o) rfl 5 (by decide) wq_99 (v := .int (z 1 5)) rfl dX9_hasPerson_11 ?_
      refine qtop (x' := 0) h1_5 ?_
      refine lv_iload_n hx hb dX9_hasPerson_14 rfl (lv_at hl 1 rfl) ?_
      refine lv_ishr hx hb dX9_hasPerson_15 ?_
      refine qtop (gi_0s _) ?_
      refine lv_iconst (v := 1) hx hb dX9_hasPerson_16 (by decide) ?_
      refine lv_iand hx hb dX9_hasPerson_17 ?_
      refine qtop (x' := 0) (by decide) ?_
      refine lv_if_eq (tgt := 25) hx hb dX9_hasPerson_18 (by decide) (fun _ => ?_) (fun q => absurd (by decide) q)
      refine lv_iconst (v := 0) hx hb dX9_hasPerson_25 (by decide) ?_
      exact W.zret (v := 0) (ty := .boolean) hx hb hr rfl (fun t ht hW => ⟨⟨0, (), rfl, rfl, by rw [ht]; exact hP, va_K.moved hW.alike hK⟩, hS.F ht⟩) hS.2.2 dX9_hasPerson_26

set_option maxRecDepth 100000 in
set_option maxHeartbeats 4000000 in
theorem u1_hasLine (l : Launch) (D : va_G) (ca : Nat → ClassId) (o : Nat) (z : Nat → Nat → Int32) (y : Nat → Nat → Int64) (a1 : Int32) (h1_6 : z 1 6 = 0) : qM l yX9_hasLine cX9_hasLine 2 (some .boolean) 1 60 (qPre D vwCl (qT6 ca) o 132 (qG (GU ca o) z y) [.ref (o + 1), .int a1]) (va_Qi (fun r _ => r = 0) (qB D vwCl (qT6 ca) o 132 (fun _ : Unit => qG (GU ca o) z y)) (qw_A o 132)) (qw_A o 132) := by
  refine Met.ofW (cc := cX9_hasLine) (maxL := 2) (ret := (some .boolean)) (by decide) rfl ?_
  intro p e s m args below meth c s₁ B hml hv
  obtain ⟨rfl, hP, hK⟩ := hv
  have hx := B.exec
  have hb := B.bytes
  have hr := B.returns
  have hts0 := atoms_spec (ws := Cond.code yX9_hasLine cX9_hasLine 2 (some .boolean) :: qtbl) B.pre
  have hts : ∀ w ∈ qtbl, w.before _ s = true := fun w h => hts0 w (List.mem_cons_of_mem _ h)
  have hown : s.vm.findClass RX9 = some m.cls := findClass_of_methodNamed B.named
  have hlocks := B.notSynchronized
  have hz0 : (0 : Int32).toInt = 0 := rfl
  have hS : va_S (qw_A o 132) s.heap s.heap [] := va_S.rf
  have hl := lv_entry ([.ref (o + 1), .int a1]) (n := 2) (Nat.le_of_ble_eq_true rfl)
  rw [lg_entry_eq]
  generalize (lg_sl ([.ref (o + 1), .int a1]) ++ List.replicate (2 - (lg_sl ([.ref (o + 1), .int a1])).length) Slot.unset).toArray = ls at hl ⊢
  have hl : lv_has ls 2 [(0, .ref (o + 1)), (1, .int a1)] := hl
  refine lv_iload_n hx hb dX9_hasLine_0 rfl (lv_at hl 1 rfl) ?_
  refine lv_if_lt (tgt := 25) hx hb dX9_hasLine_1 (by decide) (fun c1 => ?_) (fun c1 => ?_)
  · have t1 : a1.toInt < (0 : Int) := gl_lt c1
    refine lv_iconst (v := 0) hx hb dX9_hasLine_25 (by decide) ?_
    exact W.zret (v := 0) (ty := .boolean) hx hb hr rfl (fun t ht hW => ⟨⟨0, (), rfl, rfl, by rw [ht]; exact hP, va_K.moved hW.alike hK⟩, hS.F ht⟩) hS.2.2 dX9_hasLine_26
  · have t1 : a1.toInt ≥ (0 : Int) := gl_nlt c1
    refine lv_iload_n hx hb dX9_hasLine_4 rfl (lv_at hl 1 rfl) ?_
    refine lv_bipush (v := 16) hx hb dX9_hasLine_5 (by decide) ?_
    refine lv_icmp_ge (tgt := 25) hx hb dX9_hasLine_7 (by decide) (fun c2 => ?_) (fun c2 => ?_)
    · have t2 : a1.toInt ≥ (16 : Int) := gl_le c2
      refine lv_iconst (v := 0) hx hb dX9_hasLine_25 (by decide) ?_
      exact W.zret (v := 0) (ty := .boolean) hx hb hr rfl (fun t ht hW => ⟨⟨0, (), rfl, rfl, by rw [ht]; exact hP, va_K.moved hW.alike hK⟩, hS.F ht⟩) hS.2.2 dX9_hasLine_26
    · have t2 : a1.toInt < (16 : Int) := gl_nle c2
      refine lv_aload_n hx hb dX9_hasLine_10 rfl (lv_at hl 0 rfl) ?_
      refine qf_get hx hb hts inX9 hown hK hP (q0 := 1) (by decide) (hgU_1 ca o) rfl 6 (by decide) wq_100 (v := .int (z 1 6)) rfl dX9_hasLine_11 ?_
      refine qtop (x' := 0) h1_6 ?_
      refine lv_iload_n hx hb dX9_hasLine_14 rfl (lv_at hl 1 rfl) ?_
      refine lv_ishr hx hb dX9_hasLine_15 ?_
      refine qtop (gi_0s _) ?_
      refine lv_iconst (v := 1) hx hb dX9_hasLine_16 (by decide) ?_
      refine lv_iand hx hb dX9_hasLine_17 ?_
      refine qtop (x' := 0) (by decide) ?_
      refine lv_if_eq (tgt := 25) hx hb dX9_hasLine_18 (by decide) (fun _ => ?_) (fun q => absurd (by decide) q)
      refine lv_iconst (v := 0) hx hb dX9_hasLine_25 (by decide) ?_
      exact W.zret (v := 0) (ty := .boolean) hx hb hr rfl (fun t ht hW => ⟨⟨0, (), rfl, rfl, by rw [ht]; exact hP, va_K.moved hW.alike hK⟩, hS.F ht⟩) hS.2.2 dX9_hasLine_26

set_option maxRecDepth 100000 in
set_option maxHeartbeats 4000000 in
theorem u1_hasRemark (l : Launch) (D : va_G) (ca : Nat → ClassId) (o : Nat) (z : Nat → Nat → Int32) (y : Nat → Nat → Int64) (a1 : Int32) (h1_6 : z 1 6 = 0) : qM l yX9_hasRemark cX9_hasRemark 2 (some .boolean) 2 81 (qPre D vwCl (qT6 ca) o 132 (qG (GU ca o) z y) [.ref (o + 1), .int a1]) (va_Qi (fun r _ => r = 0) (qB D vwCl (qT6 ca) o 132 (fun _ : Unit => qG (GU ca o) z y)) (qw_A o 132)) (qw_A o 132) := by
  refine Met.ofW (cc := cX9_hasRemark) (maxL := 2) (ret := (some .boolean)) (by decide) rfl ?_
  intro p e s m args below meth c s₁ B hml hv
  obtain ⟨rfl, hP, hK⟩ := hv
  have hx := B.exec
  have hb := B.bytes
  have hr := B.returns
  have hts0 := atoms_spec (ws := Cond.code yX9_hasRemark cX9_hasRemark 2 (some .boolean) :: qtbl) B.pre
  have hts : ∀ w ∈ qtbl, w.before _ s = true := fun w h => hts0 w (List.mem_cons_of_mem _ h)
  have hown : s.vm.findClass RX9 = some m.cls := findClass_of_methodNamed B.named
  have hlocks := B.notSynchronized
  have hz0 : (0 : Int32).toInt = 0 := rfl
  have hS : va_S (qw_A o 132) s.heap s.heap [] := va_S.rf
  have hl := lv_entry ([.ref (o + 1), .int a1]) (n := 2) (Nat.le_of_ble_eq_true rfl)
  rw [lg_entry_eq]
  generalize (lg_sl ([.ref (o + 1), .int a1]) ++ List.replicate (2 - (lg_sl ([.ref (o + 1), .int a1])).length) Slot.unset).toArray = ls at hl ⊢
  have hl : lv_has ls 2 [(0, .ref (o + 1)), (1, .int a1)] := hl
  refine lv_iload_n hx hb dX9_hasRemark_0 rfl (lv_at hl 1 rfl) ?_
  refine lv_bipush (v := 10) hx hb dX9_hasRemark_1 (by decide) ?_
  refine lv_icmp_ge (tgt := 18) hx hb dX9_hasRemark_3 (by decide) (fun c1 => ?_) (fun c1 => ?_)
  · have t1 : a1.toInt ≥ (10 : Int) := gl_le c1
    refine lv_iconst (v := 0) hx hb dX9_hasRemark_18 (by decide) ?_
    exact W.zret (v := 0) (ty := .boolean) hx hb hr rfl (fun t ht hW => ⟨⟨0, (), rfl, rfl, by rw [ht]; exact hP, va_K.moved hW.alike hK⟩, hS.F ht⟩) hS.2.2 dX9_hasRemark_19
  · have t1 : a1.toInt < (10 : Int) := gl_nle c1
    refine lv_aload_n hx hb dX9_hasRemark_6 rfl (lv_at hl 0 rfl) ?_
    refine lv_iload_n hx hb dX9_hasRemark_7 rfl (lv_at hl 1 rfl) ?_
    refine qc_Vi (As := [.int a1]) (rest := []) (k0 := 1) (u1_hasLine l D ca o z y a1 (h1_6)) kc_yX9_hasLine ⟨hx, hb, hml, hown, hts⟩ wq_531 rfl rfl ⟨Nat.le_of_ble_eq_true rfl, Nat.le_of_ble_eq_true rfl⟩ wq_all hP hK hS qw_Ai (q0 := 1) (by decide) (hgU_1 ca o _ _) rfl rfl hl.1 rfl (Nat.le_of_ble_eq_true rfl) dX9_hasRemark_8 ⟨Nat.zero_le _, Nat.zero_le _⟩ (fun r2 u2 H locs h2 hP hS _ _ => ?_)
    subst h2
    refine lv_if_eq (tgt := 18) hx hb dX9_hasRemark_11 (by decide) (fun _ => ?_) (fun q => absurd (by decide) q)
    refine lv_iconst (v := 0) hx hb dX9_hasRemark_18 (by decide) ?_
    exact W.zret (v := 0) (ty := .boolean) hx hb hr rfl (fun t ht hW => ⟨⟨0, (), rfl, rfl, by rw [ht]; exact hP, va_K.moved hW.alike hK⟩, hS.F ht⟩) hS.2.2 dX9_hasRemark_19

set_option maxRecDepth 100000 in
set_option maxHeartbeats 4000000 in
theorem u1_hasForm (l : Launch) (D : va_G) (ca : Nat → ClassId) (o : Nat) (z : Nat → Nat → Int32) (y : Nat → Nat → Int64) (a1 : Int32) (h1_6 : z 1 6 = 0) : qM l yX9_hasForm cX9_hasForm 2 (some .boolean) 2 81 (qPre D vwCl (qT6 ca) o 132 (qG (GU ca o) z y) [.ref (o + 1), .int a1]) (va_Qi (fun r _ => r = 0) (qB D vwCl (qT6 ca) o 132 (fun _ : Unit => qG (GU ca o) z y)) (qw_A o 132)) (qw_A o 132) := by
  refine Met.ofW (cc := cX9_hasForm) (maxL := 2) (ret := (some .boolean)) (by decide) rfl ?_
  intro p e s m args below meth c s₁ B hml hv
  obtain ⟨rfl, hP, hK⟩ := hv
  have hx := B.exec
  have hb := B.bytes
  have hr := B.returns
  have hts0 := atoms_spec (ws := Cond.code yX9_hasForm cX9_hasForm 2 (some .boolean) :: qtbl) B.pre
  have hts : ∀ w ∈ qtbl, w.before _ s = true := fun w h => hts0 w (List.mem_cons_of_mem _ h)
  have hown : s.vm.findClass RX9 = some m.cls := findClass_of_methodNamed B.named
  have hlocks := B.notSynchronized
  have hz0 : (0 : Int32).toInt = 0 := rfl
  have hS : va_S (qw_A o 132) s.heap s.heap [] := va_S.rf
  have hl := lv_entry ([.ref (o + 1), .int a1]) (n := 2) (Nat.le_of_ble_eq_true rfl)
  rw [lg_entry_eq]
  generalize (lg_sl ([.ref (o + 1), .int a1]) ++ List.replicate (2 - (lg_sl ([.ref (o + 1), .int a1])).length) Slot.unset).toArray = ls at hl ⊢
  have hl : lv_has ls 2 [(0, .ref (o + 1)), (1, .int a1)] := hl
  refine lv_iload_n hx hb dX9_hasForm_0 rfl (lv_at hl 1 rfl) ?_
  refine lv_if_lt (tgt := 25) hx hb dX9_hasForm_1 (by decide) (fun c1 => ?_) (fun c1 => ?_)
  · have t1 : a1.toInt < (0 : Int) := gl_lt c1
    refine lv_iconst (v := 0) hx hb dX9_hasForm_25 (by decide) ?_
    exact W.zret (v := 0) (ty := .boolean) hx hb hr rfl (fun t ht hW => ⟨⟨0, (), rfl, rfl, by rw [ht]; exact hP, va_K.moved hW.alike hK⟩, hS.F ht⟩) hS.2.2 dX9_hasForm_26
  · have t1 : a1.toInt ≥ (0 : Int) := gl_nlt c1
    refine lv_iload_n hx hb dX9_hasForm_4 rfl (lv_at hl 1 rfl) ?_
    refine lv_bipush (v := 6) hx hb dX9_hasForm_5 (by decide) ?_
    refine lv_icmp_ge (tgt := 25) hx hb dX9_hasForm_7 (by decide) (fun c2 => ?_) (fun c2 => ?_)
    · have t2 : a1.toInt ≥ (6 : Int) := gl_le c2
      refine lv_iconst (v := 0) hx hb dX9_hasForm_25 (by decide) ?_
      exact W.zret (v := 0) (ty := .boolean) hx hb hr rfl (fun t ht hW => ⟨⟨0, (), rfl, rfl, by rw [ht]; exact hP, va_K.moved hW.alike hK⟩, hS.F ht⟩) hS.2.2 dX9_hasForm_26
    · have t2 : a1.toInt < (6 : Int) := gl_nle c2
      refine lv_aload_n hx hb dX9_hasForm_10 rfl (lv_at hl 0 rfl) ?_
      refine lv_bipush (v := 10) hx hb dX9_hasForm_11 (by decide) ?_
      refine lv_iload_n hx hb dX9_hasForm_13 rfl (lv_at hl 1 rfl) ?_
      refine lv_iadd hx hb dX9_hasForm_14 ?_
      refine lv_topi (fun x3 e3 => ?_)
      refine qc_Vi (As := [.int x3]) (rest := []) (k0 := 1) (u1_hasLine l D ca o z y x3 (h1_6)) kc_yX9_hasLine ⟨hx, hb, hml, hown, hts⟩ wq_531 rfl rfl ⟨Nat.le_of_ble_eq_true rfl, Nat.le_of_ble_eq_true rfl⟩ wq_all hP hK hS qw_Ai (q0 := 1) (by decide) (hgU_1 ca o _ _) rfl rfl hl.1 rfl (Nat.le_of_ble_eq_true rfl) dX9_hasForm_15 ⟨Nat.zero_le _, Nat.zero_le _⟩ (fun r4 u4 H locs h4 hP hS _ _ => ?_)
      subst h4
      refine lv_if_eq (tgt := 25) hx hb dX9_hasForm_18 (by decide) (fun _ => ?_) (fun q => absurd (by decide) q)
      refine lv_iconst (v := 0) hx hb dX9_hasForm_25 (by decide) ?_
      exact W.zret (v := 0) (ty := .boolean) hx hb hr rfl (fun t ht hW => ⟨⟨0, (), rfl, rfl, by rw [ht]; exact hP, va_K.moved hW.alike hK⟩, hS.F ht⟩) hS.2.2 dX9_hasForm_26

set_option maxRecDepth 100000 in
set_option maxHeartbeats 4000000 in
theorem u1_remarksSaid (l : Launch) (D : va_G) (ca : Nat → ClassId) (o : Nat) (z : Nat → Nat → Int32) (y : Nat → Nat → Int64)  (h1_6 : z 1 6 = 0) : qM l yX9_remarksSaid cX9_remarksSaid 1 (some .int) 1 60 (qPre D vwCl (qT6 ca) o 132 (qG (GU ca o) z y) [.ref (o + 1)]) (va_Qi (fun r _ => r = 0) (qB D vwCl (qT6 ca) o 132 (fun _ : Unit => qG (GU ca o) z y)) (qw_A o 132)) (qw_A o 132) := by
  refine Met.ofW (cc := cX9_remarksSaid) (maxL := 1) (ret := (some .int)) (by decide) rfl ?_
  intro p e s m args below meth c s₁ B hml hv
  obtain ⟨rfl, hP, hK⟩ := hv
  have hx := B.exec
  have hb := B.bytes
  have hr := B.returns
  have hts0 := atoms_spec (ws := Cond.code yX9_remarksSaid cX9_remarksSaid 1 (some .int) :: qtbl) B.pre
  have hts : ∀ w ∈ qtbl, w.before _ s = true := fun w h => hts0 w (List.mem_cons_of_mem _ h)
  have hown : s.vm.findClass RX9 = some m.cls := findClass_of_methodNamed B.named
  have hlocks := B.notSynchronized
  have hz0 : (0 : Int32).toInt = 0 := rfl
  have hS : va_S (qw_A o 132) s.heap s.heap [] := va_S.rf
  have hl := lv_entry ([.ref (o + 1)]) (n := 1) (Nat.le_of_ble_eq_true rfl)
  rw [lg_entry_eq]
  generalize (lg_sl ([.ref (o + 1)]) ++ List.replicate (1 - (lg_sl ([.ref (o + 1)])).length) Slot.unset).toArray = ls at hl ⊢
  have hl : lv_has ls 1 [(0, .ref (o + 1))] := hl
  refine lv_aload_n hx hb dX9_remarksSaid_0 rfl (lv_at hl 0 rfl) ?_
  refine qf_get hx hb hts inX9 hown hK hP (q0 := 1) (by decide) (hgU_1 ca o) rfl 6 (by decide) wq_100 (v := .int (z 1 6)) rfl dX9_remarksSaid_1 ?_
  refine qtop (x' := 0) h1_6 ?_
  refine lv_sipush (v := 1023) hx hb dX9_remarksSaid_4 (by decide) ?_
  refine lv_iand hx hb dX9_remarksSaid_7 ?_
  refine qtop (x' := 0) (by decide) ?_
  exact W.iret (v := 0) hx hb hr (fun t ht hW => ⟨⟨0, (), rfl, rfl, by rw [ht]; exact hP, va_K.moved hW.alike hK⟩, hS.F ht⟩) hS.2.2 dX9_remarksSaid_8

set_option maxRecDepth 100000 in
set_option maxHeartbeats 4000000 in
theorem u1_allRows (l : Launch) (D : va_G) (ca : Nat → ClassId) (o : Nat) (z : Nat → Nat → Int32) (y : Nat → Nat → Int64)  (h1_5 : z 1 5 = 0) : qM l yX9_allRows cX9_allRows 4 (some .long) 2 81 (qPre D vwCl (qT6 ca) o 132 (qG (GU ca o) z y) [.ref (o + 1)]) (va_Ql (fun r _ => r = 1) (qB D vwCl (qT6 ca) o 132 (fun _ : Unit => qG (GU ca o) z y)) (qw_A o 132)) (qw_A o 132) := by
  refine Met.ofW (cc := cX9_allRows) (maxL := 4) (ret := (some .long)) (by decide) rfl ?_
  intro p e s m args below meth c s₁ B hml hv
  obtain ⟨rfl, hP, hK⟩ := hv
  have hx := B.exec
  have hb := B.bytes
  have hr := B.returns
  have hts0 := atoms_spec (ws := Cond.code yX9_allRows cX9_allRows 4 (some .long) :: qtbl) B.pre
  have hts : ∀ w ∈ qtbl, w.before _ s = true := fun w h => hts0 w (List.mem_cons_of_mem _ h)
  have hown : s.vm.findClass RX9 = some m.cls := findClass_of_methodNamed B.named
  have hlocks := B.notSynchronized
  have hz0 : (0 : Int32).toInt = 0 := rfl
  have hS : va_S (qw_A o 132) s.heap s.heap [] := va_S.rf
  have hl := lv_entry ([.ref (o + 1)]) (n := 4) (Nat.le_of_ble_eq_true rfl)
  rw [lg_entry_eq]
  generalize (lg_sl ([.ref (o + 1)]) ++ List.replicate (4 - (lg_sl ([.ref (o + 1)])).length) Slot.unset).toArray = ls at hl ⊢
  have hl : lv_has ls 4 [(0, .ref (o + 1))] := hl
  refine lv_lconst (v := 1) hx hb dX9_allRows_0 (by decide) ?_
  refine lv_lstore_n (lv' := [(1, .long 1), (0, .ref (o + 1))]) hx hb dX9_allRows_1 rfl hl (by decide) rfl (fun ls hl => ?_)
  refine lv_iconst (v := 0) hx hb dX9_allRows_2 (by decide) ?_
  refine lv_istore_n (lv' := [(3, .int 0), (1, .long 1), (0, .ref (o + 1))]) hx hb dX9_allRows_3 rfl hl (by decide) rfl (fun ls hl => ?_)
  refine lv_iload_n hx hb dX9_allRows_4 rfl (lv_at hl 0 rfl) ?_
  refine lv_bipush (v := 6) hx hb dX9_allRows_5 (by decide) ?_
  refine lv_icmp_ge (tgt := 43) hx hb dX9_allRows_7 (by decide) (fun q => absurd q (by decide)) (fun _ => ?_)
  refine lv_aload_n hx hb dX9_allRows_10 rfl (lv_at hl 2 rfl) ?_
  refine lv_iload_n hx hb dX9_allRows_11 rfl (lv_at hl 0 rfl) ?_
  refine qc_Vi (As := [.int 0]) (rest := []) (k0 := 1) (u1_hasPerson l D ca o z y 0 (h1_5)) kc_yX9_hasPerson ⟨hx, hb, hml, hown, hts⟩ wq_577 rfl rfl ⟨Nat.le_of_ble_eq_true rfl, Nat.le_of_ble_eq_true rfl⟩ wq_all hP hK hS qw_Ai (q0 := 1) (by decide) (hgU_1 ca o _ _) rfl rfl hl.1 rfl (Nat.le_of_ble_eq_true rfl) dX9_allRows_12 ⟨Nat.zero_le _, Nat.zero_le _⟩ (fun r1 u1 H locs h1 hP hS _ _ => ?_)
  subst h1
  refine lv_if_eq (tgt := 37) hx hb dX9_allRows_15 (by decide) (fun _ => ?_) (fun q => absurd (by decide) q)
  refine lv_iinc (v := 1) (lv' := [(3, .int 1), (1, .long 1), (0, .ref (o + 1))]) hx hb dX9_allRows_37 hl (k := 0) rfl (by decide) (by decide) rfl (fun ls hl => ?_)
  refine lv_goto (tgt := 4) hx hb dX9_allRows_40 (by decide) ?_
  refine lv_iload_n hx hb dX9_allRows_4 rfl (lv_at hl 0 rfl) ?_
  refine lv_bipush (v := 6) hx hb dX9_allRows_5 (by decide) ?_
  refine lv_icmp_ge (tgt := 43) hx hb dX9_allRows_7 (by decide) (fun q => absurd q (by decide)) (fun _ => ?_)
  refine lv_aload_n hx hb dX9_allRows_10 rfl (lv_at hl 2 rfl) ?_
  refine lv_iload_n hx hb dX9_allRows_11 rfl (lv_at hl 0 rfl) ?_
  refine qc_Vi (As := [.int 1]) (rest := []) (k0 := 1) (u1_hasPerson l D ca o z y 1 (h1_5)) kc_yX9_hasPerson ⟨hx, hb, hml, hown, hts⟩ wq_577 rfl rfl ⟨Nat.le_of_ble_eq_true rfl, Nat.le_of_ble_eq_true rfl⟩ wq_all hP hK hS qw_Ai (q0 := 1) (by decide) (hgU_1 ca o _ _) rfl rfl hl.1 rfl (Nat.le_of_ble_eq_true rfl) dX9_allRows_12 ⟨Nat.zero_le _, Nat.zero_le _⟩ (fun r2 u2 H locs h2 hP hS _ _ => ?_)
  subst h2
  refine lv_if_eq (tgt := 37) hx hb dX9_allRows_15 (by decide) (fun _ => ?_) (fun q => absurd (by decide) q)
  refine lv_iinc (v := 2) (lv' := [(3, .int 2), (1, .long 1), (0, .ref (o + 1))]) hx hb dX9_allRows_37 hl (k := 0) rfl (by decide) (by decide) rfl (fun ls hl => ?_)
  refine lv_goto (tgt := 4) hx hb dX9_allRows_40 (by decide) ?_
  refine lv_iload_n hx hb dX9_allRows_4 rfl (lv_at hl 0 rfl) ?_
  refine lv_bipush (v := 6) hx hb dX9_allRows_5 (by decide) ?_
  refine lv_icmp_ge (tgt := 43) hx hb dX9_allRows_7 (by decide) (fun q => absurd q (by decide)) (fun _ => ?_)
  refine lv_aload_n hx hb dX9_allRows_10 rfl (lv_at hl 2 rfl) ?_
  refine lv_iload_n hx hb dX9_allRows_11 rfl (lv_at hl 0 rfl) ?_
  refine qc_Vi (As := [.int 2]) (rest := []) (k0 := 1) (u1_hasPerson l D ca o z y 2 (h1_5)) kc_yX9_hasPerson ⟨hx, hb, hml, hown, hts⟩ wq_577 rfl rfl ⟨Nat.le_of_ble_eq_true rfl, Nat.le_of_ble_eq_true rfl⟩ wq_all hP hK hS qw_Ai (q0 := 1) (by decide) (hgU_1 ca o _ _) rfl rfl hl.1 rfl (Nat.le_of_ble_eq_true rfl) dX9_allRows_12 ⟨Nat.zero_le _, Nat.zero_le _⟩ (fun r3 u3 H locs h3 hP hS _ _ => ?_)
  subst h3
  refine lv_if_eq (tgt := 37) hx hb dX9_allRows_15 (by decide) (fun _ => ?_) (fun q => absurd (by decide) q)
  refine lv_iinc (v := 3) (lv' := [(3, .int 3), (1, .long 1), (0, .ref (o + 1))]) hx hb dX9_allRows_37 hl (k := 0) rfl (by decide) (by decide) rfl (fun ls hl => ?_)
  refine lv_goto (tgt := 4) hx hb dX9_allRows_40 (by decide) ?_
  refine lv_iload_n hx hb dX9_allRows_4 rfl (lv_at hl 0 rfl) ?_
  refine lv_bipush (v := 6) hx hb dX9_allRows_5 (by decide) ?_
  refine lv_icmp_ge (tgt := 43) hx hb dX9_allRows_7 (by decide) (fun q => absurd q (by decide)) (fun _ => ?_)
  refine lv_aload_n hx hb dX9_allRows_10 rfl (lv_at hl 2 rfl) ?_
  refine lv_iload_n hx hb dX9_allRows_11 rfl (lv_at hl 0 rfl) ?_
  refine qc_Vi (As := [.int 3]) (rest := []) (k0 := 1) (u1_hasPerson l D ca o z y 3 (h1_5)) kc_yX9_hasPerson ⟨hx, hb, hml, hown, hts⟩ wq_577 rfl rfl ⟨Nat.le_of_ble_eq_true rfl, Nat.le_of_ble_eq_true rfl⟩ wq_all hP hK hS qw_Ai (q0 := 1) (by decide) (hgU_1 ca o _ _) rfl rfl hl.1 rfl (Nat.le_of_ble_eq_true rfl) dX9_allRows_12 ⟨Nat.zero_le _, Nat.zero_le _⟩ (fun r4 u4 H locs h4 hP hS _ _ => ?_)
  subst h4
  refine lv_if_eq (tgt := 37) hx hb dX9_allRows_15 (by decide) (fun _ => ?_) (fun q => absurd (by decide) q)
  refine lv_iinc (v := 4) (lv' := [(3, .int 4), (1, .long 1), (0, .ref (o + 1))]) hx hb dX9_allRows_37 hl (k := 0) rfl (by decide) (by decide) rfl (fun ls hl => ?_)
  refine lv_goto (tgt := 4) hx hb dX9_allRows_40 (by decide) ?_
  refine lv_iload_n hx hb dX9_allRows_4 rfl (lv_at hl 0 rfl) ?_
  refine lv_bipush (v := 6) hx hb dX9_allRows_5 (by decide) ?_
  refine lv_icmp_ge (tgt := 43) hx hb dX9_allRows_7 (by decide) (fun q => absurd q (by decide)) (fun _ => ?_)
  refine lv_aload_n hx hb dX9_allRows_10 rfl (lv_at hl 2 rfl) ?_
  refine lv_iload_n hx hb dX9_allRows_11 rfl (lv_at hl 0 rfl) ?_
  refine qc_Vi (As := [.int 4]) (rest := []) (k0 := 1) (u1_hasPerson l D ca o z y 4 (h1_5)) kc_yX9_hasPerson ⟨hx, hb, hml, hown, hts⟩ wq_577 rfl rfl ⟨Nat.le_of_ble_eq_true rfl, Nat.le_of_ble_eq_true rfl⟩ wq_all hP hK hS qw_Ai (q0 := 1) (by decide) (hgU_1 ca o _ _) rfl rfl hl.1 rfl (Nat.le_of_ble_eq_true rfl) dX9_allRows_12 ⟨Nat.zero_le _, Nat.zero_le _⟩ (fun r5 u5 H locs h5 hP hS _ _ => ?_)
  subst h5
  refine lv_if_eq (tgt := 37) hx hb dX9_allRows_15 (by decide) (fun _ => ?_) (fun q => absurd (by decide) q)
  refine lv_iinc (v := 5) (lv' := [(3, .int 5), (1, .long 1), (0, .ref (o + 1))]) hx hb dX9_allRows_37 hl (k := 0) rfl (by decide) (by decide) rfl (fun ls hl => ?_)
  refine lv_goto (tgt := 4) hx hb dX9_allRows_40 (by decide) ?_
  refine lv_iload_n hx hb dX9_allRows_4 rfl (lv_at hl 0 rfl) ?_
  refine lv_bipush (v := 6) hx hb dX9_allRows_5 (by decide) ?_
  refine lv_icmp_ge (tgt := 43) hx hb dX9_allRows_7 (by decide) (fun q => absurd q (by decide)) (fun _ => ?_)
  refine lv_aload_n hx hb dX9_allRows_10 rfl (lv_at hl 2 rfl) ?_
  refine lv_iload_n hx hb dX9_allRows_11 rfl (lv_at hl 0 rfl) ?_
  refine qc_Vi (As := [.int 5]) (rest := []) (k0 := 1) (u1_hasPerson l D ca o z y 5 (h1_5)) kc_yX9_hasPerson ⟨hx, hb, hml, hown, hts⟩ wq_577 rfl rfl ⟨Nat.le_of_ble_eq_true rfl, Nat.le_of_ble_eq_true rfl⟩ wq_all hP hK hS qw_Ai (q0 := 1) (by decide) (hgU_1 ca o _ _) rfl rfl hl.1 rfl (Nat.le_of_ble_eq_true rfl) dX9_allRows_12 ⟨Nat.zero_le _, Nat.zero_le _⟩ (fun r6 u6 H locs h6 hP hS _ _ => ?_)
  subst h6
  refine lv_if_eq (tgt := 37) hx hb dX9_allRows_15 (by decide) (fun _ => ?_) (fun q => absurd (by decide) q)
  refine lv_iinc (v := 6) (lv' := [(3, .int 6), (1, .long 1), (0, .ref (o + 1))]) hx hb dX9_allRows_37 hl (k := 0) rfl (by decide) (by decide) rfl (fun ls hl => ?_)
  refine lv_goto (tgt := 4) hx hb dX9_allRows_40 (by decide) ?_
  refine lv_iload_n hx hb dX9_allRows_4 rfl (lv_at hl 0 rfl) ?_
  refine lv_bipush (v := 6) hx hb dX9_allRows_5 (by decide) ?_
  refine lv_icmp_ge (tgt := 43) hx hb dX9_allRows_7 (by decide) (fun _ => ?_) (fun q => absurd (by decide) q)
  refine lv_lload_n hx hb dX9_allRows_43 rfl (lv_at hl 1 rfl) ?_
  exact W.lret (v := 1) hx hb hr (fun t ht hW => ⟨⟨1, (), rfl, rfl, by rw [ht]; exact hP, va_K.moved hW.alike hK⟩, hS.F ht⟩) hS.2.2 dX9_allRows_44

set_option maxRecDepth 100000 in
set_option maxHeartbeats 4000000 in
theorem u1_lived (l : Launch) (D : va_G) (ca : Nat → ClassId) (o : Nat) (z : Nat → Nat → Int32) (y : Nat → Nat → Int64) (a1 : Int32)  : qM l yX9_lived cX9_lived 2 (some .int) 2 60 (qPre D vwCl (qT6 ca) o 132 (qG (GU ca o) z y) [.ref (o + 1), .int a1]) (va_Qi (fun _ _ => True) (qB D vwCl (qT6 ca) o 132 (fun _ : Unit => qG (GU ca o) z y)) (qw_A o 132)) (qw_A o 132) := by
  refine Met.ofW (cc := cX9_lived) (maxL := 2) (ret := (some .int)) (by decide) rfl ?_
  intro p e s m args below meth c s₁ B hml hv
  obtain ⟨rfl, hP, hK⟩ := hv
  have hx := B.exec
  have hb := B.bytes
  have hr := B.returns
  have hts0 := atoms_spec (ws := Cond.code yX9_lived cX9_lived 2 (some .int) :: qtbl) B.pre
  have hts : ∀ w ∈ qtbl, w.before _ s = true := fun w h => hts0 w (List.mem_cons_of_mem _ h)
  have hown : s.vm.findClass RX9 = some m.cls := findClass_of_methodNamed B.named
  have hlocks := B.notSynchronized
  have hz0 : (0 : Int32).toInt = 0 := rfl
  have hS : va_S (qw_A o 132) s.heap s.heap [] := va_S.rf
  have hl := lv_entry ([.ref (o + 1), .int a1]) (n := 2) (Nat.le_of_ble_eq_true rfl)
  rw [lg_entry_eq]
  generalize (lg_sl ([.ref (o + 1), .int a1]) ++ List.replicate (2 - (lg_sl ([.ref (o + 1), .int a1])).length) Slot.unset).toArray = ls at hl ⊢
  have hl : lv_has ls 2 [(0, .ref (o + 1)), (1, .int a1)] := hl
  refine lv_iload_n hx hb dX9_lived_0 rfl (lv_at hl 1 rfl) ?_
  refine lv_if_lt (tgt := 26) hx hb dX9_lived_1 (by decide) (fun c1 => ?_) (fun c1 => ?_)
  · have t1 : a1.toInt < (0 : Int) := gl_lt c1
    refine lv_aload_n hx hb dX9_lived_26 rfl (lv_at hl 0 rfl) ?_
    refine qf_get hx hb hts inX9 hown hK hP (q0 := 1) (by decide) (hgU_1 ca o) rfl 7 (by decide) wq_102 (v := .int (z 1 7)) rfl dX9_lived_27 ?_
    refine lv_topi (fun x2 e2 => ?_)
    exact W.iret (v := x2) hx hb hr (fun t ht hW => ⟨⟨x2, (), rfl, trivial, by rw [ht]; exact hP, va_K.moved hW.alike hK⟩, hS.F ht⟩) hS.2.2 dX9_lived_30
  · have t1 : a1.toInt ≥ (0 : Int) := gl_nlt c1
    refine lv_iload_n hx hb dX9_lived_4 rfl (lv_at hl 1 rfl) ?_
    refine lv_bipush (v := 6) hx hb dX9_lived_5 (by decide) ?_
    refine lv_icmp_ge (tgt := 26) hx hb dX9_lived_7 (by decide) (fun c3 => ?_) (fun c3 => ?_)
    · have t3 : a1.toInt ≥ (6 : Int) := gl_le c3
      refine lv_aload_n hx hb dX9_lived_26 rfl (lv_at hl 0 rfl) ?_
      refine qf_get hx hb hts inX9 hown hK hP (q0 := 1) (by decide) (hgU_1 ca o) rfl 7 (by decide) wq_102 (v := .int (z 1 7)) rfl dX9_lived_27 ?_
      refine lv_topi (fun x4 e4 => ?_)
      exact W.iret (v := x4) hx hb hr (fun t ht hW => ⟨⟨x4, (), rfl, trivial, by rw [ht]; exact hP, va_K.moved hW.alike hK⟩, hS.F ht⟩) hS.2.2 dX9_lived_30
    · have t3 : a1.toInt < (6 : Int) := gl_nle c3
      refine lv_aload_n hx hb dX9_lived_10 rfl (lv_at hl 0 rfl) ?_
      refine qf_get hx hb hts inX9 hown hK hP (q0 := 1) (by decide) (hgU_1 ca o) rfl 7 (by decide) wq_102 (v := .int (z 1 7)) rfl dX9_lived_11 ?_
      refine lv_topi (fun x5 e5 => ?_)
      refine lv_aload_n hx hb dX9_lived_14 rfl (lv_at hl 0 rfl) ?_
      refine qf_get hx hb hts inX9 hown hK hP (q0 := 1) (by decide) (hgU_1 ca o) rfl 2 (by decide) wq_89 (v := .ref (o + 4)) rfl dX9_lived_15 ?_
      refine lv_iload_n hx hb dX9_lived_18 rfl (lv_at hl 1 rfl) ?_
      refine qa_iald hx hb hK hP (q0 := 4) (by decide) 0 (N := 6) (hgU_4 ca o) rfl (gi_in (by omega) (by omega)) dX9_lived_19 ?_
      refine lv_topi (fun x6 e6 => ?_)
      refine va_mmin hx hb (hml.trans hl.1.symm) hown (hts _ wq_512) (hts _ wq_444) (hts _ wq_14) (hts _ wq_445) (Nat.le_of_ble_eq_true rfl) (Nat.le_of_ble_eq_true rfl) (Nat.zero_le _) (Nat.zero_le _) dX9_lived_20 ?_
      refine lv_topi (fun x7 e7 => ?_)
      refine lv_goto (tgt := 30) hx hb dX9_lived_23 (by decide) ?_
      exact W.iret (v := x7) hx hb hr (fun t ht hW => ⟨⟨x7, (), rfl, trivial, by rw [ht]; exact hP, va_K.moved hW.alike hK⟩, hS.F ht⟩) hS.2.2 dX9_lived_30

set_option maxRecDepth 100000 in
set_option maxHeartbeats 4000000 in
theorem u1_start (l : Launch) (D : va_G) (ca : Nat → ClassId) (o : Nat) (z : Nat → Nat → Int32) (y : Nat → Nat → Int64)  (h1_5 : z 1 5 = 0) : qM l yX7_start cX7_start 5 (some .boolean) 3 104 (qPre D vwCl (qT6 ca) o 132 (qG (GU ca o) z y) [.ref (o + 104), .int 0]) (va_Qi (fun r u => r = 1 ∧ (∀ k : Nat, (k ≠ 104) → (k ≠ 105) → u.1 k = z k) ∧ u.2 = y ∧ u.1 104 5 = 1 ∧ u.1 104 6 = 0 ∧ u.1 104 4 = 0) (qB D vwCl (qT6 ca) o 132 (fun u : qZ => qG (GU ca o) u.1 u.2)) (qw_A o 132)) (qw_A o 132) := by
  refine Met.ofW (cc := cX7_start) (maxL := 5) (ret := (some .boolean)) (by decide) rfl ?_
  intro p e s m args below meth c s₁ B hml hv
  obtain ⟨rfl, hP, hK⟩ := hv
  have hx := B.exec
  have hb := B.bytes
  have hr := B.returns
  have hts0 := atoms_spec (ws := Cond.code yX7_start cX7_start 5 (some .boolean) :: qtbl) B.pre
  have hts : ∀ w ∈ qtbl, w.before _ s = true := fun w h => hts0 w (List.mem_cons_of_mem _ h)
  have hown : s.vm.findClass RX7 = some m.cls := findClass_of_methodNamed B.named
  have hlocks := B.notSynchronized
  have hz0 : (0 : Int32).toInt = 0 := rfl
  have hS : va_S (qw_A o 132) s.heap s.heap [] := va_S.rf
  have hl := lv_entry ([.ref (o + 104), .int 0]) (n := 5) (Nat.le_of_ble_eq_true rfl)
  rw [lg_entry_eq]
  generalize (lg_sl ([.ref (o + 104), .int 0]) ++ List.replicate (5 - (lg_sl ([.ref (o + 104), .int 0])).length) Slot.unset).toArray = ls at hl ⊢
  have hl : lv_has ls 5 [(0, .ref (o + 104)), (1, .int 0)] := hl
  refine lv_aload_n hx hb dX7_start_0 rfl (lv_at hl 0 rfl) ?_
  refine qf_get hx hb hts inX7 hown hK hP (q0 := 104) (by decide) (hgU_104 ca o) rfl 0 (by decide) wq_185 (v := .ref (o + 1)) rfl dX7_start_1 ?_
  refine qc_Vl (As := []) (rest := []) (k0 := 0) (u1_allRows l D ca o z y (h1_5)) kc_yX9_allRows ⟨hx, hb, hml, hown, hts⟩ wq_595 rfl rfl ⟨Nat.le_of_ble_eq_true rfl, Nat.le_of_ble_eq_true rfl⟩ wq_all hP hK hS qw_Ai (q0 := 1) (by decide) (hgU_1 ca o _ _) rfl rfl hl.1 rfl (Nat.le_of_ble_eq_true rfl) dX7_start_4 ⟨Nat.zero_le _, Nat.zero_le _⟩ (fun r1 u1 H locs h1 hP hS _ _ => ?_)
  subst h1
  refine lv_lstore_n (lv' := [(2, .long 1), (0, .ref (o + 104)), (1, .int 0)]) hx hb dX7_start_7 rfl hl (by decide) rfl (fun ls hl => ?_)
  refine lv_lload_n hx hb dX7_start_8 rfl (lv_at hl 0 rfl) ?_
  refine lv_ldc2 (v := 200000) hx hb hown (hts _ wq_596) dX7_start_9 ?_
  refine W.lcmp hx hb dX7_start_12 ?_
  refine qtop (x' := (-1)) (by decide) ?_
  refine lv_if_le (tgt := 18) hx hb dX7_start_13 (by decide) (fun _ => ?_) (fun q => absurd (by decide) q)
  refine lv_aload_n hx hb dX7_start_18 rfl (lv_at hl 1 rfl) ?_
  refine lv_lload_n hx hb dX7_start_19 rfl (lv_at hl 0 rfl) ?_
  refine lv_l2i (v := 1) hx hb dX7_start_20 (by decide) ?_
  refine qf_put hx hb hts inX7 tyX7 tyX7_ok nmX7 hown hK hP hS qw_Ai (q0 := 104) (by decide) (hgU_104 ca o) rfl 5 (by decide) wq_193 rfl (x := 1) 5 rfl rfl rfl (Nat.le_of_ble_eq_true rfl) dX7_start_21 (fun H locs hP hS => ?_)
  refine lv_aload_n hx hb dX7_start_24 rfl (lv_at hl 1 rfl) ?_
  refine lv_iconst (v := 0) hx hb dX7_start_25 (by decide) ?_
  refine qf_put hx hb hts inX7 tyX7 tyX7_ok nmX7 hown hK hP hS qw_Ai (q0 := 104) (by decide) (hgU_104 ca o) rfl 6 (by decide) wq_194 rfl (x := 0) 6 rfl rfl rfl (Nat.le_of_ble_eq_true rfl) dX7_start_26 (fun H locs hP hS => ?_)
  refine lv_iconst (v := 0) hx hb dX7_start_29 (by decide) ?_
  refine lv_istore (lv' := [(4, .int 0), (2, .long 1), (0, .ref (o + 104)), (1, .int 0)]) hx hb dX7_start_30 hl (by decide) rfl (fun ls hl => ?_)
  refine lv_iload hx hb dX7_start_32 (lv_at hl 0 rfl) ?_
  refine lv_bipush (v := 6) hx hb dX7_start_34 (by decide) ?_
  refine lv_icmp_ge (tgt := 78) hx hb dX7_start_36 (by decide) (fun q => absurd q (by decide)) (fun _ => ?_)
  refine lv_aload_n hx hb dX7_start_39 rfl (lv_at hl 2 rfl) ?_
  refine qf_get hx hb hts inX7 hown hK hP (q0 := 104) (by decide) (hgU_104 ca o) rfl 1 (by decide) wq_187 (v := .ref (o + 105)) rfl dX7_start_40 ?_
  refine lv_iload hx hb dX7_start_43 (lv_at hl 0 rfl) ?_
  refine lv_aload_n hx hb dX7_start_45 rfl (lv_at hl 2 rfl) ?_
  refine qf_get hx hb hts inX7 hown hK hP (q0 := 104) (by decide) (hgU_104 ca o) rfl 0 (by decide) wq_185 (v := .ref (o + 1)) rfl dX7_start_46 ?_
  refine lv_iload hx hb dX7_start_49 (lv_at hl 0 rfl) ?_
  refine qc_Vi (As := [.int 0]) (rest := [.int 0, .ref (o + 105)]) (k0 := 1) (u1_hasPerson l D ca o (qu (qu z 104 5 1) 104 6 0) y 0 (h1_5)) kc_yX9_hasPerson ⟨hx, hb, hml, hown, hts⟩ wq_597 rfl rfl ⟨Nat.le_of_ble_eq_true rfl, Nat.le_of_ble_eq_true rfl⟩ wq_all hP hK hS qw_Ai (q0 := 1) (by decide) (hgU_1 ca o _ _) rfl rfl hl.1 rfl (Nat.le_of_ble_eq_true rfl) dX7_start_51 ⟨Nat.zero_le _, Nat.zero_le _⟩ (fun r2 u2 H locs h2 hP hS _ _ => ?_)
  subst h2
  refine lv_if_eq (tgt := 70) hx hb dX7_start_54 (by decide) (fun _ => ?_) (fun q => absurd (by decide) q)
  refine lv_iconst (v := 0) hx hb dX7_start_70 (by decide) ?_
  refine qa_iast hx hb hK hP hS qw_Ai (q0 := 105) (by decide) 0 (N := 6) (hgU_105 ca o) rfl (gi_in (by decide) (by decide)) dX7_start_71 (fun H locs hP hS => ?_)
  refine lv_iinc (v := 1) (lv' := [(4, .int 1), (2, .long 1), (0, .ref (o + 104)), (1, .int 0)]) hx hb dX7_start_72 hl (k := 0) rfl (by decide) (by decide) rfl (fun ls hl => ?_)
  refine lv_goto (tgt := 32) hx hb dX7_start_75 (by decide) ?_
  refine lv_iload hx hb dX7_start_32 (lv_at hl 0 rfl) ?_
  refine lv_bipush (v := 6) hx hb dX7_start_34 (by decide) ?_
  refine lv_icmp_ge (tgt := 78) hx hb dX7_start_36 (by decide) (fun q => absurd q (by decide)) (fun _ => ?_)
  refine lv_aload_n hx hb dX7_start_39 rfl (lv_at hl 2 rfl) ?_
  refine qf_get hx hb hts inX7 hown hK hP (q0 := 104) (by decide) (hgU_104 ca o) rfl 1 (by decide) wq_187 (v := .ref (o + 105)) rfl dX7_start_40 ?_
  refine lv_iload hx hb dX7_start_43 (lv_at hl 0 rfl) ?_
  refine lv_aload_n hx hb dX7_start_45 rfl (lv_at hl 2 rfl) ?_
  refine qf_get hx hb hts inX7 hown hK hP (q0 := 104) (by decide) (hgU_104 ca o) rfl 0 (by decide) wq_185 (v := .ref (o + 1)) rfl dX7_start_46 ?_
  refine lv_iload hx hb dX7_start_49 (lv_at hl 0 rfl) ?_
  refine qc_Vi (As := [.int 1]) (rest := [.int 1, .ref (o + 105)]) (k0 := 1) (u1_hasPerson l D ca o (qu (qu (qu z 104 5 1) 104 6 0) 105 ((0 : Int32).toNatClampNeg) 0) y 1 (h1_5)) kc_yX9_hasPerson ⟨hx, hb, hml, hown, hts⟩ wq_597 rfl rfl ⟨Nat.le_of_ble_eq_true rfl, Nat.le_of_ble_eq_true rfl⟩ wq_all hP hK hS qw_Ai (q0 := 1) (by decide) (hgU_1 ca o _ _) rfl rfl hl.1 rfl (Nat.le_of_ble_eq_true rfl) dX7_start_51 ⟨Nat.zero_le _, Nat.zero_le _⟩ (fun r3 u3 H locs h3 hP hS _ _ => ?_)
  subst h3
  refine lv_if_eq (tgt := 70) hx hb dX7_start_54 (by decide) (fun _ => ?_) (fun q => absurd (by decide) q)
  refine lv_iconst (v := 0) hx hb dX7_start_70 (by decide) ?_
  refine qa_iast hx hb hK hP hS qw_Ai (q0 := 105) (by decide) 0 (N := 6) (hgU_105 ca o) rfl (gi_in (by decide) (by decide)) dX7_start_71 (fun H locs hP hS => ?_)
  refine lv_iinc (v := 2) (lv' := [(4, .int 2), (2, .long 1), (0, .ref (o + 104)), (1, .int 0)]) hx hb dX7_start_72 hl (k := 0) rfl (by decide) (by decide) rfl (fun ls hl => ?_)
  refine lv_goto (tgt := 32) hx hb dX7_start_75 (by decide) ?_
  refine lv_iload hx hb dX7_start_32 (lv_at hl 0 rfl) ?_
  refine lv_bipush (v := 6) hx hb dX7_start_34 (by decide) ?_
  refine lv_icmp_ge (tgt := 78) hx hb dX7_start_36 (by decide) (fun q => absurd q (by decide)) (fun _ => ?_)
  refine lv_aload_n hx hb dX7_start_39 rfl (lv_at hl 2 rfl) ?_
  refine qf_get hx hb hts inX7 hown hK hP (q0 := 104) (by decide) (hgU_104 ca o) rfl 1 (by decide) wq_187 (v := .ref (o + 105)) rfl dX7_start_40 ?_
  refine lv_iload hx hb dX7_start_43 (lv_at hl 0 rfl) ?_
  refine lv_aload_n hx hb dX7_start_45 rfl (lv_at hl 2 rfl) ?_
  refine qf_get hx hb hts inX7 hown hK hP (q0 := 104) (by decide) (hgU_104 ca o) rfl 0 (by decide) wq_185 (v := .ref (o + 1)) rfl dX7_start_46 ?_
  refine lv_iload hx hb dX7_start_49 (lv_at hl 0 rfl) ?_
  refine qc_Vi (As := [.int 2]) (rest := [.int 2, .ref (o + 105)]) (k0 := 1) (u1_hasPerson l D ca o (qu (qu (qu (qu z 104 5 1) 104 6 0) 105 ((0 : Int32).toNatClampNeg) 0) 105 ((1 : Int32).toNatClampNeg) 0) y 2 (h1_5)) kc_yX9_hasPerson ⟨hx, hb, hml, hown, hts⟩ wq_597 rfl rfl ⟨Nat.le_of_ble_eq_true rfl, Nat.le_of_ble_eq_true rfl⟩ wq_all hP hK hS qw_Ai (q0 := 1) (by decide) (hgU_1 ca o _ _) rfl rfl hl.1 rfl (Nat.le_of_ble_eq_true rfl) dX7_start_51 ⟨Nat.zero_le _, Nat.zero_le _⟩ (fun r4 u4 H locs h4 hP hS _ _ => ?_)
  subst h4
  refine lv_if_eq (tgt := 70) hx hb dX7_start_54 (by decide) (fun _ => ?_) (fun q => absurd (by decide) q)
  refine lv_iconst (v := 0) hx hb dX7_start_70 (by decide) ?_
  refine qa_iast hx hb hK hP hS qw_Ai (q0 := 105) (by decide) 0 (N := 6) (hgU_105 ca o) rfl (gi_in (by decide) (by decide)) dX7_start_71 (fun H locs hP hS => ?_)
  refine lv_iinc (v := 3) (lv' := [(4, .int 3), (2, .long 1), (0, .ref (o + 104)), (1, .int 0)]) hx hb dX7_start_72 hl (k := 0) rfl (by decide) (by decide) rfl (fun ls hl => ?_)
  refine lv_goto (tgt := 32) hx hb dX7_start_75 (by decide) ?_
  refine lv_iload hx hb dX7_start_32 (lv_at hl 0 rfl) ?_
  refine lv_bipush (v := 6) hx hb dX7_start_34 (by decide) ?_
  refine lv_icmp_ge (tgt := 78) hx hb dX7_start_36 (by decide) (fun q => absurd q (by decide)) (fun _ => ?_)
  refine lv_aload_n hx hb dX7_start_39 rfl (lv_at hl 2 rfl) ?_
  refine qf_get hx hb hts inX7 hown hK hP (q0 := 104) (by decide) (hgU_104 ca o) rfl 1 (by decide) wq_187 (v := .ref (o + 105)) rfl dX7_start_40 ?_
  refine lv_iload hx hb dX7_start_43 (lv_at hl 0 rfl) ?_
  refine lv_aload_n hx hb dX7_start_45 rfl (lv_at hl 2 rfl) ?_
  refine qf_get hx hb hts inX7 hown hK hP (q0 := 104) (by decide) (hgU_104 ca o) rfl 0 (by decide) wq_185 (v := .ref (o + 1)) rfl dX7_start_46 ?_
  refine lv_iload hx hb dX7_start_49 (lv_at hl 0 rfl) ?_
  refine qc_Vi (As := [.int 3]) (rest := [.int 3, .ref (o + 105)]) (k0 := 1) (u1_hasPerson l D ca o (qu (qu (qu (qu (qu z 104 5 1) 104 6 0) 105 ((0 : Int32).toNatClampNeg) 0) 105 ((1 : Int32).toNatClampNeg) 0) 105 ((2 : Int32).toNatClampNeg) 0) y 3 (h1_5)) kc_yX9_hasPerson ⟨hx, hb, hml, hown, hts⟩ wq_597 rfl rfl ⟨Nat.le_of_ble_eq_true rfl, Nat.le_of_ble_eq_true rfl⟩ wq_all hP hK hS qw_Ai (q0 := 1) (by decide) (hgU_1 ca o _ _) rfl rfl hl.1 rfl (Nat.le_of_ble_eq_true rfl) dX7_start_51 ⟨Nat.zero_le _, Nat.zero_le _⟩ (fun r5 u5 H locs h5 hP hS _ _ => ?_)
  subst h5
  refine lv_if_eq (tgt := 70) hx hb dX7_start_54 (by decide) (fun _ => ?_) (fun q => absurd (by decide) q)
  refine lv_iconst (v := 0) hx hb dX7_start_70 (by decide) ?_
  refine qa_iast hx hb hK hP hS qw_Ai (q0 := 105) (by decide) 0 (N := 6) (hgU_105 ca o) rfl (gi_in (by decide) (by decide)) dX7_start_71 (fun H locs hP hS => ?_)
  refine lv_iinc (v := 4) (lv' := [(4, .int 4), (2, .long 1), (0, .ref (o + 104)), (1, .int 0)]) hx hb dX7_start_72 hl (k := 0) rfl (by decide) (by decide) rfl (fun ls hl => ?_)
  refine lv_goto (tgt := 32) hx hb dX7_start_75 (by decide) ?_
  refine lv_iload hx hb dX7_start_32 (lv_at hl 0 rfl) ?_
  refine lv_bipush (v := 6) hx hb dX7_start_34 (by decide) ?_
  refine lv_icmp_ge (tgt := 78) hx hb dX7_start_36 (by decide) (fun q => absurd q (by decide)) (fun _ => ?_)
  refine lv_aload_n hx hb dX7_start_39 rfl (lv_at hl 2 rfl) ?_
  refine qf_get hx hb hts inX7 hown hK hP (q0 := 104) (by decide) (hgU_104 ca o) rfl 1 (by decide) wq_187 (v := .ref (o + 105)) rfl dX7_start_40 ?_
  refine lv_iload hx hb dX7_start_43 (lv_at hl 0 rfl) ?_
  refine lv_aload_n hx hb dX7_start_45 rfl (lv_at hl 2 rfl) ?_
  refine qf_get hx hb hts inX7 hown hK hP (q0 := 104) (by decide) (hgU_104 ca o) rfl 0 (by decide) wq_185 (v := .ref (o + 1)) rfl dX7_start_46 ?_
  refine lv_iload hx hb dX7_start_49 (lv_at hl 0 rfl) ?_
  refine qc_Vi (As := [.int 4]) (rest := [.int 4, .ref (o + 105)]) (k0 := 1) (u1_hasPerson l D ca o (qu (qu (qu (qu (qu (qu z 104 5 1) 104 6 0) 105 ((0 : Int32).toNatClampNeg) 0) 105 ((1 : Int32).toNatClampNeg) 0) 105 ((2 : Int32).toNatClampNeg) 0) 105 ((3 : Int32).toNatClampNeg) 0) y 4 (h1_5)) kc_yX9_hasPerson ⟨hx, hb, hml, hown, hts⟩ wq_597 rfl rfl ⟨Nat.le_of_ble_eq_true rfl, Nat.le_of_ble_eq_true rfl⟩ wq_all hP hK hS qw_Ai (q0 := 1) (by decide) (hgU_1 ca o _ _) rfl rfl hl.1 rfl (Nat.le_of_ble_eq_true rfl) dX7_start_51 ⟨Nat.zero_le _, Nat.zero_le _⟩ (fun r6 u6 H locs h6 hP hS _ _ => ?_)
  subst h6
  refine lv_if_eq (tgt := 70) hx hb dX7_start_54 (by decide) (fun _ => ?_) (fun q => absurd (by decide) q)
  refine lv_iconst (v := 0) hx hb dX7_start_70 (by decide) ?_
  refine qa_iast hx hb hK hP hS qw_Ai (q0 := 105) (by decide) 0 (N := 6) (hgU_105 ca o) rfl (gi_in (by decide) (by decide)) dX7_start_71 (fun H locs hP hS => ?_)
  refine lv_iinc (v := 5) (lv' := [(4, .int 5), (2, .long 1), (0, .ref (o + 104)), (1, .int 0)]) hx hb dX7_start_72 hl (k := 0) rfl (by decide) (by decide) rfl (fun ls hl => ?_)
  refine lv_goto (tgt := 32) hx hb dX7_start_75 (by decide) ?_
  refine lv_iload hx hb dX7_start_32 (lv_at hl 0 rfl) ?_
  refine lv_bipush (v := 6) hx hb dX7_start_34 (by decide) ?_
  refine lv_icmp_ge (tgt := 78) hx hb dX7_start_36 (by decide) (fun q => absurd q (by decide)) (fun _ => ?_)
  refine lv_aload_n hx hb dX7_start_39 rfl (lv_at hl 2 rfl) ?_
  refine qf_get hx hb hts inX7 hown hK hP (q0 := 104) (by decide) (hgU_104 ca o) rfl 1 (by decide) wq_187 (v := .ref (o + 105)) rfl dX7_start_40 ?_
  refine lv_iload hx hb dX7_start_43 (lv_at hl 0 rfl) ?_
  refine lv_aload_n hx hb dX7_start_45 rfl (lv_at hl 2 rfl) ?_
  refine qf_get hx hb hts inX7 hown hK hP (q0 := 104) (by decide) (hgU_104 ca o) rfl 0 (by decide) wq_185 (v := .ref (o + 1)) rfl dX7_start_46 ?_
  refine lv_iload hx hb dX7_start_49 (lv_at hl 0 rfl) ?_
  refine qc_Vi (As := [.int 5]) (rest := [.int 5, .ref (o + 105)]) (k0 := 1) (u1_hasPerson l D ca o (qu (qu (qu (qu (qu (qu (qu z 104 5 1) 104 6 0) 105 ((0 : Int32).toNatClampNeg) 0) 105 ((1 : Int32).toNatClampNeg) 0) 105 ((2 : Int32).toNatClampNeg) 0) 105 ((3 : Int32).toNatClampNeg) 0) 105 ((4 : Int32).toNatClampNeg) 0) y 5 (h1_5)) kc_yX9_hasPerson ⟨hx, hb, hml, hown, hts⟩ wq_597 rfl rfl ⟨Nat.le_of_ble_eq_true rfl, Nat.le_of_ble_eq_true rfl⟩ wq_all hP hK hS qw_Ai (q0 := 1) (by decide) (hgU_1 ca o _ _) rfl rfl hl.1 rfl (Nat.le_of_ble_eq_true rfl) dX7_start_51 ⟨Nat.zero_le _, Nat.zero_le _⟩ (fun r7 u7 H locs h7 hP hS _ _ => ?_)
  subst h7
  refine lv_if_eq (tgt := 70) hx hb dX7_start_54 (by decide) (fun _ => ?_) (fun q => absurd (by decide) q)
  refine lv_iconst (v := 0) hx hb dX7_start_70 (by decide) ?_
  refine qa_iast hx hb hK hP hS qw_Ai (q0 := 105) (by decide) 0 (N := 6) (hgU_105 ca o) rfl (gi_in (by decide) (by decide)) dX7_start_71 (fun H locs hP hS => ?_)
  refine lv_iinc (v := 6) (lv' := [(4, .int 6), (2, .long 1), (0, .ref (o + 104)), (1, .int 0)]) hx hb dX7_start_72 hl (k := 0) rfl (by decide) (by decide) rfl (fun ls hl => ?_)
  refine lv_goto (tgt := 32) hx hb dX7_start_75 (by decide) ?_
  refine lv_iload hx hb dX7_start_32 (lv_at hl 0 rfl) ?_
  refine lv_bipush (v := 6) hx hb dX7_start_34 (by decide) ?_
  refine lv_icmp_ge (tgt := 78) hx hb dX7_start_36 (by decide) (fun _ => ?_) (fun q => absurd (by decide) q)
  refine lv_aload_n hx hb dX7_start_78 rfl (lv_at hl 2 rfl) ?_
  refine lv_iconst (v := 0) hx hb dX7_start_79 (by decide) ?_
  refine qf_put hx hb hts inX7 tyX7 tyX7_ok nmX7 hown hK hP hS qw_Ai (q0 := 104) (by decide) (hgU_104 ca o) rfl 4 (by decide) wq_192 rfl (x := 0) 4 rfl rfl rfl (Nat.le_of_ble_eq_true rfl) dX7_start_80 (fun H locs hP hS => ?_)
  refine lv_iconst (v := 0) hx hb dX7_start_83 (by decide) ?_
  refine lv_istore (lv' := [(4, .int 0), (2, .long 1), (0, .ref (o + 104)), (1, .int 0)]) hx hb dX7_start_84 hl (by decide) rfl (fun ls hl => ?_)
  refine lv_iload hx hb dX7_start_86 (lv_at hl 0 rfl) ?_
  refine lv_bipush (v := 10) hx hb dX7_start_88 (by decide) ?_
  refine lv_icmp_ge (tgt := 155) hx hb dX7_start_90 (by decide) (fun q => absurd q (by decide)) (fun _ => ?_)
  refine lv_iload_n hx hb dX7_start_93 rfl (lv_at hl 3 rfl) ?_
  refine lv_iload hx hb dX7_start_94 (lv_at hl 0 rfl) ?_
  refine lv_ishr hx hb dX7_start_96 ?_
  refine qtop (x' := 0) (by decide) ?_
  refine lv_iconst (v := 1) hx hb dX7_start_97 (by decide) ?_
  refine lv_iand hx hb dX7_start_98 ?_
  refine qtop (x' := 0) (by decide) ?_
  refine lv_if_eq (tgt := 149) hx hb dX7_start_99 (by decide) (fun _ => ?_) (fun q => absurd (by decide) q)
  refine lv_iinc (v := 1) (lv' := [(4, .int 1), (2, .long 1), (0, .ref (o + 104)), (1, .int 0)]) hx hb dX7_start_149 hl (k := 0) rfl (by decide) (by decide) rfl (fun ls hl => ?_)
  refine lv_goto (tgt := 86) hx hb dX7_start_152 (by decide) ?_
  refine lv_iload hx hb dX7_start_86 (lv_at hl 0 rfl) ?_
  refine lv_bipush (v := 10) hx hb dX7_start_88 (by decide) ?_
  refine lv_icmp_ge (tgt := 155) hx hb dX7_start_90 (by decide) (fun q => absurd q (by decide)) (fun _ => ?_)
  refine lv_iload_n hx hb dX7_start_93 rfl (lv_at hl 3 rfl) ?_
  refine lv_iload hx hb dX7_start_94 (lv_at hl 0 rfl) ?_
  refine lv_ishr hx hb dX7_start_96 ?_
  refine qtop (x' := 0) (by decide) ?_
  refine lv_iconst (v := 1) hx hb dX7_start_97 (by decide) ?_
  refine lv_iand hx hb dX7_start_98 ?_
  refine qtop (x' := 0) (by decide) ?_
  refine lv_if_eq (tgt := 149) hx hb dX7_start_99 (by decide) (fun _ => ?_) (fun q => absurd (by decide) q)
  refine lv_iinc (v := 2) (lv' := [(4, .int 2), (2, .long 1), (0, .ref (o + 104)), (1, .int 0)]) hx hb dX7_start_149 hl (k := 0) rfl (by decide) (by decide) rfl (fun ls hl => ?_)
  refine lv_goto (tgt := 86) hx hb dX7_start_152 (by decide) ?_
  refine lv_iload hx hb dX7_start_86 (lv_at hl 0 rfl) ?_
  refine lv_bipush (v := 10) hx hb dX7_start_88 (by decide) ?_
  refine lv_icmp_ge (tgt := 155) hx hb dX7_start_90 (by decide) (fun q => absurd q (by decide)) (fun _ => ?_)
  refine lv_iload_n hx hb dX7_start_93 rfl (lv_at hl 3 rfl) ?_
  refine lv_iload hx hb dX7_start_94 (lv_at hl 0 rfl) ?_
  refine lv_ishr hx hb dX7_start_96 ?_
  refine qtop (x' := 0) (by decide) ?_
  refine lv_iconst (v := 1) hx hb dX7_start_97 (by decide) ?_
  refine lv_iand hx hb dX7_start_98 ?_
  refine qtop (x' := 0) (by decide) ?_
  refine lv_if_eq (tgt := 149) hx hb dX7_start_99 (by decide) (fun _ => ?_) (fun q => absurd (by decide) q)
  refine lv_iinc (v := 3) (lv' := [(4, .int 3), (2, .long 1), (0, .ref (o + 104)), (1, .int 0)]) hx hb dX7_start_149 hl (k := 0) rfl (by decide) (by decide) rfl (fun ls hl => ?_)
  refine lv_goto (tgt := 86) hx hb dX7_start_152 (by decide) ?_
  refine lv_iload hx hb dX7_start_86 (lv_at hl 0 rfl) ?_
  refine lv_bipush (v := 10) hx hb dX7_start_88 (by decide) ?_
  refine lv_icmp_ge (tgt := 155) hx hb dX7_start_90 (by decide) (fun q => absurd q (by decide)) (fun _ => ?_)
  refine lv_iload_n hx hb dX7_start_93 rfl (lv_at hl 3 rfl) ?_
  refine lv_iload hx hb dX7_start_94 (lv_at hl 0 rfl) ?_
  refine lv_ishr hx hb dX7_start_96 ?_
  refine qtop (x' := 0) (by decide) ?_
  refine lv_iconst (v := 1) hx hb dX7_start_97 (by decide) ?_
  refine lv_iand hx hb dX7_start_98 ?_
  refine qtop (x' := 0) (by decide) ?_
  refine lv_if_eq (tgt := 149) hx hb dX7_start_99 (by decide) (fun _ => ?_) (fun q => absurd (by decide) q)
  refine lv_iinc (v := 4) (lv' := [(4, .int 4), (2, .long 1), (0, .ref (o + 104)), (1, .int 0)]) hx hb dX7_start_149 hl (k := 0) rfl (by decide) (by decide) rfl (fun ls hl => ?_)
  refine lv_goto (tgt := 86) hx hb dX7_start_152 (by decide) ?_
  refine lv_iload hx hb dX7_start_86 (lv_at hl 0 rfl) ?_
  refine lv_bipush (v := 10) hx hb dX7_start_88 (by decide) ?_
  refine lv_icmp_ge (tgt := 155) hx hb dX7_start_90 (by decide) (fun q => absurd q (by decide)) (fun _ => ?_)
  refine lv_iload_n hx hb dX7_start_93 rfl (lv_at hl 3 rfl) ?_
  refine lv_iload hx hb dX7_start_94 (lv_at hl 0 rfl) ?_
  refine lv_ishr hx hb dX7_start_96 ?_
  refine qtop (x' := 0) (by decide) ?_
  refine lv_iconst (v := 1) hx hb dX7_start_97 (by decide) ?_
  refine lv_iand hx hb dX7_start_98 ?_
  refine qtop (x' := 0) (by decide) ?_
  refine lv_if_eq (tgt := 149) hx hb dX7_start_99 (by decide) (fun _ => ?_) (fun q => absurd (by decide) q)
  refine lv_iinc (v := 5) (lv' := [(4, .int 5), (2, .long 1), (0, .ref (o + 104)), (1, .int 0)]) hx hb dX7_start_149 hl (k := 0) rfl (by decide) (by decide) rfl (fun ls hl => ?_)
  refine lv_goto (tgt := 86) hx hb dX7_start_152 (by decide) ?_
  refine lv_iload hx hb dX7_start_86 (lv_at hl 0 rfl) ?_
  refine lv_bipush (v := 10) hx hb dX7_start_88 (by decide) ?_
  refine lv_icmp_ge (tgt := 155) hx hb dX7_start_90 (by decide) (fun q => absurd q (by decide)) (fun _ => ?_)
  refine lv_iload_n hx hb dX7_start_93 rfl (lv_at hl 3 rfl) ?_
  refine lv_iload hx hb dX7_start_94 (lv_at hl 0 rfl) ?_
  refine lv_ishr hx hb dX7_start_96 ?_
  refine qtop (x' := 0) (by decide) ?_
  refine lv_iconst (v := 1) hx hb dX7_start_97 (by decide) ?_
  refine lv_iand hx hb dX7_start_98 ?_
  refine qtop (x' := 0) (by decide) ?_
  refine lv_if_eq (tgt := 149) hx hb dX7_start_99 (by decide) (fun _ => ?_) (fun q => absurd (by decide) q)
  refine lv_iinc (v := 6) (lv' := [(4, .int 6), (2, .long 1), (0, .ref (o + 104)), (1, .int 0)]) hx hb dX7_start_149 hl (k := 0) rfl (by decide) (by decide) rfl (fun ls hl => ?_)
  refine lv_goto (tgt := 86) hx hb dX7_start_152 (by decide) ?_
  refine lv_iload hx hb dX7_start_86 (lv_at hl 0 rfl) ?_
  refine lv_bipush (v := 10) hx hb dX7_start_88 (by decide) ?_
  refine lv_icmp_ge (tgt := 155) hx hb dX7_start_90 (by decide) (fun q => absurd q (by decide)) (fun _ => ?_)
  refine lv_iload_n hx hb dX7_start_93 rfl (lv_at hl 3 rfl) ?_
  refine lv_iload hx hb dX7_start_94 (lv_at hl 0 rfl) ?_
  refine lv_ishr hx hb dX7_start_96 ?_
  refine qtop (x' := 0) (by decide) ?_
  refine lv_iconst (v := 1) hx hb dX7_start_97 (by decide) ?_
  refine lv_iand hx hb dX7_start_98 ?_
  refine qtop (x' := 0) (by decide) ?_
  refine lv_if_eq (tgt := 149) hx hb dX7_start_99 (by decide) (fun _ => ?_) (fun q => absurd (by decide) q)
  refine lv_iinc (v := 7) (lv' := [(4, .int 7), (2, .long 1), (0, .ref (o + 104)), (1, .int 0)]) hx hb dX7_start_149 hl (k := 0) rfl (by decide) (by decide) rfl (fun ls hl => ?_)
  refine lv_goto (tgt := 86) hx hb dX7_start_152 (by decide) ?_
  refine lv_iload hx hb dX7_start_86 (lv_at hl 0 rfl) ?_
  refine lv_bipush (v := 10) hx hb dX7_start_88 (by decide) ?_
  refine lv_icmp_ge (tgt := 155) hx hb dX7_start_90 (by decide) (fun q => absurd q (by decide)) (fun _ => ?_)
  refine lv_iload_n hx hb dX7_start_93 rfl (lv_at hl 3 rfl) ?_
  refine lv_iload hx hb dX7_start_94 (lv_at hl 0 rfl) ?_
  refine lv_ishr hx hb dX7_start_96 ?_
  refine qtop (x' := 0) (by decide) ?_
  refine lv_iconst (v := 1) hx hb dX7_start_97 (by decide) ?_
  refine lv_iand hx hb dX7_start_98 ?_
  refine qtop (x' := 0) (by decide) ?_
  refine lv_if_eq (tgt := 149) hx hb dX7_start_99 (by decide) (fun _ => ?_) (fun q => absurd (by decide) q)
  refine lv_iinc (v := 8) (lv' := [(4, .int 8), (2, .long 1), (0, .ref (o + 104)), (1, .int 0)]) hx hb dX7_start_149 hl (k := 0) rfl (by decide) (by decide) rfl (fun ls hl => ?_)
  refine lv_goto (tgt := 86) hx hb dX7_start_152 (by decide) ?_
  refine lv_iload hx hb dX7_start_86 (lv_at hl 0 rfl) ?_
  refine lv_bipush (v := 10) hx hb dX7_start_88 (by decide) ?_
  refine lv_icmp_ge (tgt := 155) hx hb dX7_start_90 (by decide) (fun q => absurd q (by decide)) (fun _ => ?_)
  refine lv_iload_n hx hb dX7_start_93 rfl (lv_at hl 3 rfl) ?_
  refine lv_iload hx hb dX7_start_94 (lv_at hl 0 rfl) ?_
  refine lv_ishr hx hb dX7_start_96 ?_
  refine qtop (x' := 0) (by decide) ?_
  refine lv_iconst (v := 1) hx hb dX7_start_97 (by decide) ?_
  refine lv_iand hx hb dX7_start_98 ?_
  refine qtop (x' := 0) (by decide) ?_
  refine lv_if_eq (tgt := 149) hx hb dX7_start_99 (by decide) (fun _ => ?_) (fun q => absurd (by decide) q)
  refine lv_iinc (v := 9) (lv' := [(4, .int 9), (2, .long 1), (0, .ref (o + 104)), (1, .int 0)]) hx hb dX7_start_149 hl (k := 0) rfl (by decide) (by decide) rfl (fun ls hl => ?_)
  refine lv_goto (tgt := 86) hx hb dX7_start_152 (by decide) ?_
  refine lv_iload hx hb dX7_start_86 (lv_at hl 0 rfl) ?_
  refine lv_bipush (v := 10) hx hb dX7_start_88 (by decide) ?_
  refine lv_icmp_ge (tgt := 155) hx hb dX7_start_90 (by decide) (fun q => absurd q (by decide)) (fun _ => ?_)
  refine lv_iload_n hx hb dX7_start_93 rfl (lv_at hl 3 rfl) ?_
  refine lv_iload hx hb dX7_start_94 (lv_at hl 0 rfl) ?_
  refine lv_ishr hx hb dX7_start_96 ?_
  refine qtop (x' := 0) (by decide) ?_
  refine lv_iconst (v := 1) hx hb dX7_start_97 (by decide) ?_
  refine lv_iand hx hb dX7_start_98 ?_
  refine qtop (x' := 0) (by decide) ?_
  refine lv_if_eq (tgt := 149) hx hb dX7_start_99 (by decide) (fun _ => ?_) (fun q => absurd (by decide) q)
  refine lv_iinc (v := 10) (lv' := [(4, .int 10), (2, .long 1), (0, .ref (o + 104)), (1, .int 0)]) hx hb dX7_start_149 hl (k := 0) rfl (by decide) (by decide) rfl (fun ls hl => ?_)
  refine lv_goto (tgt := 86) hx hb dX7_start_152 (by decide) ?_
  refine lv_iload hx hb dX7_start_86 (lv_at hl 0 rfl) ?_
  refine lv_bipush (v := 10) hx hb dX7_start_88 (by decide) ?_
  refine lv_icmp_ge (tgt := 155) hx hb dX7_start_90 (by decide) (fun _ => ?_) (fun q => absurd (by decide) q)
  refine lv_iconst (v := 1) hx hb dX7_start_155 (by decide) ?_
  exact W.zret (v := 1) (ty := .boolean) hx hb hr rfl (fun t ht hW => ⟨⟨1, ((qu (qu (qu (qu (qu (qu (qu (qu (qu z 104 5 1) 104 6 0) 105 ((0 : Int32).toNatClampNeg) 0) 105 ((1 : Int32).toNatClampNeg) 0) 105 ((2 : Int32).toNatClampNeg) 0) 105 ((3 : Int32).toNatClampNeg) 0) 105 ((4 : Int32).toNatClampNeg) 0) 105 ((5 : Int32).toNatClampNeg) 0) 104 4 0), y), rfl, ⟨rfl, (fun (k : Nat) (h0 : k ≠ 104) (h1 : k ≠ 105) => by simp only [qu_ne h0, qu_ne h1]), rfl, rfl, rfl, rfl⟩, by rw [ht]; exact hP, va_K.moved hW.alike hK⟩, hS.F ht⟩) hS.2.2 dX7_start_156

set_option maxRecDepth 100000 in
set_option maxHeartbeats 4000000 in
theorem u1_moveA (l : Launch) (D : va_G) (ca : Nat → ClassId) (o : Nat) (z : Nat → Nat → Int32) (y : Nat → Nat → Int64)  (h104_6 : z 104 6 = 0) (h104_5 : z 104 5 = 1) : qM l yX7_move cX7_move 1 (some .boolean) 1 60 (qPre D vwCl (qT6 ca) o 132 (qG (GU ca o) z y) [.ref (o + 104)]) (va_Qi (fun r u => r = 1 ∧ u.1 = qu z 104 6 1 ∧ u.2 = y) (qB D vwCl (qT6 ca) o 132 (fun u : qZ => qG (GU ca o) u.1 u.2)) (qw_A o 132)) (qw_A o 132) := by
  refine Met.ofW (cc := cX7_move) (maxL := 1) (ret := (some .boolean)) (by decide) rfl ?_
  intro p e s m args below meth c s₁ B hml hv
  obtain ⟨rfl, hP, hK⟩ := hv
  have hx := B.exec
  have hb := B.bytes
  have hr := B.returns
  have hts0 := atoms_spec (ws := Cond.code yX7_move cX7_move 1 (some .boolean) :: qtbl) B.pre
  have hts : ∀ w ∈ qtbl, w.before _ s = true := fun w h => hts0 w (List.mem_cons_of_mem _ h)
  have hown : s.vm.findClass RX7 = some m.cls := findClass_of_methodNamed B.named
  have hlocks := B.notSynchronized
  have hz0 : (0 : Int32).toInt = 0 := rfl
  have hS : va_S (qw_A o 132) s.heap s.heap [] := va_S.rf
  have hl := lv_entry ([.ref (o + 104)]) (n := 1) (Nat.le_of_ble_eq_true rfl)
  rw [lg_entry_eq]
  generalize (lg_sl ([.ref (o + 104)]) ++ List.replicate (1 - (lg_sl ([.ref (o + 104)])).length) Slot.unset).toArray = ls at hl ⊢
  have hl : lv_has ls 1 [(0, .ref (o + 104))] := hl
  refine lv_aload_n hx hb dX7_move_0 rfl (lv_at hl 0 rfl) ?_
  refine qf_get hx hb hts inX7 hown hK hP (q0 := 104) (by decide) (hgU_104 ca o) rfl 6 (by decide) wq_194 (v := .int (z 104 6)) rfl dX7_move_1 ?_
  refine qtop (x' := 0) h104_6 ?_
  refine lv_aload_n hx hb dX7_move_4 rfl (lv_at hl 0 rfl) ?_
  refine qf_get hx hb hts inX7 hown hK hP (q0 := 104) (by decide) (hgU_104 ca o) rfl 5 (by decide) wq_193 (v := .int (z 104 5)) rfl dX7_move_5 ?_
  refine qtop (x' := 1) h104_5 ?_
  refine lv_icmp_lt (tgt := 13) hx hb dX7_move_8 (by decide) (fun _ => ?_) (fun q => absurd (by decide) q)
  refine lv_aload_n hx hb dX7_move_13 rfl (lv_at hl 0 rfl) ?_
  refine qf_get hx hb hts inX7 hown hK hP (q0 := 104) (by decide) (hgU_104 ca o) rfl 6 (by decide) wq_194 (v := .int (z 104 6)) rfl dX7_move_14 ?_
  refine qtop (x' := 0) h104_6 ?_
  refine lv_if_le (tgt := 24) hx hb dX7_move_17 (by decide) (fun _ => ?_) (fun q => absurd (by decide) q)
  refine lv_aload_n hx hb dX7_move_24 rfl (lv_at hl 0 rfl) ?_
  refine lv_dup hx hb dX7_move_25 rfl ?_
  refine qf_get hx hb hts inX7 hown hK hP (q0 := 104) (by decide) (hgU_104 ca o) rfl 6 (by decide) wq_194 (v := .int (z 104 6)) rfl dX7_move_26 ?_
  refine qtop (x' := 0) h104_6 ?_
  refine lv_iconst (v := 1) hx hb dX7_move_29 (by decide) ?_
  refine lv_iadd hx hb dX7_move_30 ?_
  refine qtop (x' := 1) (by decide) ?_
  refine qf_put hx hb hts inX7 tyX7 tyX7_ok nmX7 hown hK hP hS qw_Ai (q0 := 104) (by decide) (hgU_104 ca o) rfl 6 (by decide) wq_194 rfl (x := 1) 6 rfl rfl rfl (Nat.le_of_ble_eq_true rfl) dX7_move_31 (fun H locs hP hS => ?_)
  refine lv_iconst (v := 1) hx hb dX7_move_34 (by decide) ?_
  exact W.zret (v := 1) (ty := .boolean) hx hb hr rfl (fun t ht hW => ⟨⟨1, ((qu z 104 6 1), y), rfl, ⟨rfl, rfl, rfl⟩, by rw [ht]; exact hP, va_K.moved hW.alike hK⟩, hS.F ht⟩) hS.2.2 dX7_move_35

set_option maxRecDepth 100000 in
set_option maxHeartbeats 4000000 in
theorem u1_moveB (l : Launch) (D : va_G) (ca : Nat → ClassId) (o : Nat) (z : Nat → Nat → Int32) (y : Nat → Nat → Int64)  (h104_6 : z 104 6 = 1) (h104_5 : z 104 5 = 1) : qM l yX7_move cX7_move 1 (some .boolean) 1 60 (qPre D vwCl (qT6 ca) o 132 (qG (GU ca o) z y) [.ref (o + 104)]) (va_Qi (fun r _ => r = 0) (qB D vwCl (qT6 ca) o 132 (fun _ : Unit => qG (GU ca o) z y)) (qw_A o 132)) (qw_A o 132) := by
  refine Met.ofW (cc := cX7_move) (maxL := 1) (ret := (some .boolean)) (by decide) rfl ?_
  intro p e s m args below meth c s₁ B hml hv
  obtain ⟨rfl, hP, hK⟩ := hv
  have hx := B.exec
  have hb := B.bytes
  have hr := B.returns
  have hts0 := atoms_spec (ws := Cond.code yX7_move cX7_move 1 (some .boolean) :: qtbl) B.pre
  have hts : ∀ w ∈ qtbl, w.before _ s = true := fun w h => hts0 w (List.mem_cons_of_mem _ h)
  have hown : s.vm.findClass RX7 = some m.cls := findClass_of_methodNamed B.named
  have hlocks := B.notSynchronized
  have hz0 : (0 : Int32).toInt = 0 := rfl
  have hS : va_S (qw_A o 132) s.heap s.heap [] := va_S.rf
  have hl := lv_entry ([.ref (o + 104)]) (n := 1) (Nat.le_of_ble_eq_true rfl)
  rw [lg_entry_eq]
  generalize (lg_sl ([.ref (o + 104)]) ++ List.replicate (1 - (lg_sl ([.ref (o + 104)])).length) Slot.unset).toArray = ls at hl ⊢
  have hl : lv_has ls 1 [(0, .ref (o + 104))] := hl
  refine lv_aload_n hx hb dX7_move_0 rfl (lv_at hl 0 rfl) ?_
  refine qf_get hx hb hts inX7 hown hK hP (q0 := 104) (by decide) (hgU_104 ca o) rfl 6 (by decide) wq_194 (v := .int (z 104 6)) rfl dX7_move_1 ?_
  refine qtop (x' := 1) h104_6 ?_
  refine lv_aload_n hx hb dX7_move_4 rfl (lv_at hl 0 rfl) ?_
  refine qf_get hx hb hts inX7 hown hK hP (q0 := 104) (by decide) (hgU_104 ca o) rfl 5 (by decide) wq_193 (v := .int (z 104 5)) rfl dX7_move_5 ?_
  refine qtop (x' := 1) h104_5 ?_
  refine lv_icmp_lt (tgt := 13) hx hb dX7_move_8 (by decide) (fun q => absurd q (by decide)) (fun _ => ?_)
  refine lv_iconst (v := 0) hx hb dX7_move_11 (by decide) ?_
  exact W.zret (v := 0) (ty := .boolean) hx hb hr rfl (fun t ht hW => ⟨⟨0, (), rfl, rfl, by rw [ht]; exact hP, va_K.moved hW.alike hK⟩, hS.F ht⟩) hS.2.2 dX7_move_12

set_option maxRecDepth 100000 in
set_option maxHeartbeats 4000000 in
theorem u1_allHold (l : Launch) (D : va_G) (ca : Nat → ClassId) (o : Nat) (z : Nat → Nat → Int32) (y : Nat → Nat → Int64)  (h104_4 : z 104 4 = 0) : qM l yX7_allHold cX7_allHold 2 (some .boolean) 1 60 (qPre D vwCl (qT6 ca) o 132 (qG (GU ca o) z y) [.ref (o + 104)]) (va_Qi (fun r _ => r = 1) (qB D vwCl (qT6 ca) o 132 (fun _ : Unit => qG (GU ca o) z y)) (qw_A o 132)) (qw_A o 132) := by
  refine Met.ofW (cc := cX7_allHold) (maxL := 2) (ret := (some .boolean)) (by decide) rfl ?_
  intro p e s m args below meth c s₁ B hml hv
  obtain ⟨rfl, hP, hK⟩ := hv
  have hx := B.exec
  have hb := B.bytes
  have hr := B.returns
  have hts0 := atoms_spec (ws := Cond.code yX7_allHold cX7_allHold 2 (some .boolean) :: qtbl) B.pre
  have hts : ∀ w ∈ qtbl, w.before _ s = true := fun w h => hts0 w (List.mem_cons_of_mem _ h)
  have hown : s.vm.findClass RX7 = some m.cls := findClass_of_methodNamed B.named
  have hlocks := B.notSynchronized
  have hz0 : (0 : Int32).toInt = 0 := rfl
  have hS : va_S (qw_A o 132) s.heap s.heap [] := va_S.rf
  have hl := lv_entry ([.ref (o + 104)]) (n := 2) (Nat.le_of_ble_eq_true rfl)
  rw [lg_entry_eq]
  generalize (lg_sl ([.ref (o + 104)]) ++ List.replicate (2 - (lg_sl ([.ref (o + 104)])).length) Slot.unset).toArray = ls at hl ⊢
  have hl : lv_has ls 2 [(0, .ref (o + 104))] := hl
  refine lv_iconst (v := 0) hx hb dX7_allHold_0 (by decide) ?_
  refine lv_istore_n (lv' := [(1, .int 0), (0, .ref (o + 104))]) hx hb dX7_allHold_1 rfl hl (by decide) rfl (fun ls hl => ?_)
  refine lv_iload_n hx hb dX7_allHold_2 rfl (lv_at hl 0 rfl) ?_
  refine lv_aload_n hx hb dX7_allHold_3 rfl (lv_at hl 1 rfl) ?_
  refine qf_get hx hb hts inX7 hown hK hP (q0 := 104) (by decide) (hgU_104 ca o) rfl 4 (by decide) wq_192 (v := .int (z 104 4)) rfl dX7_allHold_4 ?_
  refine qtop (x' := 0) h104_4 ?_
  refine lv_icmp_ge (tgt := 44) hx hb dX7_allHold_7 (by decide) (fun _ => ?_) (fun q => absurd (by decide) q)
  refine lv_iconst (v := 1) hx hb dX7_allHold_44 (by decide) ?_
  exact W.zret (v := 1) (ty := .boolean) hx hb hr rfl (fun t ht hW => ⟨⟨1, (), rfl, rfl, by rw [ht]; exact hP, va_K.moved hW.alike hK⟩, hS.F ht⟩) hS.2.2 dX7_allHold_45

set_option maxRecDepth 100000 in
set_option maxHeartbeats 4000000 in
theorem u1_holding (l : Launch) (D : va_G) (ca : Nat → ClassId) (o : Nat) (z : Nat → Nat → Int32) (y : Nat → Nat → Int64)  (h104_4 : z 104 4 = 0) : qM l yX7_holding cX7_holding 3 (some .int) 1 60 (qPre D vwCl (qT6 ca) o 132 (qG (GU ca o) z y) [.ref (o + 104)]) (va_Qi (fun r _ => r = 0) (qB D vwCl (qT6 ca) o 132 (fun _ : Unit => qG (GU ca o) z y)) (qw_A o 132)) (qw_A o 132) := by
  refine Met.ofW (cc := cX7_holding) (maxL := 3) (ret := (some .int)) (by decide) rfl ?_
  intro p e s m args below meth c s₁ B hml hv
  obtain ⟨rfl, hP, hK⟩ := hv
  have hx := B.exec
  have hb := B.bytes
  have hr := B.returns
  have hts0 := atoms_spec (ws := Cond.code yX7_holding cX7_holding 3 (some .int) :: qtbl) B.pre
  have hts : ∀ w ∈ qtbl, w.before _ s = true := fun w h => hts0 w (List.mem_cons_of_mem _ h)
  have hown : s.vm.findClass RX7 = some m.cls := findClass_of_methodNamed B.named
  have hlocks := B.notSynchronized
  have hz0 : (0 : Int32).toInt = 0 := rfl
  have hS : va_S (qw_A o 132) s.heap s.heap [] := va_S.rf
  have hl := lv_entry ([.ref (o + 104)]) (n := 3) (Nat.le_of_ble_eq_true rfl)
  rw [lg_entry_eq]
  generalize (lg_sl ([.ref (o + 104)]) ++ List.replicate (3 - (lg_sl ([.ref (o + 104)])).length) Slot.unset).toArray = ls at hl ⊢
  have hl : lv_has ls 3 [(0, .ref (o + 104))] := hl
  refine lv_iconst (v := 0) hx hb dX7_holding_0 (by decide) ?_
  refine lv_istore_n (lv' := [(1, .int 0), (0, .ref (o + 104))]) hx hb dX7_holding_1 rfl hl (by decide) rfl (fun ls hl => ?_)
  refine lv_iconst (v := 0) hx hb dX7_holding_2 (by decide) ?_
  refine lv_istore_n (lv' := [(2, .int 0), (1, .int 0), (0, .ref (o + 104))]) hx hb dX7_holding_3 rfl hl (by decide) rfl (fun ls hl => ?_)
  refine lv_iload_n hx hb dX7_holding_4 rfl (lv_at hl 0 rfl) ?_
  refine lv_aload_n hx hb dX7_holding_5 rfl (lv_at hl 2 rfl) ?_
  refine qf_get hx hb hts inX7 hown hK hP (q0 := 104) (by decide) (hgU_104 ca o) rfl 4 (by decide) wq_192 (v := .int (z 104 4)) rfl dX7_holding_6 ?_
  refine qtop (x' := 0) h104_4 ?_
  refine lv_icmp_ge (tgt := 55) hx hb dX7_holding_9 (by decide) (fun _ => ?_) (fun q => absurd (by decide) q)
  refine lv_iload_n hx hb dX7_holding_55 rfl (lv_at hl 1 rfl) ?_
  exact W.iret (v := 0) hx hb hr (fun t ht hW => ⟨⟨0, (), rfl, rfl, by rw [ht]; exact hP, va_K.moved hW.alike hK⟩, hS.F ht⟩) hS.2.2 dX7_holding_56

set_option maxRecDepth 100000 in
set_option maxHeartbeats 4000000 in
theorem u1_offByOne (l : Launch) (D : va_G) (ca : Nat → ClassId) (o : Nat) (z : Nat → Nat → Int32) (y : Nat → Nat → Int64)  (h104_4 : z 104 4 = 0) : qM l yX7_offByOne cX7_offByOne 4 (some .int) 1 60 (qPre D vwCl (qT6 ca) o 132 (qG (GU ca o) z y) [.ref (o + 104)]) (va_Qi (fun r _ => r = 0) (qB D vwCl (qT6 ca) o 132 (fun _ : Unit => qG (GU ca o) z y)) (qw_A o 132)) (qw_A o 132) := by
  refine Met.ofW (cc := cX7_offByOne) (maxL := 4) (ret := (some .int)) (by decide) rfl ?_
  intro p e s m args below meth c s₁ B hml hv
  obtain ⟨rfl, hP, hK⟩ := hv
  have hx := B.exec
  have hb := B.bytes
  have hr := B.returns
  have hts0 := atoms_spec (ws := Cond.code yX7_offByOne cX7_offByOne 4 (some .int) :: qtbl) B.pre
  have hts : ∀ w ∈ qtbl, w.before _ s = true := fun w h => hts0 w (List.mem_cons_of_mem _ h)
  have hown : s.vm.findClass RX7 = some m.cls := findClass_of_methodNamed B.named
  have hlocks := B.notSynchronized
  have hz0 : (0 : Int32).toInt = 0 := rfl
  have hS : va_S (qw_A o 132) s.heap s.heap [] := va_S.rf
  have hl := lv_entry ([.ref (o + 104)]) (n := 4) (Nat.le_of_ble_eq_true rfl)
  rw [lg_entry_eq]
  generalize (lg_sl ([.ref (o + 104)]) ++ List.replicate (4 - (lg_sl ([.ref (o + 104)])).length) Slot.unset).toArray = ls at hl ⊢
  have hl : lv_has ls 4 [(0, .ref (o + 104))] := hl
  refine lv_iconst (v := 0) hx hb dX7_offByOne_0 (by decide) ?_
  refine lv_istore_n (lv' := [(1, .int 0), (0, .ref (o + 104))]) hx hb dX7_offByOne_1 rfl hl (by decide) rfl (fun ls hl => ?_)
  refine lv_iconst (v := 0) hx hb dX7_offByOne_2 (by decide) ?_
  refine lv_istore_n (lv' := [(2, .int 0), (1, .int 0), (0, .ref (o + 104))]) hx hb dX7_offByOne_3 rfl hl (by decide) rfl (fun ls hl => ?_)
  refine lv_iload_n hx hb dX7_offByOne_4 rfl (lv_at hl 0 rfl) ?_
  refine lv_aload_n hx hb dX7_offByOne_5 rfl (lv_at hl 2 rfl) ?_
  refine qf_get hx hb hts inX7 hown hK hP (q0 := 104) (by decide) (hgU_104 ca o) rfl 4 (by decide) wq_192 (v := .int (z 104 4)) rfl dX7_offByOne_6 ?_
  refine qtop (x' := 0) h104_4 ?_
  refine lv_icmp_ge (tgt := 86) hx hb dX7_offByOne_9 (by decide) (fun _ => ?_) (fun q => absurd (by decide) q)
  refine lv_iload_n hx hb dX7_offByOne_86 rfl (lv_at hl 1 rfl) ?_
  exact W.iret (v := 0) hx hb hr (fun t ht hW => ⟨⟨0, (), rfl, rfl, by rw [ht]; exact hP, va_K.moved hW.alike hK⟩, hS.F ht⟩) hS.2.2 dX7_offByOne_87

set_option maxRecDepth 100000 in
set_option maxHeartbeats 4000000 in
theorem u1_nextA (l : Launch) (D : va_G) (ca : Nat → ClassId) (o : Nat) (z : Nat → Nat → Int32) (y : Nat → Nat → Int64)  (h104_6 : z 104 6 = 0) (h104_5 : z 104 5 = 1) (h104_4 : z 104 4 = 0) : qM l yX7_next cX7_next 2 (some .boolean) 2 81 (qPre D vwCl (qT6 ca) o 132 (qG (GU ca o) z y) [.ref (o + 104)]) (va_Qi (fun r u => r = 1 ∧ u.1 = qu z 104 6 1 ∧ u.2 = y) (qB D vwCl (qT6 ca) o 132 (fun u : qZ => qG (GU ca o) u.1 u.2)) (qw_A o 132)) (qw_A o 132) := by
  refine Met.ofW (cc := cX7_next) (maxL := 2) (ret := (some .boolean)) (by decide) rfl ?_
  intro p e s m args below meth c s₁ B hml hv
  obtain ⟨rfl, hP, hK⟩ := hv
  have hx := B.exec
  have hb := B.bytes
  have hr := B.returns
  have hts0 := atoms_spec (ws := Cond.code yX7_next cX7_next 2 (some .boolean) :: qtbl) B.pre
  have hts : ∀ w ∈ qtbl, w.before _ s = true := fun w h => hts0 w (List.mem_cons_of_mem _ h)
  have hown : s.vm.findClass RX7 = some m.cls := findClass_of_methodNamed B.named
  have hlocks := B.notSynchronized
  have hz0 : (0 : Int32).toInt = 0 := rfl
  have hS : va_S (qw_A o 132) s.heap s.heap [] := va_S.rf
  have hl := lv_entry ([.ref (o + 104)]) (n := 2) (Nat.le_of_ble_eq_true rfl)
  rw [lg_entry_eq]
  generalize (lg_sl ([.ref (o + 104)]) ++ List.replicate (2 - (lg_sl ([.ref (o + 104)])).length) Slot.unset).toArray = ls at hl ⊢
  have hl : lv_has ls 2 [(0, .ref (o + 104))] := hl
  refine lv_iconst (v := 0) hx hb dX7_next_0 (by decide) ?_
  refine lv_istore_n (lv' := [(1, .int 0), (0, .ref (o + 104))]) hx hb dX7_next_1 rfl hl (by decide) rfl (fun ls hl => ?_)
  refine lv_iload_n hx hb dX7_next_2 rfl (lv_at hl 0 rfl) ?_
  refine lv_ldc (v := 200000) hx hb hown (hts _ wq_606) dX7_next_3 ?_
  refine lv_icmp_ge (tgt := 30) hx hb dX7_next_5 (by decide) (fun q => absurd q (by decide)) (fun _ => ?_)
  refine lv_aload_n hx hb dX7_next_8 rfl (lv_at hl 1 rfl) ?_
  refine qc_Vi (As := []) (rest := []) (k0 := 0) (u1_moveA l D ca o z y (h104_6) (h104_5)) kc_yX7_move ⟨hx, hb, hml, hown, hts⟩ wq_607 rfl rfl ⟨Nat.le_of_ble_eq_true rfl, Nat.le_of_ble_eq_true rfl⟩ wq_all hP hK hS qw_Ai (q0 := 104) (by decide) (hgU_104 ca o _ _) rfl rfl hl.1 rfl (Nat.le_of_ble_eq_true rfl) dX7_next_9 ⟨Nat.zero_le _, Nat.zero_le _⟩ (fun r1 u1 H locs h1 hP hS _ _ => ?_)
  obtain ⟨z1, y1⟩ := u1
  obtain ⟨hr1, hz1, hy1⟩ := h1
  subst hr1
  dsimp only at hz1 hy1 hP
  subst hz1; rw [hy1] at hP
  refine lv_if_eq (tgt := 30) hx hb dX7_next_12 (by decide) (fun q => absurd q (by decide)) (fun _ => ?_)
  refine lv_aload_n hx hb dX7_next_15 rfl (lv_at hl 1 rfl) ?_
  refine qc_Vi (As := []) (rest := []) (k0 := 0) (u1_allHold l D ca o (qu z 104 6 1) y (h104_4)) kc_yX7_allHold ⟨hx, hb, hml, hown, hts⟩ wq_619 rfl rfl ⟨Nat.le_of_ble_eq_true rfl, Nat.le_of_ble_eq_true rfl⟩ wq_all hP hK hS qw_Ai (q0 := 104) (by decide) (hgU_104 ca o _ _) rfl rfl hl.1 rfl (Nat.le_of_ble_eq_true rfl) dX7_next_16 ⟨Nat.zero_le _, Nat.zero_le _⟩ (fun r2 u2 H locs h2 hP hS _ _ => ?_)
  subst h2
  refine lv_if_eq (tgt := 24) hx hb dX7_next_19 (by decide) (fun q => absurd q (by decide)) (fun _ => ?_)
  refine lv_iconst (v := 1) hx hb dX7_next_22 (by decide) ?_
  exact W.zret (v := 1) (ty := .boolean) hx hb hr rfl (fun t ht hW => ⟨⟨1, ((qu z 104 6 1), y), rfl, ⟨rfl, rfl, rfl⟩, by rw [ht]; exact hP, va_K.moved hW.alike hK⟩, hS.F ht⟩) hS.2.2 dX7_next_23

set_option maxRecDepth 100000 in
set_option maxHeartbeats 4000000 in
theorem u1_nextB (l : Launch) (D : va_G) (ca : Nat → ClassId) (o : Nat) (z : Nat → Nat → Int32) (y : Nat → Nat → Int64)  (h104_6 : z 104 6 = 1) (h104_5 : z 104 5 = 1) (h104_4 : z 104 4 = 0) : qM l yX7_next cX7_next 2 (some .boolean) 2 80 (qPre D vwCl (qT6 ca) o 132 (qG (GU ca o) z y) [.ref (o + 104)]) (va_Qi (fun r _ => r = 0) (qB D vwCl (qT6 ca) o 132 (fun _ : Unit => qG (GU ca o) z y)) (qw_A o 132)) (qw_A o 132) := by
  refine Met.ofW (cc := cX7_next) (maxL := 2) (ret := (some .boolean)) (by decide) rfl ?_
  intro p e s m args below meth c s₁ B hml hv
  obtain ⟨rfl, hP, hK⟩ := hv
  have hx := B.exec
  have hb := B.bytes
  have hr := B.returns
  have hts0 := atoms_spec (ws := Cond.code yX7_next cX7_next 2 (some .boolean) :: qtbl) B.pre
  have hts : ∀ w ∈ qtbl, w.before _ s = true := fun w h => hts0 w (List.mem_cons_of_mem _ h)
  have hown : s.vm.findClass RX7 = some m.cls := findClass_of_methodNamed B.named
  have hlocks := B.notSynchronized
  have hz0 : (0 : Int32).toInt = 0 := rfl
  have hS : va_S (qw_A o 132) s.heap s.heap [] := va_S.rf
  have hl := lv_entry ([.ref (o + 104)]) (n := 2) (Nat.le_of_ble_eq_true rfl)
  rw [lg_entry_eq]
  generalize (lg_sl ([.ref (o + 104)]) ++ List.replicate (2 - (lg_sl ([.ref (o + 104)])).length) Slot.unset).toArray = ls at hl ⊢
  have hl : lv_has ls 2 [(0, .ref (o + 104))] := hl
  refine lv_iconst (v := 0) hx hb dX7_next_0 (by decide) ?_
  refine lv_istore_n (lv' := [(1, .int 0), (0, .ref (o + 104))]) hx hb dX7_next_1 rfl hl (by decide) rfl (fun ls hl => ?_)
  refine lv_iload_n hx hb dX7_next_2 rfl (lv_at hl 0 rfl) ?_
  refine lv_ldc (v := 200000) hx hb hown (hts _ wq_606) dX7_next_3 ?_
  refine lv_icmp_ge (tgt := 30) hx hb dX7_next_5 (by decide) (fun q => absurd q (by decide)) (fun _ => ?_)
  refine lv_aload_n hx hb dX7_next_8 rfl (lv_at hl 1 rfl) ?_
  refine qc_Vi (As := []) (rest := []) (k0 := 0) (u1_moveB l D ca o z y (h104_6) (h104_5)) kc_yX7_move ⟨hx, hb, hml, hown, hts⟩ wq_607 rfl rfl ⟨Nat.le_of_ble_eq_true rfl, Nat.le_of_ble_eq_true rfl⟩ wq_all hP hK hS qw_Ai (q0 := 104) (by decide) (hgU_104 ca o _ _) rfl rfl hl.1 rfl (Nat.le_of_ble_eq_true rfl) dX7_next_9 ⟨Nat.zero_le _, Nat.zero_le _⟩ (fun r1 u1 H locs h1 hP hS _ _ => ?_)
  subst h1
  refine lv_if_eq (tgt := 30) hx hb dX7_next_12 (by decide) (fun _ => ?_) (fun q => absurd (by decide) q)
  refine lv_iconst (v := 0) hx hb dX7_next_30 (by decide) ?_
  exact W.zret (v := 0) (ty := .boolean) hx hb hr rfl (fun t ht hW => ⟨⟨0, (), rfl, rfl, by rw [ht]; exact hP, va_K.moved hW.alike hK⟩, hS.F ht⟩) hS.2.2 dX7_next_31

set_option maxRecDepth 100000 in
set_option maxHeartbeats 4000000 in
theorem u1_seek (l : Launch) (D : va_G) (ca : Nat → ClassId) (o : Nat) (z : Nat → Nat → Int32) (y : Nat → Nat → Int64)  (h1_5 : z 1 5 = 0) : qM l yX7_seek cX7_seek 2 (some .int) 4 128 (qPre D vwCl (qT6 ca) o 132 (qG (GU ca o) z y) [.ref (o + 104), .int 0]) (va_Qi (fun r u => r = 0 ∧ (∀ k : Nat, (k ≠ 104) → (k ≠ 105) → u.1 k = z k) ∧ u.2 = y) (qB D vwCl (qT6 ca) o 132 (fun u : qZ => qG (GU ca o) u.1 u.2)) (qw_A o 132)) (qw_A o 132) := by
  refine Met.ofW (cc := cX7_seek) (maxL := 2) (ret := (some .int)) (by decide) rfl ?_
  intro p e s m args below meth c s₁ B hml hv
  obtain ⟨rfl, hP, hK⟩ := hv
  have hx := B.exec
  have hb := B.bytes
  have hr := B.returns
  have hts0 := atoms_spec (ws := Cond.code yX7_seek cX7_seek 2 (some .int) :: qtbl) B.pre
  have hts : ∀ w ∈ qtbl, w.before _ s = true := fun w h => hts0 w (List.mem_cons_of_mem _ h)
  have hown : s.vm.findClass RX7 = some m.cls := findClass_of_methodNamed B.named
  have hlocks := B.notSynchronized
  have hz0 : (0 : Int32).toInt = 0 := rfl
  have hS : va_S (qw_A o 132) s.heap s.heap [] := va_S.rf
  have hl := lv_entry ([.ref (o + 104), .int 0]) (n := 2) (Nat.le_of_ble_eq_true rfl)
  rw [lg_entry_eq]
  generalize (lg_sl ([.ref (o + 104), .int 0]) ++ List.replicate (2 - (lg_sl ([.ref (o + 104), .int 0])).length) Slot.unset).toArray = ls at hl ⊢
  have hl : lv_has ls 2 [(0, .ref (o + 104)), (1, .int 0)] := hl
  refine lv_aload_n hx hb dX7_seek_0 rfl (lv_at hl 0 rfl) ?_
  refine lv_iload_n hx hb dX7_seek_1 rfl (lv_at hl 1 rfl) ?_
  refine qc_Vi (As := [.int 0]) (rest := []) (k0 := 1) (u1_start l D ca o z y (h1_5)) kc_yX7_start ⟨hx, hb, hml, hown, hts⟩ wq_591 rfl rfl ⟨Nat.le_of_ble_eq_true rfl, Nat.le_of_ble_eq_true rfl⟩ wq_all hP hK hS qw_Ai (q0 := 104) (by decide) (hgU_104 ca o _ _) rfl rfl hl.1 rfl (Nat.le_of_ble_eq_true rfl) dX7_seek_2 ⟨Nat.zero_le _, Nat.zero_le _⟩ (fun r1 u1 H locs h1 hP hS _ _ => ?_)
  obtain ⟨z1, y1⟩ := u1
  obtain ⟨h1r, h1f, h1y, h1a, h1b, h1c⟩ := h1
  dsimp only at h1f h1y h1a h1b h1c hP
  subst h1r; rw [h1y] at hP
  have g1 : ∀ k : Nat, (k ≠ 104) → (k ≠ 105) → z1 k = z k := fun k h0 h1 => (h1f k h0 h1).trans ((show ∀ k : Nat, (k ≠ 104) → (k ≠ 105) → z k = z k from (fun _ _ _ => rfl)) k h0 h1)
  have f1_1_5 : z1 1 5 = 0 := (congrFun (h1f 1 (by decide) (by decide)) 5).trans (h1_5)
  refine lv_if_ne (tgt := 11) hx hb dX7_seek_5 (by decide) (fun _ => ?_) (fun q => absurd q (by decide))
  refine lv_aload_n hx hb dX7_seek_11 rfl (lv_at hl 0 rfl) ?_
  refine qc_Vi (As := []) (rest := []) (k0 := 0) (u1_nextA l D ca o z1 y (h1b) (h1a) (h1c)) kc_yX7_next ⟨hx, hb, hml, hown, hts⟩ wq_602 rfl rfl ⟨Nat.le_of_ble_eq_true rfl, Nat.le_of_ble_eq_true rfl⟩ wq_all hP hK hS qw_Ai (q0 := 104) (by decide) (hgU_104 ca o _ _) rfl rfl hl.1 rfl (Nat.le_of_ble_eq_true rfl) dX7_seek_12 ⟨Nat.zero_le _, Nat.zero_le _⟩ (fun r2 u2 H locs h2 hP hS _ _ => ?_)
  obtain ⟨z2, y2⟩ := u2
  obtain ⟨hr2, hz2, hy2⟩ := h2
  subst hr2
  dsimp only at hz2 hy2 hP
  subst hz2; rw [hy2] at hP
  refine lv_if_eq (tgt := 22) hx hb dX7_seek_15 (by decide) (fun q => absurd q (by decide)) (fun _ => ?_)
  refine lv_iconst (v := 0) hx hb dX7_seek_18 (by decide) ?_
  refine lv_goto (tgt := 24) hx hb dX7_seek_19 (by decide) ?_
  exact W.iret (v := 0) hx hb hr (fun t ht hW => ⟨⟨0, ((qu z1 104 6 1), y), rfl, ⟨rfl, (fun (k : Nat) (h0 : k ≠ 104) (h1 : k ≠ 105) => by simp only [qu_ne h0]; exact g1 k h0 h1), rfl⟩, by rw [ht]; exact hP, va_K.moved hW.alike hK⟩, hS.F ht⟩) hS.2.2 dX7_seek_24

theorem gb_or {x b : Int32} (h1 : 0 ≤ x.toInt) (h2 : x.toInt < 1024) (h3 : 0 ≤ b.toInt) (h4 : b.toInt < 1024) : 0 ≤ (x ||| b).toInt ∧ (x ||| b).toInt < 1024 := by
  obtain ⟨i, hi⟩ := Int.eq_ofNat_of_zero_le h1
  obtain ⟨j, hj⟩ := Int.eq_ofNat_of_zero_le h3
  have hi1 : i < 2 ^ 10 := by omega
  have hj1 : j < 2 ^ 10 := by omega
  have e : x ||| b = nI (i ||| j) := by
    rw [gi_ofI hi, gi_ofI hj]
    apply Int32.toBitVec_inj.mp
    rw [Int32.toBitVec_or]
    show (BitVec.ofNat 32 i ||| BitVec.ofNat 32 j) = BitVec.ofNat 32 (i ||| j)
    exact (BitVec.ofNat_or ..).symm
  have hl : i ||| j < 2 ^ 10 := Nat.or_lt_two_pow hi1 hj1
  rw [e, nI_toInt (by omega)]
  omega
theorem gb_orT {x b : Int32} (h1 : 0 ≤ x.toInt) (h2 : x.toInt < 1024) (h3 : 0 < b.toInt) (h4 : b.toInt < 1024) : 0 < (x ||| b).toInt := by
  obtain ⟨i, hi⟩ := Int.eq_ofNat_of_zero_le h1
  obtain ⟨j, hj⟩ := Int.eq_ofNat_of_zero_le (Int.le_of_lt h3)
  have hi1 : i < 2 ^ 10 := by omega
  have hj1 : j < 2 ^ 10 := by omega
  have e : x ||| b = nI (i ||| j) := by
    rw [gi_ofI hi, gi_ofI hj]
    apply Int32.toBitVec_inj.mp
    rw [Int32.toBitVec_or]
    show (BitVec.ofNat 32 i ||| BitVec.ofNat 32 j) = BitVec.ofNat 32 (i ||| j)
    exact (BitVec.ofNat_or ..).symm
  have hl : i ||| j < 2 ^ 10 := Nat.or_lt_two_pow hi1 hj1
  have hg : j ≤ i ||| j := Nat.right_le_or
  rw [e, nI_toInt (by omega)]
  omega

set_option maxRecDepth 100000 in
set_option maxHeartbeats 4000000 in
theorem u1_fillMany (l : Launch) (D : va_G) (ca : Nat → ClassId) (o : Nat) (z : Nat → Nat → Int32) (y : Nat → Nat → Int64)   : qM l yJ7_fill_53178 cJ7_fill_53178 4 none 1 60 (qPre D vwCl (qT6 ca) o 132 (qG (GU ca o) z y) [.ref (o + 109), .int 0]) (va_Qv (fun u => (∀ k : Nat, (k ≠ 109) → u.1 k = z k) ∧ u.2 = y ∧ ∀ j : Nat, j < 1024 → u.1 109 j = 0) (qB D vwCl (qT6 ca) o 132 (fun u : qZ => qG (GU ca o) u.1 u.2)) (qw_A o 132)) (qw_A o 132) := by
  refine Met.ofW (cc := cJ7_fill_53178) (maxL := 4) (ret := none) (by decide) rfl ?_
  intro p e s m args below meth c s₁ B hml hv
  obtain ⟨rfl, hP, hK⟩ := hv
  have hx := B.exec
  have hb := B.bytes
  have hr := B.returns
  have hts0 := atoms_spec (ws := Cond.code yJ7_fill_53178 cJ7_fill_53178 4 none :: qtbl) B.pre
  have hts : ∀ w ∈ qtbl, w.before _ s = true := fun w h => hts0 w (List.mem_cons_of_mem _ h)
  have hown : s.vm.findClass RJ7 = some m.cls := findClass_of_methodNamed B.named
  have hlocks := B.notSynchronized
  have hz0 : (0 : Int32).toInt = 0 := rfl
  have hS : va_S (qw_A o 132) s.heap s.heap [] := va_S.rf
  have hl := lv_entry ([.ref (o + 109), .int 0]) (n := 4) (Nat.le_of_ble_eq_true rfl)
  rw [lg_entry_eq]
  generalize (lg_sl ([.ref (o + 109), .int 0]) ++ List.replicate (4 - (lg_sl ([.ref (o + 109), .int 0])).length) Slot.unset).toArray = ls at hl ⊢
  have hl : lv_has ls 4 [(0, .ref (o + 109)), (1, .int 0)] := hl
  refine lv_iconst (v := 0) hx hb dJ7_fill_53178_0 (by decide) ?_
  refine lv_istore_n (lv' := [(2, .int 0), (0, .ref (o + 109)), (1, .int 0)]) hx hb dJ7_fill_53178_1 rfl hl (by decide) rfl (fun ls hl => ?_)
  refine lv_aload_n hx hb dJ7_fill_53178_2 rfl (lv_at hl 1 rfl) ?_
  refine qa_len hx hb hK hP (q0 := 109) (by decide) 0 (hgU_109 ca o) rfl (v := 1024) rfl dJ7_fill_53178_3 ?_
  refine lv_istore_n (lv' := [(3, .int 1024), (2, .int 0), (0, .ref (o + 109)), (1, .int 0)]) hx hb dJ7_fill_53178_4 rfl hl (by decide) rfl (fun ls hl => ?_)
  have loop1 : ∀ (n i1 : Nat) (x1 : Int32) (z1 : Nat → Nat → Int32), 1024 < i1 + n → i1 ≤ 1024 → 0 ≤ i1 → x1.toInt = (i1 : Int) → (∀ k : Nat, (k ≠ 109) → z1 k = z k) → (∀ j : Nat, j < i1 → z1 109 j = 0) → ∀ (H : Heap) (locs : List Loc), qw_P D vwCl o 132 (qG (GU ca o) z1 y) H → va_S (qw_A o 132) s.heap H locs → ∀ (ls : Array Slot), lv_has ls 4 [(3, .int 1024), (2, .int x1), (0, .ref (o + 109)), (1, .int 0)] → W p l e (headSpec (Cond.code yJ7_fill_53178 cJ7_fill_53178 4 none :: qtbl) ({ frames := 1, cells := 0, slots := 0, locals := 60 })).room s m (([.ref (o + 109), .int 0] : List Value).toArray) below meth c H locs 0 0 (MQ below (va_Qv (fun u => (∀ k : Nat, (k ≠ 109) → u.1 k = z k) ∧ u.2 = y ∧ ∀ j : Nat, j < 1024 → u.1 109 j = 0) (qB D vwCl (qT6 ca) o 132 (fun u : qZ => qG (GU ca o) u.1 u.2)) (qw_A o 132)) (([.ref (o + 109), .int 0] : List Value).toArray) s 0 0 (qw_A o 132)) (F0 m 5 ls []) := by
    intro n
    induction n with
    | zero => intro i1 x1 z1 hb1 hi1; exact absurd hb1 (by omega)
    | succ n ih =>
      intro i1 x1 z1 hb1 hi1 ho1 hx1 g1 n1 H locs hP hS ls hl
      refine lv_iload_n hx hb dJ7_fill_53178_5 rfl (lv_at hl 1 rfl) ?_
      refine lv_iload_n hx hb dJ7_fill_53178_6 rfl (lv_at hl 0 rfl) ?_
      refine lv_icmp_ge (tgt := 20) hx hb dJ7_fill_53178_7 (by decide) (fun c2 => ?_) (fun c2 => ?_)
      · have t2 : x1.toInt ≥ (1024 : Int) := gl_le c2
        exact W.vret hx hb hr (fun t ht hW => ⟨⟨(z1, y), rfl, ⟨(fun (k : Nat) (h0 : k ≠ 109) => g1 k h0), rfl, fun j h => n1 j (by omega)⟩, by rw [ht]; exact hP, va_K.moved hW.alike hK⟩, hS.F ht⟩) hS.2.2 dJ7_fill_53178_20
      · have t2 : x1.toInt < (1024 : Int) := gl_nle c2
        refine lv_aload_n hx hb dJ7_fill_53178_10 rfl (lv_at hl 2 rfl) ?_
        refine lv_iload_n hx hb dJ7_fill_53178_11 rfl (lv_at hl 1 rfl) ?_
        refine lv_iload_n hx hb dJ7_fill_53178_12 rfl (lv_at hl 3 rfl) ?_
        refine qa_iast hx hb hK hP hS qw_Ai (q0 := 109) (by decide) 0 (N := 1024) (hgU_109 ca o) rfl (gi_in (by omega) (by omega)) dJ7_fill_53178_13 (fun H locs hP hS => ?_)
        obtain ⟨x3, e3⟩ : ∃ t : Int32, t = x1 + 1 := ⟨_, rfl⟩
        refine lv_iinc (v := x3) (lv' := [(2, .int x3), (3, .int 1024), (0, .ref (o + 109)), (1, .int 0)]) hx hb dJ7_fill_53178_14 hl (k := 1) rfl (by rw [e3]; rfl) (by decide) rfl (fun ls hl => ?_)
        refine lv_goto (tgt := 5) hx hb dJ7_fill_53178_17 (by decide) ?_
        exact ih (i1 + 1) x3 (qu z1 109 (x1.toNatClampNeg) 0) (by omega) (by omega) (by omega) (by rw [e3]; rw [gi_add (by rw [hx1]; show _ ≤ _ + (1 : Int); omega) (by rw [hx1]; show _ + (1 : Int) ≤ _; omega), hx1]; rfl) (fun (k : Nat) (h0 : k ≠ 109) => by simp only [qu_ne h0]; exact g1 k h0) (gfill_step hx1 n1) _ _ hP hS _ (lv_sub hl [1, 0, 2, 3] rfl)
  exact loop1 1025 0 0 z (by omega) (by omega) (by omega) rfl (fun _ _ => rfl) (fun j h => absurd h (by omega)) _ _ hP hS _ (lv_sub hl [0, 1, 2, 3] rfl)

set_option maxRecDepth 100000 in
set_option maxHeartbeats 4000000 in
theorem u1_forget (l : Launch) (D : va_G) (ca : Nat → ClassId) (o : Nat) (z : Nat → Nat → Int32) (y : Nat → Nat → Int64)   : qM l yX3_forget cX3_forget 1 none 1 60 (qPre D vwCl (qT6 ca) o 132 (qG (GU ca o) z y) [.ref (o + 108)]) (va_Qv (fun u => u.1 = qu z 108 1 0 ∧ u.2 = y) (qB D vwCl (qT6 ca) o 132 (fun u : qZ => qG (GU ca o) u.1 u.2)) (qw_A o 132)) (qw_A o 132) := by
  refine Met.ofW (cc := cX3_forget) (maxL := 1) (ret := none) (by decide) rfl ?_
  intro p e s m args below meth c s₁ B hml hv
  obtain ⟨rfl, hP, hK⟩ := hv
  have hx := B.exec
  have hb := B.bytes
  have hr := B.returns
  have hts0 := atoms_spec (ws := Cond.code yX3_forget cX3_forget 1 none :: qtbl) B.pre
  have hts : ∀ w ∈ qtbl, w.before _ s = true := fun w h => hts0 w (List.mem_cons_of_mem _ h)
  have hown : s.vm.findClass RX3 = some m.cls := findClass_of_methodNamed B.named
  have hlocks := B.notSynchronized
  have hz0 : (0 : Int32).toInt = 0 := rfl
  have hS : va_S (qw_A o 132) s.heap s.heap [] := va_S.rf
  have hl := lv_entry ([.ref (o + 108)]) (n := 1) (Nat.le_of_ble_eq_true rfl)
  rw [lg_entry_eq]
  generalize (lg_sl ([.ref (o + 108)]) ++ List.replicate (1 - (lg_sl ([.ref (o + 108)])).length) Slot.unset).toArray = ls at hl ⊢
  have hl : lv_has ls 1 [(0, .ref (o + 108))] := hl
  refine lv_aload_n hx hb dX3_forget_0 rfl (lv_at hl 0 rfl) ?_
  refine lv_iconst (v := 0) hx hb dX3_forget_1 (by decide) ?_
  refine qf_put hx hb hts inX3 tyX3 tyX3_ok nmX3 hown hK hP hS qw_Ai (q0 := 108) (by decide) (hgU_108 ca o) rfl 1 (by decide) wq_217 rfl (x := 0) 1 rfl rfl rfl (Nat.le_of_ble_eq_true rfl) dX3_forget_2 (fun H locs hP hS => ?_)
  exact W.vret hx hb hr (fun t ht hW => ⟨⟨((qu z 108 1 0), y), rfl, ⟨rfl, rfl⟩, by rw [ht]; exact hP, va_K.moved hW.alike hK⟩, hS.F ht⟩) hS.2.2 dX3_forget_5

set_option maxRecDepth 100000 in
set_option maxHeartbeats 4000000 in
theorem u1_countAll (l : Launch) (D : va_G) (ca : Nat → ClassId) (o : Nat) (z : Nat → Nat → Int32) (y : Nat → Nat → Int64)  (h104_6 : z 104 6 = 0) (h104_5 : z 104 5 = 1) (h104_4 : z 104 4 = 0) : qM l yX3_countAll cX3_countAll 5 none 2 83 (qPre D vwCl (qT6 ca) o 132 (qG (GU ca o) z y) [.ref (o + 108), .ref (o + 104)]) (va_Qv (fun u => (∀ k : Nat, (k ≠ 104) → (k ≠ 109) → u.1 k = z k) ∧ u.2 = y ∧ gMANY (u.1 109)) (qB D vwCl (qT6 ca) o 132 (fun u : qZ => qG (GU ca o) u.1 u.2)) (qw_A o 132)) (qw_A o 132) := by
  refine Met.ofW (cc := cX3_countAll) (maxL := 5) (ret := none) (by decide) rfl ?_
  intro p e s m args below meth c s₁ B hml hv
  obtain ⟨rfl, hP, hK⟩ := hv
  have hx := B.exec
  have hb := B.bytes
  have hr := B.returns
  have hts0 := atoms_spec (ws := Cond.code yX3_countAll cX3_countAll 5 none :: qtbl) B.pre
  have hts : ∀ w ∈ qtbl, w.before _ s = true := fun w h => hts0 w (List.mem_cons_of_mem _ h)
  have hown : s.vm.findClass RX3 = some m.cls := findClass_of_methodNamed B.named
  have hlocks := B.notSynchronized
  have hz0 : (0 : Int32).toInt = 0 := rfl
  have hS : va_S (qw_A o 132) s.heap s.heap [] := va_S.rf
  have hl := lv_entry ([.ref (o + 108), .ref (o + 104)]) (n := 5) (Nat.le_of_ble_eq_true rfl)
  rw [lg_entry_eq]
  generalize (lg_sl ([.ref (o + 108), .ref (o + 104)]) ++ List.replicate (5 - (lg_sl ([.ref (o + 108), .ref (o + 104)])).length) Slot.unset).toArray = ls at hl ⊢
  have hl : lv_has ls 5 [(0, .ref (o + 108)), (1, .ref (o + 104))] := hl
  refine lv_aload_n hx hb dX3_countAll_0 rfl (lv_at hl 0 rfl) ?_
  refine qf_get hx hb hts inX3 hown hK hP (q0 := 108) (by decide) (hgU_108 ca o) rfl 0 (by decide) wq_216 (v := .ref (o + 109)) rfl dX3_countAll_1 ?_
  refine lv_iconst (v := 0) hx hb dX3_countAll_4 (by decide) ?_
  refine qc_Sv (As := [.ref (o + 109), .int 0]) (rest := []) (k0 := 2) (u1_fillMany l D ca o z y) kc_yJ7_fill_53178 ⟨hx, hb, hml, hown, hts⟩ wq_637 rfl rfl ⟨Nat.le_of_ble_eq_true rfl, Nat.le_of_ble_eq_true rfl⟩ wq_all hP hK hS qw_Ai rfl hl.1 rfl (Nat.le_of_ble_eq_true rfl) dX3_countAll_5 ⟨Nat.zero_le _, Nat.zero_le _⟩ (fun u1 H locs h1 hP hS _ _ => ?_)
  obtain ⟨z1, y1⟩ := u1
  obtain ⟨h1f, h1y, h1n⟩ := h1
  dsimp only at h1f h1y h1n hP
  rw [h1y] at hP
  have g1 : ∀ k : Nat, (k ≠ 104) → (k ≠ 109) → z1 k = z k := fun k h0 h1 => (h1f k h1).trans ((show ∀ k : Nat, (k ≠ 104) → (k ≠ 109) → z k = z k from (fun _ _ _ => rfl)) k h0 h1)
  have f1_104_4 : z1 104 4 = 0 := (congrFun (h1f 104 (by decide)) 4).trans (h104_4)
  have f1_104_5 : z1 104 5 = 1 := (congrFun (h1f 104 (by decide)) 5).trans (h104_5)
  have f1_104_6 : z1 104 6 = 0 := (congrFun (h1f 104 (by decide)) 6).trans (h104_6)
  refine lv_iconst (v := 0) hx hb dX3_countAll_8 (by decide) ?_
  refine lv_istore_n (lv' := [(2, .int 0), (0, .ref (o + 108)), (1, .ref (o + 104))]) hx hb dX3_countAll_9 rfl hl (by decide) rfl (fun ls hl => ?_)
  refine lv_iload_n hx hb dX3_countAll_10 rfl (lv_at hl 0 rfl) ?_
  refine lv_ldc (v := 200000) hx hb hown (hts _ wq_638) dX3_countAll_11 ?_
  refine lv_icmp_ge (tgt := 42) hx hb dX3_countAll_13 (by decide) (fun q => absurd q (by decide)) (fun _ => ?_)
  refine lv_aload_n hx hb dX3_countAll_16 rfl (lv_at hl 2 rfl) ?_
  refine qc_Vi (As := []) (rest := []) (k0 := 0) (u1_moveA l D ca o z1 y (f1_104_6) (f1_104_5)) kc_yX7_move ⟨hx, hb, hml, hown, hts⟩ wq_639 rfl rfl ⟨Nat.le_of_ble_eq_true rfl, Nat.le_of_ble_eq_true rfl⟩ wq_all hP hK hS qw_Ai (q0 := 104) (by decide) (hgU_104 ca o _ _) rfl rfl hl.1 rfl (Nat.le_of_ble_eq_true rfl) dX3_countAll_17 ⟨Nat.zero_le _, Nat.zero_le _⟩ (fun r2 u2 H locs h2 hP hS _ _ => ?_)
  obtain ⟨z2, y2⟩ := u2
  obtain ⟨hr2, hz2, hy2⟩ := h2
  subst hr2
  dsimp only at hz2 hy2 hP
  subst hz2; rw [hy2] at hP
  refine lv_if_eq (tgt := 42) hx hb dX3_countAll_20 (by decide) (fun q => absurd q (by decide)) (fun _ => ?_)
  refine lv_aload_n hx hb dX3_countAll_23 rfl (lv_at hl 1 rfl) ?_
  refine qf_get hx hb hts inX3 hown hK hP (q0 := 108) (by decide) (hgU_108 ca o) rfl 0 (by decide) wq_216 (v := .ref (o + 109)) rfl dX3_countAll_24 ?_
  refine lv_aload_n hx hb dX3_countAll_27 rfl (lv_at hl 2 rfl) ?_
  refine qc_Vi (As := []) (rest := [.ref (o + 109)]) (k0 := 0) (u1_holding l D ca o (qu z1 104 6 1) y (f1_104_4)) kc_yX7_holding ⟨hx, hb, hml, hown, hts⟩ wq_640 rfl rfl ⟨Nat.le_of_ble_eq_true rfl, Nat.le_of_ble_eq_true rfl⟩ wq_all hP hK hS qw_Ai (q0 := 104) (by decide) (hgU_104 ca o _ _) rfl rfl hl.1 rfl (Nat.le_of_ble_eq_true rfl) dX3_countAll_28 ⟨Nat.zero_le _, Nat.zero_le _⟩ (fun r3 u3 H locs h3 hP hS _ _ => ?_)
  subst h3
  refine lv_dup2_11 hx hb dX3_countAll_31 rfl rfl ?_
  refine qa_iald hx hb hK hP (q0 := 109) (by decide) 0 (N := 1024) (hgU_109 ca o) rfl (gi_in (by decide) (by decide)) dX3_countAll_32 ?_
  refine qtop (x' := 0) (h1n 0 (by decide)) ?_
  refine lv_iconst (v := 1) hx hb dX3_countAll_33 (by decide) ?_
  refine lv_iadd hx hb dX3_countAll_34 ?_
  refine qtop (x' := 1) (by decide) ?_
  refine qa_iast hx hb hK hP hS qw_Ai (q0 := 109) (by decide) 0 (N := 1024) (hgU_109 ca o) rfl (gi_in (by decide) (by decide)) dX3_countAll_35 (fun H locs hP hS => ?_)
  refine lv_iinc (v := 1) (lv' := [(2, .int 1), (0, .ref (o + 108)), (1, .ref (o + 104))]) hx hb dX3_countAll_36 hl (k := 0) rfl (by decide) (by decide) rfl (fun ls hl => ?_)
  refine lv_goto (tgt := 10) hx hb dX3_countAll_39 (by decide) ?_
  refine lv_iload_n hx hb dX3_countAll_10 rfl (lv_at hl 0 rfl) ?_
  refine lv_ldc (v := 200000) hx hb hown (hts _ wq_638) dX3_countAll_11 ?_
  refine lv_icmp_ge (tgt := 42) hx hb dX3_countAll_13 (by decide) (fun q => absurd q (by decide)) (fun _ => ?_)
  refine lv_aload_n hx hb dX3_countAll_16 rfl (lv_at hl 2 rfl) ?_
  refine qc_Vi (As := []) (rest := []) (k0 := 0) (u1_moveB l D ca o (qu (qu z1 104 6 1) 109 ((0 : Int32).toNatClampNeg) 1) y rfl (f1_104_5)) kc_yX7_move ⟨hx, hb, hml, hown, hts⟩ wq_639 rfl rfl ⟨Nat.le_of_ble_eq_true rfl, Nat.le_of_ble_eq_true rfl⟩ wq_all hP hK hS qw_Ai (q0 := 104) (by decide) (hgU_104 ca o _ _) rfl rfl hl.1 rfl (Nat.le_of_ble_eq_true rfl) dX3_countAll_17 ⟨Nat.zero_le _, Nat.zero_le _⟩ (fun r4 u4 H locs h4 hP hS _ _ => ?_)
  subst h4
  refine lv_if_eq (tgt := 42) hx hb dX3_countAll_20 (by decide) (fun _ => ?_) (fun q => absurd (by decide) q)
  refine lv_iconst (v := 0) hx hb dX3_countAll_42 (by decide) ?_
  refine lv_istore_n (lv' := [(2, .int 0), (0, .ref (o + 108)), (1, .ref (o + 104))]) hx hb dX3_countAll_43 rfl hl (by decide) rfl (fun ls hl => ?_)
  refine lv_iload_n hx hb dX3_countAll_44 rfl (lv_at hl 0 rfl) ?_
  refine lv_bipush (v := 10) hx hb dX3_countAll_45 (by decide) ?_
  refine lv_icmp_ge (tgt := 103) hx hb dX3_countAll_47 (by decide) (fun q => absurd q (by decide)) (fun _ => ?_)
  refine lv_iconst (v := 1) hx hb dX3_countAll_50 (by decide) ?_
  refine lv_iload_n hx hb dX3_countAll_51 rfl (lv_at hl 0 rfl) ?_
  refine lv_ishl hx hb dX3_countAll_52 ?_
  refine qtop (x' := 1) (by decide) ?_
  refine lv_istore_n (lv' := [(3, .int 1), (2, .int 0), (0, .ref (o + 108)), (1, .ref (o + 104))]) hx hb dX3_countAll_53 rfl hl (by decide) rfl (fun ls hl => ?_)
  refine lv_iconst (v := 0) hx hb dX3_countAll_54 (by decide) ?_
  refine lv_istore (lv' := [(4, .int 0), (3, .int 1), (2, .int 0), (0, .ref (o + 108)), (1, .ref (o + 104))]) hx hb dX3_countAll_55 hl (by decide) rfl (fun ls hl => ?_)
  have loop5 : ∀ (n i5 : Nat) (x5 : Int32) (z5 : Nat → Nat → Int32), 1024 < i5 + n → i5 ≤ 1024 → 0 ≤ i5 → x5.toInt = (i5 : Int) → (∀ k : Nat, (k ≠ 104) → (k ≠ 109) → z5 k = z k) → (gMANY (z5 109)) → ∀ (H : Heap) (locs : List Loc), qw_P D vwCl o 132 (qG (GU ca o) z5 y) H → va_S (qw_A o 132) s.heap H locs → ∀ (ls : Array Slot), lv_has ls 5 [(4, .int x5), (3, .int 1), (2, .int 0), (0, .ref (o + 108)), (1, .ref (o + 104))] → W p l e (headSpec (Cond.code yX3_countAll cX3_countAll 5 none :: qtbl) ({ frames := 2, cells := 0, slots := 0, locals := 83 })).room s m (([.ref (o + 108), .ref (o + 104)] : List Value).toArray) below meth c H locs 0 0 (MQ below (va_Qv (fun u => (∀ k : Nat, (k ≠ 104) → (k ≠ 109) → u.1 k = z k) ∧ u.2 = y ∧ gMANY (u.1 109)) (qB D vwCl (qT6 ca) o 132 (fun u : qZ => qG (GU ca o) u.1 u.2)) (qw_A o 132)) (([.ref (o + 108), .ref (o + 104)] : List Value).toArray) s 0 0 (qw_A o 132)) (F0 m 57 ls []) := by
    intro n
    induction n with
    | zero => intro i5 x5 z5 hb5 hi5; exact absurd hb5 (by omega)
    | succ n ih =>
      intro i5 x5 z5 hb5 hi5 ho5 hx5 g5 m5 H locs hP hS ls hl
      refine lv_iload hx hb dX3_countAll_57 (lv_at hl 0 rfl) ?_
      refine lv_sipush (v := 1024) hx hb dX3_countAll_59 (by decide) ?_
      refine lv_icmp_ge (tgt := 97) hx hb dX3_countAll_62 (by decide) (fun c6 => ?_) (fun c6 => ?_)
      · have t6 : x5.toInt ≥ (1024 : Int) := gl_le c6
        refine lv_iinc (v := 1) (lv' := [(2, .int 1), (4, .int x5), (3, .int 1), (0, .ref (o + 108)), (1, .ref (o + 104))]) hx hb dX3_countAll_97 hl (k := 2) rfl (by decide) (by decide) rfl (fun ls hl => ?_)
        refine lv_goto (tgt := 44) hx hb dX3_countAll_100 (by decide) ?_
        refine lv_iload_n hx hb dX3_countAll_44 rfl (lv_at hl 0 rfl) ?_
        refine lv_bipush (v := 10) hx hb dX3_countAll_45 (by decide) ?_
        refine lv_icmp_ge (tgt := 103) hx hb dX3_countAll_47 (by decide) (fun q => absurd q (by decide)) (fun _ => ?_)
        refine lv_iconst (v := 1) hx hb dX3_countAll_50 (by decide) ?_
        refine lv_iload_n hx hb dX3_countAll_51 rfl (lv_at hl 0 rfl) ?_
        refine lv_ishl hx hb dX3_countAll_52 ?_
        refine qtop (x' := 2) (by decide) ?_
        refine lv_istore_n (lv' := [(3, .int 2), (2, .int 1), (4, .int x5), (0, .ref (o + 108)), (1, .ref (o + 104))]) hx hb dX3_countAll_53 rfl hl (by decide) rfl (fun ls hl => ?_)
        refine lv_iconst (v := 0) hx hb dX3_countAll_54 (by decide) ?_
        refine lv_istore (lv' := [(4, .int 0), (3, .int 2), (2, .int 1), (0, .ref (o + 108)), (1, .ref (o + 104))]) hx hb dX3_countAll_55 hl (by decide) rfl (fun ls hl => ?_)
        have loop7 : ∀ (n i7 : Nat) (x7 : Int32) (z7 : Nat → Nat → Int32), 1024 < i7 + n → i7 ≤ 1024 → 0 ≤ i7 → x7.toInt = (i7 : Int) → (∀ k : Nat, (k ≠ 104) → (k ≠ 109) → z7 k = z k) → (gMANY (z7 109)) → ∀ (H : Heap) (locs : List Loc), qw_P D vwCl o 132 (qG (GU ca o) z7 y) H → va_S (qw_A o 132) s.heap H locs → ∀ (ls : Array Slot), lv_has ls 5 [(4, .int x7), (3, .int 2), (2, .int 1), (0, .ref (o + 108)), (1, .ref (o + 104))] → W p l e (headSpec (Cond.code yX3_countAll cX3_countAll 5 none :: qtbl) ({ frames := 2, cells := 0, slots := 0, locals := 83 })).room s m (([.ref (o + 108), .ref (o + 104)] : List Value).toArray) below meth c H locs 0 0 (MQ below (va_Qv (fun u => (∀ k : Nat, (k ≠ 104) → (k ≠ 109) → u.1 k = z k) ∧ u.2 = y ∧ gMANY (u.1 109)) (qB D vwCl (qT6 ca) o 132 (fun u : qZ => qG (GU ca o) u.1 u.2)) (qw_A o 132)) (([.ref (o + 108), .ref (o + 104)] : List Value).toArray) s 0 0 (qw_A o 132)) (F0 m 57 ls []) := by
          intro n
          induction n with
          | zero => intro i7 x7 z7 hb7 hi7; exact absurd hb7 (by omega)
          | succ n ih =>
            intro i7 x7 z7 hb7 hi7 ho7 hx7 g7 m7 H locs hP hS ls hl
            refine lv_iload hx hb dX3_countAll_57 (lv_at hl 0 rfl) ?_
            refine lv_sipush (v := 1024) hx hb dX3_countAll_59 (by decide) ?_
            refine lv_icmp_ge (tgt := 97) hx hb dX3_countAll_62 (by decide) (fun c8 => ?_) (fun c8 => ?_)
            · have t8 : x7.toInt ≥ (1024 : Int) := gl_le c8
              refine lv_iinc (v := 2) (lv' := [(2, .int 2), (4, .int x7), (3, .int 2), (0, .ref (o + 108)), (1, .ref (o + 104))]) hx hb dX3_countAll_97 hl (k := 2) rfl (by decide) (by decide) rfl (fun ls hl => ?_)
              refine lv_goto (tgt := 44) hx hb dX3_countAll_100 (by decide) ?_
              refine lv_iload_n hx hb dX3_countAll_44 rfl (lv_at hl 0 rfl) ?_
              refine lv_bipush (v := 10) hx hb dX3_countAll_45 (by decide) ?_
              refine lv_icmp_ge (tgt := 103) hx hb dX3_countAll_47 (by decide) (fun q => absurd q (by decide)) (fun _ => ?_)
              refine lv_iconst (v := 1) hx hb dX3_countAll_50 (by decide) ?_
              refine lv_iload_n hx hb dX3_countAll_51 rfl (lv_at hl 0 rfl) ?_
              refine lv_ishl hx hb dX3_countAll_52 ?_
              refine qtop (x' := 4) (by decide) ?_
              refine lv_istore_n (lv' := [(3, .int 4), (2, .int 2), (4, .int x7), (0, .ref (o + 108)), (1, .ref (o + 104))]) hx hb dX3_countAll_53 rfl hl (by decide) rfl (fun ls hl => ?_)
              refine lv_iconst (v := 0) hx hb dX3_countAll_54 (by decide) ?_
              refine lv_istore (lv' := [(4, .int 0), (3, .int 4), (2, .int 2), (0, .ref (o + 108)), (1, .ref (o + 104))]) hx hb dX3_countAll_55 hl (by decide) rfl (fun ls hl => ?_)
              have loop9 : ∀ (n i9 : Nat) (x9 : Int32) (z9 : Nat → Nat → Int32), 1024 < i9 + n → i9 ≤ 1024 → 0 ≤ i9 → x9.toInt = (i9 : Int) → (∀ k : Nat, (k ≠ 104) → (k ≠ 109) → z9 k = z k) → (gMANY (z9 109)) → ∀ (H : Heap) (locs : List Loc), qw_P D vwCl o 132 (qG (GU ca o) z9 y) H → va_S (qw_A o 132) s.heap H locs → ∀ (ls : Array Slot), lv_has ls 5 [(4, .int x9), (3, .int 4), (2, .int 2), (0, .ref (o + 108)), (1, .ref (o + 104))] → W p l e (headSpec (Cond.code yX3_countAll cX3_countAll 5 none :: qtbl) ({ frames := 2, cells := 0, slots := 0, locals := 83 })).room s m (([.ref (o + 108), .ref (o + 104)] : List Value).toArray) below meth c H locs 0 0 (MQ below (va_Qv (fun u => (∀ k : Nat, (k ≠ 104) → (k ≠ 109) → u.1 k = z k) ∧ u.2 = y ∧ gMANY (u.1 109)) (qB D vwCl (qT6 ca) o 132 (fun u : qZ => qG (GU ca o) u.1 u.2)) (qw_A o 132)) (([.ref (o + 108), .ref (o + 104)] : List Value).toArray) s 0 0 (qw_A o 132)) (F0 m 57 ls []) := by
                intro n
                induction n with
                | zero => intro i9 x9 z9 hb9 hi9; exact absurd hb9 (by omega)
                | succ n ih =>
                  intro i9 x9 z9 hb9 hi9 ho9 hx9 g9 m9 H locs hP hS ls hl
                  refine lv_iload hx hb dX3_countAll_57 (lv_at hl 0 rfl) ?_
                  refine lv_sipush (v := 1024) hx hb dX3_countAll_59 (by decide) ?_
                  refine lv_icmp_ge (tgt := 97) hx hb dX3_countAll_62 (by decide) (fun c10 => ?_) (fun c10 => ?_)
                  · have t10 : x9.toInt ≥ (1024 : Int) := gl_le c10
                    refine lv_iinc (v := 3) (lv' := [(2, .int 3), (4, .int x9), (3, .int 4), (0, .ref (o + 108)), (1, .ref (o + 104))]) hx hb dX3_countAll_97 hl (k := 2) rfl (by decide) (by decide) rfl (fun ls hl => ?_)
                    refine lv_goto (tgt := 44) hx hb dX3_countAll_100 (by decide) ?_
                    refine lv_iload_n hx hb dX3_countAll_44 rfl (lv_at hl 0 rfl) ?_
                    refine lv_bipush (v := 10) hx hb dX3_countAll_45 (by decide) ?_
                    refine lv_icmp_ge (tgt := 103) hx hb dX3_countAll_47 (by decide) (fun q => absurd q (by decide)) (fun _ => ?_)
                    refine lv_iconst (v := 1) hx hb dX3_countAll_50 (by decide) ?_
                    refine lv_iload_n hx hb dX3_countAll_51 rfl (lv_at hl 0 rfl) ?_
                    refine lv_ishl hx hb dX3_countAll_52 ?_
                    refine qtop (x' := 8) (by decide) ?_
                    refine lv_istore_n (lv' := [(3, .int 8), (2, .int 3), (4, .int x9), (0, .ref (o + 108)), (1, .ref (o + 104))]) hx hb dX3_countAll_53 rfl hl (by decide) rfl (fun ls hl => ?_)
                    refine lv_iconst (v := 0) hx hb dX3_countAll_54 (by decide) ?_
                    refine lv_istore (lv' := [(4, .int 0), (3, .int 8), (2, .int 3), (0, .ref (o + 108)), (1, .ref (o + 104))]) hx hb dX3_countAll_55 hl (by decide) rfl (fun ls hl => ?_)
                    have loop11 : ∀ (n i11 : Nat) (x11 : Int32) (z11 : Nat → Nat → Int32), 1024 < i11 + n → i11 ≤ 1024 → 0 ≤ i11 → x11.toInt = (i11 : Int) → (∀ k : Nat, (k ≠ 104) → (k ≠ 109) → z11 k = z k) → (gMANY (z11 109)) → ∀ (H : Heap) (locs : List Loc), qw_P D vwCl o 132 (qG (GU ca o) z11 y) H → va_S (qw_A o 132) s.heap H locs → ∀ (ls : Array Slot), lv_has ls 5 [(4, .int x11), (3, .int 8), (2, .int 3), (0, .ref (o + 108)), (1, .ref (o + 104))] → W p l e (headSpec (Cond.code yX3_countAll cX3_countAll 5 none :: qtbl) ({ frames := 2, cells := 0, slots := 0, locals := 83 })).room s m (([.ref (o + 108), .ref (o + 104)] : List Value).toArray) below meth c H locs 0 0 (MQ below (va_Qv (fun u => (∀ k : Nat, (k ≠ 104) → (k ≠ 109) → u.1 k = z k) ∧ u.2 = y ∧ gMANY (u.1 109)) (qB D vwCl (qT6 ca) o 132 (fun u : qZ => qG (GU ca o) u.1 u.2)) (qw_A o 132)) (([.ref (o + 108), .ref (o + 104)] : List Value).toArray) s 0 0 (qw_A o 132)) (F0 m 57 ls []) := by
                      intro n
                      induction n with
                      | zero => intro i11 x11 z11 hb11 hi11; exact absurd hb11 (by omega)
                      | succ n ih =>
                        intro i11 x11 z11 hb11 hi11 ho11 hx11 g11 m11 H locs hP hS ls hl
                        refine lv_iload hx hb dX3_countAll_57 (lv_at hl 0 rfl) ?_
                        refine lv_sipush (v := 1024) hx hb dX3_countAll_59 (by decide) ?_
                        refine lv_icmp_ge (tgt := 97) hx hb dX3_countAll_62 (by decide) (fun c12 => ?_) (fun c12 => ?_)
                        · have t12 : x11.toInt ≥ (1024 : Int) := gl_le c12
                          refine lv_iinc (v := 4) (lv' := [(2, .int 4), (4, .int x11), (3, .int 8), (0, .ref (o + 108)), (1, .ref (o + 104))]) hx hb dX3_countAll_97 hl (k := 2) rfl (by decide) (by decide) rfl (fun ls hl => ?_)
                          refine lv_goto (tgt := 44) hx hb dX3_countAll_100 (by decide) ?_
                          refine lv_iload_n hx hb dX3_countAll_44 rfl (lv_at hl 0 rfl) ?_
                          refine lv_bipush (v := 10) hx hb dX3_countAll_45 (by decide) ?_
                          refine lv_icmp_ge (tgt := 103) hx hb dX3_countAll_47 (by decide) (fun q => absurd q (by decide)) (fun _ => ?_)
                          refine lv_iconst (v := 1) hx hb dX3_countAll_50 (by decide) ?_
                          refine lv_iload_n hx hb dX3_countAll_51 rfl (lv_at hl 0 rfl) ?_
                          refine lv_ishl hx hb dX3_countAll_52 ?_
                          refine qtop (x' := 16) (by decide) ?_
                          refine lv_istore_n (lv' := [(3, .int 16), (2, .int 4), (4, .int x11), (0, .ref (o + 108)), (1, .ref (o + 104))]) hx hb dX3_countAll_53 rfl hl (by decide) rfl (fun ls hl => ?_)
                          refine lv_iconst (v := 0) hx hb dX3_countAll_54 (by decide) ?_
                          refine lv_istore (lv' := [(4, .int 0), (3, .int 16), (2, .int 4), (0, .ref (o + 108)), (1, .ref (o + 104))]) hx hb dX3_countAll_55 hl (by decide) rfl (fun ls hl => ?_)
                          have loop13 : ∀ (n i13 : Nat) (x13 : Int32) (z13 : Nat → Nat → Int32), 1024 < i13 + n → i13 ≤ 1024 → 0 ≤ i13 → x13.toInt = (i13 : Int) → (∀ k : Nat, (k ≠ 104) → (k ≠ 109) → z13 k = z k) → (gMANY (z13 109)) → ∀ (H : Heap) (locs : List Loc), qw_P D vwCl o 132 (qG (GU ca o) z13 y) H → va_S (qw_A o 132) s.heap H locs → ∀ (ls : Array Slot), lv_has ls 5 [(4, .int x13), (3, .int 16), (2, .int 4), (0, .ref (o + 108)), (1, .ref (o + 104))] → W p l e (headSpec (Cond.code yX3_countAll cX3_countAll 5 none :: qtbl) ({ frames := 2, cells := 0, slots := 0, locals := 83 })).room s m (([.ref (o + 108), .ref (o + 104)] : List Value).toArray) below meth c H locs 0 0 (MQ below (va_Qv (fun u => (∀ k : Nat, (k ≠ 104) → (k ≠ 109) → u.1 k = z k) ∧ u.2 = y ∧ gMANY (u.1 109)) (qB D vwCl (qT6 ca) o 132 (fun u : qZ => qG (GU ca o) u.1 u.2)) (qw_A o 132)) (([.ref (o + 108), .ref (o + 104)] : List Value).toArray) s 0 0 (qw_A o 132)) (F0 m 57 ls []) := by
                            intro n
                            induction n with
                            | zero => intro i13 x13 z13 hb13 hi13; exact absurd hb13 (by omega)
                            | succ n ih =>
                              intro i13 x13 z13 hb13 hi13 ho13 hx13 g13 m13 H locs hP hS ls hl
                              refine lv_iload hx hb dX3_countAll_57 (lv_at hl 0 rfl) ?_
                              refine lv_sipush (v := 1024) hx hb dX3_countAll_59 (by decide) ?_
                              refine lv_icmp_ge (tgt := 97) hx hb dX3_countAll_62 (by decide) (fun c14 => ?_) (fun c14 => ?_)
                              · have t14 : x13.toInt ≥ (1024 : Int) := gl_le c14
                                refine lv_iinc (v := 5) (lv' := [(2, .int 5), (4, .int x13), (3, .int 16), (0, .ref (o + 108)), (1, .ref (o + 104))]) hx hb dX3_countAll_97 hl (k := 2) rfl (by decide) (by decide) rfl (fun ls hl => ?_)
                                refine lv_goto (tgt := 44) hx hb dX3_countAll_100 (by decide) ?_
                                refine lv_iload_n hx hb dX3_countAll_44 rfl (lv_at hl 0 rfl) ?_
                                refine lv_bipush (v := 10) hx hb dX3_countAll_45 (by decide) ?_
                                refine lv_icmp_ge (tgt := 103) hx hb dX3_countAll_47 (by decide) (fun q => absurd q (by decide)) (fun _ => ?_)
                                refine lv_iconst (v := 1) hx hb dX3_countAll_50 (by decide) ?_
                                refine lv_iload_n hx hb dX3_countAll_51 rfl (lv_at hl 0 rfl) ?_
                                refine lv_ishl hx hb dX3_countAll_52 ?_
                                refine qtop (x' := 32) (by decide) ?_
                                refine lv_istore_n (lv' := [(3, .int 32), (2, .int 5), (4, .int x13), (0, .ref (o + 108)), (1, .ref (o + 104))]) hx hb dX3_countAll_53 rfl hl (by decide) rfl (fun ls hl => ?_)
                                refine lv_iconst (v := 0) hx hb dX3_countAll_54 (by decide) ?_
                                refine lv_istore (lv' := [(4, .int 0), (3, .int 32), (2, .int 5), (0, .ref (o + 108)), (1, .ref (o + 104))]) hx hb dX3_countAll_55 hl (by decide) rfl (fun ls hl => ?_)
                                have loop15 : ∀ (n i15 : Nat) (x15 : Int32) (z15 : Nat → Nat → Int32), 1024 < i15 + n → i15 ≤ 1024 → 0 ≤ i15 → x15.toInt = (i15 : Int) → (∀ k : Nat, (k ≠ 104) → (k ≠ 109) → z15 k = z k) → (gMANY (z15 109)) → ∀ (H : Heap) (locs : List Loc), qw_P D vwCl o 132 (qG (GU ca o) z15 y) H → va_S (qw_A o 132) s.heap H locs → ∀ (ls : Array Slot), lv_has ls 5 [(4, .int x15), (3, .int 32), (2, .int 5), (0, .ref (o + 108)), (1, .ref (o + 104))] → W p l e (headSpec (Cond.code yX3_countAll cX3_countAll 5 none :: qtbl) ({ frames := 2, cells := 0, slots := 0, locals := 83 })).room s m (([.ref (o + 108), .ref (o + 104)] : List Value).toArray) below meth c H locs 0 0 (MQ below (va_Qv (fun u => (∀ k : Nat, (k ≠ 104) → (k ≠ 109) → u.1 k = z k) ∧ u.2 = y ∧ gMANY (u.1 109)) (qB D vwCl (qT6 ca) o 132 (fun u : qZ => qG (GU ca o) u.1 u.2)) (qw_A o 132)) (([.ref (o + 108), .ref (o + 104)] : List Value).toArray) s 0 0 (qw_A o 132)) (F0 m 57 ls []) := by
                                  intro n
                                  induction n with
                                  | zero => intro i15 x15 z15 hb15 hi15; exact absurd hb15 (by omega)
                                  | succ n ih =>
                                    intro i15 x15 z15 hb15 hi15 ho15 hx15 g15 m15 H locs hP hS ls hl
                                    refine lv_iload hx hb dX3_countAll_57 (lv_at hl 0 rfl) ?_
                                    refine lv_sipush (v := 1024) hx hb dX3_countAll_59 (by decide) ?_
                                    refine lv_icmp_ge (tgt := 97) hx hb dX3_countAll_62 (by decide) (fun c16 => ?_) (fun c16 => ?_)
                                    · have t16 : x15.toInt ≥ (1024 : Int) := gl_le c16
                                      refine lv_iinc (v := 6) (lv' := [(2, .int 6), (4, .int x15), (3, .int 32), (0, .ref (o + 108)), (1, .ref (o + 104))]) hx hb dX3_countAll_97 hl (k := 2) rfl (by decide) (by decide) rfl (fun ls hl => ?_)
                                      refine lv_goto (tgt := 44) hx hb dX3_countAll_100 (by decide) ?_
                                      refine lv_iload_n hx hb dX3_countAll_44 rfl (lv_at hl 0 rfl) ?_
                                      refine lv_bipush (v := 10) hx hb dX3_countAll_45 (by decide) ?_
                                      refine lv_icmp_ge (tgt := 103) hx hb dX3_countAll_47 (by decide) (fun q => absurd q (by decide)) (fun _ => ?_)
                                      refine lv_iconst (v := 1) hx hb dX3_countAll_50 (by decide) ?_
                                      refine lv_iload_n hx hb dX3_countAll_51 rfl (lv_at hl 0 rfl) ?_
                                      refine lv_ishl hx hb dX3_countAll_52 ?_
                                      refine qtop (x' := 64) (by decide) ?_
                                      refine lv_istore_n (lv' := [(3, .int 64), (2, .int 6), (4, .int x15), (0, .ref (o + 108)), (1, .ref (o + 104))]) hx hb dX3_countAll_53 rfl hl (by decide) rfl (fun ls hl => ?_)
                                      refine lv_iconst (v := 0) hx hb dX3_countAll_54 (by decide) ?_
                                      refine lv_istore (lv' := [(4, .int 0), (3, .int 64), (2, .int 6), (0, .ref (o + 108)), (1, .ref (o + 104))]) hx hb dX3_countAll_55 hl (by decide) rfl (fun ls hl => ?_)
                                      have loop17 : ∀ (n i17 : Nat) (x17 : Int32) (z17 : Nat → Nat → Int32), 1024 < i17 + n → i17 ≤ 1024 → 0 ≤ i17 → x17.toInt = (i17 : Int) → (∀ k : Nat, (k ≠ 104) → (k ≠ 109) → z17 k = z k) → (gMANY (z17 109)) → ∀ (H : Heap) (locs : List Loc), qw_P D vwCl o 132 (qG (GU ca o) z17 y) H → va_S (qw_A o 132) s.heap H locs → ∀ (ls : Array Slot), lv_has ls 5 [(4, .int x17), (3, .int 64), (2, .int 6), (0, .ref (o + 108)), (1, .ref (o + 104))] → W p l e (headSpec (Cond.code yX3_countAll cX3_countAll 5 none :: qtbl) ({ frames := 2, cells := 0, slots := 0, locals := 83 })).room s m (([.ref (o + 108), .ref (o + 104)] : List Value).toArray) below meth c H locs 0 0 (MQ below (va_Qv (fun u => (∀ k : Nat, (k ≠ 104) → (k ≠ 109) → u.1 k = z k) ∧ u.2 = y ∧ gMANY (u.1 109)) (qB D vwCl (qT6 ca) o 132 (fun u : qZ => qG (GU ca o) u.1 u.2)) (qw_A o 132)) (([.ref (o + 108), .ref (o + 104)] : List Value).toArray) s 0 0 (qw_A o 132)) (F0 m 57 ls []) := by
                                        intro n
                                        induction n with
                                        | zero => intro i17 x17 z17 hb17 hi17; exact absurd hb17 (by omega)
                                        | succ n ih =>
                                          intro i17 x17 z17 hb17 hi17 ho17 hx17 g17 m17 H locs hP hS ls hl
                                          refine lv_iload hx hb dX3_countAll_57 (lv_at hl 0 rfl) ?_
                                          refine lv_sipush (v := 1024) hx hb dX3_countAll_59 (by decide) ?_
                                          refine lv_icmp_ge (tgt := 97) hx hb dX3_countAll_62 (by decide) (fun c18 => ?_) (fun c18 => ?_)
                                          · have t18 : x17.toInt ≥ (1024 : Int) := gl_le c18
                                            refine lv_iinc (v := 7) (lv' := [(2, .int 7), (4, .int x17), (3, .int 64), (0, .ref (o + 108)), (1, .ref (o + 104))]) hx hb dX3_countAll_97 hl (k := 2) rfl (by decide) (by decide) rfl (fun ls hl => ?_)
                                            refine lv_goto (tgt := 44) hx hb dX3_countAll_100 (by decide) ?_
                                            refine lv_iload_n hx hb dX3_countAll_44 rfl (lv_at hl 0 rfl) ?_
                                            refine lv_bipush (v := 10) hx hb dX3_countAll_45 (by decide) ?_
                                            refine lv_icmp_ge (tgt := 103) hx hb dX3_countAll_47 (by decide) (fun q => absurd q (by decide)) (fun _ => ?_)
                                            refine lv_iconst (v := 1) hx hb dX3_countAll_50 (by decide) ?_
                                            refine lv_iload_n hx hb dX3_countAll_51 rfl (lv_at hl 0 rfl) ?_
                                            refine lv_ishl hx hb dX3_countAll_52 ?_
                                            refine qtop (x' := 128) (by decide) ?_
                                            refine lv_istore_n (lv' := [(3, .int 128), (2, .int 7), (4, .int x17), (0, .ref (o + 108)), (1, .ref (o + 104))]) hx hb dX3_countAll_53 rfl hl (by decide) rfl (fun ls hl => ?_)
                                            refine lv_iconst (v := 0) hx hb dX3_countAll_54 (by decide) ?_
                                            refine lv_istore (lv' := [(4, .int 0), (3, .int 128), (2, .int 7), (0, .ref (o + 108)), (1, .ref (o + 104))]) hx hb dX3_countAll_55 hl (by decide) rfl (fun ls hl => ?_)
                                            have loop19 : ∀ (n i19 : Nat) (x19 : Int32) (z19 : Nat → Nat → Int32), 1024 < i19 + n → i19 ≤ 1024 → 0 ≤ i19 → x19.toInt = (i19 : Int) → (∀ k : Nat, (k ≠ 104) → (k ≠ 109) → z19 k = z k) → (gMANY (z19 109)) → ∀ (H : Heap) (locs : List Loc), qw_P D vwCl o 132 (qG (GU ca o) z19 y) H → va_S (qw_A o 132) s.heap H locs → ∀ (ls : Array Slot), lv_has ls 5 [(4, .int x19), (3, .int 128), (2, .int 7), (0, .ref (o + 108)), (1, .ref (o + 104))] → W p l e (headSpec (Cond.code yX3_countAll cX3_countAll 5 none :: qtbl) ({ frames := 2, cells := 0, slots := 0, locals := 83 })).room s m (([.ref (o + 108), .ref (o + 104)] : List Value).toArray) below meth c H locs 0 0 (MQ below (va_Qv (fun u => (∀ k : Nat, (k ≠ 104) → (k ≠ 109) → u.1 k = z k) ∧ u.2 = y ∧ gMANY (u.1 109)) (qB D vwCl (qT6 ca) o 132 (fun u : qZ => qG (GU ca o) u.1 u.2)) (qw_A o 132)) (([.ref (o + 108), .ref (o + 104)] : List Value).toArray) s 0 0 (qw_A o 132)) (F0 m 57 ls []) := by
                                              intro n
                                              induction n with
                                              | zero => intro i19 x19 z19 hb19 hi19; exact absurd hb19 (by omega)
                                              | succ n ih =>
                                                intro i19 x19 z19 hb19 hi19 ho19 hx19 g19 m19 H locs hP hS ls hl
                                                refine lv_iload hx hb dX3_countAll_57 (lv_at hl 0 rfl) ?_
                                                refine lv_sipush (v := 1024) hx hb dX3_countAll_59 (by decide) ?_
                                                refine lv_icmp_ge (tgt := 97) hx hb dX3_countAll_62 (by decide) (fun c20 => ?_) (fun c20 => ?_)
                                                · have t20 : x19.toInt ≥ (1024 : Int) := gl_le c20
                                                  refine lv_iinc (v := 8) (lv' := [(2, .int 8), (4, .int x19), (3, .int 128), (0, .ref (o + 108)), (1, .ref (o + 104))]) hx hb dX3_countAll_97 hl (k := 2) rfl (by decide) (by decide) rfl (fun ls hl => ?_)
                                                  refine lv_goto (tgt := 44) hx hb dX3_countAll_100 (by decide) ?_
                                                  refine lv_iload_n hx hb dX3_countAll_44 rfl (lv_at hl 0 rfl) ?_
                                                  refine lv_bipush (v := 10) hx hb dX3_countAll_45 (by decide) ?_
                                                  refine lv_icmp_ge (tgt := 103) hx hb dX3_countAll_47 (by decide) (fun q => absurd q (by decide)) (fun _ => ?_)
                                                  refine lv_iconst (v := 1) hx hb dX3_countAll_50 (by decide) ?_
                                                  refine lv_iload_n hx hb dX3_countAll_51 rfl (lv_at hl 0 rfl) ?_
                                                  refine lv_ishl hx hb dX3_countAll_52 ?_
                                                  refine qtop (x' := 256) (by decide) ?_
                                                  refine lv_istore_n (lv' := [(3, .int 256), (2, .int 8), (4, .int x19), (0, .ref (o + 108)), (1, .ref (o + 104))]) hx hb dX3_countAll_53 rfl hl (by decide) rfl (fun ls hl => ?_)
                                                  refine lv_iconst (v := 0) hx hb dX3_countAll_54 (by decide) ?_
                                                  refine lv_istore (lv' := [(4, .int 0), (3, .int 256), (2, .int 8), (0, .ref (o + 108)), (1, .ref (o + 104))]) hx hb dX3_countAll_55 hl (by decide) rfl (fun ls hl => ?_)
                                                  have loop21 : ∀ (n i21 : Nat) (x21 : Int32) (z21 : Nat → Nat → Int32), 1024 < i21 + n → i21 ≤ 1024 → 0 ≤ i21 → x21.toInt = (i21 : Int) → (∀ k : Nat, (k ≠ 104) → (k ≠ 109) → z21 k = z k) → (gMANY (z21 109)) → ∀ (H : Heap) (locs : List Loc), qw_P D vwCl o 132 (qG (GU ca o) z21 y) H → va_S (qw_A o 132) s.heap H locs → ∀ (ls : Array Slot), lv_has ls 5 [(4, .int x21), (3, .int 256), (2, .int 8), (0, .ref (o + 108)), (1, .ref (o + 104))] → W p l e (headSpec (Cond.code yX3_countAll cX3_countAll 5 none :: qtbl) ({ frames := 2, cells := 0, slots := 0, locals := 83 })).room s m (([.ref (o + 108), .ref (o + 104)] : List Value).toArray) below meth c H locs 0 0 (MQ below (va_Qv (fun u => (∀ k : Nat, (k ≠ 104) → (k ≠ 109) → u.1 k = z k) ∧ u.2 = y ∧ gMANY (u.1 109)) (qB D vwCl (qT6 ca) o 132 (fun u : qZ => qG (GU ca o) u.1 u.2)) (qw_A o 132)) (([.ref (o + 108), .ref (o + 104)] : List Value).toArray) s 0 0 (qw_A o 132)) (F0 m 57 ls []) := by
                                                    intro n
                                                    induction n with
                                                    | zero => intro i21 x21 z21 hb21 hi21; exact absurd hb21 (by omega)
                                                    | succ n ih =>
                                                      intro i21 x21 z21 hb21 hi21 ho21 hx21 g21 m21 H locs hP hS ls hl
                                                      refine lv_iload hx hb dX3_countAll_57 (lv_at hl 0 rfl) ?_
                                                      refine lv_sipush (v := 1024) hx hb dX3_countAll_59 (by decide) ?_
                                                      refine lv_icmp_ge (tgt := 97) hx hb dX3_countAll_62 (by decide) (fun c22 => ?_) (fun c22 => ?_)
                                                      · have t22 : x21.toInt ≥ (1024 : Int) := gl_le c22
                                                        refine lv_iinc (v := 9) (lv' := [(2, .int 9), (4, .int x21), (3, .int 256), (0, .ref (o + 108)), (1, .ref (o + 104))]) hx hb dX3_countAll_97 hl (k := 2) rfl (by decide) (by decide) rfl (fun ls hl => ?_)
                                                        refine lv_goto (tgt := 44) hx hb dX3_countAll_100 (by decide) ?_
                                                        refine lv_iload_n hx hb dX3_countAll_44 rfl (lv_at hl 0 rfl) ?_
                                                        refine lv_bipush (v := 10) hx hb dX3_countAll_45 (by decide) ?_
                                                        refine lv_icmp_ge (tgt := 103) hx hb dX3_countAll_47 (by decide) (fun q => absurd q (by decide)) (fun _ => ?_)
                                                        refine lv_iconst (v := 1) hx hb dX3_countAll_50 (by decide) ?_
                                                        refine lv_iload_n hx hb dX3_countAll_51 rfl (lv_at hl 0 rfl) ?_
                                                        refine lv_ishl hx hb dX3_countAll_52 ?_
                                                        refine qtop (x' := 512) (by decide) ?_
                                                        refine lv_istore_n (lv' := [(3, .int 512), (2, .int 9), (4, .int x21), (0, .ref (o + 108)), (1, .ref (o + 104))]) hx hb dX3_countAll_53 rfl hl (by decide) rfl (fun ls hl => ?_)
                                                        refine lv_iconst (v := 0) hx hb dX3_countAll_54 (by decide) ?_
                                                        refine lv_istore (lv' := [(4, .int 0), (3, .int 512), (2, .int 9), (0, .ref (o + 108)), (1, .ref (o + 104))]) hx hb dX3_countAll_55 hl (by decide) rfl (fun ls hl => ?_)
                                                        have loop23 : ∀ (n i23 : Nat) (x23 : Int32) (z23 : Nat → Nat → Int32), 1024 < i23 + n → i23 ≤ 1024 → 0 ≤ i23 → x23.toInt = (i23 : Int) → (∀ k : Nat, (k ≠ 104) → (k ≠ 109) → z23 k = z k) → (gMANY (z23 109)) → ∀ (H : Heap) (locs : List Loc), qw_P D vwCl o 132 (qG (GU ca o) z23 y) H → va_S (qw_A o 132) s.heap H locs → ∀ (ls : Array Slot), lv_has ls 5 [(4, .int x23), (3, .int 512), (2, .int 9), (0, .ref (o + 108)), (1, .ref (o + 104))] → W p l e (headSpec (Cond.code yX3_countAll cX3_countAll 5 none :: qtbl) ({ frames := 2, cells := 0, slots := 0, locals := 83 })).room s m (([.ref (o + 108), .ref (o + 104)] : List Value).toArray) below meth c H locs 0 0 (MQ below (va_Qv (fun u => (∀ k : Nat, (k ≠ 104) → (k ≠ 109) → u.1 k = z k) ∧ u.2 = y ∧ gMANY (u.1 109)) (qB D vwCl (qT6 ca) o 132 (fun u : qZ => qG (GU ca o) u.1 u.2)) (qw_A o 132)) (([.ref (o + 108), .ref (o + 104)] : List Value).toArray) s 0 0 (qw_A o 132)) (F0 m 57 ls []) := by
                                                          intro n
                                                          induction n with
                                                          | zero => intro i23 x23 z23 hb23 hi23; exact absurd hb23 (by omega)
                                                          | succ n ih =>
                                                            intro i23 x23 z23 hb23 hi23 ho23 hx23 g23 m23 H locs hP hS ls hl
                                                            refine lv_iload hx hb dX3_countAll_57 (lv_at hl 0 rfl) ?_
                                                            refine lv_sipush (v := 1024) hx hb dX3_countAll_59 (by decide) ?_
                                                            refine lv_icmp_ge (tgt := 97) hx hb dX3_countAll_62 (by decide) (fun c24 => ?_) (fun c24 => ?_)
                                                            · have t24 : x23.toInt ≥ (1024 : Int) := gl_le c24
                                                              refine lv_iinc (v := 10) (lv' := [(2, .int 10), (4, .int x23), (3, .int 512), (0, .ref (o + 108)), (1, .ref (o + 104))]) hx hb dX3_countAll_97 hl (k := 2) rfl (by decide) (by decide) rfl (fun ls hl => ?_)
                                                              refine lv_goto (tgt := 44) hx hb dX3_countAll_100 (by decide) ?_
                                                              refine lv_iload_n hx hb dX3_countAll_44 rfl (lv_at hl 0 rfl) ?_
                                                              refine lv_bipush (v := 10) hx hb dX3_countAll_45 (by decide) ?_
                                                              refine lv_icmp_ge (tgt := 103) hx hb dX3_countAll_47 (by decide) (fun _ => ?_) (fun q => absurd (by decide) q)
                                                              exact W.vret hx hb hr (fun t ht hW => ⟨⟨(z23, y), rfl, ⟨(fun (k : Nat) (h0 : k ≠ 104) (h1 : k ≠ 109) => g23 k h0 h1), rfl, m23⟩, by rw [ht]; exact hP, va_K.moved hW.alike hK⟩, hS.F ht⟩) hS.2.2 dX3_countAll_103
                                                            · have t24 : x23.toInt < (1024 : Int) := gl_nle c24
                                                              refine lv_iload hx hb dX3_countAll_65 (lv_at hl 0 rfl) ?_
                                                              refine lv_iload_n hx hb dX3_countAll_67 rfl (lv_at hl 1 rfl) ?_
                                                              refine lv_iand hx hb dX3_countAll_68 ?_
                                                              refine lv_topi (fun x25 e25 => ?_)
                                                              refine lv_if_ne (tgt := 91) hx hb dX3_countAll_69 (by decide) (fun c26 => ?_) (fun c26 => ?_)
                                                              · have t26 : x25.toInt ≠ (0 : Int) := gl_ne c26
                                                                obtain ⟨x27, e27⟩ : ∃ t : Int32, t = x23 + 1 := ⟨_, rfl⟩
                                                                refine lv_iinc (v := x27) (lv' := [(4, .int x27), (3, .int 512), (2, .int 9), (0, .ref (o + 108)), (1, .ref (o + 104))]) hx hb dX3_countAll_91 hl (k := 0) rfl (by rw [e27]; rfl) (by decide) rfl (fun ls hl => ?_)
                                                                refine lv_goto (tgt := 57) hx hb dX3_countAll_94 (by decide) ?_
                                                                exact ih (i23 + 1) x27 z23 (by omega) (by omega) (by omega) (by rw [e27]; rw [gi_add (by rw [hx23]; show _ ≤ _ + (1 : Int); omega) (by rw [hx23]; show _ + (1 : Int) ≤ _; omega), hx23]; rfl) (fun (k : Nat) (h0 : k ≠ 104) (h1 : k ≠ 109) => g23 k h0 h1) (m23) _ _ hP hS _ (lv_sub hl [0, 1, 2, 3, 4] rfl)
                                                              · have t26 : x25.toInt = (0 : Int) := gl_eq c26
                                                                refine lv_aload_n hx hb dX3_countAll_72 rfl (lv_at hl 3 rfl) ?_
                                                                refine qf_get hx hb hts inX3 hown hK hP (q0 := 108) (by decide) (hgU_108 ca o) rfl 0 (by decide) wq_216 (v := .ref (o + 109)) rfl dX3_countAll_73 ?_
                                                                refine lv_iload hx hb dX3_countAll_76 (lv_at hl 0 rfl) ?_
                                                                refine lv_dup2_11 hx hb dX3_countAll_78 rfl rfl ?_
                                                                refine qa_iald hx hb hK hP (q0 := 109) (by decide) 0 (N := 1024) (hgU_109 ca o) rfl (gi_in (by omega) (by omega)) dX3_countAll_79 ?_
                                                                refine lv_topi (fun x28 e28 => ?_)
                                                                refine lv_aload_n hx hb dX3_countAll_80 rfl (lv_at hl 3 rfl) ?_
                                                                refine qf_get hx hb hts inX3 hown hK hP (q0 := 108) (by decide) (hgU_108 ca o) rfl 0 (by decide) wq_216 (v := .ref (o + 109)) rfl dX3_countAll_81 ?_
                                                                refine lv_iload hx hb dX3_countAll_84 (lv_at hl 0 rfl) ?_
                                                                refine lv_iload_n hx hb dX3_countAll_86 rfl (lv_at hl 1 rfl) ?_
                                                                refine lv_ior hx hb dX3_countAll_87 ?_
                                                                refine lv_topi (fun x29 e29 => ?_)
                                                                have t29 := gb_or (x := x23) (b := 512) (by omega) (by omega) (by decide) (by decide)
                                                                rw [← e29] at t29
                                                                refine qa_iald hx hb hK hP (q0 := 109) (by decide) 0 (N := 1024) (hgU_109 ca o) rfl (gi_in (by omega) (by omega)) dX3_countAll_88 ?_
                                                                refine lv_topi (fun x30 e30 => ?_)
                                                                refine lv_iadd hx hb dX3_countAll_89 ?_
                                                                refine lv_topi (fun x31 e31 => ?_)
                                                                refine qa_iast hx hb hK hP hS qw_Ai (q0 := 109) (by decide) 0 (N := 1024) (hgU_109 ca o) rfl (gi_in (by omega) (by omega)) dX3_countAll_90 (fun H locs hP hS => ?_)
                                                                obtain ⟨x32, e32⟩ : ∃ t : Int32, t = x23 + 1 := ⟨_, rfl⟩
                                                                refine lv_iinc (v := x32) (lv' := [(4, .int x32), (3, .int 512), (2, .int 9), (0, .ref (o + 108)), (1, .ref (o + 104))]) hx hb dX3_countAll_91 hl (k := 0) rfl (by rw [e32]; rfl) (by decide) rfl (fun ls hl => ?_)
                                                                refine lv_goto (tgt := 57) hx hb dX3_countAll_94 (by decide) ?_
                                                                exact ih (i23 + 1) x32 (qu z23 109 (x23.toNatClampNeg) x31) (by omega) (by omega) (by omega) (by rw [e32]; rw [gi_add (by rw [hx23]; show _ ≤ _ + (1 : Int); omega) (by rw [hx23]; show _ + (1 : Int) ≤ _; omega), hx23]; rfl) (fun (k : Nat) (h0 : k ≠ 104) (h1 : k ≠ 109) => by simp only [qu_ne h1]; exact g23 k h0 h1) (by show gMANY (qu _ 109 _ _ 109); rw [qu_eq]; exact gmany_step m23 (by omega) (by omega) (by rw [← e29]; exact t29) (gb_orT (by omega) (by omega) (by decide) (by decide)) (by rw [e31, e28, e30, ← e29])) _ _ hP hS _ (lv_sub hl [0, 1, 2, 3, 4] rfl)
                                                        exact loop23 1025 0 0 z21 (by omega) (by omega) (by omega) rfl (fun (k : Nat) (h0 : k ≠ 104) (h1 : k ≠ 109) => g21 k h0 h1) (m21) _ _ hP hS _ (lv_sub hl [0, 1, 2, 3, 4] rfl)
                                                      · have t22 : x21.toInt < (1024 : Int) := gl_nle c22
                                                        refine lv_iload hx hb dX3_countAll_65 (lv_at hl 0 rfl) ?_
                                                        refine lv_iload_n hx hb dX3_countAll_67 rfl (lv_at hl 1 rfl) ?_
                                                        refine lv_iand hx hb dX3_countAll_68 ?_
                                                        refine lv_topi (fun x33 e33 => ?_)
                                                        refine lv_if_ne (tgt := 91) hx hb dX3_countAll_69 (by decide) (fun c34 => ?_) (fun c34 => ?_)
                                                        · have t34 : x33.toInt ≠ (0 : Int) := gl_ne c34
                                                          obtain ⟨x35, e35⟩ : ∃ t : Int32, t = x21 + 1 := ⟨_, rfl⟩
                                                          refine lv_iinc (v := x35) (lv' := [(4, .int x35), (3, .int 256), (2, .int 8), (0, .ref (o + 108)), (1, .ref (o + 104))]) hx hb dX3_countAll_91 hl (k := 0) rfl (by rw [e35]; rfl) (by decide) rfl (fun ls hl => ?_)
                                                          refine lv_goto (tgt := 57) hx hb dX3_countAll_94 (by decide) ?_
                                                          exact ih (i21 + 1) x35 z21 (by omega) (by omega) (by omega) (by rw [e35]; rw [gi_add (by rw [hx21]; show _ ≤ _ + (1 : Int); omega) (by rw [hx21]; show _ + (1 : Int) ≤ _; omega), hx21]; rfl) (fun (k : Nat) (h0 : k ≠ 104) (h1 : k ≠ 109) => g21 k h0 h1) (m21) _ _ hP hS _ (lv_sub hl [0, 1, 2, 3, 4] rfl)
                                                        · have t34 : x33.toInt = (0 : Int) := gl_eq c34
                                                          refine lv_aload_n hx hb dX3_countAll_72 rfl (lv_at hl 3 rfl) ?_
                                                          refine qf_get hx hb hts inX3 hown hK hP (q0 := 108) (by decide) (hgU_108 ca o) rfl 0 (by decide) wq_216 (v := .ref (o + 109)) rfl dX3_countAll_73 ?_
                                                          refine lv_iload hx hb dX3_countAll_76 (lv_at hl 0 rfl) ?_
                                                          refine lv_dup2_11 hx hb dX3_countAll_78 rfl rfl ?_
                                                          refine qa_iald hx hb hK hP (q0 := 109) (by decide) 0 (N := 1024) (hgU_109 ca o) rfl (gi_in (by omega) (by omega)) dX3_countAll_79 ?_
                                                          refine lv_topi (fun x36 e36 => ?_)
                                                          refine lv_aload_n hx hb dX3_countAll_80 rfl (lv_at hl 3 rfl) ?_
                                                          refine qf_get hx hb hts inX3 hown hK hP (q0 := 108) (by decide) (hgU_108 ca o) rfl 0 (by decide) wq_216 (v := .ref (o + 109)) rfl dX3_countAll_81 ?_
                                                          refine lv_iload hx hb dX3_countAll_84 (lv_at hl 0 rfl) ?_
                                                          refine lv_iload_n hx hb dX3_countAll_86 rfl (lv_at hl 1 rfl) ?_
                                                          refine lv_ior hx hb dX3_countAll_87 ?_
                                                          refine lv_topi (fun x37 e37 => ?_)
                                                          have t37 := gb_or (x := x21) (b := 256) (by omega) (by omega) (by decide) (by decide)
                                                          rw [← e37] at t37
                                                          refine qa_iald hx hb hK hP (q0 := 109) (by decide) 0 (N := 1024) (hgU_109 ca o) rfl (gi_in (by omega) (by omega)) dX3_countAll_88 ?_
                                                          refine lv_topi (fun x38 e38 => ?_)
                                                          refine lv_iadd hx hb dX3_countAll_89 ?_
                                                          refine lv_topi (fun x39 e39 => ?_)
                                                          refine qa_iast hx hb hK hP hS qw_Ai (q0 := 109) (by decide) 0 (N := 1024) (hgU_109 ca o) rfl (gi_in (by omega) (by omega)) dX3_countAll_90 (fun H locs hP hS => ?_)
                                                          obtain ⟨x40, e40⟩ : ∃ t : Int32, t = x21 + 1 := ⟨_, rfl⟩
                                                          refine lv_iinc (v := x40) (lv' := [(4, .int x40), (3, .int 256), (2, .int 8), (0, .ref (o + 108)), (1, .ref (o + 104))]) hx hb dX3_countAll_91 hl (k := 0) rfl (by rw [e40]; rfl) (by decide) rfl (fun ls hl => ?_)
                                                          refine lv_goto (tgt := 57) hx hb dX3_countAll_94 (by decide) ?_
                                                          exact ih (i21 + 1) x40 (qu z21 109 (x21.toNatClampNeg) x39) (by omega) (by omega) (by omega) (by rw [e40]; rw [gi_add (by rw [hx21]; show _ ≤ _ + (1 : Int); omega) (by rw [hx21]; show _ + (1 : Int) ≤ _; omega), hx21]; rfl) (fun (k : Nat) (h0 : k ≠ 104) (h1 : k ≠ 109) => by simp only [qu_ne h1]; exact g21 k h0 h1) (by show gMANY (qu _ 109 _ _ 109); rw [qu_eq]; exact gmany_step m21 (by omega) (by omega) (by rw [← e37]; exact t37) (gb_orT (by omega) (by omega) (by decide) (by decide)) (by rw [e39, e36, e38, ← e37])) _ _ hP hS _ (lv_sub hl [0, 1, 2, 3, 4] rfl)
                                                  exact loop21 1025 0 0 z19 (by omega) (by omega) (by omega) rfl (fun (k : Nat) (h0 : k ≠ 104) (h1 : k ≠ 109) => g19 k h0 h1) (m19) _ _ hP hS _ (lv_sub hl [0, 1, 2, 3, 4] rfl)
                                                · have t20 : x19.toInt < (1024 : Int) := gl_nle c20
                                                  refine lv_iload hx hb dX3_countAll_65 (lv_at hl 0 rfl) ?_
                                                  refine lv_iload_n hx hb dX3_countAll_67 rfl (lv_at hl 1 rfl) ?_
                                                  refine lv_iand hx hb dX3_countAll_68 ?_
                                                  refine lv_topi (fun x41 e41 => ?_)
                                                  refine lv_if_ne (tgt := 91) hx hb dX3_countAll_69 (by decide) (fun c42 => ?_) (fun c42 => ?_)
                                                  · have t42 : x41.toInt ≠ (0 : Int) := gl_ne c42
                                                    obtain ⟨x43, e43⟩ : ∃ t : Int32, t = x19 + 1 := ⟨_, rfl⟩
                                                    refine lv_iinc (v := x43) (lv' := [(4, .int x43), (3, .int 128), (2, .int 7), (0, .ref (o + 108)), (1, .ref (o + 104))]) hx hb dX3_countAll_91 hl (k := 0) rfl (by rw [e43]; rfl) (by decide) rfl (fun ls hl => ?_)
                                                    refine lv_goto (tgt := 57) hx hb dX3_countAll_94 (by decide) ?_
                                                    exact ih (i19 + 1) x43 z19 (by omega) (by omega) (by omega) (by rw [e43]; rw [gi_add (by rw [hx19]; show _ ≤ _ + (1 : Int); omega) (by rw [hx19]; show _ + (1 : Int) ≤ _; omega), hx19]; rfl) (fun (k : Nat) (h0 : k ≠ 104) (h1 : k ≠ 109) => g19 k h0 h1) (m19) _ _ hP hS _ (lv_sub hl [0, 1, 2, 3, 4] rfl)
                                                  · have t42 : x41.toInt = (0 : Int) := gl_eq c42
                                                    refine lv_aload_n hx hb dX3_countAll_72 rfl (lv_at hl 3 rfl) ?_
                                                    refine qf_get hx hb hts inX3 hown hK hP (q0 := 108) (by decide) (hgU_108 ca o) rfl 0 (by decide) wq_216 (v := .ref (o + 109)) rfl dX3_countAll_73 ?_
                                                    refine lv_iload hx hb dX3_countAll_76 (lv_at hl 0 rfl) ?_
                                                    refine lv_dup2_11 hx hb dX3_countAll_78 rfl rfl ?_
                                                    refine qa_iald hx hb hK hP (q0 := 109) (by decide) 0 (N := 1024) (hgU_109 ca o) rfl (gi_in (by omega) (by omega)) dX3_countAll_79 ?_
                                                    refine lv_topi (fun x44 e44 => ?_)
                                                    refine lv_aload_n hx hb dX3_countAll_80 rfl (lv_at hl 3 rfl) ?_
                                                    refine qf_get hx hb hts inX3 hown hK hP (q0 := 108) (by decide) (hgU_108 ca o) rfl 0 (by decide) wq_216 (v := .ref (o + 109)) rfl dX3_countAll_81 ?_
                                                    refine lv_iload hx hb dX3_countAll_84 (lv_at hl 0 rfl) ?_
                                                    refine lv_iload_n hx hb dX3_countAll_86 rfl (lv_at hl 1 rfl) ?_
                                                    refine lv_ior hx hb dX3_countAll_87 ?_
                                                    refine lv_topi (fun x45 e45 => ?_)
                                                    have t45 := gb_or (x := x19) (b := 128) (by omega) (by omega) (by decide) (by decide)
                                                    rw [← e45] at t45
                                                    refine qa_iald hx hb hK hP (q0 := 109) (by decide) 0 (N := 1024) (hgU_109 ca o) rfl (gi_in (by omega) (by omega)) dX3_countAll_88 ?_
                                                    refine lv_topi (fun x46 e46 => ?_)
                                                    refine lv_iadd hx hb dX3_countAll_89 ?_
                                                    refine lv_topi (fun x47 e47 => ?_)
                                                    refine qa_iast hx hb hK hP hS qw_Ai (q0 := 109) (by decide) 0 (N := 1024) (hgU_109 ca o) rfl (gi_in (by omega) (by omega)) dX3_countAll_90 (fun H locs hP hS => ?_)
                                                    obtain ⟨x48, e48⟩ : ∃ t : Int32, t = x19 + 1 := ⟨_, rfl⟩
                                                    refine lv_iinc (v := x48) (lv' := [(4, .int x48), (3, .int 128), (2, .int 7), (0, .ref (o + 108)), (1, .ref (o + 104))]) hx hb dX3_countAll_91 hl (k := 0) rfl (by rw [e48]; rfl) (by decide) rfl (fun ls hl => ?_)
                                                    refine lv_goto (tgt := 57) hx hb dX3_countAll_94 (by decide) ?_
                                                    exact ih (i19 + 1) x48 (qu z19 109 (x19.toNatClampNeg) x47) (by omega) (by omega) (by omega) (by rw [e48]; rw [gi_add (by rw [hx19]; show _ ≤ _ + (1 : Int); omega) (by rw [hx19]; show _ + (1 : Int) ≤ _; omega), hx19]; rfl) (fun (k : Nat) (h0 : k ≠ 104) (h1 : k ≠ 109) => by simp only [qu_ne h1]; exact g19 k h0 h1) (by show gMANY (qu _ 109 _ _ 109); rw [qu_eq]; exact gmany_step m19 (by omega) (by omega) (by rw [← e45]; exact t45) (gb_orT (by omega) (by omega) (by decide) (by decide)) (by rw [e47, e44, e46, ← e45])) _ _ hP hS _ (lv_sub hl [0, 1, 2, 3, 4] rfl)
                                            exact loop19 1025 0 0 z17 (by omega) (by omega) (by omega) rfl (fun (k : Nat) (h0 : k ≠ 104) (h1 : k ≠ 109) => g17 k h0 h1) (m17) _ _ hP hS _ (lv_sub hl [0, 1, 2, 3, 4] rfl)
                                          · have t18 : x17.toInt < (1024 : Int) := gl_nle c18
                                            refine lv_iload hx hb dX3_countAll_65 (lv_at hl 0 rfl) ?_
                                            refine lv_iload_n hx hb dX3_countAll_67 rfl (lv_at hl 1 rfl) ?_
                                            refine lv_iand hx hb dX3_countAll_68 ?_
                                            refine lv_topi (fun x49 e49 => ?_)
                                            refine lv_if_ne (tgt := 91) hx hb dX3_countAll_69 (by decide) (fun c50 => ?_) (fun c50 => ?_)
                                            · have t50 : x49.toInt ≠ (0 : Int) := gl_ne c50
                                              obtain ⟨x51, e51⟩ : ∃ t : Int32, t = x17 + 1 := ⟨_, rfl⟩
                                              refine lv_iinc (v := x51) (lv' := [(4, .int x51), (3, .int 64), (2, .int 6), (0, .ref (o + 108)), (1, .ref (o + 104))]) hx hb dX3_countAll_91 hl (k := 0) rfl (by rw [e51]; rfl) (by decide) rfl (fun ls hl => ?_)
                                              refine lv_goto (tgt := 57) hx hb dX3_countAll_94 (by decide) ?_
                                              exact ih (i17 + 1) x51 z17 (by omega) (by omega) (by omega) (by rw [e51]; rw [gi_add (by rw [hx17]; show _ ≤ _ + (1 : Int); omega) (by rw [hx17]; show _ + (1 : Int) ≤ _; omega), hx17]; rfl) (fun (k : Nat) (h0 : k ≠ 104) (h1 : k ≠ 109) => g17 k h0 h1) (m17) _ _ hP hS _ (lv_sub hl [0, 1, 2, 3, 4] rfl)
                                            · have t50 : x49.toInt = (0 : Int) := gl_eq c50
                                              refine lv_aload_n hx hb dX3_countAll_72 rfl (lv_at hl 3 rfl) ?_
                                              refine qf_get hx hb hts inX3 hown hK hP (q0 := 108) (by decide) (hgU_108 ca o) rfl 0 (by decide) wq_216 (v := .ref (o + 109)) rfl dX3_countAll_73 ?_
                                              refine lv_iload hx hb dX3_countAll_76 (lv_at hl 0 rfl) ?_
                                              refine lv_dup2_11 hx hb dX3_countAll_78 rfl rfl ?_
                                              refine qa_iald hx hb hK hP (q0 := 109) (by decide) 0 (N := 1024) (hgU_109 ca o) rfl (gi_in (by omega) (by omega)) dX3_countAll_79 ?_
                                              refine lv_topi (fun x52 e52 => ?_)
                                              refine lv_aload_n hx hb dX3_countAll_80 rfl (lv_at hl 3 rfl) ?_
                                              refine qf_get hx hb hts inX3 hown hK hP (q0 := 108) (by decide) (hgU_108 ca o) rfl 0 (by decide) wq_216 (v := .ref (o + 109)) rfl dX3_countAll_81 ?_
                                              refine lv_iload hx hb dX3_countAll_84 (lv_at hl 0 rfl) ?_
                                              refine lv_iload_n hx hb dX3_countAll_86 rfl (lv_at hl 1 rfl) ?_
                                              refine lv_ior hx hb dX3_countAll_87 ?_
                                              refine lv_topi (fun x53 e53 => ?_)
                                              have t53 := gb_or (x := x17) (b := 64) (by omega) (by omega) (by decide) (by decide)
                                              rw [← e53] at t53
                                              refine qa_iald hx hb hK hP (q0 := 109) (by decide) 0 (N := 1024) (hgU_109 ca o) rfl (gi_in (by omega) (by omega)) dX3_countAll_88 ?_
                                              refine lv_topi (fun x54 e54 => ?_)
                                              refine lv_iadd hx hb dX3_countAll_89 ?_
                                              refine lv_topi (fun x55 e55 => ?_)
                                              refine qa_iast hx hb hK hP hS qw_Ai (q0 := 109) (by decide) 0 (N := 1024) (hgU_109 ca o) rfl (gi_in (by omega) (by omega)) dX3_countAll_90 (fun H locs hP hS => ?_)
                                              obtain ⟨x56, e56⟩ : ∃ t : Int32, t = x17 + 1 := ⟨_, rfl⟩
                                              refine lv_iinc (v := x56) (lv' := [(4, .int x56), (3, .int 64), (2, .int 6), (0, .ref (o + 108)), (1, .ref (o + 104))]) hx hb dX3_countAll_91 hl (k := 0) rfl (by rw [e56]; rfl) (by decide) rfl (fun ls hl => ?_)
                                              refine lv_goto (tgt := 57) hx hb dX3_countAll_94 (by decide) ?_
                                              exact ih (i17 + 1) x56 (qu z17 109 (x17.toNatClampNeg) x55) (by omega) (by omega) (by omega) (by rw [e56]; rw [gi_add (by rw [hx17]; show _ ≤ _ + (1 : Int); omega) (by rw [hx17]; show _ + (1 : Int) ≤ _; omega), hx17]; rfl) (fun (k : Nat) (h0 : k ≠ 104) (h1 : k ≠ 109) => by simp only [qu_ne h1]; exact g17 k h0 h1) (by show gMANY (qu _ 109 _ _ 109); rw [qu_eq]; exact gmany_step m17 (by omega) (by omega) (by rw [← e53]; exact t53) (gb_orT (by omega) (by omega) (by decide) (by decide)) (by rw [e55, e52, e54, ← e53])) _ _ hP hS _ (lv_sub hl [0, 1, 2, 3, 4] rfl)
                                      exact loop17 1025 0 0 z15 (by omega) (by omega) (by omega) rfl (fun (k : Nat) (h0 : k ≠ 104) (h1 : k ≠ 109) => g15 k h0 h1) (m15) _ _ hP hS _ (lv_sub hl [0, 1, 2, 3, 4] rfl)
                                    · have t16 : x15.toInt < (1024 : Int) := gl_nle c16
                                      refine lv_iload hx hb dX3_countAll_65 (lv_at hl 0 rfl) ?_
                                      refine lv_iload_n hx hb dX3_countAll_67 rfl (lv_at hl 1 rfl) ?_
                                      refine lv_iand hx hb dX3_countAll_68 ?_
                                      refine lv_topi (fun x57 e57 => ?_)
                                      refine lv_if_ne (tgt := 91) hx hb dX3_countAll_69 (by decide) (fun c58 => ?_) (fun c58 => ?_)
                                      · have t58 : x57.toInt ≠ (0 : Int) := gl_ne c58
                                        obtain ⟨x59, e59⟩ : ∃ t : Int32, t = x15 + 1 := ⟨_, rfl⟩
                                        refine lv_iinc (v := x59) (lv' := [(4, .int x59), (3, .int 32), (2, .int 5), (0, .ref (o + 108)), (1, .ref (o + 104))]) hx hb dX3_countAll_91 hl (k := 0) rfl (by rw [e59]; rfl) (by decide) rfl (fun ls hl => ?_)
                                        refine lv_goto (tgt := 57) hx hb dX3_countAll_94 (by decide) ?_
                                        exact ih (i15 + 1) x59 z15 (by omega) (by omega) (by omega) (by rw [e59]; rw [gi_add (by rw [hx15]; show _ ≤ _ + (1 : Int); omega) (by rw [hx15]; show _ + (1 : Int) ≤ _; omega), hx15]; rfl) (fun (k : Nat) (h0 : k ≠ 104) (h1 : k ≠ 109) => g15 k h0 h1) (m15) _ _ hP hS _ (lv_sub hl [0, 1, 2, 3, 4] rfl)
                                      · have t58 : x57.toInt = (0 : Int) := gl_eq c58
                                        refine lv_aload_n hx hb dX3_countAll_72 rfl (lv_at hl 3 rfl) ?_
                                        refine qf_get hx hb hts inX3 hown hK hP (q0 := 108) (by decide) (hgU_108 ca o) rfl 0 (by decide) wq_216 (v := .ref (o + 109)) rfl dX3_countAll_73 ?_
                                        refine lv_iload hx hb dX3_countAll_76 (lv_at hl 0 rfl) ?_
                                        refine lv_dup2_11 hx hb dX3_countAll_78 rfl rfl ?_
                                        refine qa_iald hx hb hK hP (q0 := 109) (by decide) 0 (N := 1024) (hgU_109 ca o) rfl (gi_in (by omega) (by omega)) dX3_countAll_79 ?_
                                        refine lv_topi (fun x60 e60 => ?_)
                                        refine lv_aload_n hx hb dX3_countAll_80 rfl (lv_at hl 3 rfl) ?_
                                        refine qf_get hx hb hts inX3 hown hK hP (q0 := 108) (by decide) (hgU_108 ca o) rfl 0 (by decide) wq_216 (v := .ref (o + 109)) rfl dX3_countAll_81 ?_
                                        refine lv_iload hx hb dX3_countAll_84 (lv_at hl 0 rfl) ?_
                                        refine lv_iload_n hx hb dX3_countAll_86 rfl (lv_at hl 1 rfl) ?_
                                        refine lv_ior hx hb dX3_countAll_87 ?_
                                        refine lv_topi (fun x61 e61 => ?_)
                                        have t61 := gb_or (x := x15) (b := 32) (by omega) (by omega) (by decide) (by decide)
                                        rw [← e61] at t61
                                        refine qa_iald hx hb hK hP (q0 := 109) (by decide) 0 (N := 1024) (hgU_109 ca o) rfl (gi_in (by omega) (by omega)) dX3_countAll_88 ?_
                                        refine lv_topi (fun x62 e62 => ?_)
                                        refine lv_iadd hx hb dX3_countAll_89 ?_
                                        refine lv_topi (fun x63 e63 => ?_)
                                        refine qa_iast hx hb hK hP hS qw_Ai (q0 := 109) (by decide) 0 (N := 1024) (hgU_109 ca o) rfl (gi_in (by omega) (by omega)) dX3_countAll_90 (fun H locs hP hS => ?_)
                                        obtain ⟨x64, e64⟩ : ∃ t : Int32, t = x15 + 1 := ⟨_, rfl⟩
                                        refine lv_iinc (v := x64) (lv' := [(4, .int x64), (3, .int 32), (2, .int 5), (0, .ref (o + 108)), (1, .ref (o + 104))]) hx hb dX3_countAll_91 hl (k := 0) rfl (by rw [e64]; rfl) (by decide) rfl (fun ls hl => ?_)
                                        refine lv_goto (tgt := 57) hx hb dX3_countAll_94 (by decide) ?_
                                        exact ih (i15 + 1) x64 (qu z15 109 (x15.toNatClampNeg) x63) (by omega) (by omega) (by omega) (by rw [e64]; rw [gi_add (by rw [hx15]; show _ ≤ _ + (1 : Int); omega) (by rw [hx15]; show _ + (1 : Int) ≤ _; omega), hx15]; rfl) (fun (k : Nat) (h0 : k ≠ 104) (h1 : k ≠ 109) => by simp only [qu_ne h1]; exact g15 k h0 h1) (by show gMANY (qu _ 109 _ _ 109); rw [qu_eq]; exact gmany_step m15 (by omega) (by omega) (by rw [← e61]; exact t61) (gb_orT (by omega) (by omega) (by decide) (by decide)) (by rw [e63, e60, e62, ← e61])) _ _ hP hS _ (lv_sub hl [0, 1, 2, 3, 4] rfl)
                                exact loop15 1025 0 0 z13 (by omega) (by omega) (by omega) rfl (fun (k : Nat) (h0 : k ≠ 104) (h1 : k ≠ 109) => g13 k h0 h1) (m13) _ _ hP hS _ (lv_sub hl [0, 1, 2, 3, 4] rfl)
                              · have t14 : x13.toInt < (1024 : Int) := gl_nle c14
                                refine lv_iload hx hb dX3_countAll_65 (lv_at hl 0 rfl) ?_
                                refine lv_iload_n hx hb dX3_countAll_67 rfl (lv_at hl 1 rfl) ?_
                                refine lv_iand hx hb dX3_countAll_68 ?_
                                refine lv_topi (fun x65 e65 => ?_)
                                refine lv_if_ne (tgt := 91) hx hb dX3_countAll_69 (by decide) (fun c66 => ?_) (fun c66 => ?_)
                                · have t66 : x65.toInt ≠ (0 : Int) := gl_ne c66
                                  obtain ⟨x67, e67⟩ : ∃ t : Int32, t = x13 + 1 := ⟨_, rfl⟩
                                  refine lv_iinc (v := x67) (lv' := [(4, .int x67), (3, .int 16), (2, .int 4), (0, .ref (o + 108)), (1, .ref (o + 104))]) hx hb dX3_countAll_91 hl (k := 0) rfl (by rw [e67]; rfl) (by decide) rfl (fun ls hl => ?_)
                                  refine lv_goto (tgt := 57) hx hb dX3_countAll_94 (by decide) ?_
                                  exact ih (i13 + 1) x67 z13 (by omega) (by omega) (by omega) (by rw [e67]; rw [gi_add (by rw [hx13]; show _ ≤ _ + (1 : Int); omega) (by rw [hx13]; show _ + (1 : Int) ≤ _; omega), hx13]; rfl) (fun (k : Nat) (h0 : k ≠ 104) (h1 : k ≠ 109) => g13 k h0 h1) (m13) _ _ hP hS _ (lv_sub hl [0, 1, 2, 3, 4] rfl)
                                · have t66 : x65.toInt = (0 : Int) := gl_eq c66
                                  refine lv_aload_n hx hb dX3_countAll_72 rfl (lv_at hl 3 rfl) ?_
                                  refine qf_get hx hb hts inX3 hown hK hP (q0 := 108) (by decide) (hgU_108 ca o) rfl 0 (by decide) wq_216 (v := .ref (o + 109)) rfl dX3_countAll_73 ?_
                                  refine lv_iload hx hb dX3_countAll_76 (lv_at hl 0 rfl) ?_
                                  refine lv_dup2_11 hx hb dX3_countAll_78 rfl rfl ?_
                                  refine qa_iald hx hb hK hP (q0 := 109) (by decide) 0 (N := 1024) (hgU_109 ca o) rfl (gi_in (by omega) (by omega)) dX3_countAll_79 ?_
                                  refine lv_topi (fun x68 e68 => ?_)
                                  refine lv_aload_n hx hb dX3_countAll_80 rfl (lv_at hl 3 rfl) ?_
                                  refine qf_get hx hb hts inX3 hown hK hP (q0 := 108) (by decide) (hgU_108 ca o) rfl 0 (by decide) wq_216 (v := .ref (o + 109)) rfl dX3_countAll_81 ?_
                                  refine lv_iload hx hb dX3_countAll_84 (lv_at hl 0 rfl) ?_
                                  refine lv_iload_n hx hb dX3_countAll_86 rfl (lv_at hl 1 rfl) ?_
                                  refine lv_ior hx hb dX3_countAll_87 ?_
                                  refine lv_topi (fun x69 e69 => ?_)
                                  have t69 := gb_or (x := x13) (b := 16) (by omega) (by omega) (by decide) (by decide)
                                  rw [← e69] at t69
                                  refine qa_iald hx hb hK hP (q0 := 109) (by decide) 0 (N := 1024) (hgU_109 ca o) rfl (gi_in (by omega) (by omega)) dX3_countAll_88 ?_
                                  refine lv_topi (fun x70 e70 => ?_)
                                  refine lv_iadd hx hb dX3_countAll_89 ?_
                                  refine lv_topi (fun x71 e71 => ?_)
                                  refine qa_iast hx hb hK hP hS qw_Ai (q0 := 109) (by decide) 0 (N := 1024) (hgU_109 ca o) rfl (gi_in (by omega) (by omega)) dX3_countAll_90 (fun H locs hP hS => ?_)
                                  obtain ⟨x72, e72⟩ : ∃ t : Int32, t = x13 + 1 := ⟨_, rfl⟩
                                  refine lv_iinc (v := x72) (lv' := [(4, .int x72), (3, .int 16), (2, .int 4), (0, .ref (o + 108)), (1, .ref (o + 104))]) hx hb dX3_countAll_91 hl (k := 0) rfl (by rw [e72]; rfl) (by decide) rfl (fun ls hl => ?_)
                                  refine lv_goto (tgt := 57) hx hb dX3_countAll_94 (by decide) ?_
                                  exact ih (i13 + 1) x72 (qu z13 109 (x13.toNatClampNeg) x71) (by omega) (by omega) (by omega) (by rw [e72]; rw [gi_add (by rw [hx13]; show _ ≤ _ + (1 : Int); omega) (by rw [hx13]; show _ + (1 : Int) ≤ _; omega), hx13]; rfl) (fun (k : Nat) (h0 : k ≠ 104) (h1 : k ≠ 109) => by simp only [qu_ne h1]; exact g13 k h0 h1) (by show gMANY (qu _ 109 _ _ 109); rw [qu_eq]; exact gmany_step m13 (by omega) (by omega) (by rw [← e69]; exact t69) (gb_orT (by omega) (by omega) (by decide) (by decide)) (by rw [e71, e68, e70, ← e69])) _ _ hP hS _ (lv_sub hl [0, 1, 2, 3, 4] rfl)
                          exact loop13 1025 0 0 z11 (by omega) (by omega) (by omega) rfl (fun (k : Nat) (h0 : k ≠ 104) (h1 : k ≠ 109) => g11 k h0 h1) (m11) _ _ hP hS _ (lv_sub hl [0, 1, 2, 3, 4] rfl)
                        · have t12 : x11.toInt < (1024 : Int) := gl_nle c12
                          refine lv_iload hx hb dX3_countAll_65 (lv_at hl 0 rfl) ?_
                          refine lv_iload_n hx hb dX3_countAll_67 rfl (lv_at hl 1 rfl) ?_
                          refine lv_iand hx hb dX3_countAll_68 ?_
                          refine lv_topi (fun x73 e73 => ?_)
                          refine lv_if_ne (tgt := 91) hx hb dX3_countAll_69 (by decide) (fun c74 => ?_) (fun c74 => ?_)
                          · have t74 : x73.toInt ≠ (0 : Int) := gl_ne c74
                            obtain ⟨x75, e75⟩ : ∃ t : Int32, t = x11 + 1 := ⟨_, rfl⟩
                            refine lv_iinc (v := x75) (lv' := [(4, .int x75), (3, .int 8), (2, .int 3), (0, .ref (o + 108)), (1, .ref (o + 104))]) hx hb dX3_countAll_91 hl (k := 0) rfl (by rw [e75]; rfl) (by decide) rfl (fun ls hl => ?_)
                            refine lv_goto (tgt := 57) hx hb dX3_countAll_94 (by decide) ?_
                            exact ih (i11 + 1) x75 z11 (by omega) (by omega) (by omega) (by rw [e75]; rw [gi_add (by rw [hx11]; show _ ≤ _ + (1 : Int); omega) (by rw [hx11]; show _ + (1 : Int) ≤ _; omega), hx11]; rfl) (fun (k : Nat) (h0 : k ≠ 104) (h1 : k ≠ 109) => g11 k h0 h1) (m11) _ _ hP hS _ (lv_sub hl [0, 1, 2, 3, 4] rfl)
                          · have t74 : x73.toInt = (0 : Int) := gl_eq c74
                            refine lv_aload_n hx hb dX3_countAll_72 rfl (lv_at hl 3 rfl) ?_
                            refine qf_get hx hb hts inX3 hown hK hP (q0 := 108) (by decide) (hgU_108 ca o) rfl 0 (by decide) wq_216 (v := .ref (o + 109)) rfl dX3_countAll_73 ?_
                            refine lv_iload hx hb dX3_countAll_76 (lv_at hl 0 rfl) ?_
                            refine lv_dup2_11 hx hb dX3_countAll_78 rfl rfl ?_
                            refine qa_iald hx hb hK hP (q0 := 109) (by decide) 0 (N := 1024) (hgU_109 ca o) rfl (gi_in (by omega) (by omega)) dX3_countAll_79 ?_
                            refine lv_topi (fun x76 e76 => ?_)
                            refine lv_aload_n hx hb dX3_countAll_80 rfl (lv_at hl 3 rfl) ?_
                            refine qf_get hx hb hts inX3 hown hK hP (q0 := 108) (by decide) (hgU_108 ca o) rfl 0 (by decide) wq_216 (v := .ref (o + 109)) rfl dX3_countAll_81 ?_
                            refine lv_iload hx hb dX3_countAll_84 (lv_at hl 0 rfl) ?_
                            refine lv_iload_n hx hb dX3_countAll_86 rfl (lv_at hl 1 rfl) ?_
                            refine lv_ior hx hb dX3_countAll_87 ?_
                            refine lv_topi (fun x77 e77 => ?_)
                            have t77 := gb_or (x := x11) (b := 8) (by omega) (by omega) (by decide) (by decide)
                            rw [← e77] at t77
                            refine qa_iald hx hb hK hP (q0 := 109) (by decide) 0 (N := 1024) (hgU_109 ca o) rfl (gi_in (by omega) (by omega)) dX3_countAll_88 ?_
                            refine lv_topi (fun x78 e78 => ?_)
                            refine lv_iadd hx hb dX3_countAll_89 ?_
                            refine lv_topi (fun x79 e79 => ?_)
                            refine qa_iast hx hb hK hP hS qw_Ai (q0 := 109) (by decide) 0 (N := 1024) (hgU_109 ca o) rfl (gi_in (by omega) (by omega)) dX3_countAll_90 (fun H locs hP hS => ?_)
                            obtain ⟨x80, e80⟩ : ∃ t : Int32, t = x11 + 1 := ⟨_, rfl⟩
                            refine lv_iinc (v := x80) (lv' := [(4, .int x80), (3, .int 8), (2, .int 3), (0, .ref (o + 108)), (1, .ref (o + 104))]) hx hb dX3_countAll_91 hl (k := 0) rfl (by rw [e80]; rfl) (by decide) rfl (fun ls hl => ?_)
                            refine lv_goto (tgt := 57) hx hb dX3_countAll_94 (by decide) ?_
                            exact ih (i11 + 1) x80 (qu z11 109 (x11.toNatClampNeg) x79) (by omega) (by omega) (by omega) (by rw [e80]; rw [gi_add (by rw [hx11]; show _ ≤ _ + (1 : Int); omega) (by rw [hx11]; show _ + (1 : Int) ≤ _; omega), hx11]; rfl) (fun (k : Nat) (h0 : k ≠ 104) (h1 : k ≠ 109) => by simp only [qu_ne h1]; exact g11 k h0 h1) (by show gMANY (qu _ 109 _ _ 109); rw [qu_eq]; exact gmany_step m11 (by omega) (by omega) (by rw [← e77]; exact t77) (gb_orT (by omega) (by omega) (by decide) (by decide)) (by rw [e79, e76, e78, ← e77])) _ _ hP hS _ (lv_sub hl [0, 1, 2, 3, 4] rfl)
                    exact loop11 1025 0 0 z9 (by omega) (by omega) (by omega) rfl (fun (k : Nat) (h0 : k ≠ 104) (h1 : k ≠ 109) => g9 k h0 h1) (m9) _ _ hP hS _ (lv_sub hl [0, 1, 2, 3, 4] rfl)
                  · have t10 : x9.toInt < (1024 : Int) := gl_nle c10
                    refine lv_iload hx hb dX3_countAll_65 (lv_at hl 0 rfl) ?_
                    refine lv_iload_n hx hb dX3_countAll_67 rfl (lv_at hl 1 rfl) ?_
                    refine lv_iand hx hb dX3_countAll_68 ?_
                    refine lv_topi (fun x81 e81 => ?_)
                    refine lv_if_ne (tgt := 91) hx hb dX3_countAll_69 (by decide) (fun c82 => ?_) (fun c82 => ?_)
                    · have t82 : x81.toInt ≠ (0 : Int) := gl_ne c82
                      obtain ⟨x83, e83⟩ : ∃ t : Int32, t = x9 + 1 := ⟨_, rfl⟩
                      refine lv_iinc (v := x83) (lv' := [(4, .int x83), (3, .int 4), (2, .int 2), (0, .ref (o + 108)), (1, .ref (o + 104))]) hx hb dX3_countAll_91 hl (k := 0) rfl (by rw [e83]; rfl) (by decide) rfl (fun ls hl => ?_)
                      refine lv_goto (tgt := 57) hx hb dX3_countAll_94 (by decide) ?_
                      exact ih (i9 + 1) x83 z9 (by omega) (by omega) (by omega) (by rw [e83]; rw [gi_add (by rw [hx9]; show _ ≤ _ + (1 : Int); omega) (by rw [hx9]; show _ + (1 : Int) ≤ _; omega), hx9]; rfl) (fun (k : Nat) (h0 : k ≠ 104) (h1 : k ≠ 109) => g9 k h0 h1) (m9) _ _ hP hS _ (lv_sub hl [0, 1, 2, 3, 4] rfl)
                    · have t82 : x81.toInt = (0 : Int) := gl_eq c82
                      refine lv_aload_n hx hb dX3_countAll_72 rfl (lv_at hl 3 rfl) ?_
                      refine qf_get hx hb hts inX3 hown hK hP (q0 := 108) (by decide) (hgU_108 ca o) rfl 0 (by decide) wq_216 (v := .ref (o + 109)) rfl dX3_countAll_73 ?_
                      refine lv_iload hx hb dX3_countAll_76 (lv_at hl 0 rfl) ?_
                      refine lv_dup2_11 hx hb dX3_countAll_78 rfl rfl ?_
                      refine qa_iald hx hb hK hP (q0 := 109) (by decide) 0 (N := 1024) (hgU_109 ca o) rfl (gi_in (by omega) (by omega)) dX3_countAll_79 ?_
                      refine lv_topi (fun x84 e84 => ?_)
                      refine lv_aload_n hx hb dX3_countAll_80 rfl (lv_at hl 3 rfl) ?_
                      refine qf_get hx hb hts inX3 hown hK hP (q0 := 108) (by decide) (hgU_108 ca o) rfl 0 (by decide) wq_216 (v := .ref (o + 109)) rfl dX3_countAll_81 ?_
                      refine lv_iload hx hb dX3_countAll_84 (lv_at hl 0 rfl) ?_
                      refine lv_iload_n hx hb dX3_countAll_86 rfl (lv_at hl 1 rfl) ?_
                      refine lv_ior hx hb dX3_countAll_87 ?_
                      refine lv_topi (fun x85 e85 => ?_)
                      have t85 := gb_or (x := x9) (b := 4) (by omega) (by omega) (by decide) (by decide)
                      rw [← e85] at t85
                      refine qa_iald hx hb hK hP (q0 := 109) (by decide) 0 (N := 1024) (hgU_109 ca o) rfl (gi_in (by omega) (by omega)) dX3_countAll_88 ?_
                      refine lv_topi (fun x86 e86 => ?_)
                      refine lv_iadd hx hb dX3_countAll_89 ?_
                      refine lv_topi (fun x87 e87 => ?_)
                      refine qa_iast hx hb hK hP hS qw_Ai (q0 := 109) (by decide) 0 (N := 1024) (hgU_109 ca o) rfl (gi_in (by omega) (by omega)) dX3_countAll_90 (fun H locs hP hS => ?_)
                      obtain ⟨x88, e88⟩ : ∃ t : Int32, t = x9 + 1 := ⟨_, rfl⟩
                      refine lv_iinc (v := x88) (lv' := [(4, .int x88), (3, .int 4), (2, .int 2), (0, .ref (o + 108)), (1, .ref (o + 104))]) hx hb dX3_countAll_91 hl (k := 0) rfl (by rw [e88]; rfl) (by decide) rfl (fun ls hl => ?_)
                      refine lv_goto (tgt := 57) hx hb dX3_countAll_94 (by decide) ?_
                      exact ih (i9 + 1) x88 (qu z9 109 (x9.toNatClampNeg) x87) (by omega) (by omega) (by omega) (by rw [e88]; rw [gi_add (by rw [hx9]; show _ ≤ _ + (1 : Int); omega) (by rw [hx9]; show _ + (1 : Int) ≤ _; omega), hx9]; rfl) (fun (k : Nat) (h0 : k ≠ 104) (h1 : k ≠ 109) => by simp only [qu_ne h1]; exact g9 k h0 h1) (by show gMANY (qu _ 109 _ _ 109); rw [qu_eq]; exact gmany_step m9 (by omega) (by omega) (by rw [← e85]; exact t85) (gb_orT (by omega) (by omega) (by decide) (by decide)) (by rw [e87, e84, e86, ← e85])) _ _ hP hS _ (lv_sub hl [0, 1, 2, 3, 4] rfl)
              exact loop9 1025 0 0 z7 (by omega) (by omega) (by omega) rfl (fun (k : Nat) (h0 : k ≠ 104) (h1 : k ≠ 109) => g7 k h0 h1) (m7) _ _ hP hS _ (lv_sub hl [0, 1, 2, 3, 4] rfl)
            · have t8 : x7.toInt < (1024 : Int) := gl_nle c8
              refine lv_iload hx hb dX3_countAll_65 (lv_at hl 0 rfl) ?_
              refine lv_iload_n hx hb dX3_countAll_67 rfl (lv_at hl 1 rfl) ?_
              refine lv_iand hx hb dX3_countAll_68 ?_
              refine lv_topi (fun x89 e89 => ?_)
              refine lv_if_ne (tgt := 91) hx hb dX3_countAll_69 (by decide) (fun c90 => ?_) (fun c90 => ?_)
              · have t90 : x89.toInt ≠ (0 : Int) := gl_ne c90
                obtain ⟨x91, e91⟩ : ∃ t : Int32, t = x7 + 1 := ⟨_, rfl⟩
                refine lv_iinc (v := x91) (lv' := [(4, .int x91), (3, .int 2), (2, .int 1), (0, .ref (o + 108)), (1, .ref (o + 104))]) hx hb dX3_countAll_91 hl (k := 0) rfl (by rw [e91]; rfl) (by decide) rfl (fun ls hl => ?_)
                refine lv_goto (tgt := 57) hx hb dX3_countAll_94 (by decide) ?_
                exact ih (i7 + 1) x91 z7 (by omega) (by omega) (by omega) (by rw [e91]; rw [gi_add (by rw [hx7]; show _ ≤ _ + (1 : Int); omega) (by rw [hx7]; show _ + (1 : Int) ≤ _; omega), hx7]; rfl) (fun (k : Nat) (h0 : k ≠ 104) (h1 : k ≠ 109) => g7 k h0 h1) (m7) _ _ hP hS _ (lv_sub hl [0, 1, 2, 3, 4] rfl)
              · have t90 : x89.toInt = (0 : Int) := gl_eq c90
                refine lv_aload_n hx hb dX3_countAll_72 rfl (lv_at hl 3 rfl) ?_
                refine qf_get hx hb hts inX3 hown hK hP (q0 := 108) (by decide) (hgU_108 ca o) rfl 0 (by decide) wq_216 (v := .ref (o + 109)) rfl dX3_countAll_73 ?_
                refine lv_iload hx hb dX3_countAll_76 (lv_at hl 0 rfl) ?_
                refine lv_dup2_11 hx hb dX3_countAll_78 rfl rfl ?_
                refine qa_iald hx hb hK hP (q0 := 109) (by decide) 0 (N := 1024) (hgU_109 ca o) rfl (gi_in (by omega) (by omega)) dX3_countAll_79 ?_
                refine lv_topi (fun x92 e92 => ?_)
                refine lv_aload_n hx hb dX3_countAll_80 rfl (lv_at hl 3 rfl) ?_
                refine qf_get hx hb hts inX3 hown hK hP (q0 := 108) (by decide) (hgU_108 ca o) rfl 0 (by decide) wq_216 (v := .ref (o + 109)) rfl dX3_countAll_81 ?_
                refine lv_iload hx hb dX3_countAll_84 (lv_at hl 0 rfl) ?_
                refine lv_iload_n hx hb dX3_countAll_86 rfl (lv_at hl 1 rfl) ?_
                refine lv_ior hx hb dX3_countAll_87 ?_
                refine lv_topi (fun x93 e93 => ?_)
                have t93 := gb_or (x := x7) (b := 2) (by omega) (by omega) (by decide) (by decide)
                rw [← e93] at t93
                refine qa_iald hx hb hK hP (q0 := 109) (by decide) 0 (N := 1024) (hgU_109 ca o) rfl (gi_in (by omega) (by omega)) dX3_countAll_88 ?_
                refine lv_topi (fun x94 e94 => ?_)
                refine lv_iadd hx hb dX3_countAll_89 ?_
                refine lv_topi (fun x95 e95 => ?_)
                refine qa_iast hx hb hK hP hS qw_Ai (q0 := 109) (by decide) 0 (N := 1024) (hgU_109 ca o) rfl (gi_in (by omega) (by omega)) dX3_countAll_90 (fun H locs hP hS => ?_)
                obtain ⟨x96, e96⟩ : ∃ t : Int32, t = x7 + 1 := ⟨_, rfl⟩
                refine lv_iinc (v := x96) (lv' := [(4, .int x96), (3, .int 2), (2, .int 1), (0, .ref (o + 108)), (1, .ref (o + 104))]) hx hb dX3_countAll_91 hl (k := 0) rfl (by rw [e96]; rfl) (by decide) rfl (fun ls hl => ?_)
                refine lv_goto (tgt := 57) hx hb dX3_countAll_94 (by decide) ?_
                exact ih (i7 + 1) x96 (qu z7 109 (x7.toNatClampNeg) x95) (by omega) (by omega) (by omega) (by rw [e96]; rw [gi_add (by rw [hx7]; show _ ≤ _ + (1 : Int); omega) (by rw [hx7]; show _ + (1 : Int) ≤ _; omega), hx7]; rfl) (fun (k : Nat) (h0 : k ≠ 104) (h1 : k ≠ 109) => by simp only [qu_ne h1]; exact g7 k h0 h1) (by show gMANY (qu _ 109 _ _ 109); rw [qu_eq]; exact gmany_step m7 (by omega) (by omega) (by rw [← e93]; exact t93) (gb_orT (by omega) (by omega) (by decide) (by decide)) (by rw [e95, e92, e94, ← e93])) _ _ hP hS _ (lv_sub hl [0, 1, 2, 3, 4] rfl)
        exact loop7 1025 0 0 z5 (by omega) (by omega) (by omega) rfl (fun (k : Nat) (h0 : k ≠ 104) (h1 : k ≠ 109) => g5 k h0 h1) (m5) _ _ hP hS _ (lv_sub hl [0, 1, 2, 3, 4] rfl)
      · have t6 : x5.toInt < (1024 : Int) := gl_nle c6
        refine lv_iload hx hb dX3_countAll_65 (lv_at hl 0 rfl) ?_
        refine lv_iload_n hx hb dX3_countAll_67 rfl (lv_at hl 1 rfl) ?_
        refine lv_iand hx hb dX3_countAll_68 ?_
        refine lv_topi (fun x97 e97 => ?_)
        refine lv_if_ne (tgt := 91) hx hb dX3_countAll_69 (by decide) (fun c98 => ?_) (fun c98 => ?_)
        · have t98 : x97.toInt ≠ (0 : Int) := gl_ne c98
          obtain ⟨x99, e99⟩ : ∃ t : Int32, t = x5 + 1 := ⟨_, rfl⟩
          refine lv_iinc (v := x99) (lv' := [(4, .int x99), (3, .int 1), (2, .int 0), (0, .ref (o + 108)), (1, .ref (o + 104))]) hx hb dX3_countAll_91 hl (k := 0) rfl (by rw [e99]; rfl) (by decide) rfl (fun ls hl => ?_)
          refine lv_goto (tgt := 57) hx hb dX3_countAll_94 (by decide) ?_
          exact ih (i5 + 1) x99 z5 (by omega) (by omega) (by omega) (by rw [e99]; rw [gi_add (by rw [hx5]; show _ ≤ _ + (1 : Int); omega) (by rw [hx5]; show _ + (1 : Int) ≤ _; omega), hx5]; rfl) (fun (k : Nat) (h0 : k ≠ 104) (h1 : k ≠ 109) => g5 k h0 h1) (m5) _ _ hP hS _ (lv_sub hl [0, 1, 2, 3, 4] rfl)
        · have t98 : x97.toInt = (0 : Int) := gl_eq c98
          refine lv_aload_n hx hb dX3_countAll_72 rfl (lv_at hl 3 rfl) ?_
          refine qf_get hx hb hts inX3 hown hK hP (q0 := 108) (by decide) (hgU_108 ca o) rfl 0 (by decide) wq_216 (v := .ref (o + 109)) rfl dX3_countAll_73 ?_
          refine lv_iload hx hb dX3_countAll_76 (lv_at hl 0 rfl) ?_
          refine lv_dup2_11 hx hb dX3_countAll_78 rfl rfl ?_
          refine qa_iald hx hb hK hP (q0 := 109) (by decide) 0 (N := 1024) (hgU_109 ca o) rfl (gi_in (by omega) (by omega)) dX3_countAll_79 ?_
          refine lv_topi (fun x100 e100 => ?_)
          refine lv_aload_n hx hb dX3_countAll_80 rfl (lv_at hl 3 rfl) ?_
          refine qf_get hx hb hts inX3 hown hK hP (q0 := 108) (by decide) (hgU_108 ca o) rfl 0 (by decide) wq_216 (v := .ref (o + 109)) rfl dX3_countAll_81 ?_
          refine lv_iload hx hb dX3_countAll_84 (lv_at hl 0 rfl) ?_
          refine lv_iload_n hx hb dX3_countAll_86 rfl (lv_at hl 1 rfl) ?_
          refine lv_ior hx hb dX3_countAll_87 ?_
          refine lv_topi (fun x101 e101 => ?_)
          have t101 := gb_or (x := x5) (b := 1) (by omega) (by omega) (by decide) (by decide)
          rw [← e101] at t101
          refine qa_iald hx hb hK hP (q0 := 109) (by decide) 0 (N := 1024) (hgU_109 ca o) rfl (gi_in (by omega) (by omega)) dX3_countAll_88 ?_
          refine lv_topi (fun x102 e102 => ?_)
          refine lv_iadd hx hb dX3_countAll_89 ?_
          refine lv_topi (fun x103 e103 => ?_)
          refine qa_iast hx hb hK hP hS qw_Ai (q0 := 109) (by decide) 0 (N := 1024) (hgU_109 ca o) rfl (gi_in (by omega) (by omega)) dX3_countAll_90 (fun H locs hP hS => ?_)
          obtain ⟨x104, e104⟩ : ∃ t : Int32, t = x5 + 1 := ⟨_, rfl⟩
          refine lv_iinc (v := x104) (lv' := [(4, .int x104), (3, .int 1), (2, .int 0), (0, .ref (o + 108)), (1, .ref (o + 104))]) hx hb dX3_countAll_91 hl (k := 0) rfl (by rw [e104]; rfl) (by decide) rfl (fun ls hl => ?_)
          refine lv_goto (tgt := 57) hx hb dX3_countAll_94 (by decide) ?_
          exact ih (i5 + 1) x104 (qu z5 109 (x5.toNatClampNeg) x103) (by omega) (by omega) (by omega) (by rw [e104]; rw [gi_add (by rw [hx5]; show _ ≤ _ + (1 : Int); omega) (by rw [hx5]; show _ + (1 : Int) ≤ _; omega), hx5]; rfl) (fun (k : Nat) (h0 : k ≠ 104) (h1 : k ≠ 109) => by simp only [qu_ne h1]; exact g5 k h0 h1) (by show gMANY (qu _ 109 _ _ 109); rw [qu_eq]; exact gmany_step m5 (by omega) (by omega) (by rw [← e101]; exact t101) (gb_orT (by omega) (by omega) (by decide) (by decide)) (by rw [e103, e100, e102, ← e101])) _ _ hP hS _ (lv_sub hl [0, 1, 2, 3, 4] rfl)
  exact loop5 1025 0 0 (qu (qu z1 104 6 1) 109 ((0 : Int32).toNatClampNeg) 1) (by omega) (by omega) (by omega) rfl (fun (k : Nat) (h0 : k ≠ 104) (h1 : k ≠ 109) => by simp only [qu_ne h0, qu_ne h1]; exact g1 k h0 h1) (gmany_first (fun j hj => h1n j hj)) _ _ hP hS _ (lv_sub hl [0, 1, 2, 3, 4] rfl)

set_option maxRecDepth 100000 in
set_option maxHeartbeats 4000000 in
theorem u1_isCounted (l : Launch) (D : va_G) (ca : Nat → ClassId) (o : Nat) (z : Nat → Nat → Int32) (y : Nat → Nat → Int64)  (h1_5 : z 1 5 = 0) (h1_6 : z 1 6 = 0) (h108_1 : z 108 1 = 0) : qM l yX3_isCounted cX3_isCounted 2 (some .boolean) 4 128 (qPre D vwCl (qT6 ca) o 132 (qG (GU ca o) z y) [.ref (o + 108), .ref (o + 104)]) (va_Qi (fun r u => r = 1 ∧ (∀ k : Nat, (k ≠ 104) → (k ≠ 105) → (k ≠ 108) → (k ≠ 109) → u.1 k = z k) ∧ u.2 = y ∧ gMANY (u.1 109)) (qB D vwCl (qT6 ca) o 132 (fun u : qZ => qG (GU ca o) u.1 u.2)) (qw_A o 132)) (qw_A o 132) := by
  refine Met.ofW (cc := cX3_isCounted) (maxL := 2) (ret := (some .boolean)) (by decide) rfl ?_
  intro p e s m args below meth c s₁ B hml hv
  obtain ⟨rfl, hP, hK⟩ := hv
  have hx := B.exec
  have hb := B.bytes
  have hr := B.returns
  have hts0 := atoms_spec (ws := Cond.code yX3_isCounted cX3_isCounted 2 (some .boolean) :: qtbl) B.pre
  have hts : ∀ w ∈ qtbl, w.before _ s = true := fun w h => hts0 w (List.mem_cons_of_mem _ h)
  have hown : s.vm.findClass RX3 = some m.cls := findClass_of_methodNamed B.named
  have hlocks := B.notSynchronized
  have hz0 : (0 : Int32).toInt = 0 := rfl
  have hS : va_S (qw_A o 132) s.heap s.heap [] := va_S.rf
  have hl := lv_entry ([.ref (o + 108), .ref (o + 104)]) (n := 2) (Nat.le_of_ble_eq_true rfl)
  rw [lg_entry_eq]
  generalize (lg_sl ([.ref (o + 108), .ref (o + 104)]) ++ List.replicate (2 - (lg_sl ([.ref (o + 108), .ref (o + 104)])).length) Slot.unset).toArray = ls at hl ⊢
  have hl : lv_has ls 2 [(0, .ref (o + 108)), (1, .ref (o + 104))] := hl
  refine lv_aload_n hx hb dX3_isCounted_0 rfl (lv_at hl 0 rfl) ?_
  refine qf_get hx hb hts inX3 hown hK hP (q0 := 108) (by decide) (hgU_108 ca o) rfl 1 (by decide) wq_217 (v := .int (z 108 1)) rfl dX3_isCounted_1 ?_
  refine qtop (x' := 0) h108_1 ?_
  refine lv_if_ne (tgt := 31) hx hb dX3_isCounted_4 (by decide) (fun q => absurd q (by decide)) (fun _ => ?_)
  refine lv_aload_n hx hb dX3_isCounted_7 rfl (lv_at hl 1 rfl) ?_
  refine lv_aload_n hx hb dX3_isCounted_8 rfl (lv_at hl 1 rfl) ?_
  refine qf_get hx hb hts inX7 hown hK hP (q0 := 104) (by decide) (hgU_104 ca o) rfl 0 (by decide) wq_186 (v := .ref (o + 1)) rfl dX3_isCounted_9 ?_
  refine qc_Vi (As := []) (rest := [.ref (o + 104)]) (k0 := 0) (u1_remarksSaid l D ca o z y (h1_6)) kc_yX9_remarksSaid ⟨hx, hb, hml, hown, hts⟩ wq_631 rfl rfl ⟨Nat.le_of_ble_eq_true rfl, Nat.le_of_ble_eq_true rfl⟩ wq_all hP hK hS qw_Ai (q0 := 1) (by decide) (hgU_1 ca o _ _) rfl rfl hl.1 rfl (Nat.le_of_ble_eq_true rfl) dX3_isCounted_12 ⟨Nat.zero_le _, Nat.zero_le _⟩ (fun r1 u1 H locs h1 hP hS _ _ => ?_)
  subst h1
  refine qc_Vi (As := [.int 0]) (rest := []) (k0 := 1) (u1_start l D ca o z y (h1_5)) kc_yX7_start ⟨hx, hb, hml, hown, hts⟩ wq_632 rfl rfl ⟨Nat.le_of_ble_eq_true rfl, Nat.le_of_ble_eq_true rfl⟩ wq_all hP hK hS qw_Ai (q0 := 104) (by decide) (hgU_104 ca o _ _) rfl rfl hl.1 rfl (Nat.le_of_ble_eq_true rfl) dX3_isCounted_15 ⟨Nat.zero_le _, Nat.zero_le _⟩ (fun r2 u2 H locs h2 hP hS _ _ => ?_)
  obtain ⟨z2, y2⟩ := u2
  obtain ⟨h2r, h2f, h2y, h2a, h2b, h2c⟩ := h2
  dsimp only at h2f h2y h2a h2b h2c hP
  subst h2r; rw [h2y] at hP
  have g2 : ∀ k : Nat, (k ≠ 104) → (k ≠ 105) → (k ≠ 108) → (k ≠ 109) → z2 k = z k := fun k h0 h1 h2 h3 => (h2f k h0 h1).trans ((show ∀ k : Nat, (k ≠ 104) → (k ≠ 105) → (k ≠ 108) → (k ≠ 109) → z k = z k from (fun _ _ _ _ _ => rfl)) k h0 h1 h2 h3)
  have f2_1_5 : z2 1 5 = 0 := (congrFun (h2f 1 (by decide) (by decide)) 5).trans (h1_5)
  have f2_1_6 : z2 1 6 = 0 := (congrFun (h2f 1 (by decide) (by decide)) 6).trans (h1_6)
  have f2_108_1 : z2 108 1 = 0 := (congrFun (h2f 108 (by decide) (by decide)) 1).trans (h108_1)
  refine lv_if_eq (tgt := 31) hx hb dX3_isCounted_18 (by decide) (fun q => absurd q (by decide)) (fun _ => ?_)
  refine lv_aload_n hx hb dX3_isCounted_21 rfl (lv_at hl 0 rfl) ?_
  refine lv_aload_n hx hb dX3_isCounted_22 rfl (lv_at hl 1 rfl) ?_
  refine qc_Vv (As := [.ref (o + 104)]) (rest := []) (k0 := 1) (u1_countAll l D ca o z2 y (h2b) (h2a) (h2c)) kc_yX3_countAll ⟨hx, hb, hml, hown, hts⟩ wq_633 rfl rfl ⟨Nat.le_of_ble_eq_true rfl, Nat.le_of_ble_eq_true rfl⟩ wq_all hP hK hS qw_Ai (q0 := 108) (by decide) (hgU_108 ca o _ _) rfl rfl hl.1 rfl (Nat.le_of_ble_eq_true rfl) dX3_isCounted_23 ⟨Nat.zero_le _, Nat.zero_le _⟩ (fun u3 H locs h3 hP hS _ _ => ?_)
  obtain ⟨z3, y3⟩ := u3
  obtain ⟨h3f, h3y, h3m⟩ := h3
  dsimp only at h3f h3y h3m hP
  rw [h3y] at hP
  have g3 : ∀ k : Nat, (k ≠ 104) → (k ≠ 105) → (k ≠ 108) → (k ≠ 109) → z3 k = z k := fun k h0 h1 h2 h3 => (h3f k h0 h3).trans ((show ∀ k : Nat, (k ≠ 104) → (k ≠ 105) → (k ≠ 108) → (k ≠ 109) → z2 k = z k from (fun (k : Nat) (h0 : k ≠ 104) (h1 : k ≠ 105) (h2 : k ≠ 108) (h3 : k ≠ 109) => g2 k h0 h1 h2 h3)) k h0 h1 h2 h3)
  have f3_1_5 : z3 1 5 = 0 := (congrFun (h3f 1 (by decide) (by decide)) 5).trans (f2_1_5)
  have f3_1_6 : z3 1 6 = 0 := (congrFun (h3f 1 (by decide) (by decide)) 6).trans (f2_1_6)
  have f3_108_1 : z3 108 1 = 0 := (congrFun (h3f 108 (by decide) (by decide)) 1).trans (f2_108_1)
  refine lv_aload_n hx hb dX3_isCounted_26 rfl (lv_at hl 0 rfl) ?_
  refine lv_iconst (v := 1) hx hb dX3_isCounted_27 (by decide) ?_
  refine qf_put hx hb hts inX3 tyX3 tyX3_ok nmX3 hown hK hP hS qw_Ai (q0 := 108) (by decide) (hgU_108 ca o) rfl 1 (by decide) wq_217 rfl (x := 1) 1 rfl rfl rfl (Nat.le_of_ble_eq_true rfl) dX3_isCounted_28 (fun H locs hP hS => ?_)
  refine lv_aload_n hx hb dX3_isCounted_31 rfl (lv_at hl 0 rfl) ?_
  refine qf_get hx hb hts inX3 hown hK hP (q0 := 108) (by decide) (hgU_108 ca o) rfl 1 (by decide) wq_217 (v := .int ((qu z3 108 1 1) 108 1)) rfl dX3_isCounted_32 ?_
  refine qtop (x' := 1) rfl ?_
  exact W.zret (v := 1) (ty := .boolean) hx hb hr rfl (fun t ht hW => ⟨⟨1, ((qu z3 108 1 1), y), rfl, ⟨rfl, (fun (k : Nat) (h0 : k ≠ 104) (h1 : k ≠ 105) (h2 : k ≠ 108) (h3 : k ≠ 109) => by simp only [qu_ne h2]; exact g3 k h0 h1 h2 h3), rfl, h3m⟩, by rw [ht]; exact hP, va_K.moved hW.alike hK⟩, hS.F ht⟩) hS.2.2 dX3_isCounted_35

set_option maxRecDepth 100000 in
set_option maxHeartbeats 4000000 in
theorem u1_of0 (l : Launch) (D : va_G) (ca : Nat → ClassId) (o : Nat) (z : Nat → Nat → Int32) (y : Nat → Nat → Int64)  (h109_0 : z 109 0 = 1) : qM l yX3_of cX3_of 2 (some .int) 1 60 (qPre D vwCl (qT6 ca) o 132 (qG (GU ca o) z y) [.ref (o + 108), .int 0]) (va_Qi (fun r _ => r = 1) (qB D vwCl (qT6 ca) o 132 (fun _ : Unit => qG (GU ca o) z y)) (qw_A o 132)) (qw_A o 132) := by
  refine Met.ofW (cc := cX3_of) (maxL := 2) (ret := (some .int)) (by decide) rfl ?_
  intro p e s m args below meth c s₁ B hml hv
  obtain ⟨rfl, hP, hK⟩ := hv
  have hx := B.exec
  have hb := B.bytes
  have hr := B.returns
  have hts0 := atoms_spec (ws := Cond.code yX3_of cX3_of 2 (some .int) :: qtbl) B.pre
  have hts : ∀ w ∈ qtbl, w.before _ s = true := fun w h => hts0 w (List.mem_cons_of_mem _ h)
  have hown : s.vm.findClass RX3 = some m.cls := findClass_of_methodNamed B.named
  have hlocks := B.notSynchronized
  have hz0 : (0 : Int32).toInt = 0 := rfl
  have hS : va_S (qw_A o 132) s.heap s.heap [] := va_S.rf
  have hl := lv_entry ([.ref (o + 108), .int 0]) (n := 2) (Nat.le_of_ble_eq_true rfl)
  rw [lg_entry_eq]
  generalize (lg_sl ([.ref (o + 108), .int 0]) ++ List.replicate (2 - (lg_sl ([.ref (o + 108), .int 0])).length) Slot.unset).toArray = ls at hl ⊢
  have hl : lv_has ls 2 [(0, .ref (o + 108)), (1, .int 0)] := hl
  refine lv_iload_n hx hb dX3_of_0 rfl (lv_at hl 1 rfl) ?_
  refine lv_if_lt (tgt := 20) hx hb dX3_of_1 (by decide) (fun q => absurd q (by decide)) (fun _ => ?_)
  refine lv_iload_n hx hb dX3_of_4 rfl (lv_at hl 1 rfl) ?_
  refine lv_sipush (v := 1024) hx hb dX3_of_5 (by decide) ?_
  refine lv_icmp_ge (tgt := 20) hx hb dX3_of_8 (by decide) (fun q => absurd q (by decide)) (fun _ => ?_)
  refine lv_aload_n hx hb dX3_of_11 rfl (lv_at hl 0 rfl) ?_
  refine qf_get hx hb hts inX3 hown hK hP (q0 := 108) (by decide) (hgU_108 ca o) rfl 0 (by decide) wq_216 (v := .ref (o + 109)) rfl dX3_of_12 ?_
  refine lv_iload_n hx hb dX3_of_15 rfl (lv_at hl 1 rfl) ?_
  refine qa_iald hx hb hK hP (q0 := 109) (by decide) 0 (N := 1024) (hgU_109 ca o) rfl (gi_in (by decide) (by decide)) dX3_of_16 ?_
  refine qtop (x' := 1) h109_0 ?_
  refine lv_goto (tgt := 21) hx hb dX3_of_17 (by decide) ?_
  exact W.iret (v := 1) hx hb hr (fun t ht hW => ⟨⟨1, (), rfl, rfl, by rw [ht]; exact hP, va_K.moved hW.alike hK⟩, hS.F ht⟩) hS.2.2 dX3_of_21

set_option maxRecDepth 100000 in
set_option maxHeartbeats 4000000 in
theorem u1_ofAny (l : Launch) (D : va_G) (ca : Nat → ClassId) (o : Nat) (z : Nat → Nat → Int32) (y : Nat → Nat → Int64) (a1 : Int32)  : qM l yX3_of cX3_of 2 (some .int) 1 60 (qPre D vwCl (qT6 ca) o 132 (qG (GU ca o) z y) [.ref (o + 108), .int a1]) (va_Qi (fun _ _ => True) (qB D vwCl (qT6 ca) o 132 (fun _ : Unit => qG (GU ca o) z y)) (qw_A o 132)) (qw_A o 132) := by
  refine Met.ofW (cc := cX3_of) (maxL := 2) (ret := (some .int)) (by decide) rfl ?_
  intro p e s m args below meth c s₁ B hml hv
  obtain ⟨rfl, hP, hK⟩ := hv
  have hx := B.exec
  have hb := B.bytes
  have hr := B.returns
  have hts0 := atoms_spec (ws := Cond.code yX3_of cX3_of 2 (some .int) :: qtbl) B.pre
  have hts : ∀ w ∈ qtbl, w.before _ s = true := fun w h => hts0 w (List.mem_cons_of_mem _ h)
  have hown : s.vm.findClass RX3 = some m.cls := findClass_of_methodNamed B.named
  have hlocks := B.notSynchronized
  have hz0 : (0 : Int32).toInt = 0 := rfl
  have hS : va_S (qw_A o 132) s.heap s.heap [] := va_S.rf
  have hl := lv_entry ([.ref (o + 108), .int a1]) (n := 2) (Nat.le_of_ble_eq_true rfl)
  rw [lg_entry_eq]
  generalize (lg_sl ([.ref (o + 108), .int a1]) ++ List.replicate (2 - (lg_sl ([.ref (o + 108), .int a1])).length) Slot.unset).toArray = ls at hl ⊢
  have hl : lv_has ls 2 [(0, .ref (o + 108)), (1, .int a1)] := hl
  refine lv_iload_n hx hb dX3_of_0 rfl (lv_at hl 1 rfl) ?_
  refine lv_if_lt (tgt := 20) hx hb dX3_of_1 (by decide) (fun c1 => ?_) (fun c1 => ?_)
  · have t1 : a1.toInt < (0 : Int) := gl_lt c1
    refine lv_iconst (v := 0) hx hb dX3_of_20 (by decide) ?_
    exact W.iret (v := 0) hx hb hr (fun t ht hW => ⟨⟨0, (), rfl, trivial, by rw [ht]; exact hP, va_K.moved hW.alike hK⟩, hS.F ht⟩) hS.2.2 dX3_of_21
  · have t1 : a1.toInt ≥ (0 : Int) := gl_nlt c1
    refine lv_iload_n hx hb dX3_of_4 rfl (lv_at hl 1 rfl) ?_
    refine lv_sipush (v := 1024) hx hb dX3_of_5 (by decide) ?_
    refine lv_icmp_ge (tgt := 20) hx hb dX3_of_8 (by decide) (fun c2 => ?_) (fun c2 => ?_)
    · have t2 : a1.toInt ≥ (1024 : Int) := gl_le c2
      refine lv_iconst (v := 0) hx hb dX3_of_20 (by decide) ?_
      exact W.iret (v := 0) hx hb hr (fun t ht hW => ⟨⟨0, (), rfl, trivial, by rw [ht]; exact hP, va_K.moved hW.alike hK⟩, hS.F ht⟩) hS.2.2 dX3_of_21
    · have t2 : a1.toInt < (1024 : Int) := gl_nle c2
      refine lv_aload_n hx hb dX3_of_11 rfl (lv_at hl 0 rfl) ?_
      refine qf_get hx hb hts inX3 hown hK hP (q0 := 108) (by decide) (hgU_108 ca o) rfl 0 (by decide) wq_216 (v := .ref (o + 109)) rfl dX3_of_12 ?_
      refine lv_iload_n hx hb dX3_of_15 rfl (lv_at hl 1 rfl) ?_
      refine qa_iald hx hb hK hP (q0 := 109) (by decide) 0 (N := 1024) (hgU_109 ca o) rfl (gi_in (by omega) (by omega)) dX3_of_16 ?_
      refine lv_topi (fun x3 e3 => ?_)
      refine lv_goto (tgt := 21) hx hb dX3_of_17 (by decide) ?_
      exact W.iret (v := x3) hx hb hr (fun t ht hW => ⟨⟨x3, (), rfl, trivial, by rw [ht]; exact hP, va_K.moved hW.alike hK⟩, hS.F ht⟩) hS.2.2 dX3_of_21

set_option maxRecDepth 100000 in
set_option maxHeartbeats 4000000 in
theorem u1_allButOne (l : Launch) (D : va_G) (ca : Nat → ClassId) (o : Nat) (z : Nat → Nat → Int32) (y : Nat → Nat → Int64)  (h109_0 : z 109 0 = 1) : qM l yX3_allButOne cX3_allButOne 5 (some .int) 2 81 (qPre D vwCl (qT6 ca) o 132 (qG (GU ca o) z y) [.ref (o + 108), .int 0]) (va_Qi (fun r _ => r = 1) (qB D vwCl (qT6 ca) o 132 (fun _ : Unit => qG (GU ca o) z y)) (qw_A o 132)) (qw_A o 132) := by
  refine Met.ofW (cc := cX3_allButOne) (maxL := 5) (ret := (some .int)) (by decide) rfl ?_
  intro p e s m args below meth c s₁ B hml hv
  obtain ⟨rfl, hP, hK⟩ := hv
  have hx := B.exec
  have hb := B.bytes
  have hr := B.returns
  have hts0 := atoms_spec (ws := Cond.code yX3_allButOne cX3_allButOne 5 (some .int) :: qtbl) B.pre
  have hts : ∀ w ∈ qtbl, w.before _ s = true := fun w h => hts0 w (List.mem_cons_of_mem _ h)
  have hown : s.vm.findClass RX3 = some m.cls := findClass_of_methodNamed B.named
  have hlocks := B.notSynchronized
  have hz0 : (0 : Int32).toInt = 0 := rfl
  have hS : va_S (qw_A o 132) s.heap s.heap [] := va_S.rf
  have hl := lv_entry ([.ref (o + 108), .int 0]) (n := 5) (Nat.le_of_ble_eq_true rfl)
  rw [lg_entry_eq]
  generalize (lg_sl ([.ref (o + 108), .int 0]) ++ List.replicate (5 - (lg_sl ([.ref (o + 108), .int 0])).length) Slot.unset).toArray = ls at hl ⊢
  have hl : lv_has ls 5 [(0, .ref (o + 108)), (1, .int 0)] := hl
  refine lv_aload_n hx hb dX3_allButOne_0 rfl (lv_at hl 0 rfl) ?_
  refine lv_iload_n hx hb dX3_allButOne_1 rfl (lv_at hl 1 rfl) ?_
  refine qc_Vi (As := [.int 0]) (rest := []) (k0 := 1) (u1_of0 l D ca o z y (h109_0)) kc_yX3_of ⟨hx, hb, hml, hown, hts⟩ wq_652 rfl rfl ⟨Nat.le_of_ble_eq_true rfl, Nat.le_of_ble_eq_true rfl⟩ wq_all hP hK hS qw_Ai (q0 := 108) (by decide) (hgU_108 ca o _ _) rfl rfl hl.1 rfl (Nat.le_of_ble_eq_true rfl) dX3_allButOne_2 ⟨Nat.zero_le _, Nat.zero_le _⟩ (fun r1 u1 H locs h1 hP hS _ _ => ?_)
  subst h1
  refine lv_istore_n (lv' := [(2, .int 1), (0, .ref (o + 108)), (1, .int 0)]) hx hb dX3_allButOne_5 rfl hl (by decide) rfl (fun ls hl => ?_)
  refine lv_iload_n hx hb dX3_allButOne_6 rfl (lv_at hl 0 rfl) ?_
  refine lv_istore_n (lv' := [(3, .int 1), (2, .int 1), (0, .ref (o + 108)), (1, .int 0)]) hx hb dX3_allButOne_7 rfl hl (by decide) rfl (fun ls hl => ?_)
  refine lv_iconst (v := 0) hx hb dX3_allButOne_8 (by decide) ?_
  refine lv_istore (lv' := [(4, .int 0), (3, .int 1), (2, .int 1), (0, .ref (o + 108)), (1, .int 0)]) hx hb dX3_allButOne_9 hl (by decide) rfl (fun ls hl => ?_)
  refine lv_iload hx hb dX3_allButOne_11 (lv_at hl 0 rfl) ?_
  refine lv_bipush (v := 10) hx hb dX3_allButOne_13 (by decide) ?_
  refine lv_icmp_ge (tgt := 50) hx hb dX3_allButOne_15 (by decide) (fun q => absurd q (by decide)) (fun _ => ?_)
  refine lv_iload_n hx hb dX3_allButOne_18 rfl (lv_at hl 4 rfl) ?_
  refine lv_iload hx hb dX3_allButOne_19 (lv_at hl 0 rfl) ?_
  refine lv_ishr hx hb dX3_allButOne_21 ?_
  refine qtop (x' := 0) (by decide) ?_
  refine lv_iconst (v := 1) hx hb dX3_allButOne_22 (by decide) ?_
  refine lv_iand hx hb dX3_allButOne_23 ?_
  refine qtop (x' := 0) (by decide) ?_
  refine lv_if_eq (tgt := 44) hx hb dX3_allButOne_24 (by decide) (fun _ => ?_) (fun q => absurd (by decide) q)
  refine lv_iinc (v := 1) (lv' := [(4, .int 1), (3, .int 1), (2, .int 1), (0, .ref (o + 108)), (1, .int 0)]) hx hb dX3_allButOne_44 hl (k := 0) rfl (by decide) (by decide) rfl (fun ls hl => ?_)
  refine lv_goto (tgt := 11) hx hb dX3_allButOne_47 (by decide) ?_
  refine lv_iload hx hb dX3_allButOne_11 (lv_at hl 0 rfl) ?_
  refine lv_bipush (v := 10) hx hb dX3_allButOne_13 (by decide) ?_
  refine lv_icmp_ge (tgt := 50) hx hb dX3_allButOne_15 (by decide) (fun q => absurd q (by decide)) (fun _ => ?_)
  refine lv_iload_n hx hb dX3_allButOne_18 rfl (lv_at hl 4 rfl) ?_
  refine lv_iload hx hb dX3_allButOne_19 (lv_at hl 0 rfl) ?_
  refine lv_ishr hx hb dX3_allButOne_21 ?_
  refine qtop (x' := 0) (by decide) ?_
  refine lv_iconst (v := 1) hx hb dX3_allButOne_22 (by decide) ?_
  refine lv_iand hx hb dX3_allButOne_23 ?_
  refine qtop (x' := 0) (by decide) ?_
  refine lv_if_eq (tgt := 44) hx hb dX3_allButOne_24 (by decide) (fun _ => ?_) (fun q => absurd (by decide) q)
  refine lv_iinc (v := 2) (lv' := [(4, .int 2), (3, .int 1), (2, .int 1), (0, .ref (o + 108)), (1, .int 0)]) hx hb dX3_allButOne_44 hl (k := 0) rfl (by decide) (by decide) rfl (fun ls hl => ?_)
  refine lv_goto (tgt := 11) hx hb dX3_allButOne_47 (by decide) ?_
  refine lv_iload hx hb dX3_allButOne_11 (lv_at hl 0 rfl) ?_
  refine lv_bipush (v := 10) hx hb dX3_allButOne_13 (by decide) ?_
  refine lv_icmp_ge (tgt := 50) hx hb dX3_allButOne_15 (by decide) (fun q => absurd q (by decide)) (fun _ => ?_)
  refine lv_iload_n hx hb dX3_allButOne_18 rfl (lv_at hl 4 rfl) ?_
  refine lv_iload hx hb dX3_allButOne_19 (lv_at hl 0 rfl) ?_
  refine lv_ishr hx hb dX3_allButOne_21 ?_
  refine qtop (x' := 0) (by decide) ?_
  refine lv_iconst (v := 1) hx hb dX3_allButOne_22 (by decide) ?_
  refine lv_iand hx hb dX3_allButOne_23 ?_
  refine qtop (x' := 0) (by decide) ?_
  refine lv_if_eq (tgt := 44) hx hb dX3_allButOne_24 (by decide) (fun _ => ?_) (fun q => absurd (by decide) q)
  refine lv_iinc (v := 3) (lv' := [(4, .int 3), (3, .int 1), (2, .int 1), (0, .ref (o + 108)), (1, .int 0)]) hx hb dX3_allButOne_44 hl (k := 0) rfl (by decide) (by decide) rfl (fun ls hl => ?_)
  refine lv_goto (tgt := 11) hx hb dX3_allButOne_47 (by decide) ?_
  refine lv_iload hx hb dX3_allButOne_11 (lv_at hl 0 rfl) ?_
  refine lv_bipush (v := 10) hx hb dX3_allButOne_13 (by decide) ?_
  refine lv_icmp_ge (tgt := 50) hx hb dX3_allButOne_15 (by decide) (fun q => absurd q (by decide)) (fun _ => ?_)
  refine lv_iload_n hx hb dX3_allButOne_18 rfl (lv_at hl 4 rfl) ?_
  refine lv_iload hx hb dX3_allButOne_19 (lv_at hl 0 rfl) ?_
  refine lv_ishr hx hb dX3_allButOne_21 ?_
  refine qtop (x' := 0) (by decide) ?_
  refine lv_iconst (v := 1) hx hb dX3_allButOne_22 (by decide) ?_
  refine lv_iand hx hb dX3_allButOne_23 ?_
  refine qtop (x' := 0) (by decide) ?_
  refine lv_if_eq (tgt := 44) hx hb dX3_allButOne_24 (by decide) (fun _ => ?_) (fun q => absurd (by decide) q)
  refine lv_iinc (v := 4) (lv' := [(4, .int 4), (3, .int 1), (2, .int 1), (0, .ref (o + 108)), (1, .int 0)]) hx hb dX3_allButOne_44 hl (k := 0) rfl (by decide) (by decide) rfl (fun ls hl => ?_)
  refine lv_goto (tgt := 11) hx hb dX3_allButOne_47 (by decide) ?_
  refine lv_iload hx hb dX3_allButOne_11 (lv_at hl 0 rfl) ?_
  refine lv_bipush (v := 10) hx hb dX3_allButOne_13 (by decide) ?_
  refine lv_icmp_ge (tgt := 50) hx hb dX3_allButOne_15 (by decide) (fun q => absurd q (by decide)) (fun _ => ?_)
  refine lv_iload_n hx hb dX3_allButOne_18 rfl (lv_at hl 4 rfl) ?_
  refine lv_iload hx hb dX3_allButOne_19 (lv_at hl 0 rfl) ?_
  refine lv_ishr hx hb dX3_allButOne_21 ?_
  refine qtop (x' := 0) (by decide) ?_
  refine lv_iconst (v := 1) hx hb dX3_allButOne_22 (by decide) ?_
  refine lv_iand hx hb dX3_allButOne_23 ?_
  refine qtop (x' := 0) (by decide) ?_
  refine lv_if_eq (tgt := 44) hx hb dX3_allButOne_24 (by decide) (fun _ => ?_) (fun q => absurd (by decide) q)
  refine lv_iinc (v := 5) (lv' := [(4, .int 5), (3, .int 1), (2, .int 1), (0, .ref (o + 108)), (1, .int 0)]) hx hb dX3_allButOne_44 hl (k := 0) rfl (by decide) (by decide) rfl (fun ls hl => ?_)
  refine lv_goto (tgt := 11) hx hb dX3_allButOne_47 (by decide) ?_
  refine lv_iload hx hb dX3_allButOne_11 (lv_at hl 0 rfl) ?_
  refine lv_bipush (v := 10) hx hb dX3_allButOne_13 (by decide) ?_
  refine lv_icmp_ge (tgt := 50) hx hb dX3_allButOne_15 (by decide) (fun q => absurd q (by decide)) (fun _ => ?_)
  refine lv_iload_n hx hb dX3_allButOne_18 rfl (lv_at hl 4 rfl) ?_
  refine lv_iload hx hb dX3_allButOne_19 (lv_at hl 0 rfl) ?_
  refine lv_ishr hx hb dX3_allButOne_21 ?_
  refine qtop (x' := 0) (by decide) ?_
  refine lv_iconst (v := 1) hx hb dX3_allButOne_22 (by decide) ?_
  refine lv_iand hx hb dX3_allButOne_23 ?_
  refine qtop (x' := 0) (by decide) ?_
  refine lv_if_eq (tgt := 44) hx hb dX3_allButOne_24 (by decide) (fun _ => ?_) (fun q => absurd (by decide) q)
  refine lv_iinc (v := 6) (lv' := [(4, .int 6), (3, .int 1), (2, .int 1), (0, .ref (o + 108)), (1, .int 0)]) hx hb dX3_allButOne_44 hl (k := 0) rfl (by decide) (by decide) rfl (fun ls hl => ?_)
  refine lv_goto (tgt := 11) hx hb dX3_allButOne_47 (by decide) ?_
  refine lv_iload hx hb dX3_allButOne_11 (lv_at hl 0 rfl) ?_
  refine lv_bipush (v := 10) hx hb dX3_allButOne_13 (by decide) ?_
  refine lv_icmp_ge (tgt := 50) hx hb dX3_allButOne_15 (by decide) (fun q => absurd q (by decide)) (fun _ => ?_)
  refine lv_iload_n hx hb dX3_allButOne_18 rfl (lv_at hl 4 rfl) ?_
  refine lv_iload hx hb dX3_allButOne_19 (lv_at hl 0 rfl) ?_
  refine lv_ishr hx hb dX3_allButOne_21 ?_
  refine qtop (x' := 0) (by decide) ?_
  refine lv_iconst (v := 1) hx hb dX3_allButOne_22 (by decide) ?_
  refine lv_iand hx hb dX3_allButOne_23 ?_
  refine qtop (x' := 0) (by decide) ?_
  refine lv_if_eq (tgt := 44) hx hb dX3_allButOne_24 (by decide) (fun _ => ?_) (fun q => absurd (by decide) q)
  refine lv_iinc (v := 7) (lv' := [(4, .int 7), (3, .int 1), (2, .int 1), (0, .ref (o + 108)), (1, .int 0)]) hx hb dX3_allButOne_44 hl (k := 0) rfl (by decide) (by decide) rfl (fun ls hl => ?_)
  refine lv_goto (tgt := 11) hx hb dX3_allButOne_47 (by decide) ?_
  refine lv_iload hx hb dX3_allButOne_11 (lv_at hl 0 rfl) ?_
  refine lv_bipush (v := 10) hx hb dX3_allButOne_13 (by decide) ?_
  refine lv_icmp_ge (tgt := 50) hx hb dX3_allButOne_15 (by decide) (fun q => absurd q (by decide)) (fun _ => ?_)
  refine lv_iload_n hx hb dX3_allButOne_18 rfl (lv_at hl 4 rfl) ?_
  refine lv_iload hx hb dX3_allButOne_19 (lv_at hl 0 rfl) ?_
  refine lv_ishr hx hb dX3_allButOne_21 ?_
  refine qtop (x' := 0) (by decide) ?_
  refine lv_iconst (v := 1) hx hb dX3_allButOne_22 (by decide) ?_
  refine lv_iand hx hb dX3_allButOne_23 ?_
  refine qtop (x' := 0) (by decide) ?_
  refine lv_if_eq (tgt := 44) hx hb dX3_allButOne_24 (by decide) (fun _ => ?_) (fun q => absurd (by decide) q)
  refine lv_iinc (v := 8) (lv' := [(4, .int 8), (3, .int 1), (2, .int 1), (0, .ref (o + 108)), (1, .int 0)]) hx hb dX3_allButOne_44 hl (k := 0) rfl (by decide) (by decide) rfl (fun ls hl => ?_)
  refine lv_goto (tgt := 11) hx hb dX3_allButOne_47 (by decide) ?_
  refine lv_iload hx hb dX3_allButOne_11 (lv_at hl 0 rfl) ?_
  refine lv_bipush (v := 10) hx hb dX3_allButOne_13 (by decide) ?_
  refine lv_icmp_ge (tgt := 50) hx hb dX3_allButOne_15 (by decide) (fun q => absurd q (by decide)) (fun _ => ?_)
  refine lv_iload_n hx hb dX3_allButOne_18 rfl (lv_at hl 4 rfl) ?_
  refine lv_iload hx hb dX3_allButOne_19 (lv_at hl 0 rfl) ?_
  refine lv_ishr hx hb dX3_allButOne_21 ?_
  refine qtop (x' := 0) (by decide) ?_
  refine lv_iconst (v := 1) hx hb dX3_allButOne_22 (by decide) ?_
  refine lv_iand hx hb dX3_allButOne_23 ?_
  refine qtop (x' := 0) (by decide) ?_
  refine lv_if_eq (tgt := 44) hx hb dX3_allButOne_24 (by decide) (fun _ => ?_) (fun q => absurd (by decide) q)
  refine lv_iinc (v := 9) (lv' := [(4, .int 9), (3, .int 1), (2, .int 1), (0, .ref (o + 108)), (1, .int 0)]) hx hb dX3_allButOne_44 hl (k := 0) rfl (by decide) (by decide) rfl (fun ls hl => ?_)
  refine lv_goto (tgt := 11) hx hb dX3_allButOne_47 (by decide) ?_
  refine lv_iload hx hb dX3_allButOne_11 (lv_at hl 0 rfl) ?_
  refine lv_bipush (v := 10) hx hb dX3_allButOne_13 (by decide) ?_
  refine lv_icmp_ge (tgt := 50) hx hb dX3_allButOne_15 (by decide) (fun q => absurd q (by decide)) (fun _ => ?_)
  refine lv_iload_n hx hb dX3_allButOne_18 rfl (lv_at hl 4 rfl) ?_
  refine lv_iload hx hb dX3_allButOne_19 (lv_at hl 0 rfl) ?_
  refine lv_ishr hx hb dX3_allButOne_21 ?_
  refine qtop (x' := 0) (by decide) ?_
  refine lv_iconst (v := 1) hx hb dX3_allButOne_22 (by decide) ?_
  refine lv_iand hx hb dX3_allButOne_23 ?_
  refine qtop (x' := 0) (by decide) ?_
  refine lv_if_eq (tgt := 44) hx hb dX3_allButOne_24 (by decide) (fun _ => ?_) (fun q => absurd (by decide) q)
  refine lv_iinc (v := 10) (lv' := [(4, .int 10), (3, .int 1), (2, .int 1), (0, .ref (o + 108)), (1, .int 0)]) hx hb dX3_allButOne_44 hl (k := 0) rfl (by decide) (by decide) rfl (fun ls hl => ?_)
  refine lv_goto (tgt := 11) hx hb dX3_allButOne_47 (by decide) ?_
  refine lv_iload hx hb dX3_allButOne_11 (lv_at hl 0 rfl) ?_
  refine lv_bipush (v := 10) hx hb dX3_allButOne_13 (by decide) ?_
  refine lv_icmp_ge (tgt := 50) hx hb dX3_allButOne_15 (by decide) (fun _ => ?_) (fun q => absurd (by decide) q)
  refine lv_iload_n hx hb dX3_allButOne_50 rfl (lv_at hl 1 rfl) ?_
  exact W.iret (v := 1) hx hb hr (fun t ht hW => ⟨⟨1, (), rfl, rfl, by rw [ht]; exact hP, va_K.moved hW.alike hK⟩, hS.F ht⟩) hS.2.2 dX3_allButOne_51

set_option maxRecDepth 100000 in
set_option maxHeartbeats 4000000 in
theorem u1_gather (l : Launch) (D : va_G) (ca : Nat → ClassId) (o : Nat) (z : Nat → Nat → Int32) (y : Nat → Nat → Int64)  (h1_5 : z 1 5 = 0) : qM l yX2_gather cX2_gather 4 (some .boolean) 4 128 (qPre D vwCl (qT6 ca) o 132 (qG (GU ca o) z y) [.ref (o + 110), .ref (o + 104), .int 0]) (va_Qi (fun r u => r = 1 ∧ (∀ k : Nat, (k ≠ 104) → (k ≠ 105) → (k ≠ 110) → (k ≠ 111) → u.1 k = z k) ∧ u.2 = y ∧ u.1 110 3 = 1) (qB D vwCl (qT6 ca) o 132 (fun u : qZ => qG (GU ca o) u.1 u.2)) (qw_A o 132)) (qw_A o 132) := by
  refine Met.ofW (cc := cX2_gather) (maxL := 4) (ret := (some .boolean)) (by decide) rfl ?_
  intro p e s m args below meth c s₁ B hml hv
  obtain ⟨rfl, hP, hK⟩ := hv
  have hx := B.exec
  have hb := B.bytes
  have hr := B.returns
  have hts0 := atoms_spec (ws := Cond.code yX2_gather cX2_gather 4 (some .boolean) :: qtbl) B.pre
  have hts : ∀ w ∈ qtbl, w.before _ s = true := fun w h => hts0 w (List.mem_cons_of_mem _ h)
  have hown : s.vm.findClass RX2 = some m.cls := findClass_of_methodNamed B.named
  have hlocks := B.notSynchronized
  have hz0 : (0 : Int32).toInt = 0 := rfl
  have hS : va_S (qw_A o 132) s.heap s.heap [] := va_S.rf
  have hl := lv_entry ([.ref (o + 110), .ref (o + 104), .int 0]) (n := 4) (Nat.le_of_ble_eq_true rfl)
  rw [lg_entry_eq]
  generalize (lg_sl ([.ref (o + 110), .ref (o + 104), .int 0]) ++ List.replicate (4 - (lg_sl ([.ref (o + 110), .ref (o + 104), .int 0])).length) Slot.unset).toArray = ls at hl ⊢
  have hl : lv_has ls 4 [(0, .ref (o + 110)), (1, .ref (o + 104)), (2, .int 0)] := hl
  refine lv_aload_n hx hb dX2_gather_0 rfl (lv_at hl 0 rfl) ?_
  refine lv_iconst (v := 0) hx hb dX2_gather_1 (by decide) ?_
  refine qf_put hx hb hts inX2 tyX2 tyX2_ok nmX2 hown hK hP hS qw_Ai (q0 := 110) (by decide) (hgU_110 ca o) rfl 3 (by decide) wq_233 rfl (x := 0) 3 rfl rfl rfl (Nat.le_of_ble_eq_true rfl) dX2_gather_2 (fun H locs hP hS => ?_)
  refine lv_aload_n hx hb dX2_gather_5 rfl (lv_at hl 1 rfl) ?_
  refine lv_iload_n hx hb dX2_gather_6 rfl (lv_at hl 2 rfl) ?_
  refine qc_Vi (As := [.int 0]) (rest := []) (k0 := 1) (u1_start l D ca o (qu z 110 3 0) y (h1_5)) kc_yX7_start ⟨hx, hb, hml, hown, hts⟩ wq_751 rfl rfl ⟨Nat.le_of_ble_eq_true rfl, Nat.le_of_ble_eq_true rfl⟩ wq_all hP hK hS qw_Ai (q0 := 104) (by decide) (hgU_104 ca o _ _) rfl rfl hl.1 rfl (Nat.le_of_ble_eq_true rfl) dX2_gather_7 ⟨Nat.zero_le _, Nat.zero_le _⟩ (fun r1 u1 H locs h1 hP hS _ _ => ?_)
  obtain ⟨z1, y1⟩ := u1
  obtain ⟨h1r, h1f, h1y, h1a, h1b, h1c⟩ := h1
  dsimp only at h1f h1y h1a h1b h1c hP
  subst h1r; rw [h1y] at hP
  have g1 : ∀ k : Nat, (k ≠ 104) → (k ≠ 105) → (k ≠ 110) → (k ≠ 111) → z1 k = z k := fun k h0 h1 h2 h3 => (h1f k h0 h1).trans ((show ∀ k : Nat, (k ≠ 104) → (k ≠ 105) → (k ≠ 110) → (k ≠ 111) → (qu z 110 3 0) k = z k from (fun (k : Nat) (h0 : k ≠ 104) (h1 : k ≠ 105) (h2 : k ≠ 110) (h3 : k ≠ 111) => by simp only [qu_ne h2])) k h0 h1 h2 h3)
  have f1_1_5 : z1 1 5 = 0 := (congrFun (h1f 1 (by decide) (by decide)) 5).trans (h1_5)
  have f1_110_3 : z1 110 3 = 0 := (congrFun (h1f 110 (by decide) (by decide)) 3).trans rfl
  refine lv_if_ne (tgt := 15) hx hb dX2_gather_10 (by decide) (fun _ => ?_) (fun q => absurd q (by decide))
  refine lv_iconst (v := 0) hx hb dX2_gather_15 (by decide) ?_
  refine lv_istore_n (lv' := [(3, .int 0), (0, .ref (o + 110)), (1, .ref (o + 104)), (2, .int 0)]) hx hb dX2_gather_16 rfl hl (by decide) rfl (fun ls hl => ?_)
  refine lv_iload_n hx hb dX2_gather_17 rfl (lv_at hl 0 rfl) ?_
  refine lv_ldc (v := 200000) hx hb hown (hts _ wq_752) dX2_gather_18 ?_
  refine lv_icmp_ge (tgt := 79) hx hb dX2_gather_20 (by decide) (fun q => absurd q (by decide)) (fun _ => ?_)
  refine lv_aload_n hx hb dX2_gather_23 rfl (lv_at hl 2 rfl) ?_
  refine qc_Vi (As := []) (rest := []) (k0 := 0) (u1_nextA l D ca o z1 y (h1b) (h1a) (h1c)) kc_yX7_next ⟨hx, hb, hml, hown, hts⟩ wq_753 rfl rfl ⟨Nat.le_of_ble_eq_true rfl, Nat.le_of_ble_eq_true rfl⟩ wq_all hP hK hS qw_Ai (q0 := 104) (by decide) (hgU_104 ca o _ _) rfl rfl hl.1 rfl (Nat.le_of_ble_eq_true rfl) dX2_gather_24 ⟨Nat.zero_le _, Nat.zero_le _⟩ (fun r2 u2 H locs h2 hP hS _ _ => ?_)
  obtain ⟨z2, y2⟩ := u2
  obtain ⟨hr2, hz2, hy2⟩ := h2
  subst hr2
  dsimp only at hz2 hy2 hP
  subst hz2; rw [hy2] at hP
  refine lv_if_eq (tgt := 79) hx hb dX2_gather_27 (by decide) (fun q => absurd q (by decide)) (fun _ => ?_)
  refine lv_aload_n hx hb dX2_gather_30 rfl (lv_at hl 1 rfl) ?_
  refine qf_get hx hb hts inX2 hown hK hP (q0 := 110) (by decide) (hgU_110 ca o) rfl 3 (by decide) wq_233 (v := .int ((qu z1 104 6 1) 110 3)) rfl dX2_gather_31 ?_
  refine qtop (x' := 0) f1_110_3 ?_
  refine lv_sipush (v := 2000) hx hb dX2_gather_34 (by decide) ?_
  refine lv_icmp_lt (tgt := 42) hx hb dX2_gather_37 (by decide) (fun _ => ?_) (fun q => absurd (by decide) q)
  refine lv_aload_n hx hb dX2_gather_42 rfl (lv_at hl 2 rfl) ?_
  refine qf_get hx hb hts inX7 hown hK hP (q0 := 104) (by decide) (hgU_104 ca o) rfl 1 (by decide) wq_188 (v := .ref (o + 105)) rfl dX2_gather_43 ?_
  refine lv_iconst (v := 0) hx hb dX2_gather_46 (by decide) ?_
  refine lv_aload_n hx hb dX2_gather_47 rfl (lv_at hl 1 rfl) ?_
  refine qf_get hx hb hts inX2 hown hK hP (q0 := 110) (by decide) (hgU_110 ca o) rfl 0 (by decide) wq_229 (v := .ref (o + 111)) rfl dX2_gather_48 ?_
  refine lv_aload_n hx hb dX2_gather_51 rfl (lv_at hl 1 rfl) ?_
  refine qf_get hx hb hts inX2 hown hK hP (q0 := 110) (by decide) (hgU_110 ca o) rfl 3 (by decide) wq_233 (v := .int ((qu z1 104 6 1) 110 3)) rfl dX2_gather_52 ?_
  refine qtop (x' := 0) f1_110_3 ?_
  refine lv_bipush (v := 6) hx hb dX2_gather_55 (by decide) ?_
  refine lv_imul hx hb dX2_gather_57 ?_
  refine qtop (x' := 0) (by decide) ?_
  refine lv_bipush (v := 6) hx hb dX2_gather_58 (by decide) ?_
  refine qa_copy hx hb (hml.trans hl.1.symm) hown (hts _ wq_754) (hts _ wq_485) (hts _ wq_484) (hts _ wq_15) hK hP hS qw_Ai (q0 := 105) (q1 := 111) (by decide) (by decide) 0 (hgU_105 ca o) (hgU_111 ca o) rfl (sp := 0) (dp := 0) (k := 6) (by decide) (by decide) (by decide) (by decide) (by decide) (Nat.le_of_ble_eq_true rfl) (Nat.le_of_ble_eq_true rfl) dX2_gather_60 (fun H locs hP hS => ?_)
  refine lv_aload_n hx hb dX2_gather_63 rfl (lv_at hl 1 rfl) ?_
  refine lv_dup hx hb dX2_gather_64 rfl ?_
  refine qf_get hx hb hts inX2 hown hK hP (q0 := 110) (by decide) (hgU_110 ca o) rfl 3 (by decide) wq_233 (v := .int ((quf (qu z1 104 6 1) 111 (va_cpy ((qu z1 104 6 1) 105) ((qu z1 104 6 1) 111) ((0 : Int32).toNatClampNeg) ((0 : Int32).toNatClampNeg) ((6 : Int32).toNatClampNeg))) 110 3)) rfl dX2_gather_65 ?_
  refine qtop (x' := 0) f1_110_3 ?_
  refine lv_iconst (v := 1) hx hb dX2_gather_68 (by decide) ?_
  refine lv_iadd hx hb dX2_gather_69 ?_
  refine qtop (x' := 1) (by decide) ?_
  refine qf_put hx hb hts inX2 tyX2 tyX2_ok nmX2 hown hK hP hS qw_Ai (q0 := 110) (by decide) (hgU_110 ca o) rfl 3 (by decide) wq_233 rfl (x := 1) 3 rfl rfl rfl (Nat.le_of_ble_eq_true rfl) dX2_gather_70 (fun H locs hP hS => ?_)
  refine lv_iinc (v := 1) (lv' := [(3, .int 1), (0, .ref (o + 110)), (1, .ref (o + 104)), (2, .int 0)]) hx hb dX2_gather_73 hl (k := 0) rfl (by decide) (by decide) rfl (fun ls hl => ?_)
  refine lv_goto (tgt := 17) hx hb dX2_gather_76 (by decide) ?_
  refine lv_iload_n hx hb dX2_gather_17 rfl (lv_at hl 0 rfl) ?_
  refine lv_ldc (v := 200000) hx hb hown (hts _ wq_752) dX2_gather_18 ?_
  refine lv_icmp_ge (tgt := 79) hx hb dX2_gather_20 (by decide) (fun q => absurd q (by decide)) (fun _ => ?_)
  refine lv_aload_n hx hb dX2_gather_23 rfl (lv_at hl 2 rfl) ?_
  refine qc_Vi (As := []) (rest := []) (k0 := 0) (u1_nextB l D ca o (qu (quf (qu z1 104 6 1) 111 (va_cpy ((qu z1 104 6 1) 105) ((qu z1 104 6 1) 111) ((0 : Int32).toNatClampNeg) ((0 : Int32).toNatClampNeg) ((6 : Int32).toNatClampNeg))) 110 3 1) y rfl (h1a) (h1c)) kc_yX7_next ⟨hx, hb, hml, hown, hts⟩ wq_753 rfl rfl ⟨Nat.le_of_ble_eq_true rfl, Nat.le_of_ble_eq_true rfl⟩ wq_all hP hK hS qw_Ai (q0 := 104) (by decide) (hgU_104 ca o _ _) rfl rfl hl.1 rfl (Nat.le_of_ble_eq_true rfl) dX2_gather_24 ⟨Nat.zero_le _, Nat.zero_le _⟩ (fun r3 u3 H locs h3 hP hS _ _ => ?_)
  subst h3
  refine lv_if_eq (tgt := 79) hx hb dX2_gather_27 (by decide) (fun _ => ?_) (fun q => absurd (by decide) q)
  refine lv_iconst (v := 1) hx hb dX2_gather_79 (by decide) ?_
  exact W.zret (v := 1) (ty := .boolean) hx hb hr rfl (fun t ht hW => ⟨⟨1, ((qu (quf (qu z1 104 6 1) 111 (va_cpy ((qu z1 104 6 1) 105) ((qu z1 104 6 1) 111) ((0 : Int32).toNatClampNeg) ((0 : Int32).toNatClampNeg) ((6 : Int32).toNatClampNeg))) 110 3 1), y), rfl, ⟨rfl, (fun (k : Nat) (h0 : k ≠ 104) (h1 : k ≠ 105) (h2 : k ≠ 110) (h3 : k ≠ 111) => by simp only [qu_ne h0, quf_ne h3, qu_ne h2]; exact g1 k h0 h1 h2 h3), rfl, rfl⟩, by rw [ht]; exact hP, va_K.moved hW.alike hK⟩, hS.F ht⟩) hS.2.2 dX2_gather_80

set_option maxRecDepth 100000 in
set_option maxHeartbeats 4000000 in
theorem u1_ageOf (l : Launch) (D : va_G) (ca : Nat → ClassId) (o : Nat) (z : Nat → Nat → Int32) (y : Nat → Nat → Int64) (a1 : Int32) (b1 : 0 ≤ a1.toInt) (b2 : a1.toInt < 6)  : qM l yX2_ageOf cX2_ageOf 3 (some .int) 1 60 (qPre D vwCl (qT6 ca) o 132 (qG (GU ca o) z y) [.ref (o + 110), .int 0, .int a1]) (va_Qi (fun _ _ => True) (qB D vwCl (qT6 ca) o 132 (fun _ : Unit => qG (GU ca o) z y)) (qw_A o 132)) (qw_A o 132) := by
  refine Met.ofW (cc := cX2_ageOf) (maxL := 3) (ret := (some .int)) (by decide) rfl ?_
  intro p e s m args below meth c s₁ B hml hv
  obtain ⟨rfl, hP, hK⟩ := hv
  have hx := B.exec
  have hb := B.bytes
  have hr := B.returns
  have hts0 := atoms_spec (ws := Cond.code yX2_ageOf cX2_ageOf 3 (some .int) :: qtbl) B.pre
  have hts : ∀ w ∈ qtbl, w.before _ s = true := fun w h => hts0 w (List.mem_cons_of_mem _ h)
  have hown : s.vm.findClass RX2 = some m.cls := findClass_of_methodNamed B.named
  have hlocks := B.notSynchronized
  have hz0 : (0 : Int32).toInt = 0 := rfl
  have hS : va_S (qw_A o 132) s.heap s.heap [] := va_S.rf
  have hl := lv_entry ([.ref (o + 110), .int 0, .int a1]) (n := 3) (Nat.le_of_ble_eq_true rfl)
  rw [lg_entry_eq]
  generalize (lg_sl ([.ref (o + 110), .int 0, .int a1]) ++ List.replicate (3 - (lg_sl ([.ref (o + 110), .int 0, .int a1])).length) Slot.unset).toArray = ls at hl ⊢
  have hl : lv_has ls 3 [(0, .ref (o + 110)), (1, .int 0), (2, .int a1)] := hl
  refine lv_aload_n hx hb dX2_ageOf_0 rfl (lv_at hl 0 rfl) ?_
  refine qf_get hx hb hts inX2 hown hK hP (q0 := 110) (by decide) (hgU_110 ca o) rfl 0 (by decide) wq_229 (v := .ref (o + 111)) rfl dX2_ageOf_1 ?_
  refine lv_iload_n hx hb dX2_ageOf_4 rfl (lv_at hl 1 rfl) ?_
  refine lv_bipush (v := 6) hx hb dX2_ageOf_5 (by decide) ?_
  refine lv_imul hx hb dX2_ageOf_7 ?_
  refine qtop (x' := 0) (by decide) ?_
  refine lv_iload_n hx hb dX2_ageOf_8 rfl (lv_at hl 2 rfl) ?_
  refine lv_iadd hx hb dX2_ageOf_9 ?_
  refine lv_topi (fun x1 e1 => ?_)
  have t1 : x1.toInt = 0 + a1.toInt := by rw [e1]; exact gi_add (by show _ ≤ (0 : Int) + _; omega) (by show (0 : Int) + _ ≤ _; omega)
  refine qa_iald hx hb hK hP (q0 := 111) (by decide) 0 (N := 12000) (hgU_111 ca o) rfl (gi_in (by omega) (by omega)) dX2_ageOf_10 ?_
  refine lv_topi (fun x2 e2 => ?_)
  exact W.iret (v := x2) hx hb hr (fun t ht hW => ⟨⟨x2, (), rfl, trivial, by rw [ht]; exact hP, va_K.moved hW.alike hK⟩, hS.F ht⟩) hS.2.2 dX2_ageOf_11

set_option maxRecDepth 100000 in
set_option maxHeartbeats 4000000 in
theorem u1_numberBetween (l : Launch) (D : va_G) (ca : Nat → ClassId) (o : Nat) (z : Nat → Nat → Int32) (y : Nat → Nat → Int64) (a0 a1 a2 : Int32)  : qM l yX8_numberBetween cX8_numberBetween 4 (some .int) 1 60 (qPre D vwCl (qT6 ca) o 132 (qG (GU ca o) z y) [.int a0, .int a1, .int a2]) (va_Qi (fun _ _ => True) (qB D vwCl (qT6 ca) o 132 (fun _ : Unit => qG (GU ca o) z y)) (qw_A o 132)) (qw_A o 132) := by
  refine Met.ofW (cc := cX8_numberBetween) (maxL := 4) (ret := (some .int)) (by decide) rfl ?_
  intro p e s m args below meth c s₁ B hml hv
  obtain ⟨rfl, hP, hK⟩ := hv
  have hx := B.exec
  have hb := B.bytes
  have hr := B.returns
  have hts0 := atoms_spec (ws := Cond.code yX8_numberBetween cX8_numberBetween 4 (some .int) :: qtbl) B.pre
  have hts : ∀ w ∈ qtbl, w.before _ s = true := fun w h => hts0 w (List.mem_cons_of_mem _ h)
  have hown : s.vm.findClass RX8 = some m.cls := findClass_of_methodNamed B.named
  have hlocks := B.notSynchronized
  have hz0 : (0 : Int32).toInt = 0 := rfl
  have hS : va_S (qw_A o 132) s.heap s.heap [] := va_S.rf
  have hl := lv_entry ([.int a0, .int a1, .int a2]) (n := 4) (Nat.le_of_ble_eq_true rfl)
  rw [lg_entry_eq]
  generalize (lg_sl ([.int a0, .int a1, .int a2]) ++ List.replicate (4 - (lg_sl ([.int a0, .int a1, .int a2])).length) Slot.unset).toArray = ls at hl ⊢
  have hl : lv_has ls 4 [(0, .int a0), (1, .int a1), (2, .int a2)] := hl
  refine lv_iload_n hx hb dX8_numberBetween_0 rfl (lv_at hl 0 rfl) ?_
  refine lv_iconst (v := 1) hx hb dX8_numberBetween_1 (by decide) ?_
  refine lv_icmp_ne (tgt := 18) hx hb dX8_numberBetween_2 (by decide) (fun c1 => ?_) (fun c1 => ?_)
  · have t1 : a0.toInt ≠ (1 : Int) := gl_ne c1
    refine lv_iload_n hx hb dX8_numberBetween_18 rfl (lv_at hl 2 rfl) ?_
    refine lv_if_le (tgt := 28) hx hb dX8_numberBetween_19 (by decide) (fun c2 => ?_) (fun c2 => ?_)
    · have t2 : a2.toInt ≤ (0 : Int) := gl_le c2
      refine lv_iconst (v := (-1)) hx hb dX8_numberBetween_28 (by decide) ?_
      exact W.iret (v := (-1)) hx hb hr (fun t ht hW => ⟨⟨(-1), (), rfl, trivial, by rw [ht]; exact hP, va_K.moved hW.alike hK⟩, hS.F ht⟩) hS.2.2 dX8_numberBetween_29
    · have t2 : a2.toInt > (0 : Int) := gl_nle c2
      refine lv_iload_n hx hb dX8_numberBetween_22 rfl (lv_at hl 1 rfl) ?_
      refine lv_iload_n hx hb dX8_numberBetween_23 rfl (lv_at hl 2 rfl) ?_
      refine lv_irem hx hb dX8_numberBetween_24 (gr_ne (show a2.toInt ≠ (0 : Int) from by omega)) ?_
      refine lv_topi (fun x3 e3 => ?_)
      refine lv_if_eq (tgt := 30) hx hb dX8_numberBetween_25 (by decide) (fun c4 => ?_) (fun c4 => ?_)
      · have t4 : x3.toInt = (0 : Int) := gl_eq c4
        refine lv_iload_n hx hb dX8_numberBetween_30 rfl (lv_at hl 1 rfl) ?_
        refine lv_iload_n hx hb dX8_numberBetween_31 rfl (lv_at hl 2 rfl) ?_
        refine lv_idiv hx hb dX8_numberBetween_32 (gr_ne (show a2.toInt ≠ (0 : Int) from by omega)) ?_
        refine lv_topi (fun x5 e5 => ?_)
        refine lv_istore_n (lv' := [(3, .int x5), (0, .int a0), (1, .int a1), (2, .int a2)]) hx hb dX8_numberBetween_33 rfl hl (by decide) rfl (fun ls hl => ?_)
        refine lv_iload_n hx hb dX8_numberBetween_34 rfl (lv_at hl 0 rfl) ?_
        refine lv_iconst (v := 2) hx hb dX8_numberBetween_35 (by decide) ?_
        refine lv_icmp_lt (tgt := 49) hx hb dX8_numberBetween_36 (by decide) (fun c6 => ?_) (fun c6 => ?_)
        · have t6 : x5.toInt < (2 : Int) := gl_lt c6
          refine lv_iconst (v := (-1)) hx hb dX8_numberBetween_49 (by decide) ?_
          exact W.iret (v := (-1)) hx hb hr (fun t ht hW => ⟨⟨(-1), (), rfl, trivial, by rw [ht]; exact hP, va_K.moved hW.alike hK⟩, hS.F ht⟩) hS.2.2 dX8_numberBetween_50
        · have t6 : x5.toInt ≥ (2 : Int) := gl_nlt c6
          refine lv_iload_n hx hb dX8_numberBetween_39 rfl (lv_at hl 0 rfl) ?_
          refine lv_bipush (v := 99) hx hb dX8_numberBetween_40 (by decide) ?_
          refine lv_icmp_gt (tgt := 49) hx hb dX8_numberBetween_42 (by decide) (fun c7 => ?_) (fun c7 => ?_)
          · have t7 : x5.toInt > (99 : Int) := gl_lt c7
            refine lv_iconst (v := (-1)) hx hb dX8_numberBetween_49 (by decide) ?_
            exact W.iret (v := (-1)) hx hb hr (fun t ht hW => ⟨⟨(-1), (), rfl, trivial, by rw [ht]; exact hP, va_K.moved hW.alike hK⟩, hS.F ht⟩) hS.2.2 dX8_numberBetween_50
          · have t7 : x5.toInt ≤ (99 : Int) := gl_nlt c7
            refine lv_iload_n hx hb dX8_numberBetween_45 rfl (lv_at hl 0 rfl) ?_
            refine lv_goto (tgt := 50) hx hb dX8_numberBetween_46 (by decide) ?_
            exact W.iret (v := x5) hx hb hr (fun t ht hW => ⟨⟨x5, (), rfl, trivial, by rw [ht]; exact hP, va_K.moved hW.alike hK⟩, hS.F ht⟩) hS.2.2 dX8_numberBetween_50
      · have t4 : x3.toInt ≠ (0 : Int) := gl_ne c4
        refine lv_iconst (v := (-1)) hx hb dX8_numberBetween_28 (by decide) ?_
        exact W.iret (v := (-1)) hx hb hr (fun t ht hW => ⟨⟨(-1), (), rfl, trivial, by rw [ht]; exact hP, va_K.moved hW.alike hK⟩, hS.F ht⟩) hS.2.2 dX8_numberBetween_29
  · have t1 : a0.toInt = (1 : Int) := gl_eq c1
    refine lv_iload_n hx hb dX8_numberBetween_5 rfl (lv_at hl 1 rfl) ?_
    refine lv_iload_n hx hb dX8_numberBetween_6 rfl (lv_at hl 2 rfl) ?_
    refine lv_icmp_le (tgt := 16) hx hb dX8_numberBetween_7 (by decide) (fun c8 => ?_) (fun c8 => ?_)
    · have t8 : a1.toInt ≤ a2.toInt := gl_le c8
      refine lv_iconst (v := (-1)) hx hb dX8_numberBetween_16 (by decide) ?_
      exact W.iret (v := (-1)) hx hb hr (fun t ht hW => ⟨⟨(-1), (), rfl, trivial, by rw [ht]; exact hP, va_K.moved hW.alike hK⟩, hS.F ht⟩) hS.2.2 dX8_numberBetween_17
    · have t8 : a1.toInt > a2.toInt := gl_nle c8
      refine lv_iload_n hx hb dX8_numberBetween_10 rfl (lv_at hl 1 rfl) ?_
      refine lv_iload_n hx hb dX8_numberBetween_11 rfl (lv_at hl 2 rfl) ?_
      refine lv_isub hx hb dX8_numberBetween_12 ?_
      refine lv_topi (fun x9 e9 => ?_)
      refine lv_goto (tgt := 17) hx hb dX8_numberBetween_13 (by decide) ?_
      exact W.iret (v := x9) hx hb hr (fun t ht hW => ⟨⟨x9, (), rfl, trivial, by rw [ht]; exact hP, va_K.moved hW.alike hK⟩, hS.F ht⟩) hS.2.2 dX8_numberBetween_17

set_option maxRecDepth 100000 in
set_option maxHeartbeats 4000000 in
theorem u1_offerPairs (l : Launch) (D : va_G) (ca : Nat → ClassId) (o : Nat) (z : Nat → Nat → Int32) (y : Nat → Nat → Int64) (a1 : Int32) (h1_5 : z 1 5 = 0) : qM l yX8_offerPairs cX8_offerPairs 7 none 2 83 (qPre D vwCl (qT6 ca) o 132 (qG (GU ca o) z y) [.ref (o + 114), .ref (o + 110), .ref (o + 1), .int a1]) (va_Qv (fun _ => True) (qB D vwCl (qT6 ca) o 132 (fun _ : Unit => qG (GU ca o) z y)) (qw_A o 132)) (qw_A o 132) := by
  refine Met.ofW (cc := cX8_offerPairs) (maxL := 7) (ret := none) (by decide) rfl ?_
  intro p e s m args below meth c s₁ B hml hv
  obtain ⟨rfl, hP, hK⟩ := hv
  have hx := B.exec
  have hb := B.bytes
  have hr := B.returns
  have hts0 := atoms_spec (ws := Cond.code yX8_offerPairs cX8_offerPairs 7 none :: qtbl) B.pre
  have hts : ∀ w ∈ qtbl, w.before _ s = true := fun w h => hts0 w (List.mem_cons_of_mem _ h)
  have hown : s.vm.findClass RX8 = some m.cls := findClass_of_methodNamed B.named
  have hlocks := B.notSynchronized
  have hz0 : (0 : Int32).toInt = 0 := rfl
  have hS : va_S (qw_A o 132) s.heap s.heap [] := va_S.rf
  have hl := lv_entry ([.ref (o + 114), .ref (o + 110), .ref (o + 1), .int a1]) (n := 7) (Nat.le_of_ble_eq_true rfl)
  rw [lg_entry_eq]
  generalize (lg_sl ([.ref (o + 114), .ref (o + 110), .ref (o + 1), .int a1]) ++ List.replicate (7 - (lg_sl ([.ref (o + 114), .ref (o + 110), .ref (o + 1), .int a1])).length) Slot.unset).toArray = ls at hl ⊢
  have hl : lv_has ls 7 [(0, .ref (o + 114)), (1, .ref (o + 110)), (2, .ref (o + 1)), (3, .int a1)] := hl
  refine lv_iconst (v := 0) hx hb dX8_offerPairs_0 (by decide) ?_
  refine lv_istore (lv' := [(4, .int 0), (0, .ref (o + 114)), (1, .ref (o + 110)), (2, .ref (o + 1)), (3, .int a1)]) hx hb dX8_offerPairs_1 hl (by decide) rfl (fun ls hl => ?_)
  refine lv_iload hx hb dX8_offerPairs_3 (lv_at hl 0 rfl) ?_
  refine lv_bipush (v := 6) hx hb dX8_offerPairs_5 (by decide) ?_
  refine lv_icmp_ge (tgt := 95) hx hb dX8_offerPairs_7 (by decide) (fun q => absurd q (by decide)) (fun _ => ?_)
  refine lv_iconst (v := 0) hx hb dX8_offerPairs_10 (by decide) ?_
  refine lv_istore (lv' := [(5, .int 0), (4, .int 0), (0, .ref (o + 114)), (1, .ref (o + 110)), (2, .ref (o + 1)), (3, .int a1)]) hx hb dX8_offerPairs_11 hl (by decide) rfl (fun ls hl => ?_)
  refine lv_iload hx hb dX8_offerPairs_13 (lv_at hl 0 rfl) ?_
  refine lv_bipush (v := 6) hx hb dX8_offerPairs_15 (by decide) ?_
  refine lv_icmp_ge (tgt := 89) hx hb dX8_offerPairs_17 (by decide) (fun q => absurd q (by decide)) (fun _ => ?_)
  refine lv_iload_n hx hb dX8_offerPairs_20 rfl (lv_at hl 5 rfl) ?_
  refine lv_aload_n hx hb dX8_offerPairs_21 rfl (lv_at hl 2 rfl) ?_
  refine qf_get hx hb hts inX8 hown hK hP (q0 := 114) (by decide) (hgU_114 ca o) rfl 0 (by decide) wq_265 (v := .ref (o + 115)) rfl dX8_offerPairs_22 ?_
  refine lv_iload hx hb dX8_offerPairs_25 (lv_at hl 1 rfl) ?_
  refine qa_iald hx hb hK hP (q0 := 115) (by decide) 0 (N := 6) (hgU_115 ca o) rfl (gi_in (by decide) (by decide)) dX8_offerPairs_27 ?_
  refine lv_topi (fun x1 e1 => ?_)
  refine lv_aload_n hx hb dX8_offerPairs_28 rfl (lv_at hl 2 rfl) ?_
  refine qf_get hx hb hts inX8 hown hK hP (q0 := 114) (by decide) (hgU_114 ca o) rfl 0 (by decide) wq_265 (v := .ref (o + 115)) rfl dX8_offerPairs_29 ?_
  refine lv_iload hx hb dX8_offerPairs_32 (lv_at hl 0 rfl) ?_
  refine qa_iald hx hb hK hP (q0 := 115) (by decide) 0 (N := 6) (hgU_115 ca o) rfl (gi_in (by decide) (by decide)) dX8_offerPairs_34 ?_
  refine lv_topi (fun x2 e2 => ?_)
  refine qc_Si (As := [.int a1, .int x1, .int x2]) (rest := []) (k0 := 3) (u1_numberBetween l D ca o z y a1 x1 x2) kc_yX8_numberBetween ⟨hx, hb, hml, hown, hts⟩ wq_878 rfl rfl ⟨Nat.le_of_ble_eq_true rfl, Nat.le_of_ble_eq_true rfl⟩ wq_all hP hK hS qw_Ai rfl hl.1 rfl (Nat.le_of_ble_eq_true rfl) dX8_offerPairs_35 ⟨Nat.zero_le _, Nat.zero_le _⟩ (fun r3 u3 H locs h3 hP hS _ _ => ?_)
  refine lv_istore (lv' := [(6, .int r3), (5, .int 0), (4, .int 0), (0, .ref (o + 114)), (1, .ref (o + 110)), (2, .ref (o + 1)), (3, .int a1)]) hx hb dX8_offerPairs_38 hl (by decide) rfl (fun ls hl => ?_)
  refine lv_aload_n hx hb dX8_offerPairs_40 rfl (lv_at hl 5 rfl) ?_
  refine lv_iload hx hb dX8_offerPairs_41 (lv_at hl 2 rfl) ?_
  refine qc_Vi (As := [.int 0]) (rest := []) (k0 := 1) (u1_hasPerson l D ca o z y 0 (h1_5)) kc_yX9_hasPerson ⟨hx, hb, hml, hown, hts⟩ wq_866 rfl rfl ⟨Nat.le_of_ble_eq_true rfl, Nat.le_of_ble_eq_true rfl⟩ wq_all hP hK hS qw_Ai (q0 := 1) (by decide) (hgU_1 ca o _ _) rfl rfl hl.1 rfl (Nat.le_of_ble_eq_true rfl) dX8_offerPairs_43 ⟨Nat.zero_le _, Nat.zero_le _⟩ (fun r4 u4 H locs h4 hP hS _ _ => ?_)
  subst h4
  refine lv_if_eq (tgt := 83) hx hb dX8_offerPairs_46 (by decide) (fun _ => ?_) (fun q => absurd (by decide) q)
  refine lv_iinc (v := 1) (lv' := [(5, .int 1), (6, .int r3), (4, .int 0), (0, .ref (o + 114)), (1, .ref (o + 110)), (2, .ref (o + 1)), (3, .int a1)]) hx hb dX8_offerPairs_83 hl (k := 1) rfl (by decide) (by decide) rfl (fun ls hl => ?_)
  refine lv_goto (tgt := 13) hx hb dX8_offerPairs_86 (by decide) ?_
  refine lv_iload hx hb dX8_offerPairs_13 (lv_at hl 0 rfl) ?_
  refine lv_bipush (v := 6) hx hb dX8_offerPairs_15 (by decide) ?_
  refine lv_icmp_ge (tgt := 89) hx hb dX8_offerPairs_17 (by decide) (fun q => absurd q (by decide)) (fun _ => ?_)
  refine lv_iload_n hx hb dX8_offerPairs_20 rfl (lv_at hl 6 rfl) ?_
  refine lv_aload_n hx hb dX8_offerPairs_21 rfl (lv_at hl 3 rfl) ?_
  refine qf_get hx hb hts inX8 hown hK hP (q0 := 114) (by decide) (hgU_114 ca o) rfl 0 (by decide) wq_265 (v := .ref (o + 115)) rfl dX8_offerPairs_22 ?_
  refine lv_iload hx hb dX8_offerPairs_25 (lv_at hl 2 rfl) ?_
  refine qa_iald hx hb hK hP (q0 := 115) (by decide) 0 (N := 6) (hgU_115 ca o) rfl (gi_in (by decide) (by decide)) dX8_offerPairs_27 ?_
  refine lv_topi (fun x5 e5 => ?_)
  refine lv_aload_n hx hb dX8_offerPairs_28 rfl (lv_at hl 3 rfl) ?_
  refine qf_get hx hb hts inX8 hown hK hP (q0 := 114) (by decide) (hgU_114 ca o) rfl 0 (by decide) wq_265 (v := .ref (o + 115)) rfl dX8_offerPairs_29 ?_
  refine lv_iload hx hb dX8_offerPairs_32 (lv_at hl 0 rfl) ?_
  refine qa_iald hx hb hK hP (q0 := 115) (by decide) 0 (N := 6) (hgU_115 ca o) rfl (gi_in (by decide) (by decide)) dX8_offerPairs_34 ?_
  refine lv_topi (fun x6 e6 => ?_)
  refine qc_Si (As := [.int a1, .int x5, .int x6]) (rest := []) (k0 := 3) (u1_numberBetween l D ca o z y a1 x5 x6) kc_yX8_numberBetween ⟨hx, hb, hml, hown, hts⟩ wq_878 rfl rfl ⟨Nat.le_of_ble_eq_true rfl, Nat.le_of_ble_eq_true rfl⟩ wq_all hP hK hS qw_Ai rfl hl.1 rfl (Nat.le_of_ble_eq_true rfl) dX8_offerPairs_35 ⟨Nat.zero_le _, Nat.zero_le _⟩ (fun r7 u7 H locs h7 hP hS _ _ => ?_)
  refine lv_istore (lv' := [(6, .int r7), (5, .int 1), (4, .int 0), (0, .ref (o + 114)), (1, .ref (o + 110)), (2, .ref (o + 1)), (3, .int a1)]) hx hb dX8_offerPairs_38 hl (by decide) rfl (fun ls hl => ?_)
  refine lv_aload_n hx hb dX8_offerPairs_40 rfl (lv_at hl 5 rfl) ?_
  refine lv_iload hx hb dX8_offerPairs_41 (lv_at hl 2 rfl) ?_
  refine qc_Vi (As := [.int 0]) (rest := []) (k0 := 1) (u1_hasPerson l D ca o z y 0 (h1_5)) kc_yX9_hasPerson ⟨hx, hb, hml, hown, hts⟩ wq_866 rfl rfl ⟨Nat.le_of_ble_eq_true rfl, Nat.le_of_ble_eq_true rfl⟩ wq_all hP hK hS qw_Ai (q0 := 1) (by decide) (hgU_1 ca o _ _) rfl rfl hl.1 rfl (Nat.le_of_ble_eq_true rfl) dX8_offerPairs_43 ⟨Nat.zero_le _, Nat.zero_le _⟩ (fun r8 u8 H locs h8 hP hS _ _ => ?_)
  subst h8
  refine lv_if_eq (tgt := 83) hx hb dX8_offerPairs_46 (by decide) (fun _ => ?_) (fun q => absurd (by decide) q)
  refine lv_iinc (v := 2) (lv' := [(5, .int 2), (6, .int r7), (4, .int 0), (0, .ref (o + 114)), (1, .ref (o + 110)), (2, .ref (o + 1)), (3, .int a1)]) hx hb dX8_offerPairs_83 hl (k := 1) rfl (by decide) (by decide) rfl (fun ls hl => ?_)
  refine lv_goto (tgt := 13) hx hb dX8_offerPairs_86 (by decide) ?_
  refine lv_iload hx hb dX8_offerPairs_13 (lv_at hl 0 rfl) ?_
  refine lv_bipush (v := 6) hx hb dX8_offerPairs_15 (by decide) ?_
  refine lv_icmp_ge (tgt := 89) hx hb dX8_offerPairs_17 (by decide) (fun q => absurd q (by decide)) (fun _ => ?_)
  refine lv_iload_n hx hb dX8_offerPairs_20 rfl (lv_at hl 6 rfl) ?_
  refine lv_aload_n hx hb dX8_offerPairs_21 rfl (lv_at hl 3 rfl) ?_
  refine qf_get hx hb hts inX8 hown hK hP (q0 := 114) (by decide) (hgU_114 ca o) rfl 0 (by decide) wq_265 (v := .ref (o + 115)) rfl dX8_offerPairs_22 ?_
  refine lv_iload hx hb dX8_offerPairs_25 (lv_at hl 2 rfl) ?_
  refine qa_iald hx hb hK hP (q0 := 115) (by decide) 0 (N := 6) (hgU_115 ca o) rfl (gi_in (by decide) (by decide)) dX8_offerPairs_27 ?_
  refine lv_topi (fun x9 e9 => ?_)
  refine lv_aload_n hx hb dX8_offerPairs_28 rfl (lv_at hl 3 rfl) ?_
  refine qf_get hx hb hts inX8 hown hK hP (q0 := 114) (by decide) (hgU_114 ca o) rfl 0 (by decide) wq_265 (v := .ref (o + 115)) rfl dX8_offerPairs_29 ?_
  refine lv_iload hx hb dX8_offerPairs_32 (lv_at hl 0 rfl) ?_
  refine qa_iald hx hb hK hP (q0 := 115) (by decide) 0 (N := 6) (hgU_115 ca o) rfl (gi_in (by decide) (by decide)) dX8_offerPairs_34 ?_
  refine lv_topi (fun x10 e10 => ?_)
  refine qc_Si (As := [.int a1, .int x9, .int x10]) (rest := []) (k0 := 3) (u1_numberBetween l D ca o z y a1 x9 x10) kc_yX8_numberBetween ⟨hx, hb, hml, hown, hts⟩ wq_878 rfl rfl ⟨Nat.le_of_ble_eq_true rfl, Nat.le_of_ble_eq_true rfl⟩ wq_all hP hK hS qw_Ai rfl hl.1 rfl (Nat.le_of_ble_eq_true rfl) dX8_offerPairs_35 ⟨Nat.zero_le _, Nat.zero_le _⟩ (fun r11 u11 H locs h11 hP hS _ _ => ?_)
  refine lv_istore (lv' := [(6, .int r11), (5, .int 2), (4, .int 0), (0, .ref (o + 114)), (1, .ref (o + 110)), (2, .ref (o + 1)), (3, .int a1)]) hx hb dX8_offerPairs_38 hl (by decide) rfl (fun ls hl => ?_)
  refine lv_aload_n hx hb dX8_offerPairs_40 rfl (lv_at hl 5 rfl) ?_
  refine lv_iload hx hb dX8_offerPairs_41 (lv_at hl 2 rfl) ?_
  refine qc_Vi (As := [.int 0]) (rest := []) (k0 := 1) (u1_hasPerson l D ca o z y 0 (h1_5)) kc_yX9_hasPerson ⟨hx, hb, hml, hown, hts⟩ wq_866 rfl rfl ⟨Nat.le_of_ble_eq_true rfl, Nat.le_of_ble_eq_true rfl⟩ wq_all hP hK hS qw_Ai (q0 := 1) (by decide) (hgU_1 ca o _ _) rfl rfl hl.1 rfl (Nat.le_of_ble_eq_true rfl) dX8_offerPairs_43 ⟨Nat.zero_le _, Nat.zero_le _⟩ (fun r12 u12 H locs h12 hP hS _ _ => ?_)
  subst h12
  refine lv_if_eq (tgt := 83) hx hb dX8_offerPairs_46 (by decide) (fun _ => ?_) (fun q => absurd (by decide) q)
  refine lv_iinc (v := 3) (lv' := [(5, .int 3), (6, .int r11), (4, .int 0), (0, .ref (o + 114)), (1, .ref (o + 110)), (2, .ref (o + 1)), (3, .int a1)]) hx hb dX8_offerPairs_83 hl (k := 1) rfl (by decide) (by decide) rfl (fun ls hl => ?_)
  refine lv_goto (tgt := 13) hx hb dX8_offerPairs_86 (by decide) ?_
  refine lv_iload hx hb dX8_offerPairs_13 (lv_at hl 0 rfl) ?_
  refine lv_bipush (v := 6) hx hb dX8_offerPairs_15 (by decide) ?_
  refine lv_icmp_ge (tgt := 89) hx hb dX8_offerPairs_17 (by decide) (fun q => absurd q (by decide)) (fun _ => ?_)
  refine lv_iload_n hx hb dX8_offerPairs_20 rfl (lv_at hl 6 rfl) ?_
  refine lv_aload_n hx hb dX8_offerPairs_21 rfl (lv_at hl 3 rfl) ?_
  refine qf_get hx hb hts inX8 hown hK hP (q0 := 114) (by decide) (hgU_114 ca o) rfl 0 (by decide) wq_265 (v := .ref (o + 115)) rfl dX8_offerPairs_22 ?_
  refine lv_iload hx hb dX8_offerPairs_25 (lv_at hl 2 rfl) ?_
  refine qa_iald hx hb hK hP (q0 := 115) (by decide) 0 (N := 6) (hgU_115 ca o) rfl (gi_in (by decide) (by decide)) dX8_offerPairs_27 ?_
  refine lv_topi (fun x13 e13 => ?_)
  refine lv_aload_n hx hb dX8_offerPairs_28 rfl (lv_at hl 3 rfl) ?_
  refine qf_get hx hb hts inX8 hown hK hP (q0 := 114) (by decide) (hgU_114 ca o) rfl 0 (by decide) wq_265 (v := .ref (o + 115)) rfl dX8_offerPairs_29 ?_
  refine lv_iload hx hb dX8_offerPairs_32 (lv_at hl 0 rfl) ?_
  refine qa_iald hx hb hK hP (q0 := 115) (by decide) 0 (N := 6) (hgU_115 ca o) rfl (gi_in (by decide) (by decide)) dX8_offerPairs_34 ?_
  refine lv_topi (fun x14 e14 => ?_)
  refine qc_Si (As := [.int a1, .int x13, .int x14]) (rest := []) (k0 := 3) (u1_numberBetween l D ca o z y a1 x13 x14) kc_yX8_numberBetween ⟨hx, hb, hml, hown, hts⟩ wq_878 rfl rfl ⟨Nat.le_of_ble_eq_true rfl, Nat.le_of_ble_eq_true rfl⟩ wq_all hP hK hS qw_Ai rfl hl.1 rfl (Nat.le_of_ble_eq_true rfl) dX8_offerPairs_35 ⟨Nat.zero_le _, Nat.zero_le _⟩ (fun r15 u15 H locs h15 hP hS _ _ => ?_)
  refine lv_istore (lv' := [(6, .int r15), (5, .int 3), (4, .int 0), (0, .ref (o + 114)), (1, .ref (o + 110)), (2, .ref (o + 1)), (3, .int a1)]) hx hb dX8_offerPairs_38 hl (by decide) rfl (fun ls hl => ?_)
  refine lv_aload_n hx hb dX8_offerPairs_40 rfl (lv_at hl 5 rfl) ?_
  refine lv_iload hx hb dX8_offerPairs_41 (lv_at hl 2 rfl) ?_
  refine qc_Vi (As := [.int 0]) (rest := []) (k0 := 1) (u1_hasPerson l D ca o z y 0 (h1_5)) kc_yX9_hasPerson ⟨hx, hb, hml, hown, hts⟩ wq_866 rfl rfl ⟨Nat.le_of_ble_eq_true rfl, Nat.le_of_ble_eq_true rfl⟩ wq_all hP hK hS qw_Ai (q0 := 1) (by decide) (hgU_1 ca o _ _) rfl rfl hl.1 rfl (Nat.le_of_ble_eq_true rfl) dX8_offerPairs_43 ⟨Nat.zero_le _, Nat.zero_le _⟩ (fun r16 u16 H locs h16 hP hS _ _ => ?_)
  subst h16
  refine lv_if_eq (tgt := 83) hx hb dX8_offerPairs_46 (by decide) (fun _ => ?_) (fun q => absurd (by decide) q)
  refine lv_iinc (v := 4) (lv' := [(5, .int 4), (6, .int r15), (4, .int 0), (0, .ref (o + 114)), (1, .ref (o + 110)), (2, .ref (o + 1)), (3, .int a1)]) hx hb dX8_offerPairs_83 hl (k := 1) rfl (by decide) (by decide) rfl (fun ls hl => ?_)
  refine lv_goto (tgt := 13) hx hb dX8_offerPairs_86 (by decide) ?_
  refine lv_iload hx hb dX8_offerPairs_13 (lv_at hl 0 rfl) ?_
  refine lv_bipush (v := 6) hx hb dX8_offerPairs_15 (by decide) ?_
  refine lv_icmp_ge (tgt := 89) hx hb dX8_offerPairs_17 (by decide) (fun q => absurd q (by decide)) (fun _ => ?_)
  refine lv_iload_n hx hb dX8_offerPairs_20 rfl (lv_at hl 6 rfl) ?_
  refine lv_aload_n hx hb dX8_offerPairs_21 rfl (lv_at hl 3 rfl) ?_
  refine qf_get hx hb hts inX8 hown hK hP (q0 := 114) (by decide) (hgU_114 ca o) rfl 0 (by decide) wq_265 (v := .ref (o + 115)) rfl dX8_offerPairs_22 ?_
  refine lv_iload hx hb dX8_offerPairs_25 (lv_at hl 2 rfl) ?_
  refine qa_iald hx hb hK hP (q0 := 115) (by decide) 0 (N := 6) (hgU_115 ca o) rfl (gi_in (by decide) (by decide)) dX8_offerPairs_27 ?_
  refine lv_topi (fun x17 e17 => ?_)
  refine lv_aload_n hx hb dX8_offerPairs_28 rfl (lv_at hl 3 rfl) ?_
  refine qf_get hx hb hts inX8 hown hK hP (q0 := 114) (by decide) (hgU_114 ca o) rfl 0 (by decide) wq_265 (v := .ref (o + 115)) rfl dX8_offerPairs_29 ?_
  refine lv_iload hx hb dX8_offerPairs_32 (lv_at hl 0 rfl) ?_
  refine qa_iald hx hb hK hP (q0 := 115) (by decide) 0 (N := 6) (hgU_115 ca o) rfl (gi_in (by decide) (by decide)) dX8_offerPairs_34 ?_
  refine lv_topi (fun x18 e18 => ?_)
  refine qc_Si (As := [.int a1, .int x17, .int x18]) (rest := []) (k0 := 3) (u1_numberBetween l D ca o z y a1 x17 x18) kc_yX8_numberBetween ⟨hx, hb, hml, hown, hts⟩ wq_878 rfl rfl ⟨Nat.le_of_ble_eq_true rfl, Nat.le_of_ble_eq_true rfl⟩ wq_all hP hK hS qw_Ai rfl hl.1 rfl (Nat.le_of_ble_eq_true rfl) dX8_offerPairs_35 ⟨Nat.zero_le _, Nat.zero_le _⟩ (fun r19 u19 H locs h19 hP hS _ _ => ?_)
  refine lv_istore (lv' := [(6, .int r19), (5, .int 4), (4, .int 0), (0, .ref (o + 114)), (1, .ref (o + 110)), (2, .ref (o + 1)), (3, .int a1)]) hx hb dX8_offerPairs_38 hl (by decide) rfl (fun ls hl => ?_)
  refine lv_aload_n hx hb dX8_offerPairs_40 rfl (lv_at hl 5 rfl) ?_
  refine lv_iload hx hb dX8_offerPairs_41 (lv_at hl 2 rfl) ?_
  refine qc_Vi (As := [.int 0]) (rest := []) (k0 := 1) (u1_hasPerson l D ca o z y 0 (h1_5)) kc_yX9_hasPerson ⟨hx, hb, hml, hown, hts⟩ wq_866 rfl rfl ⟨Nat.le_of_ble_eq_true rfl, Nat.le_of_ble_eq_true rfl⟩ wq_all hP hK hS qw_Ai (q0 := 1) (by decide) (hgU_1 ca o _ _) rfl rfl hl.1 rfl (Nat.le_of_ble_eq_true rfl) dX8_offerPairs_43 ⟨Nat.zero_le _, Nat.zero_le _⟩ (fun r20 u20 H locs h20 hP hS _ _ => ?_)
  subst h20
  refine lv_if_eq (tgt := 83) hx hb dX8_offerPairs_46 (by decide) (fun _ => ?_) (fun q => absurd (by decide) q)
  refine lv_iinc (v := 5) (lv' := [(5, .int 5), (6, .int r19), (4, .int 0), (0, .ref (o + 114)), (1, .ref (o + 110)), (2, .ref (o + 1)), (3, .int a1)]) hx hb dX8_offerPairs_83 hl (k := 1) rfl (by decide) (by decide) rfl (fun ls hl => ?_)
  refine lv_goto (tgt := 13) hx hb dX8_offerPairs_86 (by decide) ?_
  refine lv_iload hx hb dX8_offerPairs_13 (lv_at hl 0 rfl) ?_
  refine lv_bipush (v := 6) hx hb dX8_offerPairs_15 (by decide) ?_
  refine lv_icmp_ge (tgt := 89) hx hb dX8_offerPairs_17 (by decide) (fun q => absurd q (by decide)) (fun _ => ?_)
  refine lv_iload_n hx hb dX8_offerPairs_20 rfl (lv_at hl 6 rfl) ?_
  refine lv_aload_n hx hb dX8_offerPairs_21 rfl (lv_at hl 3 rfl) ?_
  refine qf_get hx hb hts inX8 hown hK hP (q0 := 114) (by decide) (hgU_114 ca o) rfl 0 (by decide) wq_265 (v := .ref (o + 115)) rfl dX8_offerPairs_22 ?_
  refine lv_iload hx hb dX8_offerPairs_25 (lv_at hl 2 rfl) ?_
  refine qa_iald hx hb hK hP (q0 := 115) (by decide) 0 (N := 6) (hgU_115 ca o) rfl (gi_in (by decide) (by decide)) dX8_offerPairs_27 ?_
  refine lv_topi (fun x21 e21 => ?_)
  refine lv_aload_n hx hb dX8_offerPairs_28 rfl (lv_at hl 3 rfl) ?_
  refine qf_get hx hb hts inX8 hown hK hP (q0 := 114) (by decide) (hgU_114 ca o) rfl 0 (by decide) wq_265 (v := .ref (o + 115)) rfl dX8_offerPairs_29 ?_
  refine lv_iload hx hb dX8_offerPairs_32 (lv_at hl 0 rfl) ?_
  refine qa_iald hx hb hK hP (q0 := 115) (by decide) 0 (N := 6) (hgU_115 ca o) rfl (gi_in (by decide) (by decide)) dX8_offerPairs_34 ?_
  refine lv_topi (fun x22 e22 => ?_)
  refine qc_Si (As := [.int a1, .int x21, .int x22]) (rest := []) (k0 := 3) (u1_numberBetween l D ca o z y a1 x21 x22) kc_yX8_numberBetween ⟨hx, hb, hml, hown, hts⟩ wq_878 rfl rfl ⟨Nat.le_of_ble_eq_true rfl, Nat.le_of_ble_eq_true rfl⟩ wq_all hP hK hS qw_Ai rfl hl.1 rfl (Nat.le_of_ble_eq_true rfl) dX8_offerPairs_35 ⟨Nat.zero_le _, Nat.zero_le _⟩ (fun r23 u23 H locs h23 hP hS _ _ => ?_)
  refine lv_istore (lv' := [(6, .int r23), (5, .int 5), (4, .int 0), (0, .ref (o + 114)), (1, .ref (o + 110)), (2, .ref (o + 1)), (3, .int a1)]) hx hb dX8_offerPairs_38 hl (by decide) rfl (fun ls hl => ?_)
  refine lv_aload_n hx hb dX8_offerPairs_40 rfl (lv_at hl 5 rfl) ?_
  refine lv_iload hx hb dX8_offerPairs_41 (lv_at hl 2 rfl) ?_
  refine qc_Vi (As := [.int 0]) (rest := []) (k0 := 1) (u1_hasPerson l D ca o z y 0 (h1_5)) kc_yX9_hasPerson ⟨hx, hb, hml, hown, hts⟩ wq_866 rfl rfl ⟨Nat.le_of_ble_eq_true rfl, Nat.le_of_ble_eq_true rfl⟩ wq_all hP hK hS qw_Ai (q0 := 1) (by decide) (hgU_1 ca o _ _) rfl rfl hl.1 rfl (Nat.le_of_ble_eq_true rfl) dX8_offerPairs_43 ⟨Nat.zero_le _, Nat.zero_le _⟩ (fun r24 u24 H locs h24 hP hS _ _ => ?_)
  subst h24
  refine lv_if_eq (tgt := 83) hx hb dX8_offerPairs_46 (by decide) (fun _ => ?_) (fun q => absurd (by decide) q)
  refine lv_iinc (v := 6) (lv' := [(5, .int 6), (6, .int r23), (4, .int 0), (0, .ref (o + 114)), (1, .ref (o + 110)), (2, .ref (o + 1)), (3, .int a1)]) hx hb dX8_offerPairs_83 hl (k := 1) rfl (by decide) (by decide) rfl (fun ls hl => ?_)
  refine lv_goto (tgt := 13) hx hb dX8_offerPairs_86 (by decide) ?_
  refine lv_iload hx hb dX8_offerPairs_13 (lv_at hl 0 rfl) ?_
  refine lv_bipush (v := 6) hx hb dX8_offerPairs_15 (by decide) ?_
  refine lv_icmp_ge (tgt := 89) hx hb dX8_offerPairs_17 (by decide) (fun _ => ?_) (fun q => absurd (by decide) q)
  refine lv_iinc (v := 1) (lv' := [(4, .int 1), (5, .int 6), (6, .int r23), (0, .ref (o + 114)), (1, .ref (o + 110)), (2, .ref (o + 1)), (3, .int a1)]) hx hb dX8_offerPairs_89 hl (k := 2) rfl (by decide) (by decide) rfl (fun ls hl => ?_)
  refine lv_goto (tgt := 3) hx hb dX8_offerPairs_92 (by decide) ?_
  refine lv_iload hx hb dX8_offerPairs_3 (lv_at hl 0 rfl) ?_
  refine lv_bipush (v := 6) hx hb dX8_offerPairs_5 (by decide) ?_
  refine lv_icmp_ge (tgt := 95) hx hb dX8_offerPairs_7 (by decide) (fun q => absurd q (by decide)) (fun _ => ?_)
  refine lv_iconst (v := 0) hx hb dX8_offerPairs_10 (by decide) ?_
  refine lv_istore (lv' := [(5, .int 0), (4, .int 1), (6, .int r23), (0, .ref (o + 114)), (1, .ref (o + 110)), (2, .ref (o + 1)), (3, .int a1)]) hx hb dX8_offerPairs_11 hl (by decide) rfl (fun ls hl => ?_)
  refine lv_iload hx hb dX8_offerPairs_13 (lv_at hl 0 rfl) ?_
  refine lv_bipush (v := 6) hx hb dX8_offerPairs_15 (by decide) ?_
  refine lv_icmp_ge (tgt := 89) hx hb dX8_offerPairs_17 (by decide) (fun q => absurd q (by decide)) (fun _ => ?_)
  refine lv_iload_n hx hb dX8_offerPairs_20 rfl (lv_at hl 6 rfl) ?_
  refine lv_aload_n hx hb dX8_offerPairs_21 rfl (lv_at hl 3 rfl) ?_
  refine qf_get hx hb hts inX8 hown hK hP (q0 := 114) (by decide) (hgU_114 ca o) rfl 0 (by decide) wq_265 (v := .ref (o + 115)) rfl dX8_offerPairs_22 ?_
  refine lv_iload hx hb dX8_offerPairs_25 (lv_at hl 1 rfl) ?_
  refine qa_iald hx hb hK hP (q0 := 115) (by decide) 0 (N := 6) (hgU_115 ca o) rfl (gi_in (by decide) (by decide)) dX8_offerPairs_27 ?_
  refine lv_topi (fun x25 e25 => ?_)
  refine lv_aload_n hx hb dX8_offerPairs_28 rfl (lv_at hl 3 rfl) ?_
  refine qf_get hx hb hts inX8 hown hK hP (q0 := 114) (by decide) (hgU_114 ca o) rfl 0 (by decide) wq_265 (v := .ref (o + 115)) rfl dX8_offerPairs_29 ?_
  refine lv_iload hx hb dX8_offerPairs_32 (lv_at hl 0 rfl) ?_
  refine qa_iald hx hb hK hP (q0 := 115) (by decide) 0 (N := 6) (hgU_115 ca o) rfl (gi_in (by decide) (by decide)) dX8_offerPairs_34 ?_
  refine lv_topi (fun x26 e26 => ?_)
  refine qc_Si (As := [.int a1, .int x25, .int x26]) (rest := []) (k0 := 3) (u1_numberBetween l D ca o z y a1 x25 x26) kc_yX8_numberBetween ⟨hx, hb, hml, hown, hts⟩ wq_878 rfl rfl ⟨Nat.le_of_ble_eq_true rfl, Nat.le_of_ble_eq_true rfl⟩ wq_all hP hK hS qw_Ai rfl hl.1 rfl (Nat.le_of_ble_eq_true rfl) dX8_offerPairs_35 ⟨Nat.zero_le _, Nat.zero_le _⟩ (fun r27 u27 H locs h27 hP hS _ _ => ?_)
  refine lv_istore (lv' := [(6, .int r27), (5, .int 0), (4, .int 1), (0, .ref (o + 114)), (1, .ref (o + 110)), (2, .ref (o + 1)), (3, .int a1)]) hx hb dX8_offerPairs_38 hl (by decide) rfl (fun ls hl => ?_)
  refine lv_aload_n hx hb dX8_offerPairs_40 rfl (lv_at hl 5 rfl) ?_
  refine lv_iload hx hb dX8_offerPairs_41 (lv_at hl 2 rfl) ?_
  refine qc_Vi (As := [.int 1]) (rest := []) (k0 := 1) (u1_hasPerson l D ca o z y 1 (h1_5)) kc_yX9_hasPerson ⟨hx, hb, hml, hown, hts⟩ wq_866 rfl rfl ⟨Nat.le_of_ble_eq_true rfl, Nat.le_of_ble_eq_true rfl⟩ wq_all hP hK hS qw_Ai (q0 := 1) (by decide) (hgU_1 ca o _ _) rfl rfl hl.1 rfl (Nat.le_of_ble_eq_true rfl) dX8_offerPairs_43 ⟨Nat.zero_le _, Nat.zero_le _⟩ (fun r28 u28 H locs h28 hP hS _ _ => ?_)
  subst h28
  refine lv_if_eq (tgt := 83) hx hb dX8_offerPairs_46 (by decide) (fun _ => ?_) (fun q => absurd (by decide) q)
  refine lv_iinc (v := 1) (lv' := [(5, .int 1), (6, .int r27), (4, .int 1), (0, .ref (o + 114)), (1, .ref (o + 110)), (2, .ref (o + 1)), (3, .int a1)]) hx hb dX8_offerPairs_83 hl (k := 1) rfl (by decide) (by decide) rfl (fun ls hl => ?_)
  refine lv_goto (tgt := 13) hx hb dX8_offerPairs_86 (by decide) ?_
  refine lv_iload hx hb dX8_offerPairs_13 (lv_at hl 0 rfl) ?_
  refine lv_bipush (v := 6) hx hb dX8_offerPairs_15 (by decide) ?_
  refine lv_icmp_ge (tgt := 89) hx hb dX8_offerPairs_17 (by decide) (fun q => absurd q (by decide)) (fun _ => ?_)
  refine lv_iload_n hx hb dX8_offerPairs_20 rfl (lv_at hl 6 rfl) ?_
  refine lv_aload_n hx hb dX8_offerPairs_21 rfl (lv_at hl 3 rfl) ?_
  refine qf_get hx hb hts inX8 hown hK hP (q0 := 114) (by decide) (hgU_114 ca o) rfl 0 (by decide) wq_265 (v := .ref (o + 115)) rfl dX8_offerPairs_22 ?_
  refine lv_iload hx hb dX8_offerPairs_25 (lv_at hl 2 rfl) ?_
  refine qa_iald hx hb hK hP (q0 := 115) (by decide) 0 (N := 6) (hgU_115 ca o) rfl (gi_in (by decide) (by decide)) dX8_offerPairs_27 ?_
  refine lv_topi (fun x29 e29 => ?_)
  refine lv_aload_n hx hb dX8_offerPairs_28 rfl (lv_at hl 3 rfl) ?_
  refine qf_get hx hb hts inX8 hown hK hP (q0 := 114) (by decide) (hgU_114 ca o) rfl 0 (by decide) wq_265 (v := .ref (o + 115)) rfl dX8_offerPairs_29 ?_
  refine lv_iload hx hb dX8_offerPairs_32 (lv_at hl 0 rfl) ?_
  refine qa_iald hx hb hK hP (q0 := 115) (by decide) 0 (N := 6) (hgU_115 ca o) rfl (gi_in (by decide) (by decide)) dX8_offerPairs_34 ?_
  refine lv_topi (fun x30 e30 => ?_)
  refine qc_Si (As := [.int a1, .int x29, .int x30]) (rest := []) (k0 := 3) (u1_numberBetween l D ca o z y a1 x29 x30) kc_yX8_numberBetween ⟨hx, hb, hml, hown, hts⟩ wq_878 rfl rfl ⟨Nat.le_of_ble_eq_true rfl, Nat.le_of_ble_eq_true rfl⟩ wq_all hP hK hS qw_Ai rfl hl.1 rfl (Nat.le_of_ble_eq_true rfl) dX8_offerPairs_35 ⟨Nat.zero_le _, Nat.zero_le _⟩ (fun r31 u31 H locs h31 hP hS _ _ => ?_)
  refine lv_istore (lv' := [(6, .int r31), (5, .int 1), (4, .int 1), (0, .ref (o + 114)), (1, .ref (o + 110)), (2, .ref (o + 1)), (3, .int a1)]) hx hb dX8_offerPairs_38 hl (by decide) rfl (fun ls hl => ?_)
  refine lv_aload_n hx hb dX8_offerPairs_40 rfl (lv_at hl 5 rfl) ?_
  refine lv_iload hx hb dX8_offerPairs_41 (lv_at hl 2 rfl) ?_
  refine qc_Vi (As := [.int 1]) (rest := []) (k0 := 1) (u1_hasPerson l D ca o z y 1 (h1_5)) kc_yX9_hasPerson ⟨hx, hb, hml, hown, hts⟩ wq_866 rfl rfl ⟨Nat.le_of_ble_eq_true rfl, Nat.le_of_ble_eq_true rfl⟩ wq_all hP hK hS qw_Ai (q0 := 1) (by decide) (hgU_1 ca o _ _) rfl rfl hl.1 rfl (Nat.le_of_ble_eq_true rfl) dX8_offerPairs_43 ⟨Nat.zero_le _, Nat.zero_le _⟩ (fun r32 u32 H locs h32 hP hS _ _ => ?_)
  subst h32
  refine lv_if_eq (tgt := 83) hx hb dX8_offerPairs_46 (by decide) (fun _ => ?_) (fun q => absurd (by decide) q)
  refine lv_iinc (v := 2) (lv' := [(5, .int 2), (6, .int r31), (4, .int 1), (0, .ref (o + 114)), (1, .ref (o + 110)), (2, .ref (o + 1)), (3, .int a1)]) hx hb dX8_offerPairs_83 hl (k := 1) rfl (by decide) (by decide) rfl (fun ls hl => ?_)
  refine lv_goto (tgt := 13) hx hb dX8_offerPairs_86 (by decide) ?_
  refine lv_iload hx hb dX8_offerPairs_13 (lv_at hl 0 rfl) ?_
  refine lv_bipush (v := 6) hx hb dX8_offerPairs_15 (by decide) ?_
  refine lv_icmp_ge (tgt := 89) hx hb dX8_offerPairs_17 (by decide) (fun q => absurd q (by decide)) (fun _ => ?_)
  refine lv_iload_n hx hb dX8_offerPairs_20 rfl (lv_at hl 6 rfl) ?_
  refine lv_aload_n hx hb dX8_offerPairs_21 rfl (lv_at hl 3 rfl) ?_
  refine qf_get hx hb hts inX8 hown hK hP (q0 := 114) (by decide) (hgU_114 ca o) rfl 0 (by decide) wq_265 (v := .ref (o + 115)) rfl dX8_offerPairs_22 ?_
  refine lv_iload hx hb dX8_offerPairs_25 (lv_at hl 2 rfl) ?_
  refine qa_iald hx hb hK hP (q0 := 115) (by decide) 0 (N := 6) (hgU_115 ca o) rfl (gi_in (by decide) (by decide)) dX8_offerPairs_27 ?_
  refine lv_topi (fun x33 e33 => ?_)
  refine lv_aload_n hx hb dX8_offerPairs_28 rfl (lv_at hl 3 rfl) ?_
  refine qf_get hx hb hts inX8 hown hK hP (q0 := 114) (by decide) (hgU_114 ca o) rfl 0 (by decide) wq_265 (v := .ref (o + 115)) rfl dX8_offerPairs_29 ?_
  refine lv_iload hx hb dX8_offerPairs_32 (lv_at hl 0 rfl) ?_
  refine qa_iald hx hb hK hP (q0 := 115) (by decide) 0 (N := 6) (hgU_115 ca o) rfl (gi_in (by decide) (by decide)) dX8_offerPairs_34 ?_
  refine lv_topi (fun x34 e34 => ?_)
  refine qc_Si (As := [.int a1, .int x33, .int x34]) (rest := []) (k0 := 3) (u1_numberBetween l D ca o z y a1 x33 x34) kc_yX8_numberBetween ⟨hx, hb, hml, hown, hts⟩ wq_878 rfl rfl ⟨Nat.le_of_ble_eq_true rfl, Nat.le_of_ble_eq_true rfl⟩ wq_all hP hK hS qw_Ai rfl hl.1 rfl (Nat.le_of_ble_eq_true rfl) dX8_offerPairs_35 ⟨Nat.zero_le _, Nat.zero_le _⟩ (fun r35 u35 H locs h35 hP hS _ _ => ?_)
  refine lv_istore (lv' := [(6, .int r35), (5, .int 2), (4, .int 1), (0, .ref (o + 114)), (1, .ref (o + 110)), (2, .ref (o + 1)), (3, .int a1)]) hx hb dX8_offerPairs_38 hl (by decide) rfl (fun ls hl => ?_)
  refine lv_aload_n hx hb dX8_offerPairs_40 rfl (lv_at hl 5 rfl) ?_
  refine lv_iload hx hb dX8_offerPairs_41 (lv_at hl 2 rfl) ?_
  refine qc_Vi (As := [.int 1]) (rest := []) (k0 := 1) (u1_hasPerson l D ca o z y 1 (h1_5)) kc_yX9_hasPerson ⟨hx, hb, hml, hown, hts⟩ wq_866 rfl rfl ⟨Nat.le_of_ble_eq_true rfl, Nat.le_of_ble_eq_true rfl⟩ wq_all hP hK hS qw_Ai (q0 := 1) (by decide) (hgU_1 ca o _ _) rfl rfl hl.1 rfl (Nat.le_of_ble_eq_true rfl) dX8_offerPairs_43 ⟨Nat.zero_le _, Nat.zero_le _⟩ (fun r36 u36 H locs h36 hP hS _ _ => ?_)
  subst h36
  refine lv_if_eq (tgt := 83) hx hb dX8_offerPairs_46 (by decide) (fun _ => ?_) (fun q => absurd (by decide) q)
  refine lv_iinc (v := 3) (lv' := [(5, .int 3), (6, .int r35), (4, .int 1), (0, .ref (o + 114)), (1, .ref (o + 110)), (2, .ref (o + 1)), (3, .int a1)]) hx hb dX8_offerPairs_83 hl (k := 1) rfl (by decide) (by decide) rfl (fun ls hl => ?_)
  refine lv_goto (tgt := 13) hx hb dX8_offerPairs_86 (by decide) ?_
  refine lv_iload hx hb dX8_offerPairs_13 (lv_at hl 0 rfl) ?_
  refine lv_bipush (v := 6) hx hb dX8_offerPairs_15 (by decide) ?_
  refine lv_icmp_ge (tgt := 89) hx hb dX8_offerPairs_17 (by decide) (fun q => absurd q (by decide)) (fun _ => ?_)
  refine lv_iload_n hx hb dX8_offerPairs_20 rfl (lv_at hl 6 rfl) ?_
  refine lv_aload_n hx hb dX8_offerPairs_21 rfl (lv_at hl 3 rfl) ?_
  refine qf_get hx hb hts inX8 hown hK hP (q0 := 114) (by decide) (hgU_114 ca o) rfl 0 (by decide) wq_265 (v := .ref (o + 115)) rfl dX8_offerPairs_22 ?_
  refine lv_iload hx hb dX8_offerPairs_25 (lv_at hl 2 rfl) ?_
  refine qa_iald hx hb hK hP (q0 := 115) (by decide) 0 (N := 6) (hgU_115 ca o) rfl (gi_in (by decide) (by decide)) dX8_offerPairs_27 ?_
  refine lv_topi (fun x37 e37 => ?_)
  refine lv_aload_n hx hb dX8_offerPairs_28 rfl (lv_at hl 3 rfl) ?_
  refine qf_get hx hb hts inX8 hown hK hP (q0 := 114) (by decide) (hgU_114 ca o) rfl 0 (by decide) wq_265 (v := .ref (o + 115)) rfl dX8_offerPairs_29 ?_
  refine lv_iload hx hb dX8_offerPairs_32 (lv_at hl 0 rfl) ?_
  refine qa_iald hx hb hK hP (q0 := 115) (by decide) 0 (N := 6) (hgU_115 ca o) rfl (gi_in (by decide) (by decide)) dX8_offerPairs_34 ?_
  refine lv_topi (fun x38 e38 => ?_)
  refine qc_Si (As := [.int a1, .int x37, .int x38]) (rest := []) (k0 := 3) (u1_numberBetween l D ca o z y a1 x37 x38) kc_yX8_numberBetween ⟨hx, hb, hml, hown, hts⟩ wq_878 rfl rfl ⟨Nat.le_of_ble_eq_true rfl, Nat.le_of_ble_eq_true rfl⟩ wq_all hP hK hS qw_Ai rfl hl.1 rfl (Nat.le_of_ble_eq_true rfl) dX8_offerPairs_35 ⟨Nat.zero_le _, Nat.zero_le _⟩ (fun r39 u39 H locs h39 hP hS _ _ => ?_)
  refine lv_istore (lv' := [(6, .int r39), (5, .int 3), (4, .int 1), (0, .ref (o + 114)), (1, .ref (o + 110)), (2, .ref (o + 1)), (3, .int a1)]) hx hb dX8_offerPairs_38 hl (by decide) rfl (fun ls hl => ?_)
  refine lv_aload_n hx hb dX8_offerPairs_40 rfl (lv_at hl 5 rfl) ?_
  refine lv_iload hx hb dX8_offerPairs_41 (lv_at hl 2 rfl) ?_
  refine qc_Vi (As := [.int 1]) (rest := []) (k0 := 1) (u1_hasPerson l D ca o z y 1 (h1_5)) kc_yX9_hasPerson ⟨hx, hb, hml, hown, hts⟩ wq_866 rfl rfl ⟨Nat.le_of_ble_eq_true rfl, Nat.le_of_ble_eq_true rfl⟩ wq_all hP hK hS qw_Ai (q0 := 1) (by decide) (hgU_1 ca o _ _) rfl rfl hl.1 rfl (Nat.le_of_ble_eq_true rfl) dX8_offerPairs_43 ⟨Nat.zero_le _, Nat.zero_le _⟩ (fun r40 u40 H locs h40 hP hS _ _ => ?_)
  subst h40
  refine lv_if_eq (tgt := 83) hx hb dX8_offerPairs_46 (by decide) (fun _ => ?_) (fun q => absurd (by decide) q)
  refine lv_iinc (v := 4) (lv' := [(5, .int 4), (6, .int r39), (4, .int 1), (0, .ref (o + 114)), (1, .ref (o + 110)), (2, .ref (o + 1)), (3, .int a1)]) hx hb dX8_offerPairs_83 hl (k := 1) rfl (by decide) (by decide) rfl (fun ls hl => ?_)
  refine lv_goto (tgt := 13) hx hb dX8_offerPairs_86 (by decide) ?_
  refine lv_iload hx hb dX8_offerPairs_13 (lv_at hl 0 rfl) ?_
  refine lv_bipush (v := 6) hx hb dX8_offerPairs_15 (by decide) ?_
  refine lv_icmp_ge (tgt := 89) hx hb dX8_offerPairs_17 (by decide) (fun q => absurd q (by decide)) (fun _ => ?_)
  refine lv_iload_n hx hb dX8_offerPairs_20 rfl (lv_at hl 6 rfl) ?_
  refine lv_aload_n hx hb dX8_offerPairs_21 rfl (lv_at hl 3 rfl) ?_
  refine qf_get hx hb hts inX8 hown hK hP (q0 := 114) (by decide) (hgU_114 ca o) rfl 0 (by decide) wq_265 (v := .ref (o + 115)) rfl dX8_offerPairs_22 ?_
  refine lv_iload hx hb dX8_offerPairs_25 (lv_at hl 2 rfl) ?_
  refine qa_iald hx hb hK hP (q0 := 115) (by decide) 0 (N := 6) (hgU_115 ca o) rfl (gi_in (by decide) (by decide)) dX8_offerPairs_27 ?_
  refine lv_topi (fun x41 e41 => ?_)
  refine lv_aload_n hx hb dX8_offerPairs_28 rfl (lv_at hl 3 rfl) ?_
  refine qf_get hx hb hts inX8 hown hK hP (q0 := 114) (by decide) (hgU_114 ca o) rfl 0 (by decide) wq_265 (v := .ref (o + 115)) rfl dX8_offerPairs_29 ?_
  refine lv_iload hx hb dX8_offerPairs_32 (lv_at hl 0 rfl) ?_
  refine qa_iald hx hb hK hP (q0 := 115) (by decide) 0 (N := 6) (hgU_115 ca o) rfl (gi_in (by decide) (by decide)) dX8_offerPairs_34 ?_
  refine lv_topi (fun x42 e42 => ?_)
  refine qc_Si (As := [.int a1, .int x41, .int x42]) (rest := []) (k0 := 3) (u1_numberBetween l D ca o z y a1 x41 x42) kc_yX8_numberBetween ⟨hx, hb, hml, hown, hts⟩ wq_878 rfl rfl ⟨Nat.le_of_ble_eq_true rfl, Nat.le_of_ble_eq_true rfl⟩ wq_all hP hK hS qw_Ai rfl hl.1 rfl (Nat.le_of_ble_eq_true rfl) dX8_offerPairs_35 ⟨Nat.zero_le _, Nat.zero_le _⟩ (fun r43 u43 H locs h43 hP hS _ _ => ?_)
  refine lv_istore (lv' := [(6, .int r43), (5, .int 4), (4, .int 1), (0, .ref (o + 114)), (1, .ref (o + 110)), (2, .ref (o + 1)), (3, .int a1)]) hx hb dX8_offerPairs_38 hl (by decide) rfl (fun ls hl => ?_)
  refine lv_aload_n hx hb dX8_offerPairs_40 rfl (lv_at hl 5 rfl) ?_
  refine lv_iload hx hb dX8_offerPairs_41 (lv_at hl 2 rfl) ?_
  refine qc_Vi (As := [.int 1]) (rest := []) (k0 := 1) (u1_hasPerson l D ca o z y 1 (h1_5)) kc_yX9_hasPerson ⟨hx, hb, hml, hown, hts⟩ wq_866 rfl rfl ⟨Nat.le_of_ble_eq_true rfl, Nat.le_of_ble_eq_true rfl⟩ wq_all hP hK hS qw_Ai (q0 := 1) (by decide) (hgU_1 ca o _ _) rfl rfl hl.1 rfl (Nat.le_of_ble_eq_true rfl) dX8_offerPairs_43 ⟨Nat.zero_le _, Nat.zero_le _⟩ (fun r44 u44 H locs h44 hP hS _ _ => ?_)
  subst h44
  refine lv_if_eq (tgt := 83) hx hb dX8_offerPairs_46 (by decide) (fun _ => ?_) (fun q => absurd (by decide) q)
  refine lv_iinc (v := 5) (lv' := [(5, .int 5), (6, .int r43), (4, .int 1), (0, .ref (o + 114)), (1, .ref (o + 110)), (2, .ref (o + 1)), (3, .int a1)]) hx hb dX8_offerPairs_83 hl (k := 1) rfl (by decide) (by decide) rfl (fun ls hl => ?_)
  refine lv_goto (tgt := 13) hx hb dX8_offerPairs_86 (by decide) ?_
  refine lv_iload hx hb dX8_offerPairs_13 (lv_at hl 0 rfl) ?_
  refine lv_bipush (v := 6) hx hb dX8_offerPairs_15 (by decide) ?_
  refine lv_icmp_ge (tgt := 89) hx hb dX8_offerPairs_17 (by decide) (fun q => absurd q (by decide)) (fun _ => ?_)
  refine lv_iload_n hx hb dX8_offerPairs_20 rfl (lv_at hl 6 rfl) ?_
  refine lv_aload_n hx hb dX8_offerPairs_21 rfl (lv_at hl 3 rfl) ?_
  refine qf_get hx hb hts inX8 hown hK hP (q0 := 114) (by decide) (hgU_114 ca o) rfl 0 (by decide) wq_265 (v := .ref (o + 115)) rfl dX8_offerPairs_22 ?_
  refine lv_iload hx hb dX8_offerPairs_25 (lv_at hl 2 rfl) ?_
  refine qa_iald hx hb hK hP (q0 := 115) (by decide) 0 (N := 6) (hgU_115 ca o) rfl (gi_in (by decide) (by decide)) dX8_offerPairs_27 ?_
  refine lv_topi (fun x45 e45 => ?_)
  refine lv_aload_n hx hb dX8_offerPairs_28 rfl (lv_at hl 3 rfl) ?_
  refine qf_get hx hb hts inX8 hown hK hP (q0 := 114) (by decide) (hgU_114 ca o) rfl 0 (by decide) wq_265 (v := .ref (o + 115)) rfl dX8_offerPairs_29 ?_
  refine lv_iload hx hb dX8_offerPairs_32 (lv_at hl 0 rfl) ?_
  refine qa_iald hx hb hK hP (q0 := 115) (by decide) 0 (N := 6) (hgU_115 ca o) rfl (gi_in (by decide) (by decide)) dX8_offerPairs_34 ?_
  refine lv_topi (fun x46 e46 => ?_)
  refine qc_Si (As := [.int a1, .int x45, .int x46]) (rest := []) (k0 := 3) (u1_numberBetween l D ca o z y a1 x45 x46) kc_yX8_numberBetween ⟨hx, hb, hml, hown, hts⟩ wq_878 rfl rfl ⟨Nat.le_of_ble_eq_true rfl, Nat.le_of_ble_eq_true rfl⟩ wq_all hP hK hS qw_Ai rfl hl.1 rfl (Nat.le_of_ble_eq_true rfl) dX8_offerPairs_35 ⟨Nat.zero_le _, Nat.zero_le _⟩ (fun r47 u47 H locs h47 hP hS _ _ => ?_)
  refine lv_istore (lv' := [(6, .int r47), (5, .int 5), (4, .int 1), (0, .ref (o + 114)), (1, .ref (o + 110)), (2, .ref (o + 1)), (3, .int a1)]) hx hb dX8_offerPairs_38 hl (by decide) rfl (fun ls hl => ?_)
  refine lv_aload_n hx hb dX8_offerPairs_40 rfl (lv_at hl 5 rfl) ?_
  refine lv_iload hx hb dX8_offerPairs_41 (lv_at hl 2 rfl) ?_
  refine qc_Vi (As := [.int 1]) (rest := []) (k0 := 1) (u1_hasPerson l D ca o z y 1 (h1_5)) kc_yX9_hasPerson ⟨hx, hb, hml, hown, hts⟩ wq_866 rfl rfl ⟨Nat.le_of_ble_eq_true rfl, Nat.le_of_ble_eq_true rfl⟩ wq_all hP hK hS qw_Ai (q0 := 1) (by decide) (hgU_1 ca o _ _) rfl rfl hl.1 rfl (Nat.le_of_ble_eq_true rfl) dX8_offerPairs_43 ⟨Nat.zero_le _, Nat.zero_le _⟩ (fun r48 u48 H locs h48 hP hS _ _ => ?_)
  subst h48
  refine lv_if_eq (tgt := 83) hx hb dX8_offerPairs_46 (by decide) (fun _ => ?_) (fun q => absurd (by decide) q)
  refine lv_iinc (v := 6) (lv' := [(5, .int 6), (6, .int r47), (4, .int 1), (0, .ref (o + 114)), (1, .ref (o + 110)), (2, .ref (o + 1)), (3, .int a1)]) hx hb dX8_offerPairs_83 hl (k := 1) rfl (by decide) (by decide) rfl (fun ls hl => ?_)
  refine lv_goto (tgt := 13) hx hb dX8_offerPairs_86 (by decide) ?_
  refine lv_iload hx hb dX8_offerPairs_13 (lv_at hl 0 rfl) ?_
  refine lv_bipush (v := 6) hx hb dX8_offerPairs_15 (by decide) ?_
  refine lv_icmp_ge (tgt := 89) hx hb dX8_offerPairs_17 (by decide) (fun _ => ?_) (fun q => absurd (by decide) q)
  refine lv_iinc (v := 2) (lv' := [(4, .int 2), (5, .int 6), (6, .int r47), (0, .ref (o + 114)), (1, .ref (o + 110)), (2, .ref (o + 1)), (3, .int a1)]) hx hb dX8_offerPairs_89 hl (k := 2) rfl (by decide) (by decide) rfl (fun ls hl => ?_)
  refine lv_goto (tgt := 3) hx hb dX8_offerPairs_92 (by decide) ?_
  refine lv_iload hx hb dX8_offerPairs_3 (lv_at hl 0 rfl) ?_
  refine lv_bipush (v := 6) hx hb dX8_offerPairs_5 (by decide) ?_
  refine lv_icmp_ge (tgt := 95) hx hb dX8_offerPairs_7 (by decide) (fun q => absurd q (by decide)) (fun _ => ?_)
  refine lv_iconst (v := 0) hx hb dX8_offerPairs_10 (by decide) ?_
  refine lv_istore (lv' := [(5, .int 0), (4, .int 2), (6, .int r47), (0, .ref (o + 114)), (1, .ref (o + 110)), (2, .ref (o + 1)), (3, .int a1)]) hx hb dX8_offerPairs_11 hl (by decide) rfl (fun ls hl => ?_)
  refine lv_iload hx hb dX8_offerPairs_13 (lv_at hl 0 rfl) ?_
  refine lv_bipush (v := 6) hx hb dX8_offerPairs_15 (by decide) ?_
  refine lv_icmp_ge (tgt := 89) hx hb dX8_offerPairs_17 (by decide) (fun q => absurd q (by decide)) (fun _ => ?_)
  refine lv_iload_n hx hb dX8_offerPairs_20 rfl (lv_at hl 6 rfl) ?_
  refine lv_aload_n hx hb dX8_offerPairs_21 rfl (lv_at hl 3 rfl) ?_
  refine qf_get hx hb hts inX8 hown hK hP (q0 := 114) (by decide) (hgU_114 ca o) rfl 0 (by decide) wq_265 (v := .ref (o + 115)) rfl dX8_offerPairs_22 ?_
  refine lv_iload hx hb dX8_offerPairs_25 (lv_at hl 1 rfl) ?_
  refine qa_iald hx hb hK hP (q0 := 115) (by decide) 0 (N := 6) (hgU_115 ca o) rfl (gi_in (by decide) (by decide)) dX8_offerPairs_27 ?_
  refine lv_topi (fun x49 e49 => ?_)
  refine lv_aload_n hx hb dX8_offerPairs_28 rfl (lv_at hl 3 rfl) ?_
  refine qf_get hx hb hts inX8 hown hK hP (q0 := 114) (by decide) (hgU_114 ca o) rfl 0 (by decide) wq_265 (v := .ref (o + 115)) rfl dX8_offerPairs_29 ?_
  refine lv_iload hx hb dX8_offerPairs_32 (lv_at hl 0 rfl) ?_
  refine qa_iald hx hb hK hP (q0 := 115) (by decide) 0 (N := 6) (hgU_115 ca o) rfl (gi_in (by decide) (by decide)) dX8_offerPairs_34 ?_
  refine lv_topi (fun x50 e50 => ?_)
  refine qc_Si (As := [.int a1, .int x49, .int x50]) (rest := []) (k0 := 3) (u1_numberBetween l D ca o z y a1 x49 x50) kc_yX8_numberBetween ⟨hx, hb, hml, hown, hts⟩ wq_878 rfl rfl ⟨Nat.le_of_ble_eq_true rfl, Nat.le_of_ble_eq_true rfl⟩ wq_all hP hK hS qw_Ai rfl hl.1 rfl (Nat.le_of_ble_eq_true rfl) dX8_offerPairs_35 ⟨Nat.zero_le _, Nat.zero_le _⟩ (fun r51 u51 H locs h51 hP hS _ _ => ?_)
  refine lv_istore (lv' := [(6, .int r51), (5, .int 0), (4, .int 2), (0, .ref (o + 114)), (1, .ref (o + 110)), (2, .ref (o + 1)), (3, .int a1)]) hx hb dX8_offerPairs_38 hl (by decide) rfl (fun ls hl => ?_)
  refine lv_aload_n hx hb dX8_offerPairs_40 rfl (lv_at hl 5 rfl) ?_
  refine lv_iload hx hb dX8_offerPairs_41 (lv_at hl 2 rfl) ?_
  refine qc_Vi (As := [.int 2]) (rest := []) (k0 := 1) (u1_hasPerson l D ca o z y 2 (h1_5)) kc_yX9_hasPerson ⟨hx, hb, hml, hown, hts⟩ wq_866 rfl rfl ⟨Nat.le_of_ble_eq_true rfl, Nat.le_of_ble_eq_true rfl⟩ wq_all hP hK hS qw_Ai (q0 := 1) (by decide) (hgU_1 ca o _ _) rfl rfl hl.1 rfl (Nat.le_of_ble_eq_true rfl) dX8_offerPairs_43 ⟨Nat.zero_le _, Nat.zero_le _⟩ (fun r52 u52 H locs h52 hP hS _ _ => ?_)
  subst h52
  refine lv_if_eq (tgt := 83) hx hb dX8_offerPairs_46 (by decide) (fun _ => ?_) (fun q => absurd (by decide) q)
  refine lv_iinc (v := 1) (lv' := [(5, .int 1), (6, .int r51), (4, .int 2), (0, .ref (o + 114)), (1, .ref (o + 110)), (2, .ref (o + 1)), (3, .int a1)]) hx hb dX8_offerPairs_83 hl (k := 1) rfl (by decide) (by decide) rfl (fun ls hl => ?_)
  refine lv_goto (tgt := 13) hx hb dX8_offerPairs_86 (by decide) ?_
  refine lv_iload hx hb dX8_offerPairs_13 (lv_at hl 0 rfl) ?_
  refine lv_bipush (v := 6) hx hb dX8_offerPairs_15 (by decide) ?_
  refine lv_icmp_ge (tgt := 89) hx hb dX8_offerPairs_17 (by decide) (fun q => absurd q (by decide)) (fun _ => ?_)
  refine lv_iload_n hx hb dX8_offerPairs_20 rfl (lv_at hl 6 rfl) ?_
  refine lv_aload_n hx hb dX8_offerPairs_21 rfl (lv_at hl 3 rfl) ?_
  refine qf_get hx hb hts inX8 hown hK hP (q0 := 114) (by decide) (hgU_114 ca o) rfl 0 (by decide) wq_265 (v := .ref (o + 115)) rfl dX8_offerPairs_22 ?_
  refine lv_iload hx hb dX8_offerPairs_25 (lv_at hl 2 rfl) ?_
  refine qa_iald hx hb hK hP (q0 := 115) (by decide) 0 (N := 6) (hgU_115 ca o) rfl (gi_in (by decide) (by decide)) dX8_offerPairs_27 ?_
  refine lv_topi (fun x53 e53 => ?_)
  refine lv_aload_n hx hb dX8_offerPairs_28 rfl (lv_at hl 3 rfl) ?_
  refine qf_get hx hb hts inX8 hown hK hP (q0 := 114) (by decide) (hgU_114 ca o) rfl 0 (by decide) wq_265 (v := .ref (o + 115)) rfl dX8_offerPairs_29 ?_
  refine lv_iload hx hb dX8_offerPairs_32 (lv_at hl 0 rfl) ?_
  refine qa_iald hx hb hK hP (q0 := 115) (by decide) 0 (N := 6) (hgU_115 ca o) rfl (gi_in (by decide) (by decide)) dX8_offerPairs_34 ?_
  refine lv_topi (fun x54 e54 => ?_)
  refine qc_Si (As := [.int a1, .int x53, .int x54]) (rest := []) (k0 := 3) (u1_numberBetween l D ca o z y a1 x53 x54) kc_yX8_numberBetween ⟨hx, hb, hml, hown, hts⟩ wq_878 rfl rfl ⟨Nat.le_of_ble_eq_true rfl, Nat.le_of_ble_eq_true rfl⟩ wq_all hP hK hS qw_Ai rfl hl.1 rfl (Nat.le_of_ble_eq_true rfl) dX8_offerPairs_35 ⟨Nat.zero_le _, Nat.zero_le _⟩ (fun r55 u55 H locs h55 hP hS _ _ => ?_)
  refine lv_istore (lv' := [(6, .int r55), (5, .int 1), (4, .int 2), (0, .ref (o + 114)), (1, .ref (o + 110)), (2, .ref (o + 1)), (3, .int a1)]) hx hb dX8_offerPairs_38 hl (by decide) rfl (fun ls hl => ?_)
  refine lv_aload_n hx hb dX8_offerPairs_40 rfl (lv_at hl 5 rfl) ?_
  refine lv_iload hx hb dX8_offerPairs_41 (lv_at hl 2 rfl) ?_
  refine qc_Vi (As := [.int 2]) (rest := []) (k0 := 1) (u1_hasPerson l D ca o z y 2 (h1_5)) kc_yX9_hasPerson ⟨hx, hb, hml, hown, hts⟩ wq_866 rfl rfl ⟨Nat.le_of_ble_eq_true rfl, Nat.le_of_ble_eq_true rfl⟩ wq_all hP hK hS qw_Ai (q0 := 1) (by decide) (hgU_1 ca o _ _) rfl rfl hl.1 rfl (Nat.le_of_ble_eq_true rfl) dX8_offerPairs_43 ⟨Nat.zero_le _, Nat.zero_le _⟩ (fun r56 u56 H locs h56 hP hS _ _ => ?_)
  subst h56
  refine lv_if_eq (tgt := 83) hx hb dX8_offerPairs_46 (by decide) (fun _ => ?_) (fun q => absurd (by decide) q)
  refine lv_iinc (v := 2) (lv' := [(5, .int 2), (6, .int r55), (4, .int 2), (0, .ref (o + 114)), (1, .ref (o + 110)), (2, .ref (o + 1)), (3, .int a1)]) hx hb dX8_offerPairs_83 hl (k := 1) rfl (by decide) (by decide) rfl (fun ls hl => ?_)
  refine lv_goto (tgt := 13) hx hb dX8_offerPairs_86 (by decide) ?_
  refine lv_iload hx hb dX8_offerPairs_13 (lv_at hl 0 rfl) ?_
  refine lv_bipush (v := 6) hx hb dX8_offerPairs_15 (by decide) ?_
  refine lv_icmp_ge (tgt := 89) hx hb dX8_offerPairs_17 (by decide) (fun q => absurd q (by decide)) (fun _ => ?_)
  refine lv_iload_n hx hb dX8_offerPairs_20 rfl (lv_at hl 6 rfl) ?_
  refine lv_aload_n hx hb dX8_offerPairs_21 rfl (lv_at hl 3 rfl) ?_
  refine qf_get hx hb hts inX8 hown hK hP (q0 := 114) (by decide) (hgU_114 ca o) rfl 0 (by decide) wq_265 (v := .ref (o + 115)) rfl dX8_offerPairs_22 ?_
  refine lv_iload hx hb dX8_offerPairs_25 (lv_at hl 2 rfl) ?_
  refine qa_iald hx hb hK hP (q0 := 115) (by decide) 0 (N := 6) (hgU_115 ca o) rfl (gi_in (by decide) (by decide)) dX8_offerPairs_27 ?_
  refine lv_topi (fun x57 e57 => ?_)
  refine lv_aload_n hx hb dX8_offerPairs_28 rfl (lv_at hl 3 rfl) ?_
  refine qf_get hx hb hts inX8 hown hK hP (q0 := 114) (by decide) (hgU_114 ca o) rfl 0 (by decide) wq_265 (v := .ref (o + 115)) rfl dX8_offerPairs_29 ?_
  refine lv_iload hx hb dX8_offerPairs_32 (lv_at hl 0 rfl) ?_
  refine qa_iald hx hb hK hP (q0 := 115) (by decide) 0 (N := 6) (hgU_115 ca o) rfl (gi_in (by decide) (by decide)) dX8_offerPairs_34 ?_
  refine lv_topi (fun x58 e58 => ?_)
  refine qc_Si (As := [.int a1, .int x57, .int x58]) (rest := []) (k0 := 3) (u1_numberBetween l D ca o z y a1 x57 x58) kc_yX8_numberBetween ⟨hx, hb, hml, hown, hts⟩ wq_878 rfl rfl ⟨Nat.le_of_ble_eq_true rfl, Nat.le_of_ble_eq_true rfl⟩ wq_all hP hK hS qw_Ai rfl hl.1 rfl (Nat.le_of_ble_eq_true rfl) dX8_offerPairs_35 ⟨Nat.zero_le _, Nat.zero_le _⟩ (fun r59 u59 H locs h59 hP hS _ _ => ?_)
  refine lv_istore (lv' := [(6, .int r59), (5, .int 2), (4, .int 2), (0, .ref (o + 114)), (1, .ref (o + 110)), (2, .ref (o + 1)), (3, .int a1)]) hx hb dX8_offerPairs_38 hl (by decide) rfl (fun ls hl => ?_)
  refine lv_aload_n hx hb dX8_offerPairs_40 rfl (lv_at hl 5 rfl) ?_
  refine lv_iload hx hb dX8_offerPairs_41 (lv_at hl 2 rfl) ?_
  refine qc_Vi (As := [.int 2]) (rest := []) (k0 := 1) (u1_hasPerson l D ca o z y 2 (h1_5)) kc_yX9_hasPerson ⟨hx, hb, hml, hown, hts⟩ wq_866 rfl rfl ⟨Nat.le_of_ble_eq_true rfl, Nat.le_of_ble_eq_true rfl⟩ wq_all hP hK hS qw_Ai (q0 := 1) (by decide) (hgU_1 ca o _ _) rfl rfl hl.1 rfl (Nat.le_of_ble_eq_true rfl) dX8_offerPairs_43 ⟨Nat.zero_le _, Nat.zero_le _⟩ (fun r60 u60 H locs h60 hP hS _ _ => ?_)
  subst h60
  refine lv_if_eq (tgt := 83) hx hb dX8_offerPairs_46 (by decide) (fun _ => ?_) (fun q => absurd (by decide) q)
  refine lv_iinc (v := 3) (lv' := [(5, .int 3), (6, .int r59), (4, .int 2), (0, .ref (o + 114)), (1, .ref (o + 110)), (2, .ref (o + 1)), (3, .int a1)]) hx hb dX8_offerPairs_83 hl (k := 1) rfl (by decide) (by decide) rfl (fun ls hl => ?_)
  refine lv_goto (tgt := 13) hx hb dX8_offerPairs_86 (by decide) ?_
  refine lv_iload hx hb dX8_offerPairs_13 (lv_at hl 0 rfl) ?_
  refine lv_bipush (v := 6) hx hb dX8_offerPairs_15 (by decide) ?_
  refine lv_icmp_ge (tgt := 89) hx hb dX8_offerPairs_17 (by decide) (fun q => absurd q (by decide)) (fun _ => ?_)
  refine lv_iload_n hx hb dX8_offerPairs_20 rfl (lv_at hl 6 rfl) ?_
  refine lv_aload_n hx hb dX8_offerPairs_21 rfl (lv_at hl 3 rfl) ?_
  refine qf_get hx hb hts inX8 hown hK hP (q0 := 114) (by decide) (hgU_114 ca o) rfl 0 (by decide) wq_265 (v := .ref (o + 115)) rfl dX8_offerPairs_22 ?_
  refine lv_iload hx hb dX8_offerPairs_25 (lv_at hl 2 rfl) ?_
  refine qa_iald hx hb hK hP (q0 := 115) (by decide) 0 (N := 6) (hgU_115 ca o) rfl (gi_in (by decide) (by decide)) dX8_offerPairs_27 ?_
  refine lv_topi (fun x61 e61 => ?_)
  refine lv_aload_n hx hb dX8_offerPairs_28 rfl (lv_at hl 3 rfl) ?_
  refine qf_get hx hb hts inX8 hown hK hP (q0 := 114) (by decide) (hgU_114 ca o) rfl 0 (by decide) wq_265 (v := .ref (o + 115)) rfl dX8_offerPairs_29 ?_
  refine lv_iload hx hb dX8_offerPairs_32 (lv_at hl 0 rfl) ?_
  refine qa_iald hx hb hK hP (q0 := 115) (by decide) 0 (N := 6) (hgU_115 ca o) rfl (gi_in (by decide) (by decide)) dX8_offerPairs_34 ?_
  refine lv_topi (fun x62 e62 => ?_)
  refine qc_Si (As := [.int a1, .int x61, .int x62]) (rest := []) (k0 := 3) (u1_numberBetween l D ca o z y a1 x61 x62) kc_yX8_numberBetween ⟨hx, hb, hml, hown, hts⟩ wq_878 rfl rfl ⟨Nat.le_of_ble_eq_true rfl, Nat.le_of_ble_eq_true rfl⟩ wq_all hP hK hS qw_Ai rfl hl.1 rfl (Nat.le_of_ble_eq_true rfl) dX8_offerPairs_35 ⟨Nat.zero_le _, Nat.zero_le _⟩ (fun r63 u63 H locs h63 hP hS _ _ => ?_)
  refine lv_istore (lv' := [(6, .int r63), (5, .int 3), (4, .int 2), (0, .ref (o + 114)), (1, .ref (o + 110)), (2, .ref (o + 1)), (3, .int a1)]) hx hb dX8_offerPairs_38 hl (by decide) rfl (fun ls hl => ?_)
  refine lv_aload_n hx hb dX8_offerPairs_40 rfl (lv_at hl 5 rfl) ?_
  refine lv_iload hx hb dX8_offerPairs_41 (lv_at hl 2 rfl) ?_
  refine qc_Vi (As := [.int 2]) (rest := []) (k0 := 1) (u1_hasPerson l D ca o z y 2 (h1_5)) kc_yX9_hasPerson ⟨hx, hb, hml, hown, hts⟩ wq_866 rfl rfl ⟨Nat.le_of_ble_eq_true rfl, Nat.le_of_ble_eq_true rfl⟩ wq_all hP hK hS qw_Ai (q0 := 1) (by decide) (hgU_1 ca o _ _) rfl rfl hl.1 rfl (Nat.le_of_ble_eq_true rfl) dX8_offerPairs_43 ⟨Nat.zero_le _, Nat.zero_le _⟩ (fun r64 u64 H locs h64 hP hS _ _ => ?_)
  subst h64
  refine lv_if_eq (tgt := 83) hx hb dX8_offerPairs_46 (by decide) (fun _ => ?_) (fun q => absurd (by decide) q)
  refine lv_iinc (v := 4) (lv' := [(5, .int 4), (6, .int r63), (4, .int 2), (0, .ref (o + 114)), (1, .ref (o + 110)), (2, .ref (o + 1)), (3, .int a1)]) hx hb dX8_offerPairs_83 hl (k := 1) rfl (by decide) (by decide) rfl (fun ls hl => ?_)
  refine lv_goto (tgt := 13) hx hb dX8_offerPairs_86 (by decide) ?_
  refine lv_iload hx hb dX8_offerPairs_13 (lv_at hl 0 rfl) ?_
  refine lv_bipush (v := 6) hx hb dX8_offerPairs_15 (by decide) ?_
  refine lv_icmp_ge (tgt := 89) hx hb dX8_offerPairs_17 (by decide) (fun q => absurd q (by decide)) (fun _ => ?_)
  refine lv_iload_n hx hb dX8_offerPairs_20 rfl (lv_at hl 6 rfl) ?_
  refine lv_aload_n hx hb dX8_offerPairs_21 rfl (lv_at hl 3 rfl) ?_
  refine qf_get hx hb hts inX8 hown hK hP (q0 := 114) (by decide) (hgU_114 ca o) rfl 0 (by decide) wq_265 (v := .ref (o + 115)) rfl dX8_offerPairs_22 ?_
  refine lv_iload hx hb dX8_offerPairs_25 (lv_at hl 2 rfl) ?_
  refine qa_iald hx hb hK hP (q0 := 115) (by decide) 0 (N := 6) (hgU_115 ca o) rfl (gi_in (by decide) (by decide)) dX8_offerPairs_27 ?_
  refine lv_topi (fun x65 e65 => ?_)
  refine lv_aload_n hx hb dX8_offerPairs_28 rfl (lv_at hl 3 rfl) ?_
  refine qf_get hx hb hts inX8 hown hK hP (q0 := 114) (by decide) (hgU_114 ca o) rfl 0 (by decide) wq_265 (v := .ref (o + 115)) rfl dX8_offerPairs_29 ?_
  refine lv_iload hx hb dX8_offerPairs_32 (lv_at hl 0 rfl) ?_
  refine qa_iald hx hb hK hP (q0 := 115) (by decide) 0 (N := 6) (hgU_115 ca o) rfl (gi_in (by decide) (by decide)) dX8_offerPairs_34 ?_
  refine lv_topi (fun x66 e66 => ?_)
  refine qc_Si (As := [.int a1, .int x65, .int x66]) (rest := []) (k0 := 3) (u1_numberBetween l D ca o z y a1 x65 x66) kc_yX8_numberBetween ⟨hx, hb, hml, hown, hts⟩ wq_878 rfl rfl ⟨Nat.le_of_ble_eq_true rfl, Nat.le_of_ble_eq_true rfl⟩ wq_all hP hK hS qw_Ai rfl hl.1 rfl (Nat.le_of_ble_eq_true rfl) dX8_offerPairs_35 ⟨Nat.zero_le _, Nat.zero_le _⟩ (fun r67 u67 H locs h67 hP hS _ _ => ?_)
  refine lv_istore (lv' := [(6, .int r67), (5, .int 4), (4, .int 2), (0, .ref (o + 114)), (1, .ref (o + 110)), (2, .ref (o + 1)), (3, .int a1)]) hx hb dX8_offerPairs_38 hl (by decide) rfl (fun ls hl => ?_)
  refine lv_aload_n hx hb dX8_offerPairs_40 rfl (lv_at hl 5 rfl) ?_
  refine lv_iload hx hb dX8_offerPairs_41 (lv_at hl 2 rfl) ?_
  refine qc_Vi (As := [.int 2]) (rest := []) (k0 := 1) (u1_hasPerson l D ca o z y 2 (h1_5)) kc_yX9_hasPerson ⟨hx, hb, hml, hown, hts⟩ wq_866 rfl rfl ⟨Nat.le_of_ble_eq_true rfl, Nat.le_of_ble_eq_true rfl⟩ wq_all hP hK hS qw_Ai (q0 := 1) (by decide) (hgU_1 ca o _ _) rfl rfl hl.1 rfl (Nat.le_of_ble_eq_true rfl) dX8_offerPairs_43 ⟨Nat.zero_le _, Nat.zero_le _⟩ (fun r68 u68 H locs h68 hP hS _ _ => ?_)
  subst h68
  refine lv_if_eq (tgt := 83) hx hb dX8_offerPairs_46 (by decide) (fun _ => ?_) (fun q => absurd (by decide) q)
  refine lv_iinc (v := 5) (lv' := [(5, .int 5), (6, .int r67), (4, .int 2), (0, .ref (o + 114)), (1, .ref (o + 110)), (2, .ref (o + 1)), (3, .int a1)]) hx hb dX8_offerPairs_83 hl (k := 1) rfl (by decide) (by decide) rfl (fun ls hl => ?_)
  refine lv_goto (tgt := 13) hx hb dX8_offerPairs_86 (by decide) ?_
  refine lv_iload hx hb dX8_offerPairs_13 (lv_at hl 0 rfl) ?_
  refine lv_bipush (v := 6) hx hb dX8_offerPairs_15 (by decide) ?_
  refine lv_icmp_ge (tgt := 89) hx hb dX8_offerPairs_17 (by decide) (fun q => absurd q (by decide)) (fun _ => ?_)
  refine lv_iload_n hx hb dX8_offerPairs_20 rfl (lv_at hl 6 rfl) ?_
  refine lv_aload_n hx hb dX8_offerPairs_21 rfl (lv_at hl 3 rfl) ?_
  refine qf_get hx hb hts inX8 hown hK hP (q0 := 114) (by decide) (hgU_114 ca o) rfl 0 (by decide) wq_265 (v := .ref (o + 115)) rfl dX8_offerPairs_22 ?_
  refine lv_iload hx hb dX8_offerPairs_25 (lv_at hl 2 rfl) ?_
  refine qa_iald hx hb hK hP (q0 := 115) (by decide) 0 (N := 6) (hgU_115 ca o) rfl (gi_in (by decide) (by decide)) dX8_offerPairs_27 ?_
  refine lv_topi (fun x69 e69 => ?_)
  refine lv_aload_n hx hb dX8_offerPairs_28 rfl (lv_at hl 3 rfl) ?_
  refine qf_get hx hb hts inX8 hown hK hP (q0 := 114) (by decide) (hgU_114 ca o) rfl 0 (by decide) wq_265 (v := .ref (o + 115)) rfl dX8_offerPairs_29 ?_
  refine lv_iload hx hb dX8_offerPairs_32 (lv_at hl 0 rfl) ?_
  refine qa_iald hx hb hK hP (q0 := 115) (by decide) 0 (N := 6) (hgU_115 ca o) rfl (gi_in (by decide) (by decide)) dX8_offerPairs_34 ?_
  refine lv_topi (fun x70 e70 => ?_)
  refine qc_Si (As := [.int a1, .int x69, .int x70]) (rest := []) (k0 := 3) (u1_numberBetween l D ca o z y a1 x69 x70) kc_yX8_numberBetween ⟨hx, hb, hml, hown, hts⟩ wq_878 rfl rfl ⟨Nat.le_of_ble_eq_true rfl, Nat.le_of_ble_eq_true rfl⟩ wq_all hP hK hS qw_Ai rfl hl.1 rfl (Nat.le_of_ble_eq_true rfl) dX8_offerPairs_35 ⟨Nat.zero_le _, Nat.zero_le _⟩ (fun r71 u71 H locs h71 hP hS _ _ => ?_)
  refine lv_istore (lv' := [(6, .int r71), (5, .int 5), (4, .int 2), (0, .ref (o + 114)), (1, .ref (o + 110)), (2, .ref (o + 1)), (3, .int a1)]) hx hb dX8_offerPairs_38 hl (by decide) rfl (fun ls hl => ?_)
  refine lv_aload_n hx hb dX8_offerPairs_40 rfl (lv_at hl 5 rfl) ?_
  refine lv_iload hx hb dX8_offerPairs_41 (lv_at hl 2 rfl) ?_
  refine qc_Vi (As := [.int 2]) (rest := []) (k0 := 1) (u1_hasPerson l D ca o z y 2 (h1_5)) kc_yX9_hasPerson ⟨hx, hb, hml, hown, hts⟩ wq_866 rfl rfl ⟨Nat.le_of_ble_eq_true rfl, Nat.le_of_ble_eq_true rfl⟩ wq_all hP hK hS qw_Ai (q0 := 1) (by decide) (hgU_1 ca o _ _) rfl rfl hl.1 rfl (Nat.le_of_ble_eq_true rfl) dX8_offerPairs_43 ⟨Nat.zero_le _, Nat.zero_le _⟩ (fun r72 u72 H locs h72 hP hS _ _ => ?_)
  subst h72
  refine lv_if_eq (tgt := 83) hx hb dX8_offerPairs_46 (by decide) (fun _ => ?_) (fun q => absurd (by decide) q)
  refine lv_iinc (v := 6) (lv' := [(5, .int 6), (6, .int r71), (4, .int 2), (0, .ref (o + 114)), (1, .ref (o + 110)), (2, .ref (o + 1)), (3, .int a1)]) hx hb dX8_offerPairs_83 hl (k := 1) rfl (by decide) (by decide) rfl (fun ls hl => ?_)
  refine lv_goto (tgt := 13) hx hb dX8_offerPairs_86 (by decide) ?_
  refine lv_iload hx hb dX8_offerPairs_13 (lv_at hl 0 rfl) ?_
  refine lv_bipush (v := 6) hx hb dX8_offerPairs_15 (by decide) ?_
  refine lv_icmp_ge (tgt := 89) hx hb dX8_offerPairs_17 (by decide) (fun _ => ?_) (fun q => absurd (by decide) q)
  refine lv_iinc (v := 3) (lv' := [(4, .int 3), (5, .int 6), (6, .int r71), (0, .ref (o + 114)), (1, .ref (o + 110)), (2, .ref (o + 1)), (3, .int a1)]) hx hb dX8_offerPairs_89 hl (k := 2) rfl (by decide) (by decide) rfl (fun ls hl => ?_)
  refine lv_goto (tgt := 3) hx hb dX8_offerPairs_92 (by decide) ?_
  refine lv_iload hx hb dX8_offerPairs_3 (lv_at hl 0 rfl) ?_
  refine lv_bipush (v := 6) hx hb dX8_offerPairs_5 (by decide) ?_
  refine lv_icmp_ge (tgt := 95) hx hb dX8_offerPairs_7 (by decide) (fun q => absurd q (by decide)) (fun _ => ?_)
  refine lv_iconst (v := 0) hx hb dX8_offerPairs_10 (by decide) ?_
  refine lv_istore (lv' := [(5, .int 0), (4, .int 3), (6, .int r71), (0, .ref (o + 114)), (1, .ref (o + 110)), (2, .ref (o + 1)), (3, .int a1)]) hx hb dX8_offerPairs_11 hl (by decide) rfl (fun ls hl => ?_)
  refine lv_iload hx hb dX8_offerPairs_13 (lv_at hl 0 rfl) ?_
  refine lv_bipush (v := 6) hx hb dX8_offerPairs_15 (by decide) ?_
  refine lv_icmp_ge (tgt := 89) hx hb dX8_offerPairs_17 (by decide) (fun q => absurd q (by decide)) (fun _ => ?_)
  refine lv_iload_n hx hb dX8_offerPairs_20 rfl (lv_at hl 6 rfl) ?_
  refine lv_aload_n hx hb dX8_offerPairs_21 rfl (lv_at hl 3 rfl) ?_
  refine qf_get hx hb hts inX8 hown hK hP (q0 := 114) (by decide) (hgU_114 ca o) rfl 0 (by decide) wq_265 (v := .ref (o + 115)) rfl dX8_offerPairs_22 ?_
  refine lv_iload hx hb dX8_offerPairs_25 (lv_at hl 1 rfl) ?_
  refine qa_iald hx hb hK hP (q0 := 115) (by decide) 0 (N := 6) (hgU_115 ca o) rfl (gi_in (by decide) (by decide)) dX8_offerPairs_27 ?_
  refine lv_topi (fun x73 e73 => ?_)
  refine lv_aload_n hx hb dX8_offerPairs_28 rfl (lv_at hl 3 rfl) ?_
  refine qf_get hx hb hts inX8 hown hK hP (q0 := 114) (by decide) (hgU_114 ca o) rfl 0 (by decide) wq_265 (v := .ref (o + 115)) rfl dX8_offerPairs_29 ?_
  refine lv_iload hx hb dX8_offerPairs_32 (lv_at hl 0 rfl) ?_
  refine qa_iald hx hb hK hP (q0 := 115) (by decide) 0 (N := 6) (hgU_115 ca o) rfl (gi_in (by decide) (by decide)) dX8_offerPairs_34 ?_
  refine lv_topi (fun x74 e74 => ?_)
  refine qc_Si (As := [.int a1, .int x73, .int x74]) (rest := []) (k0 := 3) (u1_numberBetween l D ca o z y a1 x73 x74) kc_yX8_numberBetween ⟨hx, hb, hml, hown, hts⟩ wq_878 rfl rfl ⟨Nat.le_of_ble_eq_true rfl, Nat.le_of_ble_eq_true rfl⟩ wq_all hP hK hS qw_Ai rfl hl.1 rfl (Nat.le_of_ble_eq_true rfl) dX8_offerPairs_35 ⟨Nat.zero_le _, Nat.zero_le _⟩ (fun r75 u75 H locs h75 hP hS _ _ => ?_)
  refine lv_istore (lv' := [(6, .int r75), (5, .int 0), (4, .int 3), (0, .ref (o + 114)), (1, .ref (o + 110)), (2, .ref (o + 1)), (3, .int a1)]) hx hb dX8_offerPairs_38 hl (by decide) rfl (fun ls hl => ?_)
  refine lv_aload_n hx hb dX8_offerPairs_40 rfl (lv_at hl 5 rfl) ?_
  refine lv_iload hx hb dX8_offerPairs_41 (lv_at hl 2 rfl) ?_
  refine qc_Vi (As := [.int 3]) (rest := []) (k0 := 1) (u1_hasPerson l D ca o z y 3 (h1_5)) kc_yX9_hasPerson ⟨hx, hb, hml, hown, hts⟩ wq_866 rfl rfl ⟨Nat.le_of_ble_eq_true rfl, Nat.le_of_ble_eq_true rfl⟩ wq_all hP hK hS qw_Ai (q0 := 1) (by decide) (hgU_1 ca o _ _) rfl rfl hl.1 rfl (Nat.le_of_ble_eq_true rfl) dX8_offerPairs_43 ⟨Nat.zero_le _, Nat.zero_le _⟩ (fun r76 u76 H locs h76 hP hS _ _ => ?_)
  subst h76
  refine lv_if_eq (tgt := 83) hx hb dX8_offerPairs_46 (by decide) (fun _ => ?_) (fun q => absurd (by decide) q)
  refine lv_iinc (v := 1) (lv' := [(5, .int 1), (6, .int r75), (4, .int 3), (0, .ref (o + 114)), (1, .ref (o + 110)), (2, .ref (o + 1)), (3, .int a1)]) hx hb dX8_offerPairs_83 hl (k := 1) rfl (by decide) (by decide) rfl (fun ls hl => ?_)
  refine lv_goto (tgt := 13) hx hb dX8_offerPairs_86 (by decide) ?_
  refine lv_iload hx hb dX8_offerPairs_13 (lv_at hl 0 rfl) ?_
  refine lv_bipush (v := 6) hx hb dX8_offerPairs_15 (by decide) ?_
  refine lv_icmp_ge (tgt := 89) hx hb dX8_offerPairs_17 (by decide) (fun q => absurd q (by decide)) (fun _ => ?_)
  refine lv_iload_n hx hb dX8_offerPairs_20 rfl (lv_at hl 6 rfl) ?_
  refine lv_aload_n hx hb dX8_offerPairs_21 rfl (lv_at hl 3 rfl) ?_
  refine qf_get hx hb hts inX8 hown hK hP (q0 := 114) (by decide) (hgU_114 ca o) rfl 0 (by decide) wq_265 (v := .ref (o + 115)) rfl dX8_offerPairs_22 ?_
  refine lv_iload hx hb dX8_offerPairs_25 (lv_at hl 2 rfl) ?_
  refine qa_iald hx hb hK hP (q0 := 115) (by decide) 0 (N := 6) (hgU_115 ca o) rfl (gi_in (by decide) (by decide)) dX8_offerPairs_27 ?_
  refine lv_topi (fun x77 e77 => ?_)
  refine lv_aload_n hx hb dX8_offerPairs_28 rfl (lv_at hl 3 rfl) ?_
  refine qf_get hx hb hts inX8 hown hK hP (q0 := 114) (by decide) (hgU_114 ca o) rfl 0 (by decide) wq_265 (v := .ref (o + 115)) rfl dX8_offerPairs_29 ?_
  refine lv_iload hx hb dX8_offerPairs_32 (lv_at hl 0 rfl) ?_
  refine qa_iald hx hb hK hP (q0 := 115) (by decide) 0 (N := 6) (hgU_115 ca o) rfl (gi_in (by decide) (by decide)) dX8_offerPairs_34 ?_
  refine lv_topi (fun x78 e78 => ?_)
  refine qc_Si (As := [.int a1, .int x77, .int x78]) (rest := []) (k0 := 3) (u1_numberBetween l D ca o z y a1 x77 x78) kc_yX8_numberBetween ⟨hx, hb, hml, hown, hts⟩ wq_878 rfl rfl ⟨Nat.le_of_ble_eq_true rfl, Nat.le_of_ble_eq_true rfl⟩ wq_all hP hK hS qw_Ai rfl hl.1 rfl (Nat.le_of_ble_eq_true rfl) dX8_offerPairs_35 ⟨Nat.zero_le _, Nat.zero_le _⟩ (fun r79 u79 H locs h79 hP hS _ _ => ?_)
  refine lv_istore (lv' := [(6, .int r79), (5, .int 1), (4, .int 3), (0, .ref (o + 114)), (1, .ref (o + 110)), (2, .ref (o + 1)), (3, .int a1)]) hx hb dX8_offerPairs_38 hl (by decide) rfl (fun ls hl => ?_)
  refine lv_aload_n hx hb dX8_offerPairs_40 rfl (lv_at hl 5 rfl) ?_
  refine lv_iload hx hb dX8_offerPairs_41 (lv_at hl 2 rfl) ?_
  refine qc_Vi (As := [.int 3]) (rest := []) (k0 := 1) (u1_hasPerson l D ca o z y 3 (h1_5)) kc_yX9_hasPerson ⟨hx, hb, hml, hown, hts⟩ wq_866 rfl rfl ⟨Nat.le_of_ble_eq_true rfl, Nat.le_of_ble_eq_true rfl⟩ wq_all hP hK hS qw_Ai (q0 := 1) (by decide) (hgU_1 ca o _ _) rfl rfl hl.1 rfl (Nat.le_of_ble_eq_true rfl) dX8_offerPairs_43 ⟨Nat.zero_le _, Nat.zero_le _⟩ (fun r80 u80 H locs h80 hP hS _ _ => ?_)
  subst h80
  refine lv_if_eq (tgt := 83) hx hb dX8_offerPairs_46 (by decide) (fun _ => ?_) (fun q => absurd (by decide) q)
  refine lv_iinc (v := 2) (lv' := [(5, .int 2), (6, .int r79), (4, .int 3), (0, .ref (o + 114)), (1, .ref (o + 110)), (2, .ref (o + 1)), (3, .int a1)]) hx hb dX8_offerPairs_83 hl (k := 1) rfl (by decide) (by decide) rfl (fun ls hl => ?_)
  refine lv_goto (tgt := 13) hx hb dX8_offerPairs_86 (by decide) ?_
  refine lv_iload hx hb dX8_offerPairs_13 (lv_at hl 0 rfl) ?_
  refine lv_bipush (v := 6) hx hb dX8_offerPairs_15 (by decide) ?_
  refine lv_icmp_ge (tgt := 89) hx hb dX8_offerPairs_17 (by decide) (fun q => absurd q (by decide)) (fun _ => ?_)
  refine lv_iload_n hx hb dX8_offerPairs_20 rfl (lv_at hl 6 rfl) ?_
  refine lv_aload_n hx hb dX8_offerPairs_21 rfl (lv_at hl 3 rfl) ?_
  refine qf_get hx hb hts inX8 hown hK hP (q0 := 114) (by decide) (hgU_114 ca o) rfl 0 (by decide) wq_265 (v := .ref (o + 115)) rfl dX8_offerPairs_22 ?_
  refine lv_iload hx hb dX8_offerPairs_25 (lv_at hl 2 rfl) ?_
  refine qa_iald hx hb hK hP (q0 := 115) (by decide) 0 (N := 6) (hgU_115 ca o) rfl (gi_in (by decide) (by decide)) dX8_offerPairs_27 ?_
  refine lv_topi (fun x81 e81 => ?_)
  refine lv_aload_n hx hb dX8_offerPairs_28 rfl (lv_at hl 3 rfl) ?_
  refine qf_get hx hb hts inX8 hown hK hP (q0 := 114) (by decide) (hgU_114 ca o) rfl 0 (by decide) wq_265 (v := .ref (o + 115)) rfl dX8_offerPairs_29 ?_
  refine lv_iload hx hb dX8_offerPairs_32 (lv_at hl 0 rfl) ?_
  refine qa_iald hx hb hK hP (q0 := 115) (by decide) 0 (N := 6) (hgU_115 ca o) rfl (gi_in (by decide) (by decide)) dX8_offerPairs_34 ?_
  refine lv_topi (fun x82 e82 => ?_)
  refine qc_Si (As := [.int a1, .int x81, .int x82]) (rest := []) (k0 := 3) (u1_numberBetween l D ca o z y a1 x81 x82) kc_yX8_numberBetween ⟨hx, hb, hml, hown, hts⟩ wq_878 rfl rfl ⟨Nat.le_of_ble_eq_true rfl, Nat.le_of_ble_eq_true rfl⟩ wq_all hP hK hS qw_Ai rfl hl.1 rfl (Nat.le_of_ble_eq_true rfl) dX8_offerPairs_35 ⟨Nat.zero_le _, Nat.zero_le _⟩ (fun r83 u83 H locs h83 hP hS _ _ => ?_)
  refine lv_istore (lv' := [(6, .int r83), (5, .int 2), (4, .int 3), (0, .ref (o + 114)), (1, .ref (o + 110)), (2, .ref (o + 1)), (3, .int a1)]) hx hb dX8_offerPairs_38 hl (by decide) rfl (fun ls hl => ?_)
  refine lv_aload_n hx hb dX8_offerPairs_40 rfl (lv_at hl 5 rfl) ?_
  refine lv_iload hx hb dX8_offerPairs_41 (lv_at hl 2 rfl) ?_
  refine qc_Vi (As := [.int 3]) (rest := []) (k0 := 1) (u1_hasPerson l D ca o z y 3 (h1_5)) kc_yX9_hasPerson ⟨hx, hb, hml, hown, hts⟩ wq_866 rfl rfl ⟨Nat.le_of_ble_eq_true rfl, Nat.le_of_ble_eq_true rfl⟩ wq_all hP hK hS qw_Ai (q0 := 1) (by decide) (hgU_1 ca o _ _) rfl rfl hl.1 rfl (Nat.le_of_ble_eq_true rfl) dX8_offerPairs_43 ⟨Nat.zero_le _, Nat.zero_le _⟩ (fun r84 u84 H locs h84 hP hS _ _ => ?_)
  subst h84
  refine lv_if_eq (tgt := 83) hx hb dX8_offerPairs_46 (by decide) (fun _ => ?_) (fun q => absurd (by decide) q)
  refine lv_iinc (v := 3) (lv' := [(5, .int 3), (6, .int r83), (4, .int 3), (0, .ref (o + 114)), (1, .ref (o + 110)), (2, .ref (o + 1)), (3, .int a1)]) hx hb dX8_offerPairs_83 hl (k := 1) rfl (by decide) (by decide) rfl (fun ls hl => ?_)
  refine lv_goto (tgt := 13) hx hb dX8_offerPairs_86 (by decide) ?_
  refine lv_iload hx hb dX8_offerPairs_13 (lv_at hl 0 rfl) ?_
  refine lv_bipush (v := 6) hx hb dX8_offerPairs_15 (by decide) ?_
  refine lv_icmp_ge (tgt := 89) hx hb dX8_offerPairs_17 (by decide) (fun q => absurd q (by decide)) (fun _ => ?_)
  refine lv_iload_n hx hb dX8_offerPairs_20 rfl (lv_at hl 6 rfl) ?_
  refine lv_aload_n hx hb dX8_offerPairs_21 rfl (lv_at hl 3 rfl) ?_
  refine qf_get hx hb hts inX8 hown hK hP (q0 := 114) (by decide) (hgU_114 ca o) rfl 0 (by decide) wq_265 (v := .ref (o + 115)) rfl dX8_offerPairs_22 ?_
  refine lv_iload hx hb dX8_offerPairs_25 (lv_at hl 2 rfl) ?_
  refine qa_iald hx hb hK hP (q0 := 115) (by decide) 0 (N := 6) (hgU_115 ca o) rfl (gi_in (by decide) (by decide)) dX8_offerPairs_27 ?_
  refine lv_topi (fun x85 e85 => ?_)
  refine lv_aload_n hx hb dX8_offerPairs_28 rfl (lv_at hl 3 rfl) ?_
  refine qf_get hx hb hts inX8 hown hK hP (q0 := 114) (by decide) (hgU_114 ca o) rfl 0 (by decide) wq_265 (v := .ref (o + 115)) rfl dX8_offerPairs_29 ?_
  refine lv_iload hx hb dX8_offerPairs_32 (lv_at hl 0 rfl) ?_
  refine qa_iald hx hb hK hP (q0 := 115) (by decide) 0 (N := 6) (hgU_115 ca o) rfl (gi_in (by decide) (by decide)) dX8_offerPairs_34 ?_
  refine lv_topi (fun x86 e86 => ?_)
  refine qc_Si (As := [.int a1, .int x85, .int x86]) (rest := []) (k0 := 3) (u1_numberBetween l D ca o z y a1 x85 x86) kc_yX8_numberBetween ⟨hx, hb, hml, hown, hts⟩ wq_878 rfl rfl ⟨Nat.le_of_ble_eq_true rfl, Nat.le_of_ble_eq_true rfl⟩ wq_all hP hK hS qw_Ai rfl hl.1 rfl (Nat.le_of_ble_eq_true rfl) dX8_offerPairs_35 ⟨Nat.zero_le _, Nat.zero_le _⟩ (fun r87 u87 H locs h87 hP hS _ _ => ?_)
  refine lv_istore (lv' := [(6, .int r87), (5, .int 3), (4, .int 3), (0, .ref (o + 114)), (1, .ref (o + 110)), (2, .ref (o + 1)), (3, .int a1)]) hx hb dX8_offerPairs_38 hl (by decide) rfl (fun ls hl => ?_)
  refine lv_aload_n hx hb dX8_offerPairs_40 rfl (lv_at hl 5 rfl) ?_
  refine lv_iload hx hb dX8_offerPairs_41 (lv_at hl 2 rfl) ?_
  refine qc_Vi (As := [.int 3]) (rest := []) (k0 := 1) (u1_hasPerson l D ca o z y 3 (h1_5)) kc_yX9_hasPerson ⟨hx, hb, hml, hown, hts⟩ wq_866 rfl rfl ⟨Nat.le_of_ble_eq_true rfl, Nat.le_of_ble_eq_true rfl⟩ wq_all hP hK hS qw_Ai (q0 := 1) (by decide) (hgU_1 ca o _ _) rfl rfl hl.1 rfl (Nat.le_of_ble_eq_true rfl) dX8_offerPairs_43 ⟨Nat.zero_le _, Nat.zero_le _⟩ (fun r88 u88 H locs h88 hP hS _ _ => ?_)
  subst h88
  refine lv_if_eq (tgt := 83) hx hb dX8_offerPairs_46 (by decide) (fun _ => ?_) (fun q => absurd (by decide) q)
  refine lv_iinc (v := 4) (lv' := [(5, .int 4), (6, .int r87), (4, .int 3), (0, .ref (o + 114)), (1, .ref (o + 110)), (2, .ref (o + 1)), (3, .int a1)]) hx hb dX8_offerPairs_83 hl (k := 1) rfl (by decide) (by decide) rfl (fun ls hl => ?_)
  refine lv_goto (tgt := 13) hx hb dX8_offerPairs_86 (by decide) ?_
  refine lv_iload hx hb dX8_offerPairs_13 (lv_at hl 0 rfl) ?_
  refine lv_bipush (v := 6) hx hb dX8_offerPairs_15 (by decide) ?_
  refine lv_icmp_ge (tgt := 89) hx hb dX8_offerPairs_17 (by decide) (fun q => absurd q (by decide)) (fun _ => ?_)
  refine lv_iload_n hx hb dX8_offerPairs_20 rfl (lv_at hl 6 rfl) ?_
  refine lv_aload_n hx hb dX8_offerPairs_21 rfl (lv_at hl 3 rfl) ?_
  refine qf_get hx hb hts inX8 hown hK hP (q0 := 114) (by decide) (hgU_114 ca o) rfl 0 (by decide) wq_265 (v := .ref (o + 115)) rfl dX8_offerPairs_22 ?_
  refine lv_iload hx hb dX8_offerPairs_25 (lv_at hl 2 rfl) ?_
  refine qa_iald hx hb hK hP (q0 := 115) (by decide) 0 (N := 6) (hgU_115 ca o) rfl (gi_in (by decide) (by decide)) dX8_offerPairs_27 ?_
  refine lv_topi (fun x89 e89 => ?_)
  refine lv_aload_n hx hb dX8_offerPairs_28 rfl (lv_at hl 3 rfl) ?_
  refine qf_get hx hb hts inX8 hown hK hP (q0 := 114) (by decide) (hgU_114 ca o) rfl 0 (by decide) wq_265 (v := .ref (o + 115)) rfl dX8_offerPairs_29 ?_
  refine lv_iload hx hb dX8_offerPairs_32 (lv_at hl 0 rfl) ?_
  refine qa_iald hx hb hK hP (q0 := 115) (by decide) 0 (N := 6) (hgU_115 ca o) rfl (gi_in (by decide) (by decide)) dX8_offerPairs_34 ?_
  refine lv_topi (fun x90 e90 => ?_)
  refine qc_Si (As := [.int a1, .int x89, .int x90]) (rest := []) (k0 := 3) (u1_numberBetween l D ca o z y a1 x89 x90) kc_yX8_numberBetween ⟨hx, hb, hml, hown, hts⟩ wq_878 rfl rfl ⟨Nat.le_of_ble_eq_true rfl, Nat.le_of_ble_eq_true rfl⟩ wq_all hP hK hS qw_Ai rfl hl.1 rfl (Nat.le_of_ble_eq_true rfl) dX8_offerPairs_35 ⟨Nat.zero_le _, Nat.zero_le _⟩ (fun r91 u91 H locs h91 hP hS _ _ => ?_)
  refine lv_istore (lv' := [(6, .int r91), (5, .int 4), (4, .int 3), (0, .ref (o + 114)), (1, .ref (o + 110)), (2, .ref (o + 1)), (3, .int a1)]) hx hb dX8_offerPairs_38 hl (by decide) rfl (fun ls hl => ?_)
  refine lv_aload_n hx hb dX8_offerPairs_40 rfl (lv_at hl 5 rfl) ?_
  refine lv_iload hx hb dX8_offerPairs_41 (lv_at hl 2 rfl) ?_
  refine qc_Vi (As := [.int 3]) (rest := []) (k0 := 1) (u1_hasPerson l D ca o z y 3 (h1_5)) kc_yX9_hasPerson ⟨hx, hb, hml, hown, hts⟩ wq_866 rfl rfl ⟨Nat.le_of_ble_eq_true rfl, Nat.le_of_ble_eq_true rfl⟩ wq_all hP hK hS qw_Ai (q0 := 1) (by decide) (hgU_1 ca o _ _) rfl rfl hl.1 rfl (Nat.le_of_ble_eq_true rfl) dX8_offerPairs_43 ⟨Nat.zero_le _, Nat.zero_le _⟩ (fun r92 u92 H locs h92 hP hS _ _ => ?_)
  subst h92
  refine lv_if_eq (tgt := 83) hx hb dX8_offerPairs_46 (by decide) (fun _ => ?_) (fun q => absurd (by decide) q)
  refine lv_iinc (v := 5) (lv' := [(5, .int 5), (6, .int r91), (4, .int 3), (0, .ref (o + 114)), (1, .ref (o + 110)), (2, .ref (o + 1)), (3, .int a1)]) hx hb dX8_offerPairs_83 hl (k := 1) rfl (by decide) (by decide) rfl (fun ls hl => ?_)
  refine lv_goto (tgt := 13) hx hb dX8_offerPairs_86 (by decide) ?_
  refine lv_iload hx hb dX8_offerPairs_13 (lv_at hl 0 rfl) ?_
  refine lv_bipush (v := 6) hx hb dX8_offerPairs_15 (by decide) ?_
  refine lv_icmp_ge (tgt := 89) hx hb dX8_offerPairs_17 (by decide) (fun q => absurd q (by decide)) (fun _ => ?_)
  refine lv_iload_n hx hb dX8_offerPairs_20 rfl (lv_at hl 6 rfl) ?_
  refine lv_aload_n hx hb dX8_offerPairs_21 rfl (lv_at hl 3 rfl) ?_
  refine qf_get hx hb hts inX8 hown hK hP (q0 := 114) (by decide) (hgU_114 ca o) rfl 0 (by decide) wq_265 (v := .ref (o + 115)) rfl dX8_offerPairs_22 ?_
  refine lv_iload hx hb dX8_offerPairs_25 (lv_at hl 2 rfl) ?_
  refine qa_iald hx hb hK hP (q0 := 115) (by decide) 0 (N := 6) (hgU_115 ca o) rfl (gi_in (by decide) (by decide)) dX8_offerPairs_27 ?_
  refine lv_topi (fun x93 e93 => ?_)
  refine lv_aload_n hx hb dX8_offerPairs_28 rfl (lv_at hl 3 rfl) ?_
  refine qf_get hx hb hts inX8 hown hK hP (q0 := 114) (by decide) (hgU_114 ca o) rfl 0 (by decide) wq_265 (v := .ref (o + 115)) rfl dX8_offerPairs_29 ?_
  refine lv_iload hx hb dX8_offerPairs_32 (lv_at hl 0 rfl) ?_
  refine qa_iald hx hb hK hP (q0 := 115) (by decide) 0 (N := 6) (hgU_115 ca o) rfl (gi_in (by decide) (by decide)) dX8_offerPairs_34 ?_
  refine lv_topi (fun x94 e94 => ?_)
  refine qc_Si (As := [.int a1, .int x93, .int x94]) (rest := []) (k0 := 3) (u1_numberBetween l D ca o z y a1 x93 x94) kc_yX8_numberBetween ⟨hx, hb, hml, hown, hts⟩ wq_878 rfl rfl ⟨Nat.le_of_ble_eq_true rfl, Nat.le_of_ble_eq_true rfl⟩ wq_all hP hK hS qw_Ai rfl hl.1 rfl (Nat.le_of_ble_eq_true rfl) dX8_offerPairs_35 ⟨Nat.zero_le _, Nat.zero_le _⟩ (fun r95 u95 H locs h95 hP hS _ _ => ?_)
  refine lv_istore (lv' := [(6, .int r95), (5, .int 5), (4, .int 3), (0, .ref (o + 114)), (1, .ref (o + 110)), (2, .ref (o + 1)), (3, .int a1)]) hx hb dX8_offerPairs_38 hl (by decide) rfl (fun ls hl => ?_)
  refine lv_aload_n hx hb dX8_offerPairs_40 rfl (lv_at hl 5 rfl) ?_
  refine lv_iload hx hb dX8_offerPairs_41 (lv_at hl 2 rfl) ?_
  refine qc_Vi (As := [.int 3]) (rest := []) (k0 := 1) (u1_hasPerson l D ca o z y 3 (h1_5)) kc_yX9_hasPerson ⟨hx, hb, hml, hown, hts⟩ wq_866 rfl rfl ⟨Nat.le_of_ble_eq_true rfl, Nat.le_of_ble_eq_true rfl⟩ wq_all hP hK hS qw_Ai (q0 := 1) (by decide) (hgU_1 ca o _ _) rfl rfl hl.1 rfl (Nat.le_of_ble_eq_true rfl) dX8_offerPairs_43 ⟨Nat.zero_le _, Nat.zero_le _⟩ (fun r96 u96 H locs h96 hP hS _ _ => ?_)
  subst h96
  refine lv_if_eq (tgt := 83) hx hb dX8_offerPairs_46 (by decide) (fun _ => ?_) (fun q => absurd (by decide) q)
  refine lv_iinc (v := 6) (lv' := [(5, .int 6), (6, .int r95), (4, .int 3), (0, .ref (o + 114)), (1, .ref (o + 110)), (2, .ref (o + 1)), (3, .int a1)]) hx hb dX8_offerPairs_83 hl (k := 1) rfl (by decide) (by decide) rfl (fun ls hl => ?_)
  refine lv_goto (tgt := 13) hx hb dX8_offerPairs_86 (by decide) ?_
  refine lv_iload hx hb dX8_offerPairs_13 (lv_at hl 0 rfl) ?_
  refine lv_bipush (v := 6) hx hb dX8_offerPairs_15 (by decide) ?_
  refine lv_icmp_ge (tgt := 89) hx hb dX8_offerPairs_17 (by decide) (fun _ => ?_) (fun q => absurd (by decide) q)
  refine lv_iinc (v := 4) (lv' := [(4, .int 4), (5, .int 6), (6, .int r95), (0, .ref (o + 114)), (1, .ref (o + 110)), (2, .ref (o + 1)), (3, .int a1)]) hx hb dX8_offerPairs_89 hl (k := 2) rfl (by decide) (by decide) rfl (fun ls hl => ?_)
  refine lv_goto (tgt := 3) hx hb dX8_offerPairs_92 (by decide) ?_
  refine lv_iload hx hb dX8_offerPairs_3 (lv_at hl 0 rfl) ?_
  refine lv_bipush (v := 6) hx hb dX8_offerPairs_5 (by decide) ?_
  refine lv_icmp_ge (tgt := 95) hx hb dX8_offerPairs_7 (by decide) (fun q => absurd q (by decide)) (fun _ => ?_)
  refine lv_iconst (v := 0) hx hb dX8_offerPairs_10 (by decide) ?_
  refine lv_istore (lv' := [(5, .int 0), (4, .int 4), (6, .int r95), (0, .ref (o + 114)), (1, .ref (o + 110)), (2, .ref (o + 1)), (3, .int a1)]) hx hb dX8_offerPairs_11 hl (by decide) rfl (fun ls hl => ?_)
  refine lv_iload hx hb dX8_offerPairs_13 (lv_at hl 0 rfl) ?_
  refine lv_bipush (v := 6) hx hb dX8_offerPairs_15 (by decide) ?_
  refine lv_icmp_ge (tgt := 89) hx hb dX8_offerPairs_17 (by decide) (fun q => absurd q (by decide)) (fun _ => ?_)
  refine lv_iload_n hx hb dX8_offerPairs_20 rfl (lv_at hl 6 rfl) ?_
  refine lv_aload_n hx hb dX8_offerPairs_21 rfl (lv_at hl 3 rfl) ?_
  refine qf_get hx hb hts inX8 hown hK hP (q0 := 114) (by decide) (hgU_114 ca o) rfl 0 (by decide) wq_265 (v := .ref (o + 115)) rfl dX8_offerPairs_22 ?_
  refine lv_iload hx hb dX8_offerPairs_25 (lv_at hl 1 rfl) ?_
  refine qa_iald hx hb hK hP (q0 := 115) (by decide) 0 (N := 6) (hgU_115 ca o) rfl (gi_in (by decide) (by decide)) dX8_offerPairs_27 ?_
  refine lv_topi (fun x97 e97 => ?_)
  refine lv_aload_n hx hb dX8_offerPairs_28 rfl (lv_at hl 3 rfl) ?_
  refine qf_get hx hb hts inX8 hown hK hP (q0 := 114) (by decide) (hgU_114 ca o) rfl 0 (by decide) wq_265 (v := .ref (o + 115)) rfl dX8_offerPairs_29 ?_
  refine lv_iload hx hb dX8_offerPairs_32 (lv_at hl 0 rfl) ?_
  refine qa_iald hx hb hK hP (q0 := 115) (by decide) 0 (N := 6) (hgU_115 ca o) rfl (gi_in (by decide) (by decide)) dX8_offerPairs_34 ?_
  refine lv_topi (fun x98 e98 => ?_)
  refine qc_Si (As := [.int a1, .int x97, .int x98]) (rest := []) (k0 := 3) (u1_numberBetween l D ca o z y a1 x97 x98) kc_yX8_numberBetween ⟨hx, hb, hml, hown, hts⟩ wq_878 rfl rfl ⟨Nat.le_of_ble_eq_true rfl, Nat.le_of_ble_eq_true rfl⟩ wq_all hP hK hS qw_Ai rfl hl.1 rfl (Nat.le_of_ble_eq_true rfl) dX8_offerPairs_35 ⟨Nat.zero_le _, Nat.zero_le _⟩ (fun r99 u99 H locs h99 hP hS _ _ => ?_)
  refine lv_istore (lv' := [(6, .int r99), (5, .int 0), (4, .int 4), (0, .ref (o + 114)), (1, .ref (o + 110)), (2, .ref (o + 1)), (3, .int a1)]) hx hb dX8_offerPairs_38 hl (by decide) rfl (fun ls hl => ?_)
  refine lv_aload_n hx hb dX8_offerPairs_40 rfl (lv_at hl 5 rfl) ?_
  refine lv_iload hx hb dX8_offerPairs_41 (lv_at hl 2 rfl) ?_
  refine qc_Vi (As := [.int 4]) (rest := []) (k0 := 1) (u1_hasPerson l D ca o z y 4 (h1_5)) kc_yX9_hasPerson ⟨hx, hb, hml, hown, hts⟩ wq_866 rfl rfl ⟨Nat.le_of_ble_eq_true rfl, Nat.le_of_ble_eq_true rfl⟩ wq_all hP hK hS qw_Ai (q0 := 1) (by decide) (hgU_1 ca o _ _) rfl rfl hl.1 rfl (Nat.le_of_ble_eq_true rfl) dX8_offerPairs_43 ⟨Nat.zero_le _, Nat.zero_le _⟩ (fun r100 u100 H locs h100 hP hS _ _ => ?_)
  subst h100
  refine lv_if_eq (tgt := 83) hx hb dX8_offerPairs_46 (by decide) (fun _ => ?_) (fun q => absurd (by decide) q)
  refine lv_iinc (v := 1) (lv' := [(5, .int 1), (6, .int r99), (4, .int 4), (0, .ref (o + 114)), (1, .ref (o + 110)), (2, .ref (o + 1)), (3, .int a1)]) hx hb dX8_offerPairs_83 hl (k := 1) rfl (by decide) (by decide) rfl (fun ls hl => ?_)
  refine lv_goto (tgt := 13) hx hb dX8_offerPairs_86 (by decide) ?_
  refine lv_iload hx hb dX8_offerPairs_13 (lv_at hl 0 rfl) ?_
  refine lv_bipush (v := 6) hx hb dX8_offerPairs_15 (by decide) ?_
  refine lv_icmp_ge (tgt := 89) hx hb dX8_offerPairs_17 (by decide) (fun q => absurd q (by decide)) (fun _ => ?_)
  refine lv_iload_n hx hb dX8_offerPairs_20 rfl (lv_at hl 6 rfl) ?_
  refine lv_aload_n hx hb dX8_offerPairs_21 rfl (lv_at hl 3 rfl) ?_
  refine qf_get hx hb hts inX8 hown hK hP (q0 := 114) (by decide) (hgU_114 ca o) rfl 0 (by decide) wq_265 (v := .ref (o + 115)) rfl dX8_offerPairs_22 ?_
  refine lv_iload hx hb dX8_offerPairs_25 (lv_at hl 2 rfl) ?_
  refine qa_iald hx hb hK hP (q0 := 115) (by decide) 0 (N := 6) (hgU_115 ca o) rfl (gi_in (by decide) (by decide)) dX8_offerPairs_27 ?_
  refine lv_topi (fun x101 e101 => ?_)
  refine lv_aload_n hx hb dX8_offerPairs_28 rfl (lv_at hl 3 rfl) ?_
  refine qf_get hx hb hts inX8 hown hK hP (q0 := 114) (by decide) (hgU_114 ca o) rfl 0 (by decide) wq_265 (v := .ref (o + 115)) rfl dX8_offerPairs_29 ?_
  refine lv_iload hx hb dX8_offerPairs_32 (lv_at hl 0 rfl) ?_
  refine qa_iald hx hb hK hP (q0 := 115) (by decide) 0 (N := 6) (hgU_115 ca o) rfl (gi_in (by decide) (by decide)) dX8_offerPairs_34 ?_
  refine lv_topi (fun x102 e102 => ?_)
  refine qc_Si (As := [.int a1, .int x101, .int x102]) (rest := []) (k0 := 3) (u1_numberBetween l D ca o z y a1 x101 x102) kc_yX8_numberBetween ⟨hx, hb, hml, hown, hts⟩ wq_878 rfl rfl ⟨Nat.le_of_ble_eq_true rfl, Nat.le_of_ble_eq_true rfl⟩ wq_all hP hK hS qw_Ai rfl hl.1 rfl (Nat.le_of_ble_eq_true rfl) dX8_offerPairs_35 ⟨Nat.zero_le _, Nat.zero_le _⟩ (fun r103 u103 H locs h103 hP hS _ _ => ?_)
  refine lv_istore (lv' := [(6, .int r103), (5, .int 1), (4, .int 4), (0, .ref (o + 114)), (1, .ref (o + 110)), (2, .ref (o + 1)), (3, .int a1)]) hx hb dX8_offerPairs_38 hl (by decide) rfl (fun ls hl => ?_)
  refine lv_aload_n hx hb dX8_offerPairs_40 rfl (lv_at hl 5 rfl) ?_
  refine lv_iload hx hb dX8_offerPairs_41 (lv_at hl 2 rfl) ?_
  refine qc_Vi (As := [.int 4]) (rest := []) (k0 := 1) (u1_hasPerson l D ca o z y 4 (h1_5)) kc_yX9_hasPerson ⟨hx, hb, hml, hown, hts⟩ wq_866 rfl rfl ⟨Nat.le_of_ble_eq_true rfl, Nat.le_of_ble_eq_true rfl⟩ wq_all hP hK hS qw_Ai (q0 := 1) (by decide) (hgU_1 ca o _ _) rfl rfl hl.1 rfl (Nat.le_of_ble_eq_true rfl) dX8_offerPairs_43 ⟨Nat.zero_le _, Nat.zero_le _⟩ (fun r104 u104 H locs h104 hP hS _ _ => ?_)
  subst h104
  refine lv_if_eq (tgt := 83) hx hb dX8_offerPairs_46 (by decide) (fun _ => ?_) (fun q => absurd (by decide) q)
  refine lv_iinc (v := 2) (lv' := [(5, .int 2), (6, .int r103), (4, .int 4), (0, .ref (o + 114)), (1, .ref (o + 110)), (2, .ref (o + 1)), (3, .int a1)]) hx hb dX8_offerPairs_83 hl (k := 1) rfl (by decide) (by decide) rfl (fun ls hl => ?_)
  refine lv_goto (tgt := 13) hx hb dX8_offerPairs_86 (by decide) ?_
  refine lv_iload hx hb dX8_offerPairs_13 (lv_at hl 0 rfl) ?_
  refine lv_bipush (v := 6) hx hb dX8_offerPairs_15 (by decide) ?_
  refine lv_icmp_ge (tgt := 89) hx hb dX8_offerPairs_17 (by decide) (fun q => absurd q (by decide)) (fun _ => ?_)
  refine lv_iload_n hx hb dX8_offerPairs_20 rfl (lv_at hl 6 rfl) ?_
  refine lv_aload_n hx hb dX8_offerPairs_21 rfl (lv_at hl 3 rfl) ?_
  refine qf_get hx hb hts inX8 hown hK hP (q0 := 114) (by decide) (hgU_114 ca o) rfl 0 (by decide) wq_265 (v := .ref (o + 115)) rfl dX8_offerPairs_22 ?_
  refine lv_iload hx hb dX8_offerPairs_25 (lv_at hl 2 rfl) ?_
  refine qa_iald hx hb hK hP (q0 := 115) (by decide) 0 (N := 6) (hgU_115 ca o) rfl (gi_in (by decide) (by decide)) dX8_offerPairs_27 ?_
  refine lv_topi (fun x105 e105 => ?_)
  refine lv_aload_n hx hb dX8_offerPairs_28 rfl (lv_at hl 3 rfl) ?_
  refine qf_get hx hb hts inX8 hown hK hP (q0 := 114) (by decide) (hgU_114 ca o) rfl 0 (by decide) wq_265 (v := .ref (o + 115)) rfl dX8_offerPairs_29 ?_
  refine lv_iload hx hb dX8_offerPairs_32 (lv_at hl 0 rfl) ?_
  refine qa_iald hx hb hK hP (q0 := 115) (by decide) 0 (N := 6) (hgU_115 ca o) rfl (gi_in (by decide) (by decide)) dX8_offerPairs_34 ?_
  refine lv_topi (fun x106 e106 => ?_)
  refine qc_Si (As := [.int a1, .int x105, .int x106]) (rest := []) (k0 := 3) (u1_numberBetween l D ca o z y a1 x105 x106) kc_yX8_numberBetween ⟨hx, hb, hml, hown, hts⟩ wq_878 rfl rfl ⟨Nat.le_of_ble_eq_true rfl, Nat.le_of_ble_eq_true rfl⟩ wq_all hP hK hS qw_Ai rfl hl.1 rfl (Nat.le_of_ble_eq_true rfl) dX8_offerPairs_35 ⟨Nat.zero_le _, Nat.zero_le _⟩ (fun r107 u107 H locs h107 hP hS _ _ => ?_)
  refine lv_istore (lv' := [(6, .int r107), (5, .int 2), (4, .int 4), (0, .ref (o + 114)), (1, .ref (o + 110)), (2, .ref (o + 1)), (3, .int a1)]) hx hb dX8_offerPairs_38 hl (by decide) rfl (fun ls hl => ?_)
  refine lv_aload_n hx hb dX8_offerPairs_40 rfl (lv_at hl 5 rfl) ?_
  refine lv_iload hx hb dX8_offerPairs_41 (lv_at hl 2 rfl) ?_
  refine qc_Vi (As := [.int 4]) (rest := []) (k0 := 1) (u1_hasPerson l D ca o z y 4 (h1_5)) kc_yX9_hasPerson ⟨hx, hb, hml, hown, hts⟩ wq_866 rfl rfl ⟨Nat.le_of_ble_eq_true rfl, Nat.le_of_ble_eq_true rfl⟩ wq_all hP hK hS qw_Ai (q0 := 1) (by decide) (hgU_1 ca o _ _) rfl rfl hl.1 rfl (Nat.le_of_ble_eq_true rfl) dX8_offerPairs_43 ⟨Nat.zero_le _, Nat.zero_le _⟩ (fun r108 u108 H locs h108 hP hS _ _ => ?_)
  subst h108
  refine lv_if_eq (tgt := 83) hx hb dX8_offerPairs_46 (by decide) (fun _ => ?_) (fun q => absurd (by decide) q)
  refine lv_iinc (v := 3) (lv' := [(5, .int 3), (6, .int r107), (4, .int 4), (0, .ref (o + 114)), (1, .ref (o + 110)), (2, .ref (o + 1)), (3, .int a1)]) hx hb dX8_offerPairs_83 hl (k := 1) rfl (by decide) (by decide) rfl (fun ls hl => ?_)
  refine lv_goto (tgt := 13) hx hb dX8_offerPairs_86 (by decide) ?_
  refine lv_iload hx hb dX8_offerPairs_13 (lv_at hl 0 rfl) ?_
  refine lv_bipush (v := 6) hx hb dX8_offerPairs_15 (by decide) ?_
  refine lv_icmp_ge (tgt := 89) hx hb dX8_offerPairs_17 (by decide) (fun q => absurd q (by decide)) (fun _ => ?_)
  refine lv_iload_n hx hb dX8_offerPairs_20 rfl (lv_at hl 6 rfl) ?_
  refine lv_aload_n hx hb dX8_offerPairs_21 rfl (lv_at hl 3 rfl) ?_
  refine qf_get hx hb hts inX8 hown hK hP (q0 := 114) (by decide) (hgU_114 ca o) rfl 0 (by decide) wq_265 (v := .ref (o + 115)) rfl dX8_offerPairs_22 ?_
  refine lv_iload hx hb dX8_offerPairs_25 (lv_at hl 2 rfl) ?_
  refine qa_iald hx hb hK hP (q0 := 115) (by decide) 0 (N := 6) (hgU_115 ca o) rfl (gi_in (by decide) (by decide)) dX8_offerPairs_27 ?_
  refine lv_topi (fun x109 e109 => ?_)
  refine lv_aload_n hx hb dX8_offerPairs_28 rfl (lv_at hl 3 rfl) ?_
  refine qf_get hx hb hts inX8 hown hK hP (q0 := 114) (by decide) (hgU_114 ca o) rfl 0 (by decide) wq_265 (v := .ref (o + 115)) rfl dX8_offerPairs_29 ?_
  refine lv_iload hx hb dX8_offerPairs_32 (lv_at hl 0 rfl) ?_
  refine qa_iald hx hb hK hP (q0 := 115) (by decide) 0 (N := 6) (hgU_115 ca o) rfl (gi_in (by decide) (by decide)) dX8_offerPairs_34 ?_
  refine lv_topi (fun x110 e110 => ?_)
  refine qc_Si (As := [.int a1, .int x109, .int x110]) (rest := []) (k0 := 3) (u1_numberBetween l D ca o z y a1 x109 x110) kc_yX8_numberBetween ⟨hx, hb, hml, hown, hts⟩ wq_878 rfl rfl ⟨Nat.le_of_ble_eq_true rfl, Nat.le_of_ble_eq_true rfl⟩ wq_all hP hK hS qw_Ai rfl hl.1 rfl (Nat.le_of_ble_eq_true rfl) dX8_offerPairs_35 ⟨Nat.zero_le _, Nat.zero_le _⟩ (fun r111 u111 H locs h111 hP hS _ _ => ?_)
  refine lv_istore (lv' := [(6, .int r111), (5, .int 3), (4, .int 4), (0, .ref (o + 114)), (1, .ref (o + 110)), (2, .ref (o + 1)), (3, .int a1)]) hx hb dX8_offerPairs_38 hl (by decide) rfl (fun ls hl => ?_)
  refine lv_aload_n hx hb dX8_offerPairs_40 rfl (lv_at hl 5 rfl) ?_
  refine lv_iload hx hb dX8_offerPairs_41 (lv_at hl 2 rfl) ?_
  refine qc_Vi (As := [.int 4]) (rest := []) (k0 := 1) (u1_hasPerson l D ca o z y 4 (h1_5)) kc_yX9_hasPerson ⟨hx, hb, hml, hown, hts⟩ wq_866 rfl rfl ⟨Nat.le_of_ble_eq_true rfl, Nat.le_of_ble_eq_true rfl⟩ wq_all hP hK hS qw_Ai (q0 := 1) (by decide) (hgU_1 ca o _ _) rfl rfl hl.1 rfl (Nat.le_of_ble_eq_true rfl) dX8_offerPairs_43 ⟨Nat.zero_le _, Nat.zero_le _⟩ (fun r112 u112 H locs h112 hP hS _ _ => ?_)
  subst h112
  refine lv_if_eq (tgt := 83) hx hb dX8_offerPairs_46 (by decide) (fun _ => ?_) (fun q => absurd (by decide) q)
  refine lv_iinc (v := 4) (lv' := [(5, .int 4), (6, .int r111), (4, .int 4), (0, .ref (o + 114)), (1, .ref (o + 110)), (2, .ref (o + 1)), (3, .int a1)]) hx hb dX8_offerPairs_83 hl (k := 1) rfl (by decide) (by decide) rfl (fun ls hl => ?_)
  refine lv_goto (tgt := 13) hx hb dX8_offerPairs_86 (by decide) ?_
  refine lv_iload hx hb dX8_offerPairs_13 (lv_at hl 0 rfl) ?_
  refine lv_bipush (v := 6) hx hb dX8_offerPairs_15 (by decide) ?_
  refine lv_icmp_ge (tgt := 89) hx hb dX8_offerPairs_17 (by decide) (fun q => absurd q (by decide)) (fun _ => ?_)
  refine lv_iload_n hx hb dX8_offerPairs_20 rfl (lv_at hl 6 rfl) ?_
  refine lv_aload_n hx hb dX8_offerPairs_21 rfl (lv_at hl 3 rfl) ?_
  refine qf_get hx hb hts inX8 hown hK hP (q0 := 114) (by decide) (hgU_114 ca o) rfl 0 (by decide) wq_265 (v := .ref (o + 115)) rfl dX8_offerPairs_22 ?_
  refine lv_iload hx hb dX8_offerPairs_25 (lv_at hl 2 rfl) ?_
  refine qa_iald hx hb hK hP (q0 := 115) (by decide) 0 (N := 6) (hgU_115 ca o) rfl (gi_in (by decide) (by decide)) dX8_offerPairs_27 ?_
  refine lv_topi (fun x113 e113 => ?_)
  refine lv_aload_n hx hb dX8_offerPairs_28 rfl (lv_at hl 3 rfl) ?_
  refine qf_get hx hb hts inX8 hown hK hP (q0 := 114) (by decide) (hgU_114 ca o) rfl 0 (by decide) wq_265 (v := .ref (o + 115)) rfl dX8_offerPairs_29 ?_
  refine lv_iload hx hb dX8_offerPairs_32 (lv_at hl 0 rfl) ?_
  refine qa_iald hx hb hK hP (q0 := 115) (by decide) 0 (N := 6) (hgU_115 ca o) rfl (gi_in (by decide) (by decide)) dX8_offerPairs_34 ?_
  refine lv_topi (fun x114 e114 => ?_)
  refine qc_Si (As := [.int a1, .int x113, .int x114]) (rest := []) (k0 := 3) (u1_numberBetween l D ca o z y a1 x113 x114) kc_yX8_numberBetween ⟨hx, hb, hml, hown, hts⟩ wq_878 rfl rfl ⟨Nat.le_of_ble_eq_true rfl, Nat.le_of_ble_eq_true rfl⟩ wq_all hP hK hS qw_Ai rfl hl.1 rfl (Nat.le_of_ble_eq_true rfl) dX8_offerPairs_35 ⟨Nat.zero_le _, Nat.zero_le _⟩ (fun r115 u115 H locs h115 hP hS _ _ => ?_)
  refine lv_istore (lv' := [(6, .int r115), (5, .int 4), (4, .int 4), (0, .ref (o + 114)), (1, .ref (o + 110)), (2, .ref (o + 1)), (3, .int a1)]) hx hb dX8_offerPairs_38 hl (by decide) rfl (fun ls hl => ?_)
  refine lv_aload_n hx hb dX8_offerPairs_40 rfl (lv_at hl 5 rfl) ?_
  refine lv_iload hx hb dX8_offerPairs_41 (lv_at hl 2 rfl) ?_
  refine qc_Vi (As := [.int 4]) (rest := []) (k0 := 1) (u1_hasPerson l D ca o z y 4 (h1_5)) kc_yX9_hasPerson ⟨hx, hb, hml, hown, hts⟩ wq_866 rfl rfl ⟨Nat.le_of_ble_eq_true rfl, Nat.le_of_ble_eq_true rfl⟩ wq_all hP hK hS qw_Ai (q0 := 1) (by decide) (hgU_1 ca o _ _) rfl rfl hl.1 rfl (Nat.le_of_ble_eq_true rfl) dX8_offerPairs_43 ⟨Nat.zero_le _, Nat.zero_le _⟩ (fun r116 u116 H locs h116 hP hS _ _ => ?_)
  subst h116
  refine lv_if_eq (tgt := 83) hx hb dX8_offerPairs_46 (by decide) (fun _ => ?_) (fun q => absurd (by decide) q)
  refine lv_iinc (v := 5) (lv' := [(5, .int 5), (6, .int r115), (4, .int 4), (0, .ref (o + 114)), (1, .ref (o + 110)), (2, .ref (o + 1)), (3, .int a1)]) hx hb dX8_offerPairs_83 hl (k := 1) rfl (by decide) (by decide) rfl (fun ls hl => ?_)
  refine lv_goto (tgt := 13) hx hb dX8_offerPairs_86 (by decide) ?_
  refine lv_iload hx hb dX8_offerPairs_13 (lv_at hl 0 rfl) ?_
  refine lv_bipush (v := 6) hx hb dX8_offerPairs_15 (by decide) ?_
  refine lv_icmp_ge (tgt := 89) hx hb dX8_offerPairs_17 (by decide) (fun q => absurd q (by decide)) (fun _ => ?_)
  refine lv_iload_n hx hb dX8_offerPairs_20 rfl (lv_at hl 6 rfl) ?_
  refine lv_aload_n hx hb dX8_offerPairs_21 rfl (lv_at hl 3 rfl) ?_
  refine qf_get hx hb hts inX8 hown hK hP (q0 := 114) (by decide) (hgU_114 ca o) rfl 0 (by decide) wq_265 (v := .ref (o + 115)) rfl dX8_offerPairs_22 ?_
  refine lv_iload hx hb dX8_offerPairs_25 (lv_at hl 2 rfl) ?_
  refine qa_iald hx hb hK hP (q0 := 115) (by decide) 0 (N := 6) (hgU_115 ca o) rfl (gi_in (by decide) (by decide)) dX8_offerPairs_27 ?_
  refine lv_topi (fun x117 e117 => ?_)
  refine lv_aload_n hx hb dX8_offerPairs_28 rfl (lv_at hl 3 rfl) ?_
  refine qf_get hx hb hts inX8 hown hK hP (q0 := 114) (by decide) (hgU_114 ca o) rfl 0 (by decide) wq_265 (v := .ref (o + 115)) rfl dX8_offerPairs_29 ?_
  refine lv_iload hx hb dX8_offerPairs_32 (lv_at hl 0 rfl) ?_
  refine qa_iald hx hb hK hP (q0 := 115) (by decide) 0 (N := 6) (hgU_115 ca o) rfl (gi_in (by decide) (by decide)) dX8_offerPairs_34 ?_
  refine lv_topi (fun x118 e118 => ?_)
  refine qc_Si (As := [.int a1, .int x117, .int x118]) (rest := []) (k0 := 3) (u1_numberBetween l D ca o z y a1 x117 x118) kc_yX8_numberBetween ⟨hx, hb, hml, hown, hts⟩ wq_878 rfl rfl ⟨Nat.le_of_ble_eq_true rfl, Nat.le_of_ble_eq_true rfl⟩ wq_all hP hK hS qw_Ai rfl hl.1 rfl (Nat.le_of_ble_eq_true rfl) dX8_offerPairs_35 ⟨Nat.zero_le _, Nat.zero_le _⟩ (fun r119 u119 H locs h119 hP hS _ _ => ?_)
  refine lv_istore (lv' := [(6, .int r119), (5, .int 5), (4, .int 4), (0, .ref (o + 114)), (1, .ref (o + 110)), (2, .ref (o + 1)), (3, .int a1)]) hx hb dX8_offerPairs_38 hl (by decide) rfl (fun ls hl => ?_)
  refine lv_aload_n hx hb dX8_offerPairs_40 rfl (lv_at hl 5 rfl) ?_
  refine lv_iload hx hb dX8_offerPairs_41 (lv_at hl 2 rfl) ?_
  refine qc_Vi (As := [.int 4]) (rest := []) (k0 := 1) (u1_hasPerson l D ca o z y 4 (h1_5)) kc_yX9_hasPerson ⟨hx, hb, hml, hown, hts⟩ wq_866 rfl rfl ⟨Nat.le_of_ble_eq_true rfl, Nat.le_of_ble_eq_true rfl⟩ wq_all hP hK hS qw_Ai (q0 := 1) (by decide) (hgU_1 ca o _ _) rfl rfl hl.1 rfl (Nat.le_of_ble_eq_true rfl) dX8_offerPairs_43 ⟨Nat.zero_le _, Nat.zero_le _⟩ (fun r120 u120 H locs h120 hP hS _ _ => ?_)
  subst h120
  refine lv_if_eq (tgt := 83) hx hb dX8_offerPairs_46 (by decide) (fun _ => ?_) (fun q => absurd (by decide) q)
  refine lv_iinc (v := 6) (lv' := [(5, .int 6), (6, .int r119), (4, .int 4), (0, .ref (o + 114)), (1, .ref (o + 110)), (2, .ref (o + 1)), (3, .int a1)]) hx hb dX8_offerPairs_83 hl (k := 1) rfl (by decide) (by decide) rfl (fun ls hl => ?_)
  refine lv_goto (tgt := 13) hx hb dX8_offerPairs_86 (by decide) ?_
  refine lv_iload hx hb dX8_offerPairs_13 (lv_at hl 0 rfl) ?_
  refine lv_bipush (v := 6) hx hb dX8_offerPairs_15 (by decide) ?_
  refine lv_icmp_ge (tgt := 89) hx hb dX8_offerPairs_17 (by decide) (fun _ => ?_) (fun q => absurd (by decide) q)
  refine lv_iinc (v := 5) (lv' := [(4, .int 5), (5, .int 6), (6, .int r119), (0, .ref (o + 114)), (1, .ref (o + 110)), (2, .ref (o + 1)), (3, .int a1)]) hx hb dX8_offerPairs_89 hl (k := 2) rfl (by decide) (by decide) rfl (fun ls hl => ?_)
  refine lv_goto (tgt := 3) hx hb dX8_offerPairs_92 (by decide) ?_
  refine lv_iload hx hb dX8_offerPairs_3 (lv_at hl 0 rfl) ?_
  refine lv_bipush (v := 6) hx hb dX8_offerPairs_5 (by decide) ?_
  refine lv_icmp_ge (tgt := 95) hx hb dX8_offerPairs_7 (by decide) (fun q => absurd q (by decide)) (fun _ => ?_)
  refine lv_iconst (v := 0) hx hb dX8_offerPairs_10 (by decide) ?_
  refine lv_istore (lv' := [(5, .int 0), (4, .int 5), (6, .int r119), (0, .ref (o + 114)), (1, .ref (o + 110)), (2, .ref (o + 1)), (3, .int a1)]) hx hb dX8_offerPairs_11 hl (by decide) rfl (fun ls hl => ?_)
  refine lv_iload hx hb dX8_offerPairs_13 (lv_at hl 0 rfl) ?_
  refine lv_bipush (v := 6) hx hb dX8_offerPairs_15 (by decide) ?_
  refine lv_icmp_ge (tgt := 89) hx hb dX8_offerPairs_17 (by decide) (fun q => absurd q (by decide)) (fun _ => ?_)
  refine lv_iload_n hx hb dX8_offerPairs_20 rfl (lv_at hl 6 rfl) ?_
  refine lv_aload_n hx hb dX8_offerPairs_21 rfl (lv_at hl 3 rfl) ?_
  refine qf_get hx hb hts inX8 hown hK hP (q0 := 114) (by decide) (hgU_114 ca o) rfl 0 (by decide) wq_265 (v := .ref (o + 115)) rfl dX8_offerPairs_22 ?_
  refine lv_iload hx hb dX8_offerPairs_25 (lv_at hl 1 rfl) ?_
  refine qa_iald hx hb hK hP (q0 := 115) (by decide) 0 (N := 6) (hgU_115 ca o) rfl (gi_in (by decide) (by decide)) dX8_offerPairs_27 ?_
  refine lv_topi (fun x121 e121 => ?_)
  refine lv_aload_n hx hb dX8_offerPairs_28 rfl (lv_at hl 3 rfl) ?_
  refine qf_get hx hb hts inX8 hown hK hP (q0 := 114) (by decide) (hgU_114 ca o) rfl 0 (by decide) wq_265 (v := .ref (o + 115)) rfl dX8_offerPairs_29 ?_
  refine lv_iload hx hb dX8_offerPairs_32 (lv_at hl 0 rfl) ?_
  refine qa_iald hx hb hK hP (q0 := 115) (by decide) 0 (N := 6) (hgU_115 ca o) rfl (gi_in (by decide) (by decide)) dX8_offerPairs_34 ?_
  refine lv_topi (fun x122 e122 => ?_)
  refine qc_Si (As := [.int a1, .int x121, .int x122]) (rest := []) (k0 := 3) (u1_numberBetween l D ca o z y a1 x121 x122) kc_yX8_numberBetween ⟨hx, hb, hml, hown, hts⟩ wq_878 rfl rfl ⟨Nat.le_of_ble_eq_true rfl, Nat.le_of_ble_eq_true rfl⟩ wq_all hP hK hS qw_Ai rfl hl.1 rfl (Nat.le_of_ble_eq_true rfl) dX8_offerPairs_35 ⟨Nat.zero_le _, Nat.zero_le _⟩ (fun r123 u123 H locs h123 hP hS _ _ => ?_)
  refine lv_istore (lv' := [(6, .int r123), (5, .int 0), (4, .int 5), (0, .ref (o + 114)), (1, .ref (o + 110)), (2, .ref (o + 1)), (3, .int a1)]) hx hb dX8_offerPairs_38 hl (by decide) rfl (fun ls hl => ?_)
  refine lv_aload_n hx hb dX8_offerPairs_40 rfl (lv_at hl 5 rfl) ?_
  refine lv_iload hx hb dX8_offerPairs_41 (lv_at hl 2 rfl) ?_
  refine qc_Vi (As := [.int 5]) (rest := []) (k0 := 1) (u1_hasPerson l D ca o z y 5 (h1_5)) kc_yX9_hasPerson ⟨hx, hb, hml, hown, hts⟩ wq_866 rfl rfl ⟨Nat.le_of_ble_eq_true rfl, Nat.le_of_ble_eq_true rfl⟩ wq_all hP hK hS qw_Ai (q0 := 1) (by decide) (hgU_1 ca o _ _) rfl rfl hl.1 rfl (Nat.le_of_ble_eq_true rfl) dX8_offerPairs_43 ⟨Nat.zero_le _, Nat.zero_le _⟩ (fun r124 u124 H locs h124 hP hS _ _ => ?_)
  subst h124
  refine lv_if_eq (tgt := 83) hx hb dX8_offerPairs_46 (by decide) (fun _ => ?_) (fun q => absurd (by decide) q)
  refine lv_iinc (v := 1) (lv' := [(5, .int 1), (6, .int r123), (4, .int 5), (0, .ref (o + 114)), (1, .ref (o + 110)), (2, .ref (o + 1)), (3, .int a1)]) hx hb dX8_offerPairs_83 hl (k := 1) rfl (by decide) (by decide) rfl (fun ls hl => ?_)
  refine lv_goto (tgt := 13) hx hb dX8_offerPairs_86 (by decide) ?_
  refine lv_iload hx hb dX8_offerPairs_13 (lv_at hl 0 rfl) ?_
  refine lv_bipush (v := 6) hx hb dX8_offerPairs_15 (by decide) ?_
  refine lv_icmp_ge (tgt := 89) hx hb dX8_offerPairs_17 (by decide) (fun q => absurd q (by decide)) (fun _ => ?_)
  refine lv_iload_n hx hb dX8_offerPairs_20 rfl (lv_at hl 6 rfl) ?_
  refine lv_aload_n hx hb dX8_offerPairs_21 rfl (lv_at hl 3 rfl) ?_
  refine qf_get hx hb hts inX8 hown hK hP (q0 := 114) (by decide) (hgU_114 ca o) rfl 0 (by decide) wq_265 (v := .ref (o + 115)) rfl dX8_offerPairs_22 ?_
  refine lv_iload hx hb dX8_offerPairs_25 (lv_at hl 2 rfl) ?_
  refine qa_iald hx hb hK hP (q0 := 115) (by decide) 0 (N := 6) (hgU_115 ca o) rfl (gi_in (by decide) (by decide)) dX8_offerPairs_27 ?_
  refine lv_topi (fun x125 e125 => ?_)
  refine lv_aload_n hx hb dX8_offerPairs_28 rfl (lv_at hl 3 rfl) ?_
  refine qf_get hx hb hts inX8 hown hK hP (q0 := 114) (by decide) (hgU_114 ca o) rfl 0 (by decide) wq_265 (v := .ref (o + 115)) rfl dX8_offerPairs_29 ?_
  refine lv_iload hx hb dX8_offerPairs_32 (lv_at hl 0 rfl) ?_
  refine qa_iald hx hb hK hP (q0 := 115) (by decide) 0 (N := 6) (hgU_115 ca o) rfl (gi_in (by decide) (by decide)) dX8_offerPairs_34 ?_
  refine lv_topi (fun x126 e126 => ?_)
  refine qc_Si (As := [.int a1, .int x125, .int x126]) (rest := []) (k0 := 3) (u1_numberBetween l D ca o z y a1 x125 x126) kc_yX8_numberBetween ⟨hx, hb, hml, hown, hts⟩ wq_878 rfl rfl ⟨Nat.le_of_ble_eq_true rfl, Nat.le_of_ble_eq_true rfl⟩ wq_all hP hK hS qw_Ai rfl hl.1 rfl (Nat.le_of_ble_eq_true rfl) dX8_offerPairs_35 ⟨Nat.zero_le _, Nat.zero_le _⟩ (fun r127 u127 H locs h127 hP hS _ _ => ?_)
  refine lv_istore (lv' := [(6, .int r127), (5, .int 1), (4, .int 5), (0, .ref (o + 114)), (1, .ref (o + 110)), (2, .ref (o + 1)), (3, .int a1)]) hx hb dX8_offerPairs_38 hl (by decide) rfl (fun ls hl => ?_)
  refine lv_aload_n hx hb dX8_offerPairs_40 rfl (lv_at hl 5 rfl) ?_
  refine lv_iload hx hb dX8_offerPairs_41 (lv_at hl 2 rfl) ?_
  refine qc_Vi (As := [.int 5]) (rest := []) (k0 := 1) (u1_hasPerson l D ca o z y 5 (h1_5)) kc_yX9_hasPerson ⟨hx, hb, hml, hown, hts⟩ wq_866 rfl rfl ⟨Nat.le_of_ble_eq_true rfl, Nat.le_of_ble_eq_true rfl⟩ wq_all hP hK hS qw_Ai (q0 := 1) (by decide) (hgU_1 ca o _ _) rfl rfl hl.1 rfl (Nat.le_of_ble_eq_true rfl) dX8_offerPairs_43 ⟨Nat.zero_le _, Nat.zero_le _⟩ (fun r128 u128 H locs h128 hP hS _ _ => ?_)
  subst h128
  refine lv_if_eq (tgt := 83) hx hb dX8_offerPairs_46 (by decide) (fun _ => ?_) (fun q => absurd (by decide) q)
  refine lv_iinc (v := 2) (lv' := [(5, .int 2), (6, .int r127), (4, .int 5), (0, .ref (o + 114)), (1, .ref (o + 110)), (2, .ref (o + 1)), (3, .int a1)]) hx hb dX8_offerPairs_83 hl (k := 1) rfl (by decide) (by decide) rfl (fun ls hl => ?_)
  refine lv_goto (tgt := 13) hx hb dX8_offerPairs_86 (by decide) ?_
  refine lv_iload hx hb dX8_offerPairs_13 (lv_at hl 0 rfl) ?_
  refine lv_bipush (v := 6) hx hb dX8_offerPairs_15 (by decide) ?_
  refine lv_icmp_ge (tgt := 89) hx hb dX8_offerPairs_17 (by decide) (fun q => absurd q (by decide)) (fun _ => ?_)
  refine lv_iload_n hx hb dX8_offerPairs_20 rfl (lv_at hl 6 rfl) ?_
  refine lv_aload_n hx hb dX8_offerPairs_21 rfl (lv_at hl 3 rfl) ?_
  refine qf_get hx hb hts inX8 hown hK hP (q0 := 114) (by decide) (hgU_114 ca o) rfl 0 (by decide) wq_265 (v := .ref (o + 115)) rfl dX8_offerPairs_22 ?_
  refine lv_iload hx hb dX8_offerPairs_25 (lv_at hl 2 rfl) ?_
  refine qa_iald hx hb hK hP (q0 := 115) (by decide) 0 (N := 6) (hgU_115 ca o) rfl (gi_in (by decide) (by decide)) dX8_offerPairs_27 ?_
  refine lv_topi (fun x129 e129 => ?_)
  refine lv_aload_n hx hb dX8_offerPairs_28 rfl (lv_at hl 3 rfl) ?_
  refine qf_get hx hb hts inX8 hown hK hP (q0 := 114) (by decide) (hgU_114 ca o) rfl 0 (by decide) wq_265 (v := .ref (o + 115)) rfl dX8_offerPairs_29 ?_
  refine lv_iload hx hb dX8_offerPairs_32 (lv_at hl 0 rfl) ?_
  refine qa_iald hx hb hK hP (q0 := 115) (by decide) 0 (N := 6) (hgU_115 ca o) rfl (gi_in (by decide) (by decide)) dX8_offerPairs_34 ?_
  refine lv_topi (fun x130 e130 => ?_)
  refine qc_Si (As := [.int a1, .int x129, .int x130]) (rest := []) (k0 := 3) (u1_numberBetween l D ca o z y a1 x129 x130) kc_yX8_numberBetween ⟨hx, hb, hml, hown, hts⟩ wq_878 rfl rfl ⟨Nat.le_of_ble_eq_true rfl, Nat.le_of_ble_eq_true rfl⟩ wq_all hP hK hS qw_Ai rfl hl.1 rfl (Nat.le_of_ble_eq_true rfl) dX8_offerPairs_35 ⟨Nat.zero_le _, Nat.zero_le _⟩ (fun r131 u131 H locs h131 hP hS _ _ => ?_)
  refine lv_istore (lv' := [(6, .int r131), (5, .int 2), (4, .int 5), (0, .ref (o + 114)), (1, .ref (o + 110)), (2, .ref (o + 1)), (3, .int a1)]) hx hb dX8_offerPairs_38 hl (by decide) rfl (fun ls hl => ?_)
  refine lv_aload_n hx hb dX8_offerPairs_40 rfl (lv_at hl 5 rfl) ?_
  refine lv_iload hx hb dX8_offerPairs_41 (lv_at hl 2 rfl) ?_
  refine qc_Vi (As := [.int 5]) (rest := []) (k0 := 1) (u1_hasPerson l D ca o z y 5 (h1_5)) kc_yX9_hasPerson ⟨hx, hb, hml, hown, hts⟩ wq_866 rfl rfl ⟨Nat.le_of_ble_eq_true rfl, Nat.le_of_ble_eq_true rfl⟩ wq_all hP hK hS qw_Ai (q0 := 1) (by decide) (hgU_1 ca o _ _) rfl rfl hl.1 rfl (Nat.le_of_ble_eq_true rfl) dX8_offerPairs_43 ⟨Nat.zero_le _, Nat.zero_le _⟩ (fun r132 u132 H locs h132 hP hS _ _ => ?_)
  subst h132
  refine lv_if_eq (tgt := 83) hx hb dX8_offerPairs_46 (by decide) (fun _ => ?_) (fun q => absurd (by decide) q)
  refine lv_iinc (v := 3) (lv' := [(5, .int 3), (6, .int r131), (4, .int 5), (0, .ref (o + 114)), (1, .ref (o + 110)), (2, .ref (o + 1)), (3, .int a1)]) hx hb dX8_offerPairs_83 hl (k := 1) rfl (by decide) (by decide) rfl (fun ls hl => ?_)
  refine lv_goto (tgt := 13) hx hb dX8_offerPairs_86 (by decide) ?_
  refine lv_iload hx hb dX8_offerPairs_13 (lv_at hl 0 rfl) ?_
  refine lv_bipush (v := 6) hx hb dX8_offerPairs_15 (by decide) ?_
  refine lv_icmp_ge (tgt := 89) hx hb dX8_offerPairs_17 (by decide) (fun q => absurd q (by decide)) (fun _ => ?_)
  refine lv_iload_n hx hb dX8_offerPairs_20 rfl (lv_at hl 6 rfl) ?_
  refine lv_aload_n hx hb dX8_offerPairs_21 rfl (lv_at hl 3 rfl) ?_
  refine qf_get hx hb hts inX8 hown hK hP (q0 := 114) (by decide) (hgU_114 ca o) rfl 0 (by decide) wq_265 (v := .ref (o + 115)) rfl dX8_offerPairs_22 ?_
  refine lv_iload hx hb dX8_offerPairs_25 (lv_at hl 2 rfl) ?_
  refine qa_iald hx hb hK hP (q0 := 115) (by decide) 0 (N := 6) (hgU_115 ca o) rfl (gi_in (by decide) (by decide)) dX8_offerPairs_27 ?_
  refine lv_topi (fun x133 e133 => ?_)
  refine lv_aload_n hx hb dX8_offerPairs_28 rfl (lv_at hl 3 rfl) ?_
  refine qf_get hx hb hts inX8 hown hK hP (q0 := 114) (by decide) (hgU_114 ca o) rfl 0 (by decide) wq_265 (v := .ref (o + 115)) rfl dX8_offerPairs_29 ?_
  refine lv_iload hx hb dX8_offerPairs_32 (lv_at hl 0 rfl) ?_
  refine qa_iald hx hb hK hP (q0 := 115) (by decide) 0 (N := 6) (hgU_115 ca o) rfl (gi_in (by decide) (by decide)) dX8_offerPairs_34 ?_
  refine lv_topi (fun x134 e134 => ?_)
  refine qc_Si (As := [.int a1, .int x133, .int x134]) (rest := []) (k0 := 3) (u1_numberBetween l D ca o z y a1 x133 x134) kc_yX8_numberBetween ⟨hx, hb, hml, hown, hts⟩ wq_878 rfl rfl ⟨Nat.le_of_ble_eq_true rfl, Nat.le_of_ble_eq_true rfl⟩ wq_all hP hK hS qw_Ai rfl hl.1 rfl (Nat.le_of_ble_eq_true rfl) dX8_offerPairs_35 ⟨Nat.zero_le _, Nat.zero_le _⟩ (fun r135 u135 H locs h135 hP hS _ _ => ?_)
  refine lv_istore (lv' := [(6, .int r135), (5, .int 3), (4, .int 5), (0, .ref (o + 114)), (1, .ref (o + 110)), (2, .ref (o + 1)), (3, .int a1)]) hx hb dX8_offerPairs_38 hl (by decide) rfl (fun ls hl => ?_)
  refine lv_aload_n hx hb dX8_offerPairs_40 rfl (lv_at hl 5 rfl) ?_
  refine lv_iload hx hb dX8_offerPairs_41 (lv_at hl 2 rfl) ?_
  refine qc_Vi (As := [.int 5]) (rest := []) (k0 := 1) (u1_hasPerson l D ca o z y 5 (h1_5)) kc_yX9_hasPerson ⟨hx, hb, hml, hown, hts⟩ wq_866 rfl rfl ⟨Nat.le_of_ble_eq_true rfl, Nat.le_of_ble_eq_true rfl⟩ wq_all hP hK hS qw_Ai (q0 := 1) (by decide) (hgU_1 ca o _ _) rfl rfl hl.1 rfl (Nat.le_of_ble_eq_true rfl) dX8_offerPairs_43 ⟨Nat.zero_le _, Nat.zero_le _⟩ (fun r136 u136 H locs h136 hP hS _ _ => ?_)
  subst h136
  refine lv_if_eq (tgt := 83) hx hb dX8_offerPairs_46 (by decide) (fun _ => ?_) (fun q => absurd (by decide) q)
  refine lv_iinc (v := 4) (lv' := [(5, .int 4), (6, .int r135), (4, .int 5), (0, .ref (o + 114)), (1, .ref (o + 110)), (2, .ref (o + 1)), (3, .int a1)]) hx hb dX8_offerPairs_83 hl (k := 1) rfl (by decide) (by decide) rfl (fun ls hl => ?_)
  refine lv_goto (tgt := 13) hx hb dX8_offerPairs_86 (by decide) ?_
  refine lv_iload hx hb dX8_offerPairs_13 (lv_at hl 0 rfl) ?_
  refine lv_bipush (v := 6) hx hb dX8_offerPairs_15 (by decide) ?_
  refine lv_icmp_ge (tgt := 89) hx hb dX8_offerPairs_17 (by decide) (fun q => absurd q (by decide)) (fun _ => ?_)
  refine lv_iload_n hx hb dX8_offerPairs_20 rfl (lv_at hl 6 rfl) ?_
  refine lv_aload_n hx hb dX8_offerPairs_21 rfl (lv_at hl 3 rfl) ?_
  refine qf_get hx hb hts inX8 hown hK hP (q0 := 114) (by decide) (hgU_114 ca o) rfl 0 (by decide) wq_265 (v := .ref (o + 115)) rfl dX8_offerPairs_22 ?_
  refine lv_iload hx hb dX8_offerPairs_25 (lv_at hl 2 rfl) ?_
  refine qa_iald hx hb hK hP (q0 := 115) (by decide) 0 (N := 6) (hgU_115 ca o) rfl (gi_in (by decide) (by decide)) dX8_offerPairs_27 ?_
  refine lv_topi (fun x137 e137 => ?_)
  refine lv_aload_n hx hb dX8_offerPairs_28 rfl (lv_at hl 3 rfl) ?_
  refine qf_get hx hb hts inX8 hown hK hP (q0 := 114) (by decide) (hgU_114 ca o) rfl 0 (by decide) wq_265 (v := .ref (o + 115)) rfl dX8_offerPairs_29 ?_
  refine lv_iload hx hb dX8_offerPairs_32 (lv_at hl 0 rfl) ?_
  refine qa_iald hx hb hK hP (q0 := 115) (by decide) 0 (N := 6) (hgU_115 ca o) rfl (gi_in (by decide) (by decide)) dX8_offerPairs_34 ?_
  refine lv_topi (fun x138 e138 => ?_)
  refine qc_Si (As := [.int a1, .int x137, .int x138]) (rest := []) (k0 := 3) (u1_numberBetween l D ca o z y a1 x137 x138) kc_yX8_numberBetween ⟨hx, hb, hml, hown, hts⟩ wq_878 rfl rfl ⟨Nat.le_of_ble_eq_true rfl, Nat.le_of_ble_eq_true rfl⟩ wq_all hP hK hS qw_Ai rfl hl.1 rfl (Nat.le_of_ble_eq_true rfl) dX8_offerPairs_35 ⟨Nat.zero_le _, Nat.zero_le _⟩ (fun r139 u139 H locs h139 hP hS _ _ => ?_)
  refine lv_istore (lv' := [(6, .int r139), (5, .int 4), (4, .int 5), (0, .ref (o + 114)), (1, .ref (o + 110)), (2, .ref (o + 1)), (3, .int a1)]) hx hb dX8_offerPairs_38 hl (by decide) rfl (fun ls hl => ?_)
  refine lv_aload_n hx hb dX8_offerPairs_40 rfl (lv_at hl 5 rfl) ?_
  refine lv_iload hx hb dX8_offerPairs_41 (lv_at hl 2 rfl) ?_
  refine qc_Vi (As := [.int 5]) (rest := []) (k0 := 1) (u1_hasPerson l D ca o z y 5 (h1_5)) kc_yX9_hasPerson ⟨hx, hb, hml, hown, hts⟩ wq_866 rfl rfl ⟨Nat.le_of_ble_eq_true rfl, Nat.le_of_ble_eq_true rfl⟩ wq_all hP hK hS qw_Ai (q0 := 1) (by decide) (hgU_1 ca o _ _) rfl rfl hl.1 rfl (Nat.le_of_ble_eq_true rfl) dX8_offerPairs_43 ⟨Nat.zero_le _, Nat.zero_le _⟩ (fun r140 u140 H locs h140 hP hS _ _ => ?_)
  subst h140
  refine lv_if_eq (tgt := 83) hx hb dX8_offerPairs_46 (by decide) (fun _ => ?_) (fun q => absurd (by decide) q)
  refine lv_iinc (v := 5) (lv' := [(5, .int 5), (6, .int r139), (4, .int 5), (0, .ref (o + 114)), (1, .ref (o + 110)), (2, .ref (o + 1)), (3, .int a1)]) hx hb dX8_offerPairs_83 hl (k := 1) rfl (by decide) (by decide) rfl (fun ls hl => ?_)
  refine lv_goto (tgt := 13) hx hb dX8_offerPairs_86 (by decide) ?_
  refine lv_iload hx hb dX8_offerPairs_13 (lv_at hl 0 rfl) ?_
  refine lv_bipush (v := 6) hx hb dX8_offerPairs_15 (by decide) ?_
  refine lv_icmp_ge (tgt := 89) hx hb dX8_offerPairs_17 (by decide) (fun q => absurd q (by decide)) (fun _ => ?_)
  refine lv_iload_n hx hb dX8_offerPairs_20 rfl (lv_at hl 6 rfl) ?_
  refine lv_aload_n hx hb dX8_offerPairs_21 rfl (lv_at hl 3 rfl) ?_
  refine qf_get hx hb hts inX8 hown hK hP (q0 := 114) (by decide) (hgU_114 ca o) rfl 0 (by decide) wq_265 (v := .ref (o + 115)) rfl dX8_offerPairs_22 ?_
  refine lv_iload hx hb dX8_offerPairs_25 (lv_at hl 2 rfl) ?_
  refine qa_iald hx hb hK hP (q0 := 115) (by decide) 0 (N := 6) (hgU_115 ca o) rfl (gi_in (by decide) (by decide)) dX8_offerPairs_27 ?_
  refine lv_topi (fun x141 e141 => ?_)
  refine lv_aload_n hx hb dX8_offerPairs_28 rfl (lv_at hl 3 rfl) ?_
  refine qf_get hx hb hts inX8 hown hK hP (q0 := 114) (by decide) (hgU_114 ca o) rfl 0 (by decide) wq_265 (v := .ref (o + 115)) rfl dX8_offerPairs_29 ?_
  refine lv_iload hx hb dX8_offerPairs_32 (lv_at hl 0 rfl) ?_
  refine qa_iald hx hb hK hP (q0 := 115) (by decide) 0 (N := 6) (hgU_115 ca o) rfl (gi_in (by decide) (by decide)) dX8_offerPairs_34 ?_
  refine lv_topi (fun x142 e142 => ?_)
  refine qc_Si (As := [.int a1, .int x141, .int x142]) (rest := []) (k0 := 3) (u1_numberBetween l D ca o z y a1 x141 x142) kc_yX8_numberBetween ⟨hx, hb, hml, hown, hts⟩ wq_878 rfl rfl ⟨Nat.le_of_ble_eq_true rfl, Nat.le_of_ble_eq_true rfl⟩ wq_all hP hK hS qw_Ai rfl hl.1 rfl (Nat.le_of_ble_eq_true rfl) dX8_offerPairs_35 ⟨Nat.zero_le _, Nat.zero_le _⟩ (fun r143 u143 H locs h143 hP hS _ _ => ?_)
  refine lv_istore (lv' := [(6, .int r143), (5, .int 5), (4, .int 5), (0, .ref (o + 114)), (1, .ref (o + 110)), (2, .ref (o + 1)), (3, .int a1)]) hx hb dX8_offerPairs_38 hl (by decide) rfl (fun ls hl => ?_)
  refine lv_aload_n hx hb dX8_offerPairs_40 rfl (lv_at hl 5 rfl) ?_
  refine lv_iload hx hb dX8_offerPairs_41 (lv_at hl 2 rfl) ?_
  refine qc_Vi (As := [.int 5]) (rest := []) (k0 := 1) (u1_hasPerson l D ca o z y 5 (h1_5)) kc_yX9_hasPerson ⟨hx, hb, hml, hown, hts⟩ wq_866 rfl rfl ⟨Nat.le_of_ble_eq_true rfl, Nat.le_of_ble_eq_true rfl⟩ wq_all hP hK hS qw_Ai (q0 := 1) (by decide) (hgU_1 ca o _ _) rfl rfl hl.1 rfl (Nat.le_of_ble_eq_true rfl) dX8_offerPairs_43 ⟨Nat.zero_le _, Nat.zero_le _⟩ (fun r144 u144 H locs h144 hP hS _ _ => ?_)
  subst h144
  refine lv_if_eq (tgt := 83) hx hb dX8_offerPairs_46 (by decide) (fun _ => ?_) (fun q => absurd (by decide) q)
  refine lv_iinc (v := 6) (lv' := [(5, .int 6), (6, .int r143), (4, .int 5), (0, .ref (o + 114)), (1, .ref (o + 110)), (2, .ref (o + 1)), (3, .int a1)]) hx hb dX8_offerPairs_83 hl (k := 1) rfl (by decide) (by decide) rfl (fun ls hl => ?_)
  refine lv_goto (tgt := 13) hx hb dX8_offerPairs_86 (by decide) ?_
  refine lv_iload hx hb dX8_offerPairs_13 (lv_at hl 0 rfl) ?_
  refine lv_bipush (v := 6) hx hb dX8_offerPairs_15 (by decide) ?_
  refine lv_icmp_ge (tgt := 89) hx hb dX8_offerPairs_17 (by decide) (fun _ => ?_) (fun q => absurd (by decide) q)
  refine lv_iinc (v := 6) (lv' := [(4, .int 6), (5, .int 6), (6, .int r143), (0, .ref (o + 114)), (1, .ref (o + 110)), (2, .ref (o + 1)), (3, .int a1)]) hx hb dX8_offerPairs_89 hl (k := 2) rfl (by decide) (by decide) rfl (fun ls hl => ?_)
  refine lv_goto (tgt := 3) hx hb dX8_offerPairs_92 (by decide) ?_
  refine lv_iload hx hb dX8_offerPairs_3 (lv_at hl 0 rfl) ?_
  refine lv_bipush (v := 6) hx hb dX8_offerPairs_5 (by decide) ?_
  refine lv_icmp_ge (tgt := 95) hx hb dX8_offerPairs_7 (by decide) (fun _ => ?_) (fun q => absurd (by decide) q)
  exact W.vret hx hb hr (fun t ht hW => ⟨⟨(), rfl, trivial, by rw [ht]; exact hP, va_K.moved hW.alike hK⟩, hS.F ht⟩) hS.2.2 dX8_offerPairs_95

set_option maxRecDepth 100000 in
set_option maxHeartbeats 4000000 in
theorem u1_find (l : Launch) (D : va_G) (ca : Nat → ClassId) (o : Nat) (z : Nat → Nat → Int32) (y : Nat → Nat → Int64)  (h1_5 : z 1 5 = 0) : qM l yX8_find cX8_find 4 (some .boolean) 3 109 (qPre D vwCl (qT6 ca) o 132 (qG (GU ca o) z y) [.ref (o + 114), .ref (o + 110), .ref (o + 1)]) (va_Qi (fun r u => r = 0 ∧ (∀ k : Nat, (k ≠ 114) → (k ≠ 115) → u.1 k = z k) ∧ u.2 = y) (qB D vwCl (qT6 ca) o 132 (fun u : qZ => qG (GU ca o) u.1 u.2)) (qw_A o 132)) (qw_A o 132) := by
  refine Met.ofW (cc := cX8_find) (maxL := 4) (ret := (some .boolean)) (by decide) rfl ?_
  intro p e s m args below meth c s₁ B hml hv
  obtain ⟨rfl, hP, hK⟩ := hv
  have hx := B.exec
  have hb := B.bytes
  have hr := B.returns
  have hts0 := atoms_spec (ws := Cond.code yX8_find cX8_find 4 (some .boolean) :: qtbl) B.pre
  have hts : ∀ w ∈ qtbl, w.before _ s = true := fun w h => hts0 w (List.mem_cons_of_mem _ h)
  have hown : s.vm.findClass RX8 = some m.cls := findClass_of_methodNamed B.named
  have hlocks := B.notSynchronized
  have hz0 : (0 : Int32).toInt = 0 := rfl
  have hS : va_S (qw_A o 132) s.heap s.heap [] := va_S.rf
  have hl := lv_entry ([.ref (o + 114), .ref (o + 110), .ref (o + 1)]) (n := 4) (Nat.le_of_ble_eq_true rfl)
  rw [lg_entry_eq]
  generalize (lg_sl ([.ref (o + 114), .ref (o + 110), .ref (o + 1)]) ++ List.replicate (4 - (lg_sl ([.ref (o + 114), .ref (o + 110), .ref (o + 1)])).length) Slot.unset).toArray = ls at hl ⊢
  have hl : lv_has ls 4 [(0, .ref (o + 114)), (1, .ref (o + 110)), (2, .ref (o + 1))] := hl
  refine lv_aload_n hx hb dX8_find_0 rfl (lv_at hl 0 rfl) ?_
  refine lv_bipush (v := 61) hx hb dX8_find_1 (by decide) ?_
  refine qf_put hx hb hts inX8 tyX8 tyX8_ok nmX8 hown hK hP hS qw_Ai (q0 := 114) (by decide) (hgU_114 ca o) rfl 1 (by decide) wq_266 rfl (x := 61) 1 rfl rfl rfl (Nat.le_of_ble_eq_true rfl) dX8_find_3 (fun H locs hP hS => ?_)
  refine lv_iconst (v := 0) hx hb dX8_find_6 (by decide) ?_
  refine lv_istore_n (lv' := [(3, .int 0), (0, .ref (o + 114)), (1, .ref (o + 110)), (2, .ref (o + 1))]) hx hb dX8_find_7 rfl hl (by decide) rfl (fun ls hl => ?_)
  refine lv_iload_n hx hb dX8_find_8 rfl (lv_at hl 0 rfl) ?_
  refine lv_bipush (v := 6) hx hb dX8_find_9 (by decide) ?_
  refine lv_icmp_ge (tgt := 38) hx hb dX8_find_11 (by decide) (fun q => absurd q (by decide)) (fun _ => ?_)
  refine lv_aload_n hx hb dX8_find_14 rfl (lv_at hl 1 rfl) ?_
  refine qf_get hx hb hts inX8 hown hK hP (q0 := 114) (by decide) (hgU_114 ca o) rfl 0 (by decide) wq_265 (v := .ref (o + 115)) rfl dX8_find_15 ?_
  refine lv_iload_n hx hb dX8_find_18 rfl (lv_at hl 0 rfl) ?_
  refine lv_aload_n hx hb dX8_find_19 rfl (lv_at hl 2 rfl) ?_
  refine lv_iconst (v := 0) hx hb dX8_find_20 (by decide) ?_
  refine lv_iload_n hx hb dX8_find_21 rfl (lv_at hl 0 rfl) ?_
  refine qc_Vi (As := [.int 0, .int 0]) (rest := [.int 0, .ref (o + 115)]) (k0 := 2) (u1_ageOf l D ca o (qu z 114 1 61) y 0 (by decide) (by decide)) kc_yX2_ageOf ⟨hx, hb, hml, hown, hts⟩ wq_864 rfl rfl ⟨Nat.le_of_ble_eq_true rfl, Nat.le_of_ble_eq_true rfl⟩ wq_all hP hK hS qw_Ai (q0 := 110) (by decide) (hgU_110 ca o _ _) rfl rfl hl.1 rfl (Nat.le_of_ble_eq_true rfl) dX8_find_22 ⟨Nat.zero_le _, Nat.zero_le _⟩ (fun r1 u1 H locs h1 hP hS _ _ => ?_)
  refine lv_aload_n hx hb dX8_find_25 rfl (lv_at hl 3 rfl) ?_
  refine lv_iload_n hx hb dX8_find_26 rfl (lv_at hl 0 rfl) ?_
  refine qc_Vi (As := [.int 0]) (rest := [.int r1, .int 0, .ref (o + 115)]) (k0 := 1) (u1_lived l D ca o (qu z 114 1 61) y 0) kc_yX9_lived ⟨hx, hb, hml, hown, hts⟩ wq_865 rfl rfl ⟨Nat.le_of_ble_eq_true rfl, Nat.le_of_ble_eq_true rfl⟩ wq_all hP hK hS qw_Ai (q0 := 1) (by decide) (hgU_1 ca o _ _) rfl rfl hl.1 rfl (Nat.le_of_ble_eq_true rfl) dX8_find_27 ⟨Nat.zero_le _, Nat.zero_le _⟩ (fun r2 u2 H locs h2 hP hS _ _ => ?_)
  refine lv_iadd hx hb dX8_find_30 ?_
  refine lv_topi (fun x3 e3 => ?_)
  refine qa_iast hx hb hK hP hS qw_Ai (q0 := 115) (by decide) 0 (N := 6) (hgU_115 ca o) rfl (gi_in (by decide) (by decide)) dX8_find_31 (fun H locs hP hS => ?_)
  refine lv_iinc (v := 1) (lv' := [(3, .int 1), (0, .ref (o + 114)), (1, .ref (o + 110)), (2, .ref (o + 1))]) hx hb dX8_find_32 hl (k := 0) rfl (by decide) (by decide) rfl (fun ls hl => ?_)
  refine lv_goto (tgt := 8) hx hb dX8_find_35 (by decide) ?_
  refine lv_iload_n hx hb dX8_find_8 rfl (lv_at hl 0 rfl) ?_
  refine lv_bipush (v := 6) hx hb dX8_find_9 (by decide) ?_
  refine lv_icmp_ge (tgt := 38) hx hb dX8_find_11 (by decide) (fun q => absurd q (by decide)) (fun _ => ?_)
  refine lv_aload_n hx hb dX8_find_14 rfl (lv_at hl 1 rfl) ?_
  refine qf_get hx hb hts inX8 hown hK hP (q0 := 114) (by decide) (hgU_114 ca o) rfl 0 (by decide) wq_265 (v := .ref (o + 115)) rfl dX8_find_15 ?_
  refine lv_iload_n hx hb dX8_find_18 rfl (lv_at hl 0 rfl) ?_
  refine lv_aload_n hx hb dX8_find_19 rfl (lv_at hl 2 rfl) ?_
  refine lv_iconst (v := 0) hx hb dX8_find_20 (by decide) ?_
  refine lv_iload_n hx hb dX8_find_21 rfl (lv_at hl 0 rfl) ?_
  refine qc_Vi (As := [.int 0, .int 1]) (rest := [.int 1, .ref (o + 115)]) (k0 := 2) (u1_ageOf l D ca o (qu (qu z 114 1 61) 115 ((0 : Int32).toNatClampNeg) x3) y 1 (by decide) (by decide)) kc_yX2_ageOf ⟨hx, hb, hml, hown, hts⟩ wq_864 rfl rfl ⟨Nat.le_of_ble_eq_true rfl, Nat.le_of_ble_eq_true rfl⟩ wq_all hP hK hS qw_Ai (q0 := 110) (by decide) (hgU_110 ca o _ _) rfl rfl hl.1 rfl (Nat.le_of_ble_eq_true rfl) dX8_find_22 ⟨Nat.zero_le _, Nat.zero_le _⟩ (fun r4 u4 H locs h4 hP hS _ _ => ?_)
  refine lv_aload_n hx hb dX8_find_25 rfl (lv_at hl 3 rfl) ?_
  refine lv_iload_n hx hb dX8_find_26 rfl (lv_at hl 0 rfl) ?_
  refine qc_Vi (As := [.int 1]) (rest := [.int r4, .int 1, .ref (o + 115)]) (k0 := 1) (u1_lived l D ca o (qu (qu z 114 1 61) 115 ((0 : Int32).toNatClampNeg) x3) y 1) kc_yX9_lived ⟨hx, hb, hml, hown, hts⟩ wq_865 rfl rfl ⟨Nat.le_of_ble_eq_true rfl, Nat.le_of_ble_eq_true rfl⟩ wq_all hP hK hS qw_Ai (q0 := 1) (by decide) (hgU_1 ca o _ _) rfl rfl hl.1 rfl (Nat.le_of_ble_eq_true rfl) dX8_find_27 ⟨Nat.zero_le _, Nat.zero_le _⟩ (fun r5 u5 H locs h5 hP hS _ _ => ?_)
  refine lv_iadd hx hb dX8_find_30 ?_
  refine lv_topi (fun x6 e6 => ?_)
  refine qa_iast hx hb hK hP hS qw_Ai (q0 := 115) (by decide) 0 (N := 6) (hgU_115 ca o) rfl (gi_in (by decide) (by decide)) dX8_find_31 (fun H locs hP hS => ?_)
  refine lv_iinc (v := 2) (lv' := [(3, .int 2), (0, .ref (o + 114)), (1, .ref (o + 110)), (2, .ref (o + 1))]) hx hb dX8_find_32 hl (k := 0) rfl (by decide) (by decide) rfl (fun ls hl => ?_)
  refine lv_goto (tgt := 8) hx hb dX8_find_35 (by decide) ?_
  refine lv_iload_n hx hb dX8_find_8 rfl (lv_at hl 0 rfl) ?_
  refine lv_bipush (v := 6) hx hb dX8_find_9 (by decide) ?_
  refine lv_icmp_ge (tgt := 38) hx hb dX8_find_11 (by decide) (fun q => absurd q (by decide)) (fun _ => ?_)
  refine lv_aload_n hx hb dX8_find_14 rfl (lv_at hl 1 rfl) ?_
  refine qf_get hx hb hts inX8 hown hK hP (q0 := 114) (by decide) (hgU_114 ca o) rfl 0 (by decide) wq_265 (v := .ref (o + 115)) rfl dX8_find_15 ?_
  refine lv_iload_n hx hb dX8_find_18 rfl (lv_at hl 0 rfl) ?_
  refine lv_aload_n hx hb dX8_find_19 rfl (lv_at hl 2 rfl) ?_
  refine lv_iconst (v := 0) hx hb dX8_find_20 (by decide) ?_
  refine lv_iload_n hx hb dX8_find_21 rfl (lv_at hl 0 rfl) ?_
  refine qc_Vi (As := [.int 0, .int 2]) (rest := [.int 2, .ref (o + 115)]) (k0 := 2) (u1_ageOf l D ca o (qu (qu (qu z 114 1 61) 115 ((0 : Int32).toNatClampNeg) x3) 115 ((1 : Int32).toNatClampNeg) x6) y 2 (by decide) (by decide)) kc_yX2_ageOf ⟨hx, hb, hml, hown, hts⟩ wq_864 rfl rfl ⟨Nat.le_of_ble_eq_true rfl, Nat.le_of_ble_eq_true rfl⟩ wq_all hP hK hS qw_Ai (q0 := 110) (by decide) (hgU_110 ca o _ _) rfl rfl hl.1 rfl (Nat.le_of_ble_eq_true rfl) dX8_find_22 ⟨Nat.zero_le _, Nat.zero_le _⟩ (fun r7 u7 H locs h7 hP hS _ _ => ?_)
  refine lv_aload_n hx hb dX8_find_25 rfl (lv_at hl 3 rfl) ?_
  refine lv_iload_n hx hb dX8_find_26 rfl (lv_at hl 0 rfl) ?_
  refine qc_Vi (As := [.int 2]) (rest := [.int r7, .int 2, .ref (o + 115)]) (k0 := 1) (u1_lived l D ca o (qu (qu (qu z 114 1 61) 115 ((0 : Int32).toNatClampNeg) x3) 115 ((1 : Int32).toNatClampNeg) x6) y 2) kc_yX9_lived ⟨hx, hb, hml, hown, hts⟩ wq_865 rfl rfl ⟨Nat.le_of_ble_eq_true rfl, Nat.le_of_ble_eq_true rfl⟩ wq_all hP hK hS qw_Ai (q0 := 1) (by decide) (hgU_1 ca o _ _) rfl rfl hl.1 rfl (Nat.le_of_ble_eq_true rfl) dX8_find_27 ⟨Nat.zero_le _, Nat.zero_le _⟩ (fun r8 u8 H locs h8 hP hS _ _ => ?_)
  refine lv_iadd hx hb dX8_find_30 ?_
  refine lv_topi (fun x9 e9 => ?_)
  refine qa_iast hx hb hK hP hS qw_Ai (q0 := 115) (by decide) 0 (N := 6) (hgU_115 ca o) rfl (gi_in (by decide) (by decide)) dX8_find_31 (fun H locs hP hS => ?_)
  refine lv_iinc (v := 3) (lv' := [(3, .int 3), (0, .ref (o + 114)), (1, .ref (o + 110)), (2, .ref (o + 1))]) hx hb dX8_find_32 hl (k := 0) rfl (by decide) (by decide) rfl (fun ls hl => ?_)
  refine lv_goto (tgt := 8) hx hb dX8_find_35 (by decide) ?_
  refine lv_iload_n hx hb dX8_find_8 rfl (lv_at hl 0 rfl) ?_
  refine lv_bipush (v := 6) hx hb dX8_find_9 (by decide) ?_
  refine lv_icmp_ge (tgt := 38) hx hb dX8_find_11 (by decide) (fun q => absurd q (by decide)) (fun _ => ?_)
  refine lv_aload_n hx hb dX8_find_14 rfl (lv_at hl 1 rfl) ?_
  refine qf_get hx hb hts inX8 hown hK hP (q0 := 114) (by decide) (hgU_114 ca o) rfl 0 (by decide) wq_265 (v := .ref (o + 115)) rfl dX8_find_15 ?_
  refine lv_iload_n hx hb dX8_find_18 rfl (lv_at hl 0 rfl) ?_
  refine lv_aload_n hx hb dX8_find_19 rfl (lv_at hl 2 rfl) ?_
  refine lv_iconst (v := 0) hx hb dX8_find_20 (by decide) ?_
  refine lv_iload_n hx hb dX8_find_21 rfl (lv_at hl 0 rfl) ?_
  refine qc_Vi (As := [.int 0, .int 3]) (rest := [.int 3, .ref (o + 115)]) (k0 := 2) (u1_ageOf l D ca o (qu (qu (qu (qu z 114 1 61) 115 ((0 : Int32).toNatClampNeg) x3) 115 ((1 : Int32).toNatClampNeg) x6) 115 ((2 : Int32).toNatClampNeg) x9) y 3 (by decide) (by decide)) kc_yX2_ageOf ⟨hx, hb, hml, hown, hts⟩ wq_864 rfl rfl ⟨Nat.le_of_ble_eq_true rfl, Nat.le_of_ble_eq_true rfl⟩ wq_all hP hK hS qw_Ai (q0 := 110) (by decide) (hgU_110 ca o _ _) rfl rfl hl.1 rfl (Nat.le_of_ble_eq_true rfl) dX8_find_22 ⟨Nat.zero_le _, Nat.zero_le _⟩ (fun r10 u10 H locs h10 hP hS _ _ => ?_)
  refine lv_aload_n hx hb dX8_find_25 rfl (lv_at hl 3 rfl) ?_
  refine lv_iload_n hx hb dX8_find_26 rfl (lv_at hl 0 rfl) ?_
  refine qc_Vi (As := [.int 3]) (rest := [.int r10, .int 3, .ref (o + 115)]) (k0 := 1) (u1_lived l D ca o (qu (qu (qu (qu z 114 1 61) 115 ((0 : Int32).toNatClampNeg) x3) 115 ((1 : Int32).toNatClampNeg) x6) 115 ((2 : Int32).toNatClampNeg) x9) y 3) kc_yX9_lived ⟨hx, hb, hml, hown, hts⟩ wq_865 rfl rfl ⟨Nat.le_of_ble_eq_true rfl, Nat.le_of_ble_eq_true rfl⟩ wq_all hP hK hS qw_Ai (q0 := 1) (by decide) (hgU_1 ca o _ _) rfl rfl hl.1 rfl (Nat.le_of_ble_eq_true rfl) dX8_find_27 ⟨Nat.zero_le _, Nat.zero_le _⟩ (fun r11 u11 H locs h11 hP hS _ _ => ?_)
  refine lv_iadd hx hb dX8_find_30 ?_
  refine lv_topi (fun x12 e12 => ?_)
  refine qa_iast hx hb hK hP hS qw_Ai (q0 := 115) (by decide) 0 (N := 6) (hgU_115 ca o) rfl (gi_in (by decide) (by decide)) dX8_find_31 (fun H locs hP hS => ?_)
  refine lv_iinc (v := 4) (lv' := [(3, .int 4), (0, .ref (o + 114)), (1, .ref (o + 110)), (2, .ref (o + 1))]) hx hb dX8_find_32 hl (k := 0) rfl (by decide) (by decide) rfl (fun ls hl => ?_)
  refine lv_goto (tgt := 8) hx hb dX8_find_35 (by decide) ?_
  refine lv_iload_n hx hb dX8_find_8 rfl (lv_at hl 0 rfl) ?_
  refine lv_bipush (v := 6) hx hb dX8_find_9 (by decide) ?_
  refine lv_icmp_ge (tgt := 38) hx hb dX8_find_11 (by decide) (fun q => absurd q (by decide)) (fun _ => ?_)
  refine lv_aload_n hx hb dX8_find_14 rfl (lv_at hl 1 rfl) ?_
  refine qf_get hx hb hts inX8 hown hK hP (q0 := 114) (by decide) (hgU_114 ca o) rfl 0 (by decide) wq_265 (v := .ref (o + 115)) rfl dX8_find_15 ?_
  refine lv_iload_n hx hb dX8_find_18 rfl (lv_at hl 0 rfl) ?_
  refine lv_aload_n hx hb dX8_find_19 rfl (lv_at hl 2 rfl) ?_
  refine lv_iconst (v := 0) hx hb dX8_find_20 (by decide) ?_
  refine lv_iload_n hx hb dX8_find_21 rfl (lv_at hl 0 rfl) ?_
  refine qc_Vi (As := [.int 0, .int 4]) (rest := [.int 4, .ref (o + 115)]) (k0 := 2) (u1_ageOf l D ca o (qu (qu (qu (qu (qu z 114 1 61) 115 ((0 : Int32).toNatClampNeg) x3) 115 ((1 : Int32).toNatClampNeg) x6) 115 ((2 : Int32).toNatClampNeg) x9) 115 ((3 : Int32).toNatClampNeg) x12) y 4 (by decide) (by decide)) kc_yX2_ageOf ⟨hx, hb, hml, hown, hts⟩ wq_864 rfl rfl ⟨Nat.le_of_ble_eq_true rfl, Nat.le_of_ble_eq_true rfl⟩ wq_all hP hK hS qw_Ai (q0 := 110) (by decide) (hgU_110 ca o _ _) rfl rfl hl.1 rfl (Nat.le_of_ble_eq_true rfl) dX8_find_22 ⟨Nat.zero_le _, Nat.zero_le _⟩ (fun r13 u13 H locs h13 hP hS _ _ => ?_)
  refine lv_aload_n hx hb dX8_find_25 rfl (lv_at hl 3 rfl) ?_
  refine lv_iload_n hx hb dX8_find_26 rfl (lv_at hl 0 rfl) ?_
  refine qc_Vi (As := [.int 4]) (rest := [.int r13, .int 4, .ref (o + 115)]) (k0 := 1) (u1_lived l D ca o (qu (qu (qu (qu (qu z 114 1 61) 115 ((0 : Int32).toNatClampNeg) x3) 115 ((1 : Int32).toNatClampNeg) x6) 115 ((2 : Int32).toNatClampNeg) x9) 115 ((3 : Int32).toNatClampNeg) x12) y 4) kc_yX9_lived ⟨hx, hb, hml, hown, hts⟩ wq_865 rfl rfl ⟨Nat.le_of_ble_eq_true rfl, Nat.le_of_ble_eq_true rfl⟩ wq_all hP hK hS qw_Ai (q0 := 1) (by decide) (hgU_1 ca o _ _) rfl rfl hl.1 rfl (Nat.le_of_ble_eq_true rfl) dX8_find_27 ⟨Nat.zero_le _, Nat.zero_le _⟩ (fun r14 u14 H locs h14 hP hS _ _ => ?_)
  refine lv_iadd hx hb dX8_find_30 ?_
  refine lv_topi (fun x15 e15 => ?_)
  refine qa_iast hx hb hK hP hS qw_Ai (q0 := 115) (by decide) 0 (N := 6) (hgU_115 ca o) rfl (gi_in (by decide) (by decide)) dX8_find_31 (fun H locs hP hS => ?_)
  refine lv_iinc (v := 5) (lv' := [(3, .int 5), (0, .ref (o + 114)), (1, .ref (o + 110)), (2, .ref (o + 1))]) hx hb dX8_find_32 hl (k := 0) rfl (by decide) (by decide) rfl (fun ls hl => ?_)
  refine lv_goto (tgt := 8) hx hb dX8_find_35 (by decide) ?_
  refine lv_iload_n hx hb dX8_find_8 rfl (lv_at hl 0 rfl) ?_
  refine lv_bipush (v := 6) hx hb dX8_find_9 (by decide) ?_
  refine lv_icmp_ge (tgt := 38) hx hb dX8_find_11 (by decide) (fun q => absurd q (by decide)) (fun _ => ?_)
  refine lv_aload_n hx hb dX8_find_14 rfl (lv_at hl 1 rfl) ?_
  refine qf_get hx hb hts inX8 hown hK hP (q0 := 114) (by decide) (hgU_114 ca o) rfl 0 (by decide) wq_265 (v := .ref (o + 115)) rfl dX8_find_15 ?_
  refine lv_iload_n hx hb dX8_find_18 rfl (lv_at hl 0 rfl) ?_
  refine lv_aload_n hx hb dX8_find_19 rfl (lv_at hl 2 rfl) ?_
  refine lv_iconst (v := 0) hx hb dX8_find_20 (by decide) ?_
  refine lv_iload_n hx hb dX8_find_21 rfl (lv_at hl 0 rfl) ?_
  refine qc_Vi (As := [.int 0, .int 5]) (rest := [.int 5, .ref (o + 115)]) (k0 := 2) (u1_ageOf l D ca o (qu (qu (qu (qu (qu (qu z 114 1 61) 115 ((0 : Int32).toNatClampNeg) x3) 115 ((1 : Int32).toNatClampNeg) x6) 115 ((2 : Int32).toNatClampNeg) x9) 115 ((3 : Int32).toNatClampNeg) x12) 115 ((4 : Int32).toNatClampNeg) x15) y 5 (by decide) (by decide)) kc_yX2_ageOf ⟨hx, hb, hml, hown, hts⟩ wq_864 rfl rfl ⟨Nat.le_of_ble_eq_true rfl, Nat.le_of_ble_eq_true rfl⟩ wq_all hP hK hS qw_Ai (q0 := 110) (by decide) (hgU_110 ca o _ _) rfl rfl hl.1 rfl (Nat.le_of_ble_eq_true rfl) dX8_find_22 ⟨Nat.zero_le _, Nat.zero_le _⟩ (fun r16 u16 H locs h16 hP hS _ _ => ?_)
  refine lv_aload_n hx hb dX8_find_25 rfl (lv_at hl 3 rfl) ?_
  refine lv_iload_n hx hb dX8_find_26 rfl (lv_at hl 0 rfl) ?_
  refine qc_Vi (As := [.int 5]) (rest := [.int r16, .int 5, .ref (o + 115)]) (k0 := 1) (u1_lived l D ca o (qu (qu (qu (qu (qu (qu z 114 1 61) 115 ((0 : Int32).toNatClampNeg) x3) 115 ((1 : Int32).toNatClampNeg) x6) 115 ((2 : Int32).toNatClampNeg) x9) 115 ((3 : Int32).toNatClampNeg) x12) 115 ((4 : Int32).toNatClampNeg) x15) y 5) kc_yX9_lived ⟨hx, hb, hml, hown, hts⟩ wq_865 rfl rfl ⟨Nat.le_of_ble_eq_true rfl, Nat.le_of_ble_eq_true rfl⟩ wq_all hP hK hS qw_Ai (q0 := 1) (by decide) (hgU_1 ca o _ _) rfl rfl hl.1 rfl (Nat.le_of_ble_eq_true rfl) dX8_find_27 ⟨Nat.zero_le _, Nat.zero_le _⟩ (fun r17 u17 H locs h17 hP hS _ _ => ?_)
  refine lv_iadd hx hb dX8_find_30 ?_
  refine lv_topi (fun x18 e18 => ?_)
  refine qa_iast hx hb hK hP hS qw_Ai (q0 := 115) (by decide) 0 (N := 6) (hgU_115 ca o) rfl (gi_in (by decide) (by decide)) dX8_find_31 (fun H locs hP hS => ?_)
  refine lv_iinc (v := 6) (lv' := [(3, .int 6), (0, .ref (o + 114)), (1, .ref (o + 110)), (2, .ref (o + 1))]) hx hb dX8_find_32 hl (k := 0) rfl (by decide) (by decide) rfl (fun ls hl => ?_)
  refine lv_goto (tgt := 8) hx hb dX8_find_35 (by decide) ?_
  refine lv_iload_n hx hb dX8_find_8 rfl (lv_at hl 0 rfl) ?_
  refine lv_bipush (v := 6) hx hb dX8_find_9 (by decide) ?_
  refine lv_icmp_ge (tgt := 38) hx hb dX8_find_11 (by decide) (fun _ => ?_) (fun q => absurd (by decide) q)
  refine lv_iconst (v := 0) hx hb dX8_find_38 (by decide) ?_
  refine lv_istore_n (lv' := [(3, .int 0), (0, .ref (o + 114)), (1, .ref (o + 110)), (2, .ref (o + 1))]) hx hb dX8_find_39 rfl hl (by decide) rfl (fun ls hl => ?_)
  refine lv_iload_n hx hb dX8_find_40 rfl (lv_at hl 0 rfl) ?_
  refine lv_bipush (v := 6) hx hb dX8_find_41 (by decide) ?_
  refine lv_icmp_ge (tgt := 75) hx hb dX8_find_43 (by decide) (fun q => absurd q (by decide)) (fun _ => ?_)
  refine lv_aload_n hx hb dX8_find_46 rfl (lv_at hl 3 rfl) ?_
  refine lv_iload_n hx hb dX8_find_47 rfl (lv_at hl 0 rfl) ?_
  refine qc_Vi (As := [.int 0]) (rest := []) (k0 := 1) (u1_hasPerson l D ca o (qu (qu (qu (qu (qu (qu (qu z 114 1 61) 115 ((0 : Int32).toNatClampNeg) x3) 115 ((1 : Int32).toNatClampNeg) x6) 115 ((2 : Int32).toNatClampNeg) x9) 115 ((3 : Int32).toNatClampNeg) x12) 115 ((4 : Int32).toNatClampNeg) x15) 115 ((5 : Int32).toNatClampNeg) x18) y 0 (h1_5)) kc_yX9_hasPerson ⟨hx, hb, hml, hown, hts⟩ wq_866 rfl rfl ⟨Nat.le_of_ble_eq_true rfl, Nat.le_of_ble_eq_true rfl⟩ wq_all hP hK hS qw_Ai (q0 := 1) (by decide) (hgU_1 ca o _ _) rfl rfl hl.1 rfl (Nat.le_of_ble_eq_true rfl) dX8_find_48 ⟨Nat.zero_le _, Nat.zero_le _⟩ (fun r19 u19 H locs h19 hP hS _ _ => ?_)
  subst h19
  refine lv_if_eq (tgt := 69) hx hb dX8_find_51 (by decide) (fun _ => ?_) (fun q => absurd (by decide) q)
  refine lv_iinc (v := 1) (lv' := [(3, .int 1), (0, .ref (o + 114)), (1, .ref (o + 110)), (2, .ref (o + 1))]) hx hb dX8_find_69 hl (k := 0) rfl (by decide) (by decide) rfl (fun ls hl => ?_)
  refine lv_goto (tgt := 40) hx hb dX8_find_72 (by decide) ?_
  refine lv_iload_n hx hb dX8_find_40 rfl (lv_at hl 0 rfl) ?_
  refine lv_bipush (v := 6) hx hb dX8_find_41 (by decide) ?_
  refine lv_icmp_ge (tgt := 75) hx hb dX8_find_43 (by decide) (fun q => absurd q (by decide)) (fun _ => ?_)
  refine lv_aload_n hx hb dX8_find_46 rfl (lv_at hl 3 rfl) ?_
  refine lv_iload_n hx hb dX8_find_47 rfl (lv_at hl 0 rfl) ?_
  refine qc_Vi (As := [.int 1]) (rest := []) (k0 := 1) (u1_hasPerson l D ca o (qu (qu (qu (qu (qu (qu (qu z 114 1 61) 115 ((0 : Int32).toNatClampNeg) x3) 115 ((1 : Int32).toNatClampNeg) x6) 115 ((2 : Int32).toNatClampNeg) x9) 115 ((3 : Int32).toNatClampNeg) x12) 115 ((4 : Int32).toNatClampNeg) x15) 115 ((5 : Int32).toNatClampNeg) x18) y 1 (h1_5)) kc_yX9_hasPerson ⟨hx, hb, hml, hown, hts⟩ wq_866 rfl rfl ⟨Nat.le_of_ble_eq_true rfl, Nat.le_of_ble_eq_true rfl⟩ wq_all hP hK hS qw_Ai (q0 := 1) (by decide) (hgU_1 ca o _ _) rfl rfl hl.1 rfl (Nat.le_of_ble_eq_true rfl) dX8_find_48 ⟨Nat.zero_le _, Nat.zero_le _⟩ (fun r20 u20 H locs h20 hP hS _ _ => ?_)
  subst h20
  refine lv_if_eq (tgt := 69) hx hb dX8_find_51 (by decide) (fun _ => ?_) (fun q => absurd (by decide) q)
  refine lv_iinc (v := 2) (lv' := [(3, .int 2), (0, .ref (o + 114)), (1, .ref (o + 110)), (2, .ref (o + 1))]) hx hb dX8_find_69 hl (k := 0) rfl (by decide) (by decide) rfl (fun ls hl => ?_)
  refine lv_goto (tgt := 40) hx hb dX8_find_72 (by decide) ?_
  refine lv_iload_n hx hb dX8_find_40 rfl (lv_at hl 0 rfl) ?_
  refine lv_bipush (v := 6) hx hb dX8_find_41 (by decide) ?_
  refine lv_icmp_ge (tgt := 75) hx hb dX8_find_43 (by decide) (fun q => absurd q (by decide)) (fun _ => ?_)
  refine lv_aload_n hx hb dX8_find_46 rfl (lv_at hl 3 rfl) ?_
  refine lv_iload_n hx hb dX8_find_47 rfl (lv_at hl 0 rfl) ?_
  refine qc_Vi (As := [.int 2]) (rest := []) (k0 := 1) (u1_hasPerson l D ca o (qu (qu (qu (qu (qu (qu (qu z 114 1 61) 115 ((0 : Int32).toNatClampNeg) x3) 115 ((1 : Int32).toNatClampNeg) x6) 115 ((2 : Int32).toNatClampNeg) x9) 115 ((3 : Int32).toNatClampNeg) x12) 115 ((4 : Int32).toNatClampNeg) x15) 115 ((5 : Int32).toNatClampNeg) x18) y 2 (h1_5)) kc_yX9_hasPerson ⟨hx, hb, hml, hown, hts⟩ wq_866 rfl rfl ⟨Nat.le_of_ble_eq_true rfl, Nat.le_of_ble_eq_true rfl⟩ wq_all hP hK hS qw_Ai (q0 := 1) (by decide) (hgU_1 ca o _ _) rfl rfl hl.1 rfl (Nat.le_of_ble_eq_true rfl) dX8_find_48 ⟨Nat.zero_le _, Nat.zero_le _⟩ (fun r21 u21 H locs h21 hP hS _ _ => ?_)
  subst h21
  refine lv_if_eq (tgt := 69) hx hb dX8_find_51 (by decide) (fun _ => ?_) (fun q => absurd (by decide) q)
  refine lv_iinc (v := 3) (lv' := [(3, .int 3), (0, .ref (o + 114)), (1, .ref (o + 110)), (2, .ref (o + 1))]) hx hb dX8_find_69 hl (k := 0) rfl (by decide) (by decide) rfl (fun ls hl => ?_)
  refine lv_goto (tgt := 40) hx hb dX8_find_72 (by decide) ?_
  refine lv_iload_n hx hb dX8_find_40 rfl (lv_at hl 0 rfl) ?_
  refine lv_bipush (v := 6) hx hb dX8_find_41 (by decide) ?_
  refine lv_icmp_ge (tgt := 75) hx hb dX8_find_43 (by decide) (fun q => absurd q (by decide)) (fun _ => ?_)
  refine lv_aload_n hx hb dX8_find_46 rfl (lv_at hl 3 rfl) ?_
  refine lv_iload_n hx hb dX8_find_47 rfl (lv_at hl 0 rfl) ?_
  refine qc_Vi (As := [.int 3]) (rest := []) (k0 := 1) (u1_hasPerson l D ca o (qu (qu (qu (qu (qu (qu (qu z 114 1 61) 115 ((0 : Int32).toNatClampNeg) x3) 115 ((1 : Int32).toNatClampNeg) x6) 115 ((2 : Int32).toNatClampNeg) x9) 115 ((3 : Int32).toNatClampNeg) x12) 115 ((4 : Int32).toNatClampNeg) x15) 115 ((5 : Int32).toNatClampNeg) x18) y 3 (h1_5)) kc_yX9_hasPerson ⟨hx, hb, hml, hown, hts⟩ wq_866 rfl rfl ⟨Nat.le_of_ble_eq_true rfl, Nat.le_of_ble_eq_true rfl⟩ wq_all hP hK hS qw_Ai (q0 := 1) (by decide) (hgU_1 ca o _ _) rfl rfl hl.1 rfl (Nat.le_of_ble_eq_true rfl) dX8_find_48 ⟨Nat.zero_le _, Nat.zero_le _⟩ (fun r22 u22 H locs h22 hP hS _ _ => ?_)
  subst h22
  refine lv_if_eq (tgt := 69) hx hb dX8_find_51 (by decide) (fun _ => ?_) (fun q => absurd (by decide) q)
  refine lv_iinc (v := 4) (lv' := [(3, .int 4), (0, .ref (o + 114)), (1, .ref (o + 110)), (2, .ref (o + 1))]) hx hb dX8_find_69 hl (k := 0) rfl (by decide) (by decide) rfl (fun ls hl => ?_)
  refine lv_goto (tgt := 40) hx hb dX8_find_72 (by decide) ?_
  refine lv_iload_n hx hb dX8_find_40 rfl (lv_at hl 0 rfl) ?_
  refine lv_bipush (v := 6) hx hb dX8_find_41 (by decide) ?_
  refine lv_icmp_ge (tgt := 75) hx hb dX8_find_43 (by decide) (fun q => absurd q (by decide)) (fun _ => ?_)
  refine lv_aload_n hx hb dX8_find_46 rfl (lv_at hl 3 rfl) ?_
  refine lv_iload_n hx hb dX8_find_47 rfl (lv_at hl 0 rfl) ?_
  refine qc_Vi (As := [.int 4]) (rest := []) (k0 := 1) (u1_hasPerson l D ca o (qu (qu (qu (qu (qu (qu (qu z 114 1 61) 115 ((0 : Int32).toNatClampNeg) x3) 115 ((1 : Int32).toNatClampNeg) x6) 115 ((2 : Int32).toNatClampNeg) x9) 115 ((3 : Int32).toNatClampNeg) x12) 115 ((4 : Int32).toNatClampNeg) x15) 115 ((5 : Int32).toNatClampNeg) x18) y 4 (h1_5)) kc_yX9_hasPerson ⟨hx, hb, hml, hown, hts⟩ wq_866 rfl rfl ⟨Nat.le_of_ble_eq_true rfl, Nat.le_of_ble_eq_true rfl⟩ wq_all hP hK hS qw_Ai (q0 := 1) (by decide) (hgU_1 ca o _ _) rfl rfl hl.1 rfl (Nat.le_of_ble_eq_true rfl) dX8_find_48 ⟨Nat.zero_le _, Nat.zero_le _⟩ (fun r23 u23 H locs h23 hP hS _ _ => ?_)
  subst h23
  refine lv_if_eq (tgt := 69) hx hb dX8_find_51 (by decide) (fun _ => ?_) (fun q => absurd (by decide) q)
  refine lv_iinc (v := 5) (lv' := [(3, .int 5), (0, .ref (o + 114)), (1, .ref (o + 110)), (2, .ref (o + 1))]) hx hb dX8_find_69 hl (k := 0) rfl (by decide) (by decide) rfl (fun ls hl => ?_)
  refine lv_goto (tgt := 40) hx hb dX8_find_72 (by decide) ?_
  refine lv_iload_n hx hb dX8_find_40 rfl (lv_at hl 0 rfl) ?_
  refine lv_bipush (v := 6) hx hb dX8_find_41 (by decide) ?_
  refine lv_icmp_ge (tgt := 75) hx hb dX8_find_43 (by decide) (fun q => absurd q (by decide)) (fun _ => ?_)
  refine lv_aload_n hx hb dX8_find_46 rfl (lv_at hl 3 rfl) ?_
  refine lv_iload_n hx hb dX8_find_47 rfl (lv_at hl 0 rfl) ?_
  refine qc_Vi (As := [.int 5]) (rest := []) (k0 := 1) (u1_hasPerson l D ca o (qu (qu (qu (qu (qu (qu (qu z 114 1 61) 115 ((0 : Int32).toNatClampNeg) x3) 115 ((1 : Int32).toNatClampNeg) x6) 115 ((2 : Int32).toNatClampNeg) x9) 115 ((3 : Int32).toNatClampNeg) x12) 115 ((4 : Int32).toNatClampNeg) x15) 115 ((5 : Int32).toNatClampNeg) x18) y 5 (h1_5)) kc_yX9_hasPerson ⟨hx, hb, hml, hown, hts⟩ wq_866 rfl rfl ⟨Nat.le_of_ble_eq_true rfl, Nat.le_of_ble_eq_true rfl⟩ wq_all hP hK hS qw_Ai (q0 := 1) (by decide) (hgU_1 ca o _ _) rfl rfl hl.1 rfl (Nat.le_of_ble_eq_true rfl) dX8_find_48 ⟨Nat.zero_le _, Nat.zero_le _⟩ (fun r24 u24 H locs h24 hP hS _ _ => ?_)
  subst h24
  refine lv_if_eq (tgt := 69) hx hb dX8_find_51 (by decide) (fun _ => ?_) (fun q => absurd (by decide) q)
  refine lv_iinc (v := 6) (lv' := [(3, .int 6), (0, .ref (o + 114)), (1, .ref (o + 110)), (2, .ref (o + 1))]) hx hb dX8_find_69 hl (k := 0) rfl (by decide) (by decide) rfl (fun ls hl => ?_)
  refine lv_goto (tgt := 40) hx hb dX8_find_72 (by decide) ?_
  refine lv_iload_n hx hb dX8_find_40 rfl (lv_at hl 0 rfl) ?_
  refine lv_bipush (v := 6) hx hb dX8_find_41 (by decide) ?_
  refine lv_icmp_ge (tgt := 75) hx hb dX8_find_43 (by decide) (fun _ => ?_) (fun q => absurd (by decide) q)
  refine lv_aload_n hx hb dX8_find_75 rfl (lv_at hl 1 rfl) ?_
  refine lv_aload_n hx hb dX8_find_76 rfl (lv_at hl 2 rfl) ?_
  refine lv_aload_n hx hb dX8_find_77 rfl (lv_at hl 3 rfl) ?_
  refine lv_iconst (v := 1) hx hb dX8_find_78 (by decide) ?_
  refine qc_Vv (As := [.ref (o + 110), .ref (o + 1), .int 1]) (rest := []) (k0 := 3) (u1_offerPairs l D ca o (qu (qu (qu (qu (qu (qu (qu z 114 1 61) 115 ((0 : Int32).toNatClampNeg) x3) 115 ((1 : Int32).toNatClampNeg) x6) 115 ((2 : Int32).toNatClampNeg) x9) 115 ((3 : Int32).toNatClampNeg) x12) 115 ((4 : Int32).toNatClampNeg) x15) 115 ((5 : Int32).toNatClampNeg) x18) y 1 (h1_5)) kc_yX8_offerPairs ⟨hx, hb, hml, hown, hts⟩ wq_874 rfl rfl ⟨Nat.le_of_ble_eq_true rfl, Nat.le_of_ble_eq_true rfl⟩ wq_all hP hK hS qw_Ai (q0 := 114) (by decide) (hgU_114 ca o _ _) rfl rfl hl.1 rfl (Nat.le_of_ble_eq_true rfl) dX8_find_79 ⟨Nat.zero_le _, Nat.zero_le _⟩ (fun u25 H locs h25 hP hS _ _ => ?_)
  refine lv_aload_n hx hb dX8_find_82 rfl (lv_at hl 1 rfl) ?_
  refine lv_aload_n hx hb dX8_find_83 rfl (lv_at hl 2 rfl) ?_
  refine lv_aload_n hx hb dX8_find_84 rfl (lv_at hl 3 rfl) ?_
  refine lv_iconst (v := 2) hx hb dX8_find_85 (by decide) ?_
  refine qc_Vv (As := [.ref (o + 110), .ref (o + 1), .int 2]) (rest := []) (k0 := 3) (u1_offerPairs l D ca o (qu (qu (qu (qu (qu (qu (qu z 114 1 61) 115 ((0 : Int32).toNatClampNeg) x3) 115 ((1 : Int32).toNatClampNeg) x6) 115 ((2 : Int32).toNatClampNeg) x9) 115 ((3 : Int32).toNatClampNeg) x12) 115 ((4 : Int32).toNatClampNeg) x15) 115 ((5 : Int32).toNatClampNeg) x18) y 2 (h1_5)) kc_yX8_offerPairs ⟨hx, hb, hml, hown, hts⟩ wq_874 rfl rfl ⟨Nat.le_of_ble_eq_true rfl, Nat.le_of_ble_eq_true rfl⟩ wq_all hP hK hS qw_Ai (q0 := 114) (by decide) (hgU_114 ca o _ _) rfl rfl hl.1 rfl (Nat.le_of_ble_eq_true rfl) dX8_find_86 ⟨Nat.zero_le _, Nat.zero_le _⟩ (fun u26 H locs h26 hP hS _ _ => ?_)
  refine lv_aload_n hx hb dX8_find_89 rfl (lv_at hl 1 rfl) ?_
  refine qf_get hx hb hts inX8 hown hK hP (q0 := 114) (by decide) (hgU_114 ca o) rfl 1 (by decide) wq_266 (v := .int ((qu (qu (qu (qu (qu (qu (qu z 114 1 61) 115 ((0 : Int32).toNatClampNeg) x3) 115 ((1 : Int32).toNatClampNeg) x6) 115 ((2 : Int32).toNatClampNeg) x9) 115 ((3 : Int32).toNatClampNeg) x12) 115 ((4 : Int32).toNatClampNeg) x15) 115 ((5 : Int32).toNatClampNeg) x18) 114 1)) rfl dX8_find_90 ?_
  refine qtop (x' := 61) rfl ?_
  refine lv_bipush (v := 60) hx hb dX8_find_93 (by decide) ?_
  refine lv_icmp_gt (tgt := 102) hx hb dX8_find_95 (by decide) (fun _ => ?_) (fun q => absurd (by decide) q)
  refine lv_iconst (v := 0) hx hb dX8_find_102 (by decide) ?_
  exact W.zret (v := 0) (ty := .boolean) hx hb hr rfl (fun t ht hW => ⟨⟨0, ((qu (qu (qu (qu (qu (qu (qu z 114 1 61) 115 ((0 : Int32).toNatClampNeg) x3) 115 ((1 : Int32).toNatClampNeg) x6) 115 ((2 : Int32).toNatClampNeg) x9) 115 ((3 : Int32).toNatClampNeg) x12) 115 ((4 : Int32).toNatClampNeg) x15) 115 ((5 : Int32).toNatClampNeg) x18), y), rfl, ⟨rfl, (fun (k : Nat) (h0 : k ≠ 114) (h1 : k ≠ 115) => by simp only [qu_ne h0, qu_ne h1]), rfl⟩, by rw [ht]; exact hP, va_K.moved hW.alike hK⟩, hS.F ht⟩) hS.2.2 dX8_find_103

set_option maxRecDepth 100000 in
set_option maxHeartbeats 4000000 in
theorem u1_lineBecome (l : Launch) (D : va_G) (ca : Nat → ClassId) (o : Nat) (z : Nat → Nat → Int32) (y : Nat → Nat → Int64) {i : Nat} (hi : i < 16)  : qM l yX5_become cX5_become 2 none 2 80 (qPre D vwCl (qT6 ca) o 132 (qG (GU ca o) z y) [.ref (o + (45 + 2 * i)), .ref (o + (7 + 2 * i))]) (va_Qv (fun u => (∀ k : Nat, (k < 39 ∨ 77 ≤ k) → u.1 k = z k) ∧ u.2 = y) (qB D vwCl (qT6 ca) o 132 (fun u : qZ => qG (GU ca o) u.1 u.2)) (qw_A o 132)) (qw_A o 132) := by
  refine Met.ofW (cc := cX5_become) (maxL := 2) (ret := none) (by decide) rfl ?_
  intro p e s m args below meth c s₁ B hml hv
  obtain ⟨rfl, hP, hK⟩ := hv
  have hx := B.exec
  have hb := B.bytes
  have hr := B.returns
  have hts0 := atoms_spec (ws := Cond.code yX5_become cX5_become 2 none :: qtbl) B.pre
  have hts : ∀ w ∈ qtbl, w.before _ s = true := fun w h => hts0 w (List.mem_cons_of_mem _ h)
  have hown : s.vm.findClass RX5 = some m.cls := findClass_of_methodNamed B.named
  have hlocks := B.notSynchronized
  have hz0 : (0 : Int32).toInt = 0 := rfl
  have hS : va_S (qw_A o 132) s.heap s.heap [] := va_S.rf
  have hl := lv_entry ([.ref (o + (45 + 2 * i)), .ref (o + (7 + 2 * i))]) (n := 2) (Nat.le_of_ble_eq_true rfl)
  rw [lg_entry_eq]
  generalize (lg_sl ([.ref (o + (45 + 2 * i)), .ref (o + (7 + 2 * i))]) ++ List.replicate (2 - (lg_sl ([.ref (o + (45 + 2 * i)), .ref (o + (7 + 2 * i))])).length) Slot.unset).toArray = ls at hl ⊢
  have hl : lv_has ls 2 [(0, .ref (o + (45 + 2 * i))), (1, .ref (o + (7 + 2 * i)))] := hl
  refine lv_aload_n hx hb dX5_become_0 rfl (lv_at hl 1 rfl) ?_
  refine qf_get hx hb hts inX5 hown hK hP (q0 := 7 + 2 * i) (by omega) (hgU_LT ca o hi) rfl 0 (by decide) wq_41 (v := .ref (o + (7 + 2 * i + 1))) rfl dX5_become_1 ?_
  refine lv_iconst (v := 0) hx hb dX5_become_4 (by decide) ?_
  refine lv_aload_n hx hb dX5_become_5 rfl (lv_at hl 0 rfl) ?_
  refine qf_get hx hb hts inX5 hown hK hP (q0 := 45 + 2 * i) (by omega) (hgU_LK ca o hi) rfl 0 (by decide) wq_41 (v := .ref (o + (45 + 2 * i + 1))) rfl dX5_become_6 ?_
  refine lv_iconst (v := 0) hx hb dX5_become_9 (by decide) ?_
  refine lv_bipush (v := 6) hx hb dX5_become_10 (by decide) ?_
  refine qa_copy hx hb (hml.trans hl.1.symm) hown (hts _ wq_552) (hts _ wq_485) (hts _ wq_484) (hts _ wq_15) hK hP hS qw_Ai (q0 := 7 + 2 * i + 1) (q1 := 45 + 2 * i + 1) (by omega) (by omega) 0 (hgU_AT ca o hi) (hgU_AK ca o hi) rfl (sp := 0) (dp := 0) (k := 6) (by decide) (by decide) (by decide) (by decide) (by decide) (Nat.le_of_ble_eq_true rfl) (Nat.le_of_ble_eq_true rfl) dX5_become_12 (fun H locs hP hS => ?_)
  refine lv_aload_n hx hb dX5_become_15 rfl (lv_at hl 0 rfl) ?_
  refine lv_aload_n hx hb dX5_become_16 rfl (lv_at hl 1 rfl) ?_
  refine qf_get hx hb hts inX5 hown hK hP (q0 := 7 + 2 * i) (by omega) (hgU_LT ca o hi) rfl 1 (by decide) wq_46 (v := .int ((quf z (45 + 2 * i + 1) (va_cpy (z (7 + 2 * i + 1)) (z (45 + 2 * i + 1)) ((0 : Int32).toNatClampNeg) ((0 : Int32).toNatClampNeg) ((6 : Int32).toNatClampNeg))) (7 + 2 * i) 1)) rfl dX5_become_17 ?_
  refine lv_topi (fun x1 e1 => ?_)
  refine qf_put hx hb hts inX5 tyX5 tyX5_ok nmX5 hown hK hP hS qw_Ai (q0 := 45 + 2 * i) (by omega) (hgU_LK ca o hi) rfl 1 (by decide) wq_46 rfl (x := x1) 1 rfl rfl rfl (Nat.le_of_ble_eq_true rfl) dX5_become_20 (fun H locs hP hS => ?_)
  refine lv_aload_n hx hb dX5_become_23 rfl (lv_at hl 0 rfl) ?_
  refine lv_aload_n hx hb dX5_become_24 rfl (lv_at hl 1 rfl) ?_
  refine qf_get hx hb hts inX5 hown hK hP (q0 := 7 + 2 * i) (by omega) (hgU_LT ca o hi) rfl 2 (by decide) wq_48 (v := .int ((qu (quf z (45 + 2 * i + 1) (va_cpy (z (7 + 2 * i + 1)) (z (45 + 2 * i + 1)) ((0 : Int32).toNatClampNeg) ((0 : Int32).toNatClampNeg) ((6 : Int32).toNatClampNeg))) (45 + 2 * i) 1 x1) (7 + 2 * i) 2)) rfl dX5_become_25 ?_
  refine lv_topi (fun x2 e2 => ?_)
  refine qf_put hx hb hts inX5 tyX5 tyX5_ok nmX5 hown hK hP hS qw_Ai (q0 := 45 + 2 * i) (by omega) (hgU_LK ca o hi) rfl 2 (by decide) wq_48 rfl (x := x2) 2 rfl rfl rfl (Nat.le_of_ble_eq_true rfl) dX5_become_28 (fun H locs hP hS => ?_)
  refine lv_aload_n hx hb dX5_become_31 rfl (lv_at hl 0 rfl) ?_
  refine lv_aload_n hx hb dX5_become_32 rfl (lv_at hl 1 rfl) ?_
  refine qf_get hx hb hts inX5 hown hK hP (q0 := 7 + 2 * i) (by omega) (hgU_LT ca o hi) rfl 3 (by decide) wq_52 (v := .int ((qu (qu (quf z (45 + 2 * i + 1) (va_cpy (z (7 + 2 * i + 1)) (z (45 + 2 * i + 1)) ((0 : Int32).toNatClampNeg) ((0 : Int32).toNatClampNeg) ((6 : Int32).toNatClampNeg))) (45 + 2 * i) 1 x1) (45 + 2 * i) 2 x2) (7 + 2 * i) 3)) rfl dX5_become_33 ?_
  refine lv_topi (fun x3 e3 => ?_)
  refine qf_put hx hb hts inX5 tyX5 tyX5_ok nmX5 hown hK hP hS qw_Ai (q0 := 45 + 2 * i) (by omega) (hgU_LK ca o hi) rfl 3 (by decide) wq_52 rfl (x := x3) 3 rfl rfl rfl (Nat.le_of_ble_eq_true rfl) dX5_become_36 (fun H locs hP hS => ?_)
  refine lv_aload_n hx hb dX5_become_39 rfl (lv_at hl 0 rfl) ?_
  refine lv_aload_n hx hb dX5_become_40 rfl (lv_at hl 1 rfl) ?_
  refine qf_get hx hb hts inX5 hown hK hP (q0 := 7 + 2 * i) (by omega) (hgU_LT ca o hi) rfl 4 (by decide) wq_56 (v := .int ((qu (qu (qu (quf z (45 + 2 * i + 1) (va_cpy (z (7 + 2 * i + 1)) (z (45 + 2 * i + 1)) ((0 : Int32).toNatClampNeg) ((0 : Int32).toNatClampNeg) ((6 : Int32).toNatClampNeg))) (45 + 2 * i) 1 x1) (45 + 2 * i) 2 x2) (45 + 2 * i) 3 x3) (7 + 2 * i) 4)) rfl dX5_become_41 ?_
  refine lv_topi (fun x4 e4 => ?_)
  refine qf_put hx hb hts inX5 tyX5 tyX5_ok nmX5 hown hK hP hS qw_Ai (q0 := 45 + 2 * i) (by omega) (hgU_LK ca o hi) rfl 4 (by decide) wq_56 rfl (x := x4) 4 rfl rfl rfl (Nat.le_of_ble_eq_true rfl) dX5_become_44 (fun H locs hP hS => ?_)
  refine lv_aload_n hx hb dX5_become_47 rfl (lv_at hl 0 rfl) ?_
  refine lv_aload_n hx hb dX5_become_48 rfl (lv_at hl 1 rfl) ?_
  refine qf_get hx hb hts inX5 hown hK hP (q0 := 7 + 2 * i) (by omega) (hgU_LT ca o hi) rfl 5 (by decide) wq_59 (v := .int ((qu (qu (qu (qu (quf z (45 + 2 * i + 1) (va_cpy (z (7 + 2 * i + 1)) (z (45 + 2 * i + 1)) ((0 : Int32).toNatClampNeg) ((0 : Int32).toNatClampNeg) ((6 : Int32).toNatClampNeg))) (45 + 2 * i) 1 x1) (45 + 2 * i) 2 x2) (45 + 2 * i) 3 x3) (45 + 2 * i) 4 x4) (7 + 2 * i) 5)) rfl dX5_become_49 ?_
  refine lv_topi (fun x5 e5 => ?_)
  refine qf_put hx hb hts inX5 tyX5 tyX5_ok nmX5 hown hK hP hS qw_Ai (q0 := 45 + 2 * i) (by omega) (hgU_LK ca o hi) rfl 5 (by decide) wq_59 rfl (x := x5) 5 rfl rfl rfl (Nat.le_of_ble_eq_true rfl) dX5_become_52 (fun H locs hP hS => ?_)
  refine lv_aload_n hx hb dX5_become_55 rfl (lv_at hl 0 rfl) ?_
  refine lv_aload_n hx hb dX5_become_56 rfl (lv_at hl 1 rfl) ?_
  refine qf_get hx hb hts inX5 hown hK hP (q0 := 7 + 2 * i) (by omega) (hgU_LT ca o hi) rfl 6 (by decide) wq_62 (v := .int ((qu (qu (qu (qu (qu (quf z (45 + 2 * i + 1) (va_cpy (z (7 + 2 * i + 1)) (z (45 + 2 * i + 1)) ((0 : Int32).toNatClampNeg) ((0 : Int32).toNatClampNeg) ((6 : Int32).toNatClampNeg))) (45 + 2 * i) 1 x1) (45 + 2 * i) 2 x2) (45 + 2 * i) 3 x3) (45 + 2 * i) 4 x4) (45 + 2 * i) 5 x5) (7 + 2 * i) 6)) rfl dX5_become_57 ?_
  refine lv_topi (fun x6 e6 => ?_)
  refine qf_put hx hb hts inX5 tyX5 tyX5_ok nmX5 hown hK hP hS qw_Ai (q0 := 45 + 2 * i) (by omega) (hgU_LK ca o hi) rfl 6 (by decide) wq_62 rfl (x := x6) 6 rfl rfl rfl (Nat.le_of_ble_eq_true rfl) dX5_become_60 (fun H locs hP hS => ?_)
  exact W.vret hx hb hr (fun t ht hW => ⟨⟨((qu (qu (qu (qu (qu (qu (quf z (45 + 2 * i + 1) (va_cpy (z (7 + 2 * i + 1)) (z (45 + 2 * i + 1)) ((0 : Int32).toNatClampNeg) ((0 : Int32).toNatClampNeg) ((6 : Int32).toNatClampNeg))) (45 + 2 * i) 1 x1) (45 + 2 * i) 2 x2) (45 + 2 * i) 3 x3) (45 + 2 * i) 4 x4) (45 + 2 * i) 5 x5) (45 + 2 * i) 6 x6), y), rfl, ⟨(fun (k : Nat) (h0 : k < 39 ∨ 77 ≤ k) => by simp only [quf_ne (show k ≠ 45 + 2 * i + 1 from by omega), qu_ne (show k ≠ 45 + 2 * i from by omega)]), rfl⟩, by rw [ht]; exact hP, va_K.moved hW.alike hK⟩, hS.F ht⟩) hS.2.2 dX5_become_63

set_option maxRecDepth 100000 in
set_option maxHeartbeats 4000000 in
theorem u1_toldBecome (l : Launch) (D : va_G) (ca : Nat → ClassId) (o : Nat) (z : Nat → Nat → Int32) (y : Nat → Nat → Int64)   : qM l yX9_become cX9_become 3 none 3 101 (qPre D vwCl (qT6 ca) o 132 (qG (GU ca o) z y) [.ref (o + 39), .ref (o + 1)]) (va_Qv (fun u => (∀ k : Nat, (k < 39 ∨ 77 ≤ k) → u.1 k = z k) ∧ u.2 = y) (qB D vwCl (qT6 ca) o 132 (fun u : qZ => qG (GU ca o) u.1 u.2)) (qw_A o 132)) (qw_A o 132) := by
  refine Met.ofW (cc := cX9_become) (maxL := 3) (ret := none) (by decide) rfl ?_
  intro p e s m args below meth c s₁ B hml hv
  obtain ⟨rfl, hP, hK⟩ := hv
  have hx := B.exec
  have hb := B.bytes
  have hr := B.returns
  have hts0 := atoms_spec (ws := Cond.code yX9_become cX9_become 3 none :: qtbl) B.pre
  have hts : ∀ w ∈ qtbl, w.before _ s = true := fun w h => hts0 w (List.mem_cons_of_mem _ h)
  have hown : s.vm.findClass RX9 = some m.cls := findClass_of_methodNamed B.named
  have hlocks := B.notSynchronized
  have hz0 : (0 : Int32).toInt = 0 := rfl
  have hS : va_S (qw_A o 132) s.heap s.heap [] := va_S.rf
  have hl := lv_entry ([.ref (o + 39), .ref (o + 1)]) (n := 3) (Nat.le_of_ble_eq_true rfl)
  rw [lg_entry_eq]
  generalize (lg_sl ([.ref (o + 39), .ref (o + 1)]) ++ List.replicate (3 - (lg_sl ([.ref (o + 39), .ref (o + 1)])).length) Slot.unset).toArray = ls at hl ⊢
  have hl : lv_has ls 3 [(0, .ref (o + 39)), (1, .ref (o + 1))] := hl
  refine lv_aload_n hx hb dX9_become_0 rfl (lv_at hl 1 rfl) ?_
  refine qf_get hx hb hts inX9 hown hK hP (q0 := 1) (by decide) (hgU_1 ca o) rfl 0 (by decide) wq_81 (v := .ref (o + 2)) rfl dX9_become_1 ?_
  refine lv_iconst (v := 0) hx hb dX9_become_4 (by decide) ?_
  refine lv_aload_n hx hb dX9_become_5 rfl (lv_at hl 0 rfl) ?_
  refine qf_get hx hb hts inX9 hown hK hP (q0 := 39) (by decide) (hgU_39 ca o) rfl 0 (by decide) wq_81 (v := .ref (o + 40)) rfl dX9_become_6 ?_
  refine lv_iconst (v := 0) hx hb dX9_become_9 (by decide) ?_
  refine lv_bipush (v := 6) hx hb dX9_become_10 (by decide) ?_
  refine qa_copy hx hb (hml.trans hl.1.symm) hown (hts _ wq_547) (hts _ wq_485) (hts _ wq_484) (hts _ wq_15) hK hP hS qw_Ai (q0 := 2) (q1 := 40) (by decide) (by decide) 0 (hgU_2 ca o) (hgU_40 ca o) rfl (sp := 0) (dp := 0) (k := 6) (by decide) (by decide) (by decide) (by decide) (by decide) (Nat.le_of_ble_eq_true rfl) (Nat.le_of_ble_eq_true rfl) dX9_become_12 (fun H locs hP hS => ?_)
  refine lv_aload_n hx hb dX9_become_15 rfl (lv_at hl 1 rfl) ?_
  refine qf_get hx hb hts inX9 hown hK hP (q0 := 1) (by decide) (hgU_1 ca o) rfl 1 (by decide) wq_85 (v := .ref (o + 3)) rfl dX9_become_16 ?_
  refine lv_iconst (v := 0) hx hb dX9_become_19 (by decide) ?_
  refine lv_aload_n hx hb dX9_become_20 rfl (lv_at hl 0 rfl) ?_
  refine qf_get hx hb hts inX9 hown hK hP (q0 := 39) (by decide) (hgU_39 ca o) rfl 1 (by decide) wq_85 (v := .ref (o + 41)) rfl dX9_become_21 ?_
  refine lv_iconst (v := 0) hx hb dX9_become_24 (by decide) ?_
  refine lv_bipush (v := 6) hx hb dX9_become_25 (by decide) ?_
  refine qa_copy hx hb (hml.trans hl.1.symm) hown (hts _ wq_547) (hts _ wq_485) (hts _ wq_484) (hts _ wq_15) hK hP hS qw_Ai (q0 := 3) (q1 := 41) (by decide) (by decide) 0 (hgU_3 ca o) (hgU_41 ca o) rfl (sp := 0) (dp := 0) (k := 6) (by decide) (by decide) (by decide) (by decide) (by decide) (Nat.le_of_ble_eq_true rfl) (Nat.le_of_ble_eq_true rfl) dX9_become_27 (fun H locs hP hS => ?_)
  refine lv_aload_n hx hb dX9_become_30 rfl (lv_at hl 1 rfl) ?_
  refine qf_get hx hb hts inX9 hown hK hP (q0 := 1) (by decide) (hgU_1 ca o) rfl 2 (by decide) wq_89 (v := .ref (o + 4)) rfl dX9_become_31 ?_
  refine lv_iconst (v := 0) hx hb dX9_become_34 (by decide) ?_
  refine lv_aload_n hx hb dX9_become_35 rfl (lv_at hl 0 rfl) ?_
  refine qf_get hx hb hts inX9 hown hK hP (q0 := 39) (by decide) (hgU_39 ca o) rfl 2 (by decide) wq_89 (v := .ref (o + 42)) rfl dX9_become_36 ?_
  refine lv_iconst (v := 0) hx hb dX9_become_39 (by decide) ?_
  refine lv_bipush (v := 6) hx hb dX9_become_40 (by decide) ?_
  refine qa_copy hx hb (hml.trans hl.1.symm) hown (hts _ wq_547) (hts _ wq_485) (hts _ wq_484) (hts _ wq_15) hK hP hS qw_Ai (q0 := 4) (q1 := 42) (by decide) (by decide) 0 (hgU_4 ca o) (hgU_42 ca o) rfl (sp := 0) (dp := 0) (k := 6) (by decide) (by decide) (by decide) (by decide) (by decide) (Nat.le_of_ble_eq_true rfl) (Nat.le_of_ble_eq_true rfl) dX9_become_42 (fun H locs hP hS => ?_)
  refine lv_aload_n hx hb dX9_become_45 rfl (lv_at hl 1 rfl) ?_
  refine qf_get hx hb hts inX9 hown hK hP (q0 := 1) (by decide) (hgU_1 ca o) rfl 3 (by decide) wq_91 (v := .ref (o + 5)) rfl dX9_become_46 ?_
  refine lv_iconst (v := 0) hx hb dX9_become_49 (by decide) ?_
  refine lv_aload_n hx hb dX9_become_50 rfl (lv_at hl 0 rfl) ?_
  refine qf_get hx hb hts inX9 hown hK hP (q0 := 39) (by decide) (hgU_39 ca o) rfl 3 (by decide) wq_91 (v := .ref (o + 43)) rfl dX9_become_51 ?_
  refine lv_iconst (v := 0) hx hb dX9_become_54 (by decide) ?_
  refine lv_bipush (v := 36) hx hb dX9_become_55 (by decide) ?_
  refine qa_copy hx hb (hml.trans hl.1.symm) hown (hts _ wq_547) (hts _ wq_485) (hts _ wq_484) (hts _ wq_15) hK hP hS qw_Ai (q0 := 5) (q1 := 43) (by decide) (by decide) 0 (hgU_5 ca o) (hgU_43 ca o) rfl (sp := 0) (dp := 0) (k := 36) (by decide) (by decide) (by decide) (by decide) (by decide) (Nat.le_of_ble_eq_true rfl) (Nat.le_of_ble_eq_true rfl) dX9_become_57 (fun H locs hP hS => ?_)
  refine lv_iconst (v := 0) hx hb dX9_become_60 (by decide) ?_
  refine lv_istore_n (lv' := [(2, .int 0), (0, .ref (o + 39)), (1, .ref (o + 1))]) hx hb dX9_become_61 rfl hl (by decide) rfl (fun ls hl => ?_)
  refine lv_iload_n hx hb dX9_become_62 rfl (lv_at hl 0 rfl) ?_
  refine lv_bipush (v := 16) hx hb dX9_become_63 (by decide) ?_
  refine lv_icmp_ge (tgt := 89) hx hb dX9_become_65 (by decide) (fun q => absurd q (by decide)) (fun _ => ?_)
  refine lv_aload_n hx hb dX9_become_68 rfl (lv_at hl 1 rfl) ?_
  refine qf_get hx hb hts inX9 hown hK hP (q0 := 39) (by decide) (hgU_39 ca o) rfl 4 (by decide) wq_94 (v := .ref (o + 44)) rfl dX9_become_69 ?_
  refine lv_iload_n hx hb dX9_become_72 rfl (lv_at hl 0 rfl) ?_
  refine qa_aald hx hb hK hP (q0 := 44) (by decide) 4 rfl (N := 16) (hgU_44 ca o) rfl (gi_in (by decide) (by decide)) dX9_become_73 ?_
  refine lv_aload_n hx hb dX9_become_74 rfl (lv_at hl 2 rfl) ?_
  refine qf_get hx hb hts inX9 hown hK hP (q0 := 1) (by decide) (hgU_1 ca o) rfl 4 (by decide) wq_94 (v := .ref (o + 6)) rfl dX9_become_75 ?_
  refine lv_iload_n hx hb dX9_become_78 rfl (lv_at hl 0 rfl) ?_
  refine qa_aald hx hb hK hP (q0 := 6) (by decide) 4 rfl (N := 16) (hgU_6 ca o) rfl (gi_in (by decide) (by decide)) dX9_become_79 ?_
  refine qc_Vv (As := [.ref (o + (7 + 2 * (0 : Int32).toNatClampNeg))]) (rest := []) (k0 := 1) (u1_lineBecome l D ca o (quf (quf (quf (quf z 40 (va_cpy (z 2) (z 40) ((0 : Int32).toNatClampNeg) ((0 : Int32).toNatClampNeg) ((6 : Int32).toNatClampNeg))) 41 (va_cpy ((quf z 40 (va_cpy (z 2) (z 40) ((0 : Int32).toNatClampNeg) ((0 : Int32).toNatClampNeg) ((6 : Int32).toNatClampNeg))) 3) ((quf z 40 (va_cpy (z 2) (z 40) ((0 : Int32).toNatClampNeg) ((0 : Int32).toNatClampNeg) ((6 : Int32).toNatClampNeg))) 41) ((0 : Int32).toNatClampNeg) ((0 : Int32).toNatClampNeg) ((6 : Int32).toNatClampNeg))) 42 (va_cpy ((quf (quf z 40 (va_cpy (z 2) (z 40) ((0 : Int32).toNatClampNeg) ((0 : Int32).toNatClampNeg) ((6 : Int32).toNatClampNeg))) 41 (va_cpy ((quf z 40 (va_cpy (z 2) (z 40) ((0 : Int32).toNatClampNeg) ((0 : Int32).toNatClampNeg) ((6 : Int32).toNatClampNeg))) 3) ((quf z 40 (va_cpy (z 2) (z 40) ((0 : Int32).toNatClampNeg) ((0 : Int32).toNatClampNeg) ((6 : Int32).toNatClampNeg))) 41) ((0 : Int32).toNatClampNeg) ((0 : Int32).toNatClampNeg) ((6 : Int32).toNatClampNeg))) 4) ((quf (quf z 40 (va_cpy (z 2) (z 40) ((0 : Int32).toNatClampNeg) ((0 : Int32).toNatClampNeg) ((6 : Int32).toNatClampNeg))) 41 (va_cpy ((quf z 40 (va_cpy (z 2) (z 40) ((0 : Int32).toNatClampNeg) ((0 : Int32).toNatClampNeg) ((6 : Int32).toNatClampNeg))) 3) ((quf z 40 (va_cpy (z 2) (z 40) ((0 : Int32).toNatClampNeg) ((0 : Int32).toNatClampNeg) ((6 : Int32).toNatClampNeg))) 41) ((0 : Int32).toNatClampNeg) ((0 : Int32).toNatClampNeg) ((6 : Int32).toNatClampNeg))) 42) ((0 : Int32).toNatClampNeg) ((0 : Int32).toNatClampNeg) ((6 : Int32).toNatClampNeg))) 43 (va_cpy ((quf (quf (quf z 40 (va_cpy (z 2) (z 40) ((0 : Int32).toNatClampNeg) ((0 : Int32).toNatClampNeg) ((6 : Int32).toNatClampNeg))) 41 (va_cpy ((quf z 40 (va_cpy (z 2) (z 40) ((0 : Int32).toNatClampNeg) ((0 : Int32).toNatClampNeg) ((6 : Int32).toNatClampNeg))) 3) ((quf z 40 (va_cpy (z 2) (z 40) ((0 : Int32).toNatClampNeg) ((0 : Int32).toNatClampNeg) ((6 : Int32).toNatClampNeg))) 41) ((0 : Int32).toNatClampNeg) ((0 : Int32).toNatClampNeg) ((6 : Int32).toNatClampNeg))) 42 (va_cpy ((quf (quf z 40 (va_cpy (z 2) (z 40) ((0 : Int32).toNatClampNeg) ((0 : Int32).toNatClampNeg) ((6 : Int32).toNatClampNeg))) 41 (va_cpy ((quf z 40 (va_cpy (z 2) (z 40) ((0 : Int32).toNatClampNeg) ((0 : Int32).toNatClampNeg) ((6 : Int32).toNatClampNeg))) 3) ((quf z 40 (va_cpy (z 2) (z 40) ((0 : Int32).toNatClampNeg) ((0 : Int32).toNatClampNeg) ((6 : Int32).toNatClampNeg))) 41) ((0 : Int32).toNatClampNeg) ((0 : Int32).toNatClampNeg) ((6 : Int32).toNatClampNeg))) 4) ((quf (quf z 40 (va_cpy (z 2) (z 40) ((0 : Int32).toNatClampNeg) ((0 : Int32).toNatClampNeg) ((6 : Int32).toNatClampNeg))) 41 (va_cpy ((quf z 40 (va_cpy (z 2) (z 40) ((0 : Int32).toNatClampNeg) ((0 : Int32).toNatClampNeg) ((6 : Int32).toNatClampNeg))) 3) ((quf z 40 (va_cpy (z 2) (z 40) ((0 : Int32).toNatClampNeg) ((0 : Int32).toNatClampNeg) ((6 : Int32).toNatClampNeg))) 41) ((0 : Int32).toNatClampNeg) ((0 : Int32).toNatClampNeg) ((6 : Int32).toNatClampNeg))) 42) ((0 : Int32).toNatClampNeg) ((0 : Int32).toNatClampNeg) ((6 : Int32).toNatClampNeg))) 5) ((quf (quf (quf z 40 (va_cpy (z 2) (z 40) ((0 : Int32).toNatClampNeg) ((0 : Int32).toNatClampNeg) ((6 : Int32).toNatClampNeg))) 41 (va_cpy ((quf z 40 (va_cpy (z 2) (z 40) ((0 : Int32).toNatClampNeg) ((0 : Int32).toNatClampNeg) ((6 : Int32).toNatClampNeg))) 3) ((quf z 40 (va_cpy (z 2) (z 40) ((0 : Int32).toNatClampNeg) ((0 : Int32).toNatClampNeg) ((6 : Int32).toNatClampNeg))) 41) ((0 : Int32).toNatClampNeg) ((0 : Int32).toNatClampNeg) ((6 : Int32).toNatClampNeg))) 42 (va_cpy ((quf (quf z 40 (va_cpy (z 2) (z 40) ((0 : Int32).toNatClampNeg) ((0 : Int32).toNatClampNeg) ((6 : Int32).toNatClampNeg))) 41 (va_cpy ((quf z 40 (va_cpy (z 2) (z 40) ((0 : Int32).toNatClampNeg) ((0 : Int32).toNatClampNeg) ((6 : Int32).toNatClampNeg))) 3) ((quf z 40 (va_cpy (z 2) (z 40) ((0 : Int32).toNatClampNeg) ((0 : Int32).toNatClampNeg) ((6 : Int32).toNatClampNeg))) 41) ((0 : Int32).toNatClampNeg) ((0 : Int32).toNatClampNeg) ((6 : Int32).toNatClampNeg))) 4) ((quf (quf z 40 (va_cpy (z 2) (z 40) ((0 : Int32).toNatClampNeg) ((0 : Int32).toNatClampNeg) ((6 : Int32).toNatClampNeg))) 41 (va_cpy ((quf z 40 (va_cpy (z 2) (z 40) ((0 : Int32).toNatClampNeg) ((0 : Int32).toNatClampNeg) ((6 : Int32).toNatClampNeg))) 3) ((quf z 40 (va_cpy (z 2) (z 40) ((0 : Int32).toNatClampNeg) ((0 : Int32).toNatClampNeg) ((6 : Int32).toNatClampNeg))) 41) ((0 : Int32).toNatClampNeg) ((0 : Int32).toNatClampNeg) ((6 : Int32).toNatClampNeg))) 42) ((0 : Int32).toNatClampNeg) ((0 : Int32).toNatClampNeg) ((6 : Int32).toNatClampNeg))) 43) ((0 : Int32).toNatClampNeg) ((0 : Int32).toNatClampNeg) ((36 : Int32).toNatClampNeg))) y (i := 0) (by decide)) kc_yX5_become ⟨hx, hb, hml, hown, hts⟩ wq_548 rfl rfl ⟨Nat.le_of_ble_eq_true rfl, Nat.le_of_ble_eq_true rfl⟩ wq_all hP hK hS qw_Ai (q0 := 45) (by decide) (hgU_45 ca o _ _) rfl rfl hl.1 rfl (Nat.le_of_ble_eq_true rfl) dX9_become_80 ⟨Nat.zero_le _, Nat.zero_le _⟩ (fun u1 H locs h1 hP hS _ _ => ?_)
  obtain ⟨z1, y1⟩ := u1
  obtain ⟨h1f, h1y⟩ := h1
  dsimp only at h1f h1y hP
  rw [h1y] at hP
  have g1 : ∀ k : Nat, (k < 39 ∨ 77 ≤ k) → z1 k = z k := fun k h0 => (h1f k h0).trans ((show ∀ k : Nat, (k < 39 ∨ 77 ≤ k) → (quf (quf (quf (quf z 40 (va_cpy (z 2) (z 40) ((0 : Int32).toNatClampNeg) ((0 : Int32).toNatClampNeg) ((6 : Int32).toNatClampNeg))) 41 (va_cpy ((quf z 40 (va_cpy (z 2) (z 40) ((0 : Int32).toNatClampNeg) ((0 : Int32).toNatClampNeg) ((6 : Int32).toNatClampNeg))) 3) ((quf z 40 (va_cpy (z 2) (z 40) ((0 : Int32).toNatClampNeg) ((0 : Int32).toNatClampNeg) ((6 : Int32).toNatClampNeg))) 41) ((0 : Int32).toNatClampNeg) ((0 : Int32).toNatClampNeg) ((6 : Int32).toNatClampNeg))) 42 (va_cpy ((quf (quf z 40 (va_cpy (z 2) (z 40) ((0 : Int32).toNatClampNeg) ((0 : Int32).toNatClampNeg) ((6 : Int32).toNatClampNeg))) 41 (va_cpy ((quf z 40 (va_cpy (z 2) (z 40) ((0 : Int32).toNatClampNeg) ((0 : Int32).toNatClampNeg) ((6 : Int32).toNatClampNeg))) 3) ((quf z 40 (va_cpy (z 2) (z 40) ((0 : Int32).toNatClampNeg) ((0 : Int32).toNatClampNeg) ((6 : Int32).toNatClampNeg))) 41) ((0 : Int32).toNatClampNeg) ((0 : Int32).toNatClampNeg) ((6 : Int32).toNatClampNeg))) 4) ((quf (quf z 40 (va_cpy (z 2) (z 40) ((0 : Int32).toNatClampNeg) ((0 : Int32).toNatClampNeg) ((6 : Int32).toNatClampNeg))) 41 (va_cpy ((quf z 40 (va_cpy (z 2) (z 40) ((0 : Int32).toNatClampNeg) ((0 : Int32).toNatClampNeg) ((6 : Int32).toNatClampNeg))) 3) ((quf z 40 (va_cpy (z 2) (z 40) ((0 : Int32).toNatClampNeg) ((0 : Int32).toNatClampNeg) ((6 : Int32).toNatClampNeg))) 41) ((0 : Int32).toNatClampNeg) ((0 : Int32).toNatClampNeg) ((6 : Int32).toNatClampNeg))) 42) ((0 : Int32).toNatClampNeg) ((0 : Int32).toNatClampNeg) ((6 : Int32).toNatClampNeg))) 43 (va_cpy ((quf (quf (quf z 40 (va_cpy (z 2) (z 40) ((0 : Int32).toNatClampNeg) ((0 : Int32).toNatClampNeg) ((6 : Int32).toNatClampNeg))) 41 (va_cpy ((quf z 40 (va_cpy (z 2) (z 40) ((0 : Int32).toNatClampNeg) ((0 : Int32).toNatClampNeg) ((6 : Int32).toNatClampNeg))) 3) ((quf z 40 (va_cpy (z 2) (z 40) ((0 : Int32).toNatClampNeg) ((0 : Int32).toNatClampNeg) ((6 : Int32).toNatClampNeg))) 41) ((0 : Int32).toNatClampNeg) ((0 : Int32).toNatClampNeg) ((6 : Int32).toNatClampNeg))) 42 (va_cpy ((quf (quf z 40 (va_cpy (z 2) (z 40) ((0 : Int32).toNatClampNeg) ((0 : Int32).toNatClampNeg) ((6 : Int32).toNatClampNeg))) 41 (va_cpy ((quf z 40 (va_cpy (z 2) (z 40) ((0 : Int32).toNatClampNeg) ((0 : Int32).toNatClampNeg) ((6 : Int32).toNatClampNeg))) 3) ((quf z 40 (va_cpy (z 2) (z 40) ((0 : Int32).toNatClampNeg) ((0 : Int32).toNatClampNeg) ((6 : Int32).toNatClampNeg))) 41) ((0 : Int32).toNatClampNeg) ((0 : Int32).toNatClampNeg) ((6 : Int32).toNatClampNeg))) 4) ((quf (quf z 40 (va_cpy (z 2) (z 40) ((0 : Int32).toNatClampNeg) ((0 : Int32).toNatClampNeg) ((6 : Int32).toNatClampNeg))) 41 (va_cpy ((quf z 40 (va_cpy (z 2) (z 40) ((0 : Int32).toNatClampNeg) ((0 : Int32).toNatClampNeg) ((6 : Int32).toNatClampNeg))) 3) ((quf z 40 (va_cpy (z 2) (z 40) ((0 : Int32).toNatClampNeg) ((0 : Int32).toNatClampNeg) ((6 : Int32).toNatClampNeg))) 41) ((0 : Int32).toNatClampNeg) ((0 : Int32).toNatClampNeg) ((6 : Int32).toNatClampNeg))) 42) ((0 : Int32).toNatClampNeg) ((0 : Int32).toNatClampNeg) ((6 : Int32).toNatClampNeg))) 5) ((quf (quf (quf z 40 (va_cpy (z 2) (z 40) ((0 : Int32).toNatClampNeg) ((0 : Int32).toNatClampNeg) ((6 : Int32).toNatClampNeg))) 41 (va_cpy ((quf z 40 (va_cpy (z 2) (z 40) ((0 : Int32).toNatClampNeg) ((0 : Int32).toNatClampNeg) ((6 : Int32).toNatClampNeg))) 3) ((quf z 40 (va_cpy (z 2) (z 40) ((0 : Int32).toNatClampNeg) ((0 : Int32).toNatClampNeg) ((6 : Int32).toNatClampNeg))) 41) ((0 : Int32).toNatClampNeg) ((0 : Int32).toNatClampNeg) ((6 : Int32).toNatClampNeg))) 42 (va_cpy ((quf (quf z 40 (va_cpy (z 2) (z 40) ((0 : Int32).toNatClampNeg) ((0 : Int32).toNatClampNeg) ((6 : Int32).toNatClampNeg))) 41 (va_cpy ((quf z 40 (va_cpy (z 2) (z 40) ((0 : Int32).toNatClampNeg) ((0 : Int32).toNatClampNeg) ((6 : Int32).toNatClampNeg))) 3) ((quf z 40 (va_cpy (z 2) (z 40) ((0 : Int32).toNatClampNeg) ((0 : Int32).toNatClampNeg) ((6 : Int32).toNatClampNeg))) 41) ((0 : Int32).toNatClampNeg) ((0 : Int32).toNatClampNeg) ((6 : Int32).toNatClampNeg))) 4) ((quf (quf z 40 (va_cpy (z 2) (z 40) ((0 : Int32).toNatClampNeg) ((0 : Int32).toNatClampNeg) ((6 : Int32).toNatClampNeg))) 41 (va_cpy ((quf z 40 (va_cpy (z 2) (z 40) ((0 : Int32).toNatClampNeg) ((0 : Int32).toNatClampNeg) ((6 : Int32).toNatClampNeg))) 3) ((quf z 40 (va_cpy (z 2) (z 40) ((0 : Int32).toNatClampNeg) ((0 : Int32).toNatClampNeg) ((6 : Int32).toNatClampNeg))) 41) ((0 : Int32).toNatClampNeg) ((0 : Int32).toNatClampNeg) ((6 : Int32).toNatClampNeg))) 42) ((0 : Int32).toNatClampNeg) ((0 : Int32).toNatClampNeg) ((6 : Int32).toNatClampNeg))) 43) ((0 : Int32).toNatClampNeg) ((0 : Int32).toNatClampNeg) ((36 : Int32).toNatClampNeg))) k = z k from (fun (k : Nat) (h0 : k < 39 ∨ 77 ≤ k) => by simp only [quf_ne (show k ≠ 40 from by omega), quf_ne (show k ≠ 41 from by omega), quf_ne (show k ≠ 42 from by omega), quf_ne (show k ≠ 43 from by omega)])) k h0)
  refine lv_iinc (v := 1) (lv' := [(2, .int 1), (0, .ref (o + 39)), (1, .ref (o + 1))]) hx hb dX9_become_83 hl (k := 0) rfl (by decide) (by decide) rfl (fun ls hl => ?_)
  refine lv_goto (tgt := 62) hx hb dX9_become_86 (by decide) ?_
  refine lv_iload_n hx hb dX9_become_62 rfl (lv_at hl 0 rfl) ?_
  refine lv_bipush (v := 16) hx hb dX9_become_63 (by decide) ?_
  refine lv_icmp_ge (tgt := 89) hx hb dX9_become_65 (by decide) (fun q => absurd q (by decide)) (fun _ => ?_)
  refine lv_aload_n hx hb dX9_become_68 rfl (lv_at hl 1 rfl) ?_
  refine qf_get hx hb hts inX9 hown hK hP (q0 := 39) (by decide) (hgU_39 ca o) rfl 4 (by decide) wq_94 (v := .ref (o + 44)) rfl dX9_become_69 ?_
  refine lv_iload_n hx hb dX9_become_72 rfl (lv_at hl 0 rfl) ?_
  refine qa_aald hx hb hK hP (q0 := 44) (by decide) 4 rfl (N := 16) (hgU_44 ca o) rfl (gi_in (by decide) (by decide)) dX9_become_73 ?_
  refine lv_aload_n hx hb dX9_become_74 rfl (lv_at hl 2 rfl) ?_
  refine qf_get hx hb hts inX9 hown hK hP (q0 := 1) (by decide) (hgU_1 ca o) rfl 4 (by decide) wq_94 (v := .ref (o + 6)) rfl dX9_become_75 ?_
  refine lv_iload_n hx hb dX9_become_78 rfl (lv_at hl 0 rfl) ?_
  refine qa_aald hx hb hK hP (q0 := 6) (by decide) 4 rfl (N := 16) (hgU_6 ca o) rfl (gi_in (by decide) (by decide)) dX9_become_79 ?_
  refine qc_Vv (As := [.ref (o + (7 + 2 * (1 : Int32).toNatClampNeg))]) (rest := []) (k0 := 1) (u1_lineBecome l D ca o z1 y (i := 1) (by decide)) kc_yX5_become ⟨hx, hb, hml, hown, hts⟩ wq_548 rfl rfl ⟨Nat.le_of_ble_eq_true rfl, Nat.le_of_ble_eq_true rfl⟩ wq_all hP hK hS qw_Ai (q0 := 47) (by decide) (hgU_47 ca o _ _) rfl rfl hl.1 rfl (Nat.le_of_ble_eq_true rfl) dX9_become_80 ⟨Nat.zero_le _, Nat.zero_le _⟩ (fun u2 H locs h2 hP hS _ _ => ?_)
  obtain ⟨z2, y2⟩ := u2
  obtain ⟨h2f, h2y⟩ := h2
  dsimp only at h2f h2y hP
  rw [h2y] at hP
  have g2 : ∀ k : Nat, (k < 39 ∨ 77 ≤ k) → z2 k = z k := fun k h0 => (h2f k h0).trans ((show ∀ k : Nat, (k < 39 ∨ 77 ≤ k) → z1 k = z k from (fun (k : Nat) (h0 : k < 39 ∨ 77 ≤ k) => g1 k h0)) k h0)
  refine lv_iinc (v := 2) (lv' := [(2, .int 2), (0, .ref (o + 39)), (1, .ref (o + 1))]) hx hb dX9_become_83 hl (k := 0) rfl (by decide) (by decide) rfl (fun ls hl => ?_)
  refine lv_goto (tgt := 62) hx hb dX9_become_86 (by decide) ?_
  refine lv_iload_n hx hb dX9_become_62 rfl (lv_at hl 0 rfl) ?_
  refine lv_bipush (v := 16) hx hb dX9_become_63 (by decide) ?_
  refine lv_icmp_ge (tgt := 89) hx hb dX9_become_65 (by decide) (fun q => absurd q (by decide)) (fun _ => ?_)
  refine lv_aload_n hx hb dX9_become_68 rfl (lv_at hl 1 rfl) ?_
  refine qf_get hx hb hts inX9 hown hK hP (q0 := 39) (by decide) (hgU_39 ca o) rfl 4 (by decide) wq_94 (v := .ref (o + 44)) rfl dX9_become_69 ?_
  refine lv_iload_n hx hb dX9_become_72 rfl (lv_at hl 0 rfl) ?_
  refine qa_aald hx hb hK hP (q0 := 44) (by decide) 4 rfl (N := 16) (hgU_44 ca o) rfl (gi_in (by decide) (by decide)) dX9_become_73 ?_
  refine lv_aload_n hx hb dX9_become_74 rfl (lv_at hl 2 rfl) ?_
  refine qf_get hx hb hts inX9 hown hK hP (q0 := 1) (by decide) (hgU_1 ca o) rfl 4 (by decide) wq_94 (v := .ref (o + 6)) rfl dX9_become_75 ?_
  refine lv_iload_n hx hb dX9_become_78 rfl (lv_at hl 0 rfl) ?_
  refine qa_aald hx hb hK hP (q0 := 6) (by decide) 4 rfl (N := 16) (hgU_6 ca o) rfl (gi_in (by decide) (by decide)) dX9_become_79 ?_
  refine qc_Vv (As := [.ref (o + (7 + 2 * (2 : Int32).toNatClampNeg))]) (rest := []) (k0 := 1) (u1_lineBecome l D ca o z2 y (i := 2) (by decide)) kc_yX5_become ⟨hx, hb, hml, hown, hts⟩ wq_548 rfl rfl ⟨Nat.le_of_ble_eq_true rfl, Nat.le_of_ble_eq_true rfl⟩ wq_all hP hK hS qw_Ai (q0 := 49) (by decide) (hgU_49 ca o _ _) rfl rfl hl.1 rfl (Nat.le_of_ble_eq_true rfl) dX9_become_80 ⟨Nat.zero_le _, Nat.zero_le _⟩ (fun u3 H locs h3 hP hS _ _ => ?_)
  obtain ⟨z3, y3⟩ := u3
  obtain ⟨h3f, h3y⟩ := h3
  dsimp only at h3f h3y hP
  rw [h3y] at hP
  have g3 : ∀ k : Nat, (k < 39 ∨ 77 ≤ k) → z3 k = z k := fun k h0 => (h3f k h0).trans ((show ∀ k : Nat, (k < 39 ∨ 77 ≤ k) → z2 k = z k from (fun (k : Nat) (h0 : k < 39 ∨ 77 ≤ k) => g2 k h0)) k h0)
  refine lv_iinc (v := 3) (lv' := [(2, .int 3), (0, .ref (o + 39)), (1, .ref (o + 1))]) hx hb dX9_become_83 hl (k := 0) rfl (by decide) (by decide) rfl (fun ls hl => ?_)
  refine lv_goto (tgt := 62) hx hb dX9_become_86 (by decide) ?_
  refine lv_iload_n hx hb dX9_become_62 rfl (lv_at hl 0 rfl) ?_
  refine lv_bipush (v := 16) hx hb dX9_become_63 (by decide) ?_
  refine lv_icmp_ge (tgt := 89) hx hb dX9_become_65 (by decide) (fun q => absurd q (by decide)) (fun _ => ?_)
  refine lv_aload_n hx hb dX9_become_68 rfl (lv_at hl 1 rfl) ?_
  refine qf_get hx hb hts inX9 hown hK hP (q0 := 39) (by decide) (hgU_39 ca o) rfl 4 (by decide) wq_94 (v := .ref (o + 44)) rfl dX9_become_69 ?_
  refine lv_iload_n hx hb dX9_become_72 rfl (lv_at hl 0 rfl) ?_
  refine qa_aald hx hb hK hP (q0 := 44) (by decide) 4 rfl (N := 16) (hgU_44 ca o) rfl (gi_in (by decide) (by decide)) dX9_become_73 ?_
  refine lv_aload_n hx hb dX9_become_74 rfl (lv_at hl 2 rfl) ?_
  refine qf_get hx hb hts inX9 hown hK hP (q0 := 1) (by decide) (hgU_1 ca o) rfl 4 (by decide) wq_94 (v := .ref (o + 6)) rfl dX9_become_75 ?_
  refine lv_iload_n hx hb dX9_become_78 rfl (lv_at hl 0 rfl) ?_
  refine qa_aald hx hb hK hP (q0 := 6) (by decide) 4 rfl (N := 16) (hgU_6 ca o) rfl (gi_in (by decide) (by decide)) dX9_become_79 ?_
  refine qc_Vv (As := [.ref (o + (7 + 2 * (3 : Int32).toNatClampNeg))]) (rest := []) (k0 := 1) (u1_lineBecome l D ca o z3 y (i := 3) (by decide)) kc_yX5_become ⟨hx, hb, hml, hown, hts⟩ wq_548 rfl rfl ⟨Nat.le_of_ble_eq_true rfl, Nat.le_of_ble_eq_true rfl⟩ wq_all hP hK hS qw_Ai (q0 := 51) (by decide) (hgU_51 ca o _ _) rfl rfl hl.1 rfl (Nat.le_of_ble_eq_true rfl) dX9_become_80 ⟨Nat.zero_le _, Nat.zero_le _⟩ (fun u4 H locs h4 hP hS _ _ => ?_)
  obtain ⟨z4, y4⟩ := u4
  obtain ⟨h4f, h4y⟩ := h4
  dsimp only at h4f h4y hP
  rw [h4y] at hP
  have g4 : ∀ k : Nat, (k < 39 ∨ 77 ≤ k) → z4 k = z k := fun k h0 => (h4f k h0).trans ((show ∀ k : Nat, (k < 39 ∨ 77 ≤ k) → z3 k = z k from (fun (k : Nat) (h0 : k < 39 ∨ 77 ≤ k) => g3 k h0)) k h0)
  refine lv_iinc (v := 4) (lv' := [(2, .int 4), (0, .ref (o + 39)), (1, .ref (o + 1))]) hx hb dX9_become_83 hl (k := 0) rfl (by decide) (by decide) rfl (fun ls hl => ?_)
  refine lv_goto (tgt := 62) hx hb dX9_become_86 (by decide) ?_
  refine lv_iload_n hx hb dX9_become_62 rfl (lv_at hl 0 rfl) ?_
  refine lv_bipush (v := 16) hx hb dX9_become_63 (by decide) ?_
  refine lv_icmp_ge (tgt := 89) hx hb dX9_become_65 (by decide) (fun q => absurd q (by decide)) (fun _ => ?_)
  refine lv_aload_n hx hb dX9_become_68 rfl (lv_at hl 1 rfl) ?_
  refine qf_get hx hb hts inX9 hown hK hP (q0 := 39) (by decide) (hgU_39 ca o) rfl 4 (by decide) wq_94 (v := .ref (o + 44)) rfl dX9_become_69 ?_
  refine lv_iload_n hx hb dX9_become_72 rfl (lv_at hl 0 rfl) ?_
  refine qa_aald hx hb hK hP (q0 := 44) (by decide) 4 rfl (N := 16) (hgU_44 ca o) rfl (gi_in (by decide) (by decide)) dX9_become_73 ?_
  refine lv_aload_n hx hb dX9_become_74 rfl (lv_at hl 2 rfl) ?_
  refine qf_get hx hb hts inX9 hown hK hP (q0 := 1) (by decide) (hgU_1 ca o) rfl 4 (by decide) wq_94 (v := .ref (o + 6)) rfl dX9_become_75 ?_
  refine lv_iload_n hx hb dX9_become_78 rfl (lv_at hl 0 rfl) ?_
  refine qa_aald hx hb hK hP (q0 := 6) (by decide) 4 rfl (N := 16) (hgU_6 ca o) rfl (gi_in (by decide) (by decide)) dX9_become_79 ?_
  refine qc_Vv (As := [.ref (o + (7 + 2 * (4 : Int32).toNatClampNeg))]) (rest := []) (k0 := 1) (u1_lineBecome l D ca o z4 y (i := 4) (by decide)) kc_yX5_become ⟨hx, hb, hml, hown, hts⟩ wq_548 rfl rfl ⟨Nat.le_of_ble_eq_true rfl, Nat.le_of_ble_eq_true rfl⟩ wq_all hP hK hS qw_Ai (q0 := 53) (by decide) (hgU_53 ca o _ _) rfl rfl hl.1 rfl (Nat.le_of_ble_eq_true rfl) dX9_become_80 ⟨Nat.zero_le _, Nat.zero_le _⟩ (fun u5 H locs h5 hP hS _ _ => ?_)
  obtain ⟨z5, y5⟩ := u5
  obtain ⟨h5f, h5y⟩ := h5
  dsimp only at h5f h5y hP
  rw [h5y] at hP
  have g5 : ∀ k : Nat, (k < 39 ∨ 77 ≤ k) → z5 k = z k := fun k h0 => (h5f k h0).trans ((show ∀ k : Nat, (k < 39 ∨ 77 ≤ k) → z4 k = z k from (fun (k : Nat) (h0 : k < 39 ∨ 77 ≤ k) => g4 k h0)) k h0)
  refine lv_iinc (v := 5) (lv' := [(2, .int 5), (0, .ref (o + 39)), (1, .ref (o + 1))]) hx hb dX9_become_83 hl (k := 0) rfl (by decide) (by decide) rfl (fun ls hl => ?_)
  refine lv_goto (tgt := 62) hx hb dX9_become_86 (by decide) ?_
  refine lv_iload_n hx hb dX9_become_62 rfl (lv_at hl 0 rfl) ?_
  refine lv_bipush (v := 16) hx hb dX9_become_63 (by decide) ?_
  refine lv_icmp_ge (tgt := 89) hx hb dX9_become_65 (by decide) (fun q => absurd q (by decide)) (fun _ => ?_)
  refine lv_aload_n hx hb dX9_become_68 rfl (lv_at hl 1 rfl) ?_
  refine qf_get hx hb hts inX9 hown hK hP (q0 := 39) (by decide) (hgU_39 ca o) rfl 4 (by decide) wq_94 (v := .ref (o + 44)) rfl dX9_become_69 ?_
  refine lv_iload_n hx hb dX9_become_72 rfl (lv_at hl 0 rfl) ?_
  refine qa_aald hx hb hK hP (q0 := 44) (by decide) 4 rfl (N := 16) (hgU_44 ca o) rfl (gi_in (by decide) (by decide)) dX9_become_73 ?_
  refine lv_aload_n hx hb dX9_become_74 rfl (lv_at hl 2 rfl) ?_
  refine qf_get hx hb hts inX9 hown hK hP (q0 := 1) (by decide) (hgU_1 ca o) rfl 4 (by decide) wq_94 (v := .ref (o + 6)) rfl dX9_become_75 ?_
  refine lv_iload_n hx hb dX9_become_78 rfl (lv_at hl 0 rfl) ?_
  refine qa_aald hx hb hK hP (q0 := 6) (by decide) 4 rfl (N := 16) (hgU_6 ca o) rfl (gi_in (by decide) (by decide)) dX9_become_79 ?_
  refine qc_Vv (As := [.ref (o + (7 + 2 * (5 : Int32).toNatClampNeg))]) (rest := []) (k0 := 1) (u1_lineBecome l D ca o z5 y (i := 5) (by decide)) kc_yX5_become ⟨hx, hb, hml, hown, hts⟩ wq_548 rfl rfl ⟨Nat.le_of_ble_eq_true rfl, Nat.le_of_ble_eq_true rfl⟩ wq_all hP hK hS qw_Ai (q0 := 55) (by decide) (hgU_55 ca o _ _) rfl rfl hl.1 rfl (Nat.le_of_ble_eq_true rfl) dX9_become_80 ⟨Nat.zero_le _, Nat.zero_le _⟩ (fun u6 H locs h6 hP hS _ _ => ?_)
  obtain ⟨z6, y6⟩ := u6
  obtain ⟨h6f, h6y⟩ := h6
  dsimp only at h6f h6y hP
  rw [h6y] at hP
  have g6 : ∀ k : Nat, (k < 39 ∨ 77 ≤ k) → z6 k = z k := fun k h0 => (h6f k h0).trans ((show ∀ k : Nat, (k < 39 ∨ 77 ≤ k) → z5 k = z k from (fun (k : Nat) (h0 : k < 39 ∨ 77 ≤ k) => g5 k h0)) k h0)
  refine lv_iinc (v := 6) (lv' := [(2, .int 6), (0, .ref (o + 39)), (1, .ref (o + 1))]) hx hb dX9_become_83 hl (k := 0) rfl (by decide) (by decide) rfl (fun ls hl => ?_)
  refine lv_goto (tgt := 62) hx hb dX9_become_86 (by decide) ?_
  refine lv_iload_n hx hb dX9_become_62 rfl (lv_at hl 0 rfl) ?_
  refine lv_bipush (v := 16) hx hb dX9_become_63 (by decide) ?_
  refine lv_icmp_ge (tgt := 89) hx hb dX9_become_65 (by decide) (fun q => absurd q (by decide)) (fun _ => ?_)
  refine lv_aload_n hx hb dX9_become_68 rfl (lv_at hl 1 rfl) ?_
  refine qf_get hx hb hts inX9 hown hK hP (q0 := 39) (by decide) (hgU_39 ca o) rfl 4 (by decide) wq_94 (v := .ref (o + 44)) rfl dX9_become_69 ?_
  refine lv_iload_n hx hb dX9_become_72 rfl (lv_at hl 0 rfl) ?_
  refine qa_aald hx hb hK hP (q0 := 44) (by decide) 4 rfl (N := 16) (hgU_44 ca o) rfl (gi_in (by decide) (by decide)) dX9_become_73 ?_
  refine lv_aload_n hx hb dX9_become_74 rfl (lv_at hl 2 rfl) ?_
  refine qf_get hx hb hts inX9 hown hK hP (q0 := 1) (by decide) (hgU_1 ca o) rfl 4 (by decide) wq_94 (v := .ref (o + 6)) rfl dX9_become_75 ?_
  refine lv_iload_n hx hb dX9_become_78 rfl (lv_at hl 0 rfl) ?_
  refine qa_aald hx hb hK hP (q0 := 6) (by decide) 4 rfl (N := 16) (hgU_6 ca o) rfl (gi_in (by decide) (by decide)) dX9_become_79 ?_
  refine qc_Vv (As := [.ref (o + (7 + 2 * (6 : Int32).toNatClampNeg))]) (rest := []) (k0 := 1) (u1_lineBecome l D ca o z6 y (i := 6) (by decide)) kc_yX5_become ⟨hx, hb, hml, hown, hts⟩ wq_548 rfl rfl ⟨Nat.le_of_ble_eq_true rfl, Nat.le_of_ble_eq_true rfl⟩ wq_all hP hK hS qw_Ai (q0 := 57) (by decide) (hgU_57 ca o _ _) rfl rfl hl.1 rfl (Nat.le_of_ble_eq_true rfl) dX9_become_80 ⟨Nat.zero_le _, Nat.zero_le _⟩ (fun u7 H locs h7 hP hS _ _ => ?_)
  obtain ⟨z7, y7⟩ := u7
  obtain ⟨h7f, h7y⟩ := h7
  dsimp only at h7f h7y hP
  rw [h7y] at hP
  have g7 : ∀ k : Nat, (k < 39 ∨ 77 ≤ k) → z7 k = z k := fun k h0 => (h7f k h0).trans ((show ∀ k : Nat, (k < 39 ∨ 77 ≤ k) → z6 k = z k from (fun (k : Nat) (h0 : k < 39 ∨ 77 ≤ k) => g6 k h0)) k h0)
  refine lv_iinc (v := 7) (lv' := [(2, .int 7), (0, .ref (o + 39)), (1, .ref (o + 1))]) hx hb dX9_become_83 hl (k := 0) rfl (by decide) (by decide) rfl (fun ls hl => ?_)
  refine lv_goto (tgt := 62) hx hb dX9_become_86 (by decide) ?_
  refine lv_iload_n hx hb dX9_become_62 rfl (lv_at hl 0 rfl) ?_
  refine lv_bipush (v := 16) hx hb dX9_become_63 (by decide) ?_
  refine lv_icmp_ge (tgt := 89) hx hb dX9_become_65 (by decide) (fun q => absurd q (by decide)) (fun _ => ?_)
  refine lv_aload_n hx hb dX9_become_68 rfl (lv_at hl 1 rfl) ?_
  refine qf_get hx hb hts inX9 hown hK hP (q0 := 39) (by decide) (hgU_39 ca o) rfl 4 (by decide) wq_94 (v := .ref (o + 44)) rfl dX9_become_69 ?_
  refine lv_iload_n hx hb dX9_become_72 rfl (lv_at hl 0 rfl) ?_
  refine qa_aald hx hb hK hP (q0 := 44) (by decide) 4 rfl (N := 16) (hgU_44 ca o) rfl (gi_in (by decide) (by decide)) dX9_become_73 ?_
  refine lv_aload_n hx hb dX9_become_74 rfl (lv_at hl 2 rfl) ?_
  refine qf_get hx hb hts inX9 hown hK hP (q0 := 1) (by decide) (hgU_1 ca o) rfl 4 (by decide) wq_94 (v := .ref (o + 6)) rfl dX9_become_75 ?_
  refine lv_iload_n hx hb dX9_become_78 rfl (lv_at hl 0 rfl) ?_
  refine qa_aald hx hb hK hP (q0 := 6) (by decide) 4 rfl (N := 16) (hgU_6 ca o) rfl (gi_in (by decide) (by decide)) dX9_become_79 ?_
  refine qc_Vv (As := [.ref (o + (7 + 2 * (7 : Int32).toNatClampNeg))]) (rest := []) (k0 := 1) (u1_lineBecome l D ca o z7 y (i := 7) (by decide)) kc_yX5_become ⟨hx, hb, hml, hown, hts⟩ wq_548 rfl rfl ⟨Nat.le_of_ble_eq_true rfl, Nat.le_of_ble_eq_true rfl⟩ wq_all hP hK hS qw_Ai (q0 := 59) (by decide) (hgU_59 ca o _ _) rfl rfl hl.1 rfl (Nat.le_of_ble_eq_true rfl) dX9_become_80 ⟨Nat.zero_le _, Nat.zero_le _⟩ (fun u8 H locs h8 hP hS _ _ => ?_)
  obtain ⟨z8, y8⟩ := u8
  obtain ⟨h8f, h8y⟩ := h8
  dsimp only at h8f h8y hP
  rw [h8y] at hP
  have g8 : ∀ k : Nat, (k < 39 ∨ 77 ≤ k) → z8 k = z k := fun k h0 => (h8f k h0).trans ((show ∀ k : Nat, (k < 39 ∨ 77 ≤ k) → z7 k = z k from (fun (k : Nat) (h0 : k < 39 ∨ 77 ≤ k) => g7 k h0)) k h0)
  refine lv_iinc (v := 8) (lv' := [(2, .int 8), (0, .ref (o + 39)), (1, .ref (o + 1))]) hx hb dX9_become_83 hl (k := 0) rfl (by decide) (by decide) rfl (fun ls hl => ?_)
  refine lv_goto (tgt := 62) hx hb dX9_become_86 (by decide) ?_
  refine lv_iload_n hx hb dX9_become_62 rfl (lv_at hl 0 rfl) ?_
  refine lv_bipush (v := 16) hx hb dX9_become_63 (by decide) ?_
  refine lv_icmp_ge (tgt := 89) hx hb dX9_become_65 (by decide) (fun q => absurd q (by decide)) (fun _ => ?_)
  refine lv_aload_n hx hb dX9_become_68 rfl (lv_at hl 1 rfl) ?_
  refine qf_get hx hb hts inX9 hown hK hP (q0 := 39) (by decide) (hgU_39 ca o) rfl 4 (by decide) wq_94 (v := .ref (o + 44)) rfl dX9_become_69 ?_
  refine lv_iload_n hx hb dX9_become_72 rfl (lv_at hl 0 rfl) ?_
  refine qa_aald hx hb hK hP (q0 := 44) (by decide) 4 rfl (N := 16) (hgU_44 ca o) rfl (gi_in (by decide) (by decide)) dX9_become_73 ?_
  refine lv_aload_n hx hb dX9_become_74 rfl (lv_at hl 2 rfl) ?_
  refine qf_get hx hb hts inX9 hown hK hP (q0 := 1) (by decide) (hgU_1 ca o) rfl 4 (by decide) wq_94 (v := .ref (o + 6)) rfl dX9_become_75 ?_
  refine lv_iload_n hx hb dX9_become_78 rfl (lv_at hl 0 rfl) ?_
  refine qa_aald hx hb hK hP (q0 := 6) (by decide) 4 rfl (N := 16) (hgU_6 ca o) rfl (gi_in (by decide) (by decide)) dX9_become_79 ?_
  refine qc_Vv (As := [.ref (o + (7 + 2 * (8 : Int32).toNatClampNeg))]) (rest := []) (k0 := 1) (u1_lineBecome l D ca o z8 y (i := 8) (by decide)) kc_yX5_become ⟨hx, hb, hml, hown, hts⟩ wq_548 rfl rfl ⟨Nat.le_of_ble_eq_true rfl, Nat.le_of_ble_eq_true rfl⟩ wq_all hP hK hS qw_Ai (q0 := 61) (by decide) (hgU_61 ca o _ _) rfl rfl hl.1 rfl (Nat.le_of_ble_eq_true rfl) dX9_become_80 ⟨Nat.zero_le _, Nat.zero_le _⟩ (fun u9 H locs h9 hP hS _ _ => ?_)
  obtain ⟨z9, y9⟩ := u9
  obtain ⟨h9f, h9y⟩ := h9
  dsimp only at h9f h9y hP
  rw [h9y] at hP
  have g9 : ∀ k : Nat, (k < 39 ∨ 77 ≤ k) → z9 k = z k := fun k h0 => (h9f k h0).trans ((show ∀ k : Nat, (k < 39 ∨ 77 ≤ k) → z8 k = z k from (fun (k : Nat) (h0 : k < 39 ∨ 77 ≤ k) => g8 k h0)) k h0)
  refine lv_iinc (v := 9) (lv' := [(2, .int 9), (0, .ref (o + 39)), (1, .ref (o + 1))]) hx hb dX9_become_83 hl (k := 0) rfl (by decide) (by decide) rfl (fun ls hl => ?_)
  refine lv_goto (tgt := 62) hx hb dX9_become_86 (by decide) ?_
  refine lv_iload_n hx hb dX9_become_62 rfl (lv_at hl 0 rfl) ?_
  refine lv_bipush (v := 16) hx hb dX9_become_63 (by decide) ?_
  refine lv_icmp_ge (tgt := 89) hx hb dX9_become_65 (by decide) (fun q => absurd q (by decide)) (fun _ => ?_)
  refine lv_aload_n hx hb dX9_become_68 rfl (lv_at hl 1 rfl) ?_
  refine qf_get hx hb hts inX9 hown hK hP (q0 := 39) (by decide) (hgU_39 ca o) rfl 4 (by decide) wq_94 (v := .ref (o + 44)) rfl dX9_become_69 ?_
  refine lv_iload_n hx hb dX9_become_72 rfl (lv_at hl 0 rfl) ?_
  refine qa_aald hx hb hK hP (q0 := 44) (by decide) 4 rfl (N := 16) (hgU_44 ca o) rfl (gi_in (by decide) (by decide)) dX9_become_73 ?_
  refine lv_aload_n hx hb dX9_become_74 rfl (lv_at hl 2 rfl) ?_
  refine qf_get hx hb hts inX9 hown hK hP (q0 := 1) (by decide) (hgU_1 ca o) rfl 4 (by decide) wq_94 (v := .ref (o + 6)) rfl dX9_become_75 ?_
  refine lv_iload_n hx hb dX9_become_78 rfl (lv_at hl 0 rfl) ?_
  refine qa_aald hx hb hK hP (q0 := 6) (by decide) 4 rfl (N := 16) (hgU_6 ca o) rfl (gi_in (by decide) (by decide)) dX9_become_79 ?_
  refine qc_Vv (As := [.ref (o + (7 + 2 * (9 : Int32).toNatClampNeg))]) (rest := []) (k0 := 1) (u1_lineBecome l D ca o z9 y (i := 9) (by decide)) kc_yX5_become ⟨hx, hb, hml, hown, hts⟩ wq_548 rfl rfl ⟨Nat.le_of_ble_eq_true rfl, Nat.le_of_ble_eq_true rfl⟩ wq_all hP hK hS qw_Ai (q0 := 63) (by decide) (hgU_63 ca o _ _) rfl rfl hl.1 rfl (Nat.le_of_ble_eq_true rfl) dX9_become_80 ⟨Nat.zero_le _, Nat.zero_le _⟩ (fun u10 H locs h10 hP hS _ _ => ?_)
  obtain ⟨z10, y10⟩ := u10
  obtain ⟨h10f, h10y⟩ := h10
  dsimp only at h10f h10y hP
  rw [h10y] at hP
  have g10 : ∀ k : Nat, (k < 39 ∨ 77 ≤ k) → z10 k = z k := fun k h0 => (h10f k h0).trans ((show ∀ k : Nat, (k < 39 ∨ 77 ≤ k) → z9 k = z k from (fun (k : Nat) (h0 : k < 39 ∨ 77 ≤ k) => g9 k h0)) k h0)
  refine lv_iinc (v := 10) (lv' := [(2, .int 10), (0, .ref (o + 39)), (1, .ref (o + 1))]) hx hb dX9_become_83 hl (k := 0) rfl (by decide) (by decide) rfl (fun ls hl => ?_)
  refine lv_goto (tgt := 62) hx hb dX9_become_86 (by decide) ?_
  refine lv_iload_n hx hb dX9_become_62 rfl (lv_at hl 0 rfl) ?_
  refine lv_bipush (v := 16) hx hb dX9_become_63 (by decide) ?_
  refine lv_icmp_ge (tgt := 89) hx hb dX9_become_65 (by decide) (fun q => absurd q (by decide)) (fun _ => ?_)
  refine lv_aload_n hx hb dX9_become_68 rfl (lv_at hl 1 rfl) ?_
  refine qf_get hx hb hts inX9 hown hK hP (q0 := 39) (by decide) (hgU_39 ca o) rfl 4 (by decide) wq_94 (v := .ref (o + 44)) rfl dX9_become_69 ?_
  refine lv_iload_n hx hb dX9_become_72 rfl (lv_at hl 0 rfl) ?_
  refine qa_aald hx hb hK hP (q0 := 44) (by decide) 4 rfl (N := 16) (hgU_44 ca o) rfl (gi_in (by decide) (by decide)) dX9_become_73 ?_
  refine lv_aload_n hx hb dX9_become_74 rfl (lv_at hl 2 rfl) ?_
  refine qf_get hx hb hts inX9 hown hK hP (q0 := 1) (by decide) (hgU_1 ca o) rfl 4 (by decide) wq_94 (v := .ref (o + 6)) rfl dX9_become_75 ?_
  refine lv_iload_n hx hb dX9_become_78 rfl (lv_at hl 0 rfl) ?_
  refine qa_aald hx hb hK hP (q0 := 6) (by decide) 4 rfl (N := 16) (hgU_6 ca o) rfl (gi_in (by decide) (by decide)) dX9_become_79 ?_
  refine qc_Vv (As := [.ref (o + (7 + 2 * (10 : Int32).toNatClampNeg))]) (rest := []) (k0 := 1) (u1_lineBecome l D ca o z10 y (i := 10) (by decide)) kc_yX5_become ⟨hx, hb, hml, hown, hts⟩ wq_548 rfl rfl ⟨Nat.le_of_ble_eq_true rfl, Nat.le_of_ble_eq_true rfl⟩ wq_all hP hK hS qw_Ai (q0 := 65) (by decide) (hgU_65 ca o _ _) rfl rfl hl.1 rfl (Nat.le_of_ble_eq_true rfl) dX9_become_80 ⟨Nat.zero_le _, Nat.zero_le _⟩ (fun u11 H locs h11 hP hS _ _ => ?_)
  obtain ⟨z11, y11⟩ := u11
  obtain ⟨h11f, h11y⟩ := h11
  dsimp only at h11f h11y hP
  rw [h11y] at hP
  have g11 : ∀ k : Nat, (k < 39 ∨ 77 ≤ k) → z11 k = z k := fun k h0 => (h11f k h0).trans ((show ∀ k : Nat, (k < 39 ∨ 77 ≤ k) → z10 k = z k from (fun (k : Nat) (h0 : k < 39 ∨ 77 ≤ k) => g10 k h0)) k h0)
  refine lv_iinc (v := 11) (lv' := [(2, .int 11), (0, .ref (o + 39)), (1, .ref (o + 1))]) hx hb dX9_become_83 hl (k := 0) rfl (by decide) (by decide) rfl (fun ls hl => ?_)
  refine lv_goto (tgt := 62) hx hb dX9_become_86 (by decide) ?_
  refine lv_iload_n hx hb dX9_become_62 rfl (lv_at hl 0 rfl) ?_
  refine lv_bipush (v := 16) hx hb dX9_become_63 (by decide) ?_
  refine lv_icmp_ge (tgt := 89) hx hb dX9_become_65 (by decide) (fun q => absurd q (by decide)) (fun _ => ?_)
  refine lv_aload_n hx hb dX9_become_68 rfl (lv_at hl 1 rfl) ?_
  refine qf_get hx hb hts inX9 hown hK hP (q0 := 39) (by decide) (hgU_39 ca o) rfl 4 (by decide) wq_94 (v := .ref (o + 44)) rfl dX9_become_69 ?_
  refine lv_iload_n hx hb dX9_become_72 rfl (lv_at hl 0 rfl) ?_
  refine qa_aald hx hb hK hP (q0 := 44) (by decide) 4 rfl (N := 16) (hgU_44 ca o) rfl (gi_in (by decide) (by decide)) dX9_become_73 ?_
  refine lv_aload_n hx hb dX9_become_74 rfl (lv_at hl 2 rfl) ?_
  refine qf_get hx hb hts inX9 hown hK hP (q0 := 1) (by decide) (hgU_1 ca o) rfl 4 (by decide) wq_94 (v := .ref (o + 6)) rfl dX9_become_75 ?_
  refine lv_iload_n hx hb dX9_become_78 rfl (lv_at hl 0 rfl) ?_
  refine qa_aald hx hb hK hP (q0 := 6) (by decide) 4 rfl (N := 16) (hgU_6 ca o) rfl (gi_in (by decide) (by decide)) dX9_become_79 ?_
  refine qc_Vv (As := [.ref (o + (7 + 2 * (11 : Int32).toNatClampNeg))]) (rest := []) (k0 := 1) (u1_lineBecome l D ca o z11 y (i := 11) (by decide)) kc_yX5_become ⟨hx, hb, hml, hown, hts⟩ wq_548 rfl rfl ⟨Nat.le_of_ble_eq_true rfl, Nat.le_of_ble_eq_true rfl⟩ wq_all hP hK hS qw_Ai (q0 := 67) (by decide) (hgU_67 ca o _ _) rfl rfl hl.1 rfl (Nat.le_of_ble_eq_true rfl) dX9_become_80 ⟨Nat.zero_le _, Nat.zero_le _⟩ (fun u12 H locs h12 hP hS _ _ => ?_)
  obtain ⟨z12, y12⟩ := u12
  obtain ⟨h12f, h12y⟩ := h12
  dsimp only at h12f h12y hP
  rw [h12y] at hP
  have g12 : ∀ k : Nat, (k < 39 ∨ 77 ≤ k) → z12 k = z k := fun k h0 => (h12f k h0).trans ((show ∀ k : Nat, (k < 39 ∨ 77 ≤ k) → z11 k = z k from (fun (k : Nat) (h0 : k < 39 ∨ 77 ≤ k) => g11 k h0)) k h0)
  refine lv_iinc (v := 12) (lv' := [(2, .int 12), (0, .ref (o + 39)), (1, .ref (o + 1))]) hx hb dX9_become_83 hl (k := 0) rfl (by decide) (by decide) rfl (fun ls hl => ?_)
  refine lv_goto (tgt := 62) hx hb dX9_become_86 (by decide) ?_
  refine lv_iload_n hx hb dX9_become_62 rfl (lv_at hl 0 rfl) ?_
  refine lv_bipush (v := 16) hx hb dX9_become_63 (by decide) ?_
  refine lv_icmp_ge (tgt := 89) hx hb dX9_become_65 (by decide) (fun q => absurd q (by decide)) (fun _ => ?_)
  refine lv_aload_n hx hb dX9_become_68 rfl (lv_at hl 1 rfl) ?_
  refine qf_get hx hb hts inX9 hown hK hP (q0 := 39) (by decide) (hgU_39 ca o) rfl 4 (by decide) wq_94 (v := .ref (o + 44)) rfl dX9_become_69 ?_
  refine lv_iload_n hx hb dX9_become_72 rfl (lv_at hl 0 rfl) ?_
  refine qa_aald hx hb hK hP (q0 := 44) (by decide) 4 rfl (N := 16) (hgU_44 ca o) rfl (gi_in (by decide) (by decide)) dX9_become_73 ?_
  refine lv_aload_n hx hb dX9_become_74 rfl (lv_at hl 2 rfl) ?_
  refine qf_get hx hb hts inX9 hown hK hP (q0 := 1) (by decide) (hgU_1 ca o) rfl 4 (by decide) wq_94 (v := .ref (o + 6)) rfl dX9_become_75 ?_
  refine lv_iload_n hx hb dX9_become_78 rfl (lv_at hl 0 rfl) ?_
  refine qa_aald hx hb hK hP (q0 := 6) (by decide) 4 rfl (N := 16) (hgU_6 ca o) rfl (gi_in (by decide) (by decide)) dX9_become_79 ?_
  refine qc_Vv (As := [.ref (o + (7 + 2 * (12 : Int32).toNatClampNeg))]) (rest := []) (k0 := 1) (u1_lineBecome l D ca o z12 y (i := 12) (by decide)) kc_yX5_become ⟨hx, hb, hml, hown, hts⟩ wq_548 rfl rfl ⟨Nat.le_of_ble_eq_true rfl, Nat.le_of_ble_eq_true rfl⟩ wq_all hP hK hS qw_Ai (q0 := 69) (by decide) (hgU_69 ca o _ _) rfl rfl hl.1 rfl (Nat.le_of_ble_eq_true rfl) dX9_become_80 ⟨Nat.zero_le _, Nat.zero_le _⟩ (fun u13 H locs h13 hP hS _ _ => ?_)
  obtain ⟨z13, y13⟩ := u13
  obtain ⟨h13f, h13y⟩ := h13
  dsimp only at h13f h13y hP
  rw [h13y] at hP
  have g13 : ∀ k : Nat, (k < 39 ∨ 77 ≤ k) → z13 k = z k := fun k h0 => (h13f k h0).trans ((show ∀ k : Nat, (k < 39 ∨ 77 ≤ k) → z12 k = z k from (fun (k : Nat) (h0 : k < 39 ∨ 77 ≤ k) => g12 k h0)) k h0)
  refine lv_iinc (v := 13) (lv' := [(2, .int 13), (0, .ref (o + 39)), (1, .ref (o + 1))]) hx hb dX9_become_83 hl (k := 0) rfl (by decide) (by decide) rfl (fun ls hl => ?_)
  refine lv_goto (tgt := 62) hx hb dX9_become_86 (by decide) ?_
  refine lv_iload_n hx hb dX9_become_62 rfl (lv_at hl 0 rfl) ?_
  refine lv_bipush (v := 16) hx hb dX9_become_63 (by decide) ?_
  refine lv_icmp_ge (tgt := 89) hx hb dX9_become_65 (by decide) (fun q => absurd q (by decide)) (fun _ => ?_)
  refine lv_aload_n hx hb dX9_become_68 rfl (lv_at hl 1 rfl) ?_
  refine qf_get hx hb hts inX9 hown hK hP (q0 := 39) (by decide) (hgU_39 ca o) rfl 4 (by decide) wq_94 (v := .ref (o + 44)) rfl dX9_become_69 ?_
  refine lv_iload_n hx hb dX9_become_72 rfl (lv_at hl 0 rfl) ?_
  refine qa_aald hx hb hK hP (q0 := 44) (by decide) 4 rfl (N := 16) (hgU_44 ca o) rfl (gi_in (by decide) (by decide)) dX9_become_73 ?_
  refine lv_aload_n hx hb dX9_become_74 rfl (lv_at hl 2 rfl) ?_
  refine qf_get hx hb hts inX9 hown hK hP (q0 := 1) (by decide) (hgU_1 ca o) rfl 4 (by decide) wq_94 (v := .ref (o + 6)) rfl dX9_become_75 ?_
  refine lv_iload_n hx hb dX9_become_78 rfl (lv_at hl 0 rfl) ?_
  refine qa_aald hx hb hK hP (q0 := 6) (by decide) 4 rfl (N := 16) (hgU_6 ca o) rfl (gi_in (by decide) (by decide)) dX9_become_79 ?_
  refine qc_Vv (As := [.ref (o + (7 + 2 * (13 : Int32).toNatClampNeg))]) (rest := []) (k0 := 1) (u1_lineBecome l D ca o z13 y (i := 13) (by decide)) kc_yX5_become ⟨hx, hb, hml, hown, hts⟩ wq_548 rfl rfl ⟨Nat.le_of_ble_eq_true rfl, Nat.le_of_ble_eq_true rfl⟩ wq_all hP hK hS qw_Ai (q0 := 71) (by decide) (hgU_71 ca o _ _) rfl rfl hl.1 rfl (Nat.le_of_ble_eq_true rfl) dX9_become_80 ⟨Nat.zero_le _, Nat.zero_le _⟩ (fun u14 H locs h14 hP hS _ _ => ?_)
  obtain ⟨z14, y14⟩ := u14
  obtain ⟨h14f, h14y⟩ := h14
  dsimp only at h14f h14y hP
  rw [h14y] at hP
  have g14 : ∀ k : Nat, (k < 39 ∨ 77 ≤ k) → z14 k = z k := fun k h0 => (h14f k h0).trans ((show ∀ k : Nat, (k < 39 ∨ 77 ≤ k) → z13 k = z k from (fun (k : Nat) (h0 : k < 39 ∨ 77 ≤ k) => g13 k h0)) k h0)
  refine lv_iinc (v := 14) (lv' := [(2, .int 14), (0, .ref (o + 39)), (1, .ref (o + 1))]) hx hb dX9_become_83 hl (k := 0) rfl (by decide) (by decide) rfl (fun ls hl => ?_)
  refine lv_goto (tgt := 62) hx hb dX9_become_86 (by decide) ?_
  refine lv_iload_n hx hb dX9_become_62 rfl (lv_at hl 0 rfl) ?_
  refine lv_bipush (v := 16) hx hb dX9_become_63 (by decide) ?_
  refine lv_icmp_ge (tgt := 89) hx hb dX9_become_65 (by decide) (fun q => absurd q (by decide)) (fun _ => ?_)
  refine lv_aload_n hx hb dX9_become_68 rfl (lv_at hl 1 rfl) ?_
  refine qf_get hx hb hts inX9 hown hK hP (q0 := 39) (by decide) (hgU_39 ca o) rfl 4 (by decide) wq_94 (v := .ref (o + 44)) rfl dX9_become_69 ?_
  refine lv_iload_n hx hb dX9_become_72 rfl (lv_at hl 0 rfl) ?_
  refine qa_aald hx hb hK hP (q0 := 44) (by decide) 4 rfl (N := 16) (hgU_44 ca o) rfl (gi_in (by decide) (by decide)) dX9_become_73 ?_
  refine lv_aload_n hx hb dX9_become_74 rfl (lv_at hl 2 rfl) ?_
  refine qf_get hx hb hts inX9 hown hK hP (q0 := 1) (by decide) (hgU_1 ca o) rfl 4 (by decide) wq_94 (v := .ref (o + 6)) rfl dX9_become_75 ?_
  refine lv_iload_n hx hb dX9_become_78 rfl (lv_at hl 0 rfl) ?_
  refine qa_aald hx hb hK hP (q0 := 6) (by decide) 4 rfl (N := 16) (hgU_6 ca o) rfl (gi_in (by decide) (by decide)) dX9_become_79 ?_
  refine qc_Vv (As := [.ref (o + (7 + 2 * (14 : Int32).toNatClampNeg))]) (rest := []) (k0 := 1) (u1_lineBecome l D ca o z14 y (i := 14) (by decide)) kc_yX5_become ⟨hx, hb, hml, hown, hts⟩ wq_548 rfl rfl ⟨Nat.le_of_ble_eq_true rfl, Nat.le_of_ble_eq_true rfl⟩ wq_all hP hK hS qw_Ai (q0 := 73) (by decide) (hgU_73 ca o _ _) rfl rfl hl.1 rfl (Nat.le_of_ble_eq_true rfl) dX9_become_80 ⟨Nat.zero_le _, Nat.zero_le _⟩ (fun u15 H locs h15 hP hS _ _ => ?_)
  obtain ⟨z15, y15⟩ := u15
  obtain ⟨h15f, h15y⟩ := h15
  dsimp only at h15f h15y hP
  rw [h15y] at hP
  have g15 : ∀ k : Nat, (k < 39 ∨ 77 ≤ k) → z15 k = z k := fun k h0 => (h15f k h0).trans ((show ∀ k : Nat, (k < 39 ∨ 77 ≤ k) → z14 k = z k from (fun (k : Nat) (h0 : k < 39 ∨ 77 ≤ k) => g14 k h0)) k h0)
  refine lv_iinc (v := 15) (lv' := [(2, .int 15), (0, .ref (o + 39)), (1, .ref (o + 1))]) hx hb dX9_become_83 hl (k := 0) rfl (by decide) (by decide) rfl (fun ls hl => ?_)
  refine lv_goto (tgt := 62) hx hb dX9_become_86 (by decide) ?_
  refine lv_iload_n hx hb dX9_become_62 rfl (lv_at hl 0 rfl) ?_
  refine lv_bipush (v := 16) hx hb dX9_become_63 (by decide) ?_
  refine lv_icmp_ge (tgt := 89) hx hb dX9_become_65 (by decide) (fun q => absurd q (by decide)) (fun _ => ?_)
  refine lv_aload_n hx hb dX9_become_68 rfl (lv_at hl 1 rfl) ?_
  refine qf_get hx hb hts inX9 hown hK hP (q0 := 39) (by decide) (hgU_39 ca o) rfl 4 (by decide) wq_94 (v := .ref (o + 44)) rfl dX9_become_69 ?_
  refine lv_iload_n hx hb dX9_become_72 rfl (lv_at hl 0 rfl) ?_
  refine qa_aald hx hb hK hP (q0 := 44) (by decide) 4 rfl (N := 16) (hgU_44 ca o) rfl (gi_in (by decide) (by decide)) dX9_become_73 ?_
  refine lv_aload_n hx hb dX9_become_74 rfl (lv_at hl 2 rfl) ?_
  refine qf_get hx hb hts inX9 hown hK hP (q0 := 1) (by decide) (hgU_1 ca o) rfl 4 (by decide) wq_94 (v := .ref (o + 6)) rfl dX9_become_75 ?_
  refine lv_iload_n hx hb dX9_become_78 rfl (lv_at hl 0 rfl) ?_
  refine qa_aald hx hb hK hP (q0 := 6) (by decide) 4 rfl (N := 16) (hgU_6 ca o) rfl (gi_in (by decide) (by decide)) dX9_become_79 ?_
  refine qc_Vv (As := [.ref (o + (7 + 2 * (15 : Int32).toNatClampNeg))]) (rest := []) (k0 := 1) (u1_lineBecome l D ca o z15 y (i := 15) (by decide)) kc_yX5_become ⟨hx, hb, hml, hown, hts⟩ wq_548 rfl rfl ⟨Nat.le_of_ble_eq_true rfl, Nat.le_of_ble_eq_true rfl⟩ wq_all hP hK hS qw_Ai (q0 := 75) (by decide) (hgU_75 ca o _ _) rfl rfl hl.1 rfl (Nat.le_of_ble_eq_true rfl) dX9_become_80 ⟨Nat.zero_le _, Nat.zero_le _⟩ (fun u16 H locs h16 hP hS _ _ => ?_)
  obtain ⟨z16, y16⟩ := u16
  obtain ⟨h16f, h16y⟩ := h16
  dsimp only at h16f h16y hP
  rw [h16y] at hP
  have g16 : ∀ k : Nat, (k < 39 ∨ 77 ≤ k) → z16 k = z k := fun k h0 => (h16f k h0).trans ((show ∀ k : Nat, (k < 39 ∨ 77 ≤ k) → z15 k = z k from (fun (k : Nat) (h0 : k < 39 ∨ 77 ≤ k) => g15 k h0)) k h0)
  refine lv_iinc (v := 16) (lv' := [(2, .int 16), (0, .ref (o + 39)), (1, .ref (o + 1))]) hx hb dX9_become_83 hl (k := 0) rfl (by decide) (by decide) rfl (fun ls hl => ?_)
  refine lv_goto (tgt := 62) hx hb dX9_become_86 (by decide) ?_
  refine lv_iload_n hx hb dX9_become_62 rfl (lv_at hl 0 rfl) ?_
  refine lv_bipush (v := 16) hx hb dX9_become_63 (by decide) ?_
  refine lv_icmp_ge (tgt := 89) hx hb dX9_become_65 (by decide) (fun _ => ?_) (fun q => absurd (by decide) q)
  refine lv_aload_n hx hb dX9_become_89 rfl (lv_at hl 1 rfl) ?_
  refine lv_aload_n hx hb dX9_become_90 rfl (lv_at hl 2 rfl) ?_
  refine qf_get hx hb hts inX9 hown hK hP (q0 := 1) (by decide) (hgU_1 ca o) rfl 5 (by decide) wq_99 (v := .int (z16 1 5)) rfl dX9_become_91 ?_
  refine lv_topi (fun x17 e17 => ?_)
  refine qf_put hx hb hts inX9 tyX9 tyX9_ok nmX9 hown hK hP hS qw_Ai (q0 := 39) (by decide) (hgU_39 ca o) rfl 5 (by decide) wq_99 rfl (x := x17) 5 rfl rfl rfl (Nat.le_of_ble_eq_true rfl) dX9_become_94 (fun H locs hP hS => ?_)
  refine lv_aload_n hx hb dX9_become_97 rfl (lv_at hl 1 rfl) ?_
  refine lv_aload_n hx hb dX9_become_98 rfl (lv_at hl 2 rfl) ?_
  refine qf_get hx hb hts inX9 hown hK hP (q0 := 1) (by decide) (hgU_1 ca o) rfl 6 (by decide) wq_100 (v := .int ((qu z16 39 5 x17) 1 6)) rfl dX9_become_99 ?_
  refine lv_topi (fun x18 e18 => ?_)
  refine qf_put hx hb hts inX9 tyX9 tyX9_ok nmX9 hown hK hP hS qw_Ai (q0 := 39) (by decide) (hgU_39 ca o) rfl 6 (by decide) wq_100 rfl (x := x18) 6 rfl rfl rfl (Nat.le_of_ble_eq_true rfl) dX9_become_102 (fun H locs hP hS => ?_)
  refine lv_aload_n hx hb dX9_become_105 rfl (lv_at hl 1 rfl) ?_
  refine lv_aload_n hx hb dX9_become_106 rfl (lv_at hl 2 rfl) ?_
  refine qf_get hx hb hts inX9 hown hK hP (q0 := 1) (by decide) (hgU_1 ca o) rfl 7 (by decide) wq_102 (v := .int ((qu (qu z16 39 5 x17) 39 6 x18) 1 7)) rfl dX9_become_107 ?_
  refine lv_topi (fun x19 e19 => ?_)
  refine qf_put hx hb hts inX9 tyX9 tyX9_ok nmX9 hown hK hP hS qw_Ai (q0 := 39) (by decide) (hgU_39 ca o) rfl 7 (by decide) wq_102 rfl (x := x19) 7 rfl rfl rfl (Nat.le_of_ble_eq_true rfl) dX9_become_110 (fun H locs hP hS => ?_)
  exact W.vret hx hb hr (fun t ht hW => ⟨⟨((qu (qu (qu z16 39 5 x17) 39 6 x18) 39 7 x19), y), rfl, ⟨(fun (k : Nat) (h0 : k < 39 ∨ 77 ≤ k) => by simp only [qu_ne (show k ≠ 39 from by omega)]; exact g16 k h0), rfl⟩, by rw [ht]; exact hP, va_K.moved hW.alike hK⟩, hS.F ht⟩) hS.2.2 dX9_become_113
