theorem kc_yX11_in : qT yX11_in cX11_in 3 (some .boolean) 3 := ⟨wq_1188, wq_13, wq_1189, by decide +kernel, by decide +kernel, by decide +kernel⟩
theorem kc_yX11_has : qT yX11_has cX11_has 2 (some .boolean) 2 := ⟨wq_1199, wq_13, wq_1200, by decide +kernel, by decide +kernel, by decide +kernel⟩
theorem kc_yX11_bits : qT yX11_bits cX11_bits 3 (some .int) 1 := ⟨wq_1297, wq_13, wq_1298, by decide +kernel, by decide +kernel, by decide +kernel⟩
theorem kc_yX11_isPerson : qV yX11_isPerson cX11_isPerson 2 (some .boolean) 1 := ⟨wq_1196, wS_yX11_isPerson, wq_13, wq_1197, by decide +kernel, by decide +kernel, by decide +kernel⟩
theorem kc_yX11_areTwo : qV yX11_areTwo cX11_areTwo 3 (some .boolean) 2 := ⟨wq_1386, wS_yX11_areTwo, wq_13, wq_1387, by decide +kernel, by decide +kernel, by decide +kernel⟩
theorem kc_yX11_isRemark : qV yX11_isRemark cX11_isRemark 2 (some .boolean) 1 := ⟨wq_1309, wS_yX11_isRemark, wq_13, wq_1310, by decide +kernel, by decide +kernel, by decide +kernel⟩
theorem kc_yX11_isForm : qV yX11_isForm cX11_isForm 2 (some .boolean) 1 := ⟨wq_1435, wS_yX11_isForm, wq_13, wq_1436, by decide +kernel, by decide +kernel, by decide +kernel⟩
theorem kc_yX11_toldRemarks : qV yX11_toldRemarks cX11_toldRemarks 1 (some .int) 0 := ⟨wq_1330, wS_yX11_toldRemarks, wq_13, wq_1331, by decide +kernel, by decide +kernel, by decide +kernel⟩
theorem kc_yX11_areRemarks : qV yX11_areRemarks cX11_areRemarks 2 (some .boolean) 1 := ⟨wq_1326, wS_yX11_areRemarks, wq_13, wq_1327, by decide +kernel, by decide +kernel, by decide +kernel⟩
theorem kc_yX11_rowMany : qV yX11_rowMany cX11_rowMany 3 (some .int) 0 := ⟨wq_1317, wS_yX11_rowMany, wq_13, wq_1318, by decide +kernel, by decide +kernel, by decide +kernel⟩
theorem kc_yX11_nextRow : qV yX11_nextRow cX11_nextRow 2 (some .boolean) 0 := ⟨wq_1354, wS_yX11_nextRow, wq_13, wq_1355, by decide +kernel, by decide +kernel, by decide +kernel⟩
theorem kc_yX11_squaresIn : qV yX11_squaresIn cX11_squaresIn 5 (some .int) 1 := ⟨wq_1513, wS_yX11_squaresIn, wq_13, wq_1514, by decide +kernel, by decide +kernel, by decide +kernel⟩
theorem kc_yX11_textOf : qV yX11_textOf cX11_textOf 7 (some .int) 3 := ⟨wq_1219, wS_yX11_textOf, wq_13, wq_1220, by decide +kernel, by decide +kernel, by decide +kernel⟩
theorem kc_yX11_fitsAll : qV yX11_fitsAll cX11_fitsAll 3 (some .boolean) 1 := ⟨wq_1342, wS_yX11_fitsAll, wq_13, wq_1343, by decide +kernel, by decide +kernel, by decide +kernel⟩
theorem kc_yX11_firstRow : qV yX11_firstRow cX11_firstRow 2 none 0 := ⟨wq_1338, wS_yX11_firstRow, wq_13, wq_1339, by decide +kernel, by decide +kernel, by decide +kernel⟩
theorem kc_yX11_findsRow : qV yX11_findsRow cX11_findsRow 3 (some .boolean) 1 := ⟨wq_1334, wS_yX11_findsRow, wq_13, wq_1335, by decide +kernel, by decide +kernel, by decide +kernel⟩
theorem kc_yX11_counts : qV yX11_counts cX11_counts 4 none 0 := ⟨wq_1358, wS_yX11_counts, wq_13, wq_1359, by decide +kernel, by decide +kernel, by decide +kernel⟩
theorem kc_yX11_fitting : qV yX11_fitting cX11_fitting 4 (some .int) 1 := ⟨wq_1362, wS_yX11_fitting, wq_13, wq_1363, by decide +kernel, by decide +kernel, by decide +kernel⟩
theorem kc_yX11_offIn : qV yX11_offIn cX11_offIn 5 (some .int) 1 := ⟨wq_1419, wS_yX11_offIn, wq_13, wq_1420, by decide +kernel, by decide +kernel, by decide +kernel⟩
theorem kc_yX11_lists : qV yX11_lists cX11_lists 4 (some .boolean) 1 := ⟨wq_1439, wS_yX11_lists, wq_13, wq_1440, by decide +kernel, by decide +kernel, by decide +kernel⟩
theorem kc_yX11_types : qV yX11_types cX11_types 3 none 1 := ⟨wq_1211, wS_yX11_types, wq_13, wq_1212, by decide +kernel, by decide +kernel, by decide +kernel⟩
theorem kc_yX11_moved : qV yX11_moved cX11_moved 4 (some .int) 2 := ⟨wq_1601, wS_yX11_moved, wq_13, wq_1602, by decide +kernel, by decide +kernel, by decide +kernel⟩
theorem kc_yX11_movesAll : qV yX11_movesAll cX11_movesAll 4 none 2 := ⟨wq_1605, wS_yX11_movesAll, wq_13, wq_1606, by decide +kernel, by decide +kernel, by decide +kernel⟩
theorem kc_yX11_moves : qV yX11_moves cX11_moves 2 none 1 := ⟨wq_1597, wS_yX11_moves, wq_13, wq_1598, by decide +kernel, by decide +kernel, by decide +kernel⟩
set_option maxRecDepth 100000 in
set_option maxHeartbeats 4000000 in
theorem m1_in (l : Launch) (D : va_G) (ca : Nat → ClassId) (o : Nat) (z : Nat → Nat → Int32) (y : Nat → Nat → Int64) (a1 a2 a3 : Int32)  : qM l yX11_in cX11_in 3 (some .boolean) 1 60 (qPre D vwCl (qT6 ca) o 41 (qG (GM ca o) z y) [.int a1, .int a2, .int a3]) (va_Qi (fun r _ => (r = 1 ∧ a2.toInt ≤ a1.toInt ∧ a1.toInt ≤ a3.toInt) ∨ (r = 0 ∧ (a1.toInt < a2.toInt ∨ a3.toInt < a1.toInt))) (qB D vwCl (qT6 ca) o 41 (fun _ : Unit => qG (GM ca o) z y)) (qw_A o 41)) (qw_A o 41) := by
  refine Met.ofW (cc := cX11_in) (maxL := 3) (ret := (some .boolean)) (by decide) rfl ?_
  intro p e s m args below meth c s₁ B hml hv
  obtain ⟨rfl, hP, hK⟩ := hv
  have hx := B.exec
  have hb := B.bytes
  have hr := B.returns
  have hts0 := atoms_spec (ws := Cond.code yX11_in cX11_in 3 (some .boolean) :: qtbl) B.pre
  have hts : ∀ w ∈ qtbl, w.before _ s = true := fun w h => hts0 w (List.mem_cons_of_mem _ h)
  have hown : s.vm.findClass RX11 = some m.cls := findClass_of_methodNamed B.named
  have hlocks := B.notSynchronized
  have hz0 : (0 : Int32).toInt = 0 := rfl
  have hS : va_S (qw_A o 41) s.heap s.heap [] := va_S.rf
  have hl := lv_entry ([.int a1, .int a2, .int a3]) (n := 3) (Nat.le_of_ble_eq_true rfl)
  rw [lg_entry_eq]
  generalize (lg_sl ([.int a1, .int a2, .int a3]) ++ List.replicate (3 - (lg_sl ([.int a1, .int a2, .int a3])).length) Slot.unset).toArray = ls at hl ⊢
  have hl : lv_has ls 3 [(0, .int a1), (1, .int a2), (2, .int a3)] := hl
  refine lv_iload_n hx hb dX11_in_0 rfl (lv_at hl 0 rfl) ?_
  refine lv_iload_n hx hb dX11_in_1 rfl (lv_at hl 1 rfl) ?_
  refine lv_icmp_lt (tgt := 14) hx hb dX11_in_2 (by decide) (fun c1 => ?_) (fun c1 => ?_)
  · have t1 : a1.toInt < a2.toInt := gl_lt c1
    refine lv_iconst (v := 0) hx hb dX11_in_14 (by decide) ?_
    exact W.zret (v := 0) (ty := .boolean) hx hb hr rfl (fun t ht hW => ⟨⟨0, (), rfl, (Or.inr ⟨rfl, by omega⟩), by rw [ht]; exact hP, va_K.moved hW.alike hK⟩, hS.F ht⟩) hS.2.2 dX11_in_15
  · have t1 : a1.toInt ≥ a2.toInt := gl_nlt c1
    refine lv_iload_n hx hb dX11_in_5 rfl (lv_at hl 0 rfl) ?_
    refine lv_iload_n hx hb dX11_in_6 rfl (lv_at hl 2 rfl) ?_
    refine lv_icmp_gt (tgt := 14) hx hb dX11_in_7 (by decide) (fun c2 => ?_) (fun c2 => ?_)
    · have t2 : a1.toInt > a3.toInt := gl_lt c2
      refine lv_iconst (v := 0) hx hb dX11_in_14 (by decide) ?_
      exact W.zret (v := 0) (ty := .boolean) hx hb hr rfl (fun t ht hW => ⟨⟨0, (), rfl, (Or.inr ⟨rfl, by omega⟩), by rw [ht]; exact hP, va_K.moved hW.alike hK⟩, hS.F ht⟩) hS.2.2 dX11_in_15
    · have t2 : a1.toInt ≤ a3.toInt := gl_nlt c2
      refine lv_iconst (v := 1) hx hb dX11_in_10 (by decide) ?_
      refine lv_goto (tgt := 15) hx hb dX11_in_11 (by decide) ?_
      exact W.zret (v := 1) (ty := .boolean) hx hb hr rfl (fun t ht hW => ⟨⟨1, (), rfl, (Or.inl ⟨rfl, by omega⟩), by rw [ht]; exact hP, va_K.moved hW.alike hK⟩, hS.F ht⟩) hS.2.2 dX11_in_15

set_option maxRecDepth 100000 in
set_option maxHeartbeats 4000000 in
theorem m1_inT (l : Launch) (D : va_G) (ca : Nat → ClassId) (o : Nat) (z : Nat → Nat → Int32) (y : Nat → Nat → Int64) (a1 a2 a3 : Int32) (b1 : a2.toInt ≤ a1.toInt) (b2 : a1.toInt ≤ a3.toInt)  : qM l yX11_in cX11_in 3 (some .boolean) 1 60 (qPre D vwCl (qT6 ca) o 41 (qG (GM ca o) z y) [.int a1, .int a2, .int a3]) (va_Qi (fun r _ => r = 1) (qB D vwCl (qT6 ca) o 41 (fun _ : Unit => qG (GM ca o) z y)) (qw_A o 41)) (qw_A o 41) := by
  refine Met.ofW (cc := cX11_in) (maxL := 3) (ret := (some .boolean)) (by decide) rfl ?_
  intro p e s m args below meth c s₁ B hml hv
  obtain ⟨rfl, hP, hK⟩ := hv
  have hx := B.exec
  have hb := B.bytes
  have hr := B.returns
  have hts0 := atoms_spec (ws := Cond.code yX11_in cX11_in 3 (some .boolean) :: qtbl) B.pre
  have hts : ∀ w ∈ qtbl, w.before _ s = true := fun w h => hts0 w (List.mem_cons_of_mem _ h)
  have hown : s.vm.findClass RX11 = some m.cls := findClass_of_methodNamed B.named
  have hlocks := B.notSynchronized
  have hz0 : (0 : Int32).toInt = 0 := rfl
  have hS : va_S (qw_A o 41) s.heap s.heap [] := va_S.rf
  have hl := lv_entry ([.int a1, .int a2, .int a3]) (n := 3) (Nat.le_of_ble_eq_true rfl)
  rw [lg_entry_eq]
  generalize (lg_sl ([.int a1, .int a2, .int a3]) ++ List.replicate (3 - (lg_sl ([.int a1, .int a2, .int a3])).length) Slot.unset).toArray = ls at hl ⊢
  have hl : lv_has ls 3 [(0, .int a1), (1, .int a2), (2, .int a3)] := hl
  refine lv_iload_n hx hb dX11_in_0 rfl (lv_at hl 0 rfl) ?_
  refine lv_iload_n hx hb dX11_in_1 rfl (lv_at hl 1 rfl) ?_
  refine lv_icmp_lt (tgt := 14) hx hb dX11_in_2 (by decide) (fun c1 => ?_) (fun c1 => ?_)
  · have t1 : a1.toInt < a2.toInt := gl_lt c1
    refine lv_iconst (v := 0) hx hb dX11_in_14 (by decide) ?_
    exact W.zret (v := 0) (ty := .boolean) hx hb hr rfl (fun t ht hW => ⟨⟨0, (), rfl, (by exfalso; omega), by rw [ht]; exact hP, va_K.moved hW.alike hK⟩, hS.F ht⟩) hS.2.2 dX11_in_15
  · have t1 : a1.toInt ≥ a2.toInt := gl_nlt c1
    refine lv_iload_n hx hb dX11_in_5 rfl (lv_at hl 0 rfl) ?_
    refine lv_iload_n hx hb dX11_in_6 rfl (lv_at hl 2 rfl) ?_
    refine lv_icmp_gt (tgt := 14) hx hb dX11_in_7 (by decide) (fun c2 => ?_) (fun c2 => ?_)
    · have t2 : a1.toInt > a3.toInt := gl_lt c2
      refine lv_iconst (v := 0) hx hb dX11_in_14 (by decide) ?_
      exact W.zret (v := 0) (ty := .boolean) hx hb hr rfl (fun t ht hW => ⟨⟨0, (), rfl, (by exfalso; omega), by rw [ht]; exact hP, va_K.moved hW.alike hK⟩, hS.F ht⟩) hS.2.2 dX11_in_15
    · have t2 : a1.toInt ≤ a3.toInt := gl_nlt c2
      refine lv_iconst (v := 1) hx hb dX11_in_10 (by decide) ?_
      refine lv_goto (tgt := 15) hx hb dX11_in_11 (by decide) ?_
      exact W.zret (v := 1) (ty := .boolean) hx hb hr rfl (fun t ht hW => ⟨⟨1, (), rfl, rfl, by rw [ht]; exact hP, va_K.moved hW.alike hK⟩, hS.F ht⟩) hS.2.2 dX11_in_15

set_option maxRecDepth 100000 in
set_option maxHeartbeats 4000000 in
theorem m1_inF (l : Launch) (D : va_G) (ca : Nat → ClassId) (o : Nat) (z : Nat → Nat → Int32) (y : Nat → Nat → Int64) (a1 a2 a3 : Int32) (b1 : a1.toInt < a2.toInt ∨ a3.toInt < a1.toInt)  : qM l yX11_in cX11_in 3 (some .boolean) 1 60 (qPre D vwCl (qT6 ca) o 41 (qG (GM ca o) z y) [.int a1, .int a2, .int a3]) (va_Qi (fun r _ => r = 0) (qB D vwCl (qT6 ca) o 41 (fun _ : Unit => qG (GM ca o) z y)) (qw_A o 41)) (qw_A o 41) := by
  refine Met.ofW (cc := cX11_in) (maxL := 3) (ret := (some .boolean)) (by decide) rfl ?_
  intro p e s m args below meth c s₁ B hml hv
  obtain ⟨rfl, hP, hK⟩ := hv
  have hx := B.exec
  have hb := B.bytes
  have hr := B.returns
  have hts0 := atoms_spec (ws := Cond.code yX11_in cX11_in 3 (some .boolean) :: qtbl) B.pre
  have hts : ∀ w ∈ qtbl, w.before _ s = true := fun w h => hts0 w (List.mem_cons_of_mem _ h)
  have hown : s.vm.findClass RX11 = some m.cls := findClass_of_methodNamed B.named
  have hlocks := B.notSynchronized
  have hz0 : (0 : Int32).toInt = 0 := rfl
  have hS : va_S (qw_A o 41) s.heap s.heap [] := va_S.rf
  have hl := lv_entry ([.int a1, .int a2, .int a3]) (n := 3) (Nat.le_of_ble_eq_true rfl)
  rw [lg_entry_eq]
  generalize (lg_sl ([.int a1, .int a2, .int a3]) ++ List.replicate (3 - (lg_sl ([.int a1, .int a2, .int a3])).length) Slot.unset).toArray = ls at hl ⊢
  have hl : lv_has ls 3 [(0, .int a1), (1, .int a2), (2, .int a3)] := hl
  refine lv_iload_n hx hb dX11_in_0 rfl (lv_at hl 0 rfl) ?_
  refine lv_iload_n hx hb dX11_in_1 rfl (lv_at hl 1 rfl) ?_
  refine lv_icmp_lt (tgt := 14) hx hb dX11_in_2 (by decide) (fun c1 => ?_) (fun c1 => ?_)
  · have t1 : a1.toInt < a2.toInt := gl_lt c1
    refine lv_iconst (v := 0) hx hb dX11_in_14 (by decide) ?_
    exact W.zret (v := 0) (ty := .boolean) hx hb hr rfl (fun t ht hW => ⟨⟨0, (), rfl, rfl, by rw [ht]; exact hP, va_K.moved hW.alike hK⟩, hS.F ht⟩) hS.2.2 dX11_in_15
  · have t1 : a1.toInt ≥ a2.toInt := gl_nlt c1
    refine lv_iload_n hx hb dX11_in_5 rfl (lv_at hl 0 rfl) ?_
    refine lv_iload_n hx hb dX11_in_6 rfl (lv_at hl 2 rfl) ?_
    refine lv_icmp_gt (tgt := 14) hx hb dX11_in_7 (by decide) (fun c2 => ?_) (fun c2 => ?_)
    · have t2 : a1.toInt > a3.toInt := gl_lt c2
      refine lv_iconst (v := 0) hx hb dX11_in_14 (by decide) ?_
      exact W.zret (v := 0) (ty := .boolean) hx hb hr rfl (fun t ht hW => ⟨⟨0, (), rfl, rfl, by rw [ht]; exact hP, va_K.moved hW.alike hK⟩, hS.F ht⟩) hS.2.2 dX11_in_15
    · have t2 : a1.toInt ≤ a3.toInt := gl_nlt c2
      refine lv_iconst (v := 1) hx hb dX11_in_10 (by decide) ?_
      refine lv_goto (tgt := 15) hx hb dX11_in_11 (by decide) ?_
      exact W.zret (v := 1) (ty := .boolean) hx hb hr rfl (fun t ht hW => ⟨⟨1, (), rfl, (by exfalso; omega), by rw [ht]; exact hP, va_K.moved hW.alike hK⟩, hS.F ht⟩) hS.2.2 dX11_in_15

set_option maxRecDepth 100000 in
set_option maxHeartbeats 4000000 in
theorem m1_has0 (l : Launch) (D : va_G) (ca : Nat → ClassId) (o : Nat) (z : Nat → Nat → Int32) (y : Nat → Nat → Int64) (a2 : Int32)  : qM l yX11_has cX11_has 2 (some .boolean) 1 60 (qPre D vwCl (qT6 ca) o 41 (qG (GM ca o) z y) [.int 0, .int a2]) (va_Qi (fun r _ => r = 0) (qB D vwCl (qT6 ca) o 41 (fun _ : Unit => qG (GM ca o) z y)) (qw_A o 41)) (qw_A o 41) := by
  refine Met.ofW (cc := cX11_has) (maxL := 2) (ret := (some .boolean)) (by decide) rfl ?_
  intro p e s m args below meth c s₁ B hml hv
  obtain ⟨rfl, hP, hK⟩ := hv
  have hx := B.exec
  have hb := B.bytes
  have hr := B.returns
  have hts0 := atoms_spec (ws := Cond.code yX11_has cX11_has 2 (some .boolean) :: qtbl) B.pre
  have hts : ∀ w ∈ qtbl, w.before _ s = true := fun w h => hts0 w (List.mem_cons_of_mem _ h)
  have hown : s.vm.findClass RX11 = some m.cls := findClass_of_methodNamed B.named
  have hlocks := B.notSynchronized
  have hz0 : (0 : Int32).toInt = 0 := rfl
  have hS : va_S (qw_A o 41) s.heap s.heap [] := va_S.rf
  have hl := lv_entry ([.int 0, .int a2]) (n := 2) (Nat.le_of_ble_eq_true rfl)
  rw [lg_entry_eq]
  generalize (lg_sl ([.int 0, .int a2]) ++ List.replicate (2 - (lg_sl ([.int 0, .int a2])).length) Slot.unset).toArray = ls at hl ⊢
  have hl : lv_has ls 2 [(0, .int 0), (1, .int a2)] := hl
  refine lv_iload_n hx hb dX11_has_0 rfl (lv_at hl 0 rfl) ?_
  refine lv_iload_n hx hb dX11_has_1 rfl (lv_at hl 1 rfl) ?_
  refine lv_ishr hx hb dX11_has_2 ?_
  refine qtop (gi_0s _) ?_
  refine lv_iconst (v := 1) hx hb dX11_has_3 (by decide) ?_
  refine lv_iand hx hb dX11_has_4 ?_
  refine qtop (x' := 0) (by decide) ?_
  refine lv_iconst (v := 1) hx hb dX11_has_5 (by decide) ?_
  refine lv_icmp_ne (tgt := 13) hx hb dX11_has_6 (by decide) (fun _ => ?_) (fun q => absurd q (by decide))
  refine lv_iconst (v := 0) hx hb dX11_has_13 (by decide) ?_
  exact W.zret (v := 0) (ty := .boolean) hx hb hr rfl (fun t ht hW => ⟨⟨0, (), rfl, rfl, by rw [ht]; exact hP, va_K.moved hW.alike hK⟩, hS.F ht⟩) hS.2.2 dX11_has_14

set_option maxRecDepth 100000 in
set_option maxHeartbeats 4000000 in
theorem m1_bits0 (l : Launch) (D : va_G) (ca : Nat → ClassId) (o : Nat) (z : Nat → Nat → Int32) (y : Nat → Nat → Int64)   : qM l yX11_bits cX11_bits 3 (some .int) 1 60 (qPre D vwCl (qT6 ca) o 41 (qG (GM ca o) z y) [.int 0]) (va_Qi (fun r _ => r = 0) (qB D vwCl (qT6 ca) o 41 (fun _ : Unit => qG (GM ca o) z y)) (qw_A o 41)) (qw_A o 41) := by
  refine Met.ofW (cc := cX11_bits) (maxL := 3) (ret := (some .int)) (by decide) rfl ?_
  intro p e s m args below meth c s₁ B hml hv
  obtain ⟨rfl, hP, hK⟩ := hv
  have hx := B.exec
  have hb := B.bytes
  have hr := B.returns
  have hts0 := atoms_spec (ws := Cond.code yX11_bits cX11_bits 3 (some .int) :: qtbl) B.pre
  have hts : ∀ w ∈ qtbl, w.before _ s = true := fun w h => hts0 w (List.mem_cons_of_mem _ h)
  have hown : s.vm.findClass RX11 = some m.cls := findClass_of_methodNamed B.named
  have hlocks := B.notSynchronized
  have hz0 : (0 : Int32).toInt = 0 := rfl
  have hS : va_S (qw_A o 41) s.heap s.heap [] := va_S.rf
  have hl := lv_entry ([.int 0]) (n := 3) (Nat.le_of_ble_eq_true rfl)
  rw [lg_entry_eq]
  generalize (lg_sl ([.int 0]) ++ List.replicate (3 - (lg_sl ([.int 0])).length) Slot.unset).toArray = ls at hl ⊢
  have hl : lv_has ls 3 [(0, .int 0)] := hl
  refine lv_iconst (v := 0) hx hb dX11_bits_0 (by decide) ?_
  refine lv_istore_n (lv' := [(1, .int 0), (0, .int 0)]) hx hb dX11_bits_1 rfl hl (by decide) rfl (fun ls hl => ?_)
  refine lv_iconst (v := 0) hx hb dX11_bits_2 (by decide) ?_
  refine lv_istore_n (lv' := [(2, .int 0), (1, .int 0), (0, .int 0)]) hx hb dX11_bits_3 rfl hl (by decide) rfl (fun ls hl => ?_)
  refine lv_iload_n hx hb dX11_bits_4 rfl (lv_at hl 0 rfl) ?_
  refine lv_bipush (v := 16) hx hb dX11_bits_5 (by decide) ?_
  refine lv_icmp_ge (tgt := 24) hx hb dX11_bits_7 (by decide) (fun q => absurd q (by decide)) (fun _ => ?_)
  refine lv_iload_n hx hb dX11_bits_10 rfl (lv_at hl 1 rfl) ?_
  refine lv_iload_n hx hb dX11_bits_11 rfl (lv_at hl 2 rfl) ?_
  refine lv_iload_n hx hb dX11_bits_12 rfl (lv_at hl 0 rfl) ?_
  refine lv_ishr hx hb dX11_bits_13 ?_
  refine qtop (x' := 0) (by decide) ?_
  refine lv_iconst (v := 1) hx hb dX11_bits_14 (by decide) ?_
  refine lv_iand hx hb dX11_bits_15 ?_
  refine qtop (x' := 0) (by decide) ?_
  refine lv_iadd hx hb dX11_bits_16 ?_
  refine qtop (x' := 0) (by decide) ?_
  refine lv_istore_n (lv' := [(1, .int 0), (2, .int 0), (0, .int 0)]) hx hb dX11_bits_17 rfl hl (by decide) rfl (fun ls hl => ?_)
  refine lv_iinc (v := 1) (lv' := [(2, .int 1), (1, .int 0), (0, .int 0)]) hx hb dX11_bits_18 hl (k := 1) rfl (by decide) (by decide) rfl (fun ls hl => ?_)
  refine lv_goto (tgt := 4) hx hb dX11_bits_21 (by decide) ?_
  refine lv_iload_n hx hb dX11_bits_4 rfl (lv_at hl 0 rfl) ?_
  refine lv_bipush (v := 16) hx hb dX11_bits_5 (by decide) ?_
  refine lv_icmp_ge (tgt := 24) hx hb dX11_bits_7 (by decide) (fun q => absurd q (by decide)) (fun _ => ?_)
  refine lv_iload_n hx hb dX11_bits_10 rfl (lv_at hl 1 rfl) ?_
  refine lv_iload_n hx hb dX11_bits_11 rfl (lv_at hl 2 rfl) ?_
  refine lv_iload_n hx hb dX11_bits_12 rfl (lv_at hl 0 rfl) ?_
  refine lv_ishr hx hb dX11_bits_13 ?_
  refine qtop (x' := 0) (by decide) ?_
  refine lv_iconst (v := 1) hx hb dX11_bits_14 (by decide) ?_
  refine lv_iand hx hb dX11_bits_15 ?_
  refine qtop (x' := 0) (by decide) ?_
  refine lv_iadd hx hb dX11_bits_16 ?_
  refine qtop (x' := 0) (by decide) ?_
  refine lv_istore_n (lv' := [(1, .int 0), (2, .int 1), (0, .int 0)]) hx hb dX11_bits_17 rfl hl (by decide) rfl (fun ls hl => ?_)
  refine lv_iinc (v := 2) (lv' := [(2, .int 2), (1, .int 0), (0, .int 0)]) hx hb dX11_bits_18 hl (k := 1) rfl (by decide) (by decide) rfl (fun ls hl => ?_)
  refine lv_goto (tgt := 4) hx hb dX11_bits_21 (by decide) ?_
  refine lv_iload_n hx hb dX11_bits_4 rfl (lv_at hl 0 rfl) ?_
  refine lv_bipush (v := 16) hx hb dX11_bits_5 (by decide) ?_
  refine lv_icmp_ge (tgt := 24) hx hb dX11_bits_7 (by decide) (fun q => absurd q (by decide)) (fun _ => ?_)
  refine lv_iload_n hx hb dX11_bits_10 rfl (lv_at hl 1 rfl) ?_
  refine lv_iload_n hx hb dX11_bits_11 rfl (lv_at hl 2 rfl) ?_
  refine lv_iload_n hx hb dX11_bits_12 rfl (lv_at hl 0 rfl) ?_
  refine lv_ishr hx hb dX11_bits_13 ?_
  refine qtop (x' := 0) (by decide) ?_
  refine lv_iconst (v := 1) hx hb dX11_bits_14 (by decide) ?_
  refine lv_iand hx hb dX11_bits_15 ?_
  refine qtop (x' := 0) (by decide) ?_
  refine lv_iadd hx hb dX11_bits_16 ?_
  refine qtop (x' := 0) (by decide) ?_
  refine lv_istore_n (lv' := [(1, .int 0), (2, .int 2), (0, .int 0)]) hx hb dX11_bits_17 rfl hl (by decide) rfl (fun ls hl => ?_)
  refine lv_iinc (v := 3) (lv' := [(2, .int 3), (1, .int 0), (0, .int 0)]) hx hb dX11_bits_18 hl (k := 1) rfl (by decide) (by decide) rfl (fun ls hl => ?_)
  refine lv_goto (tgt := 4) hx hb dX11_bits_21 (by decide) ?_
  refine lv_iload_n hx hb dX11_bits_4 rfl (lv_at hl 0 rfl) ?_
  refine lv_bipush (v := 16) hx hb dX11_bits_5 (by decide) ?_
  refine lv_icmp_ge (tgt := 24) hx hb dX11_bits_7 (by decide) (fun q => absurd q (by decide)) (fun _ => ?_)
  refine lv_iload_n hx hb dX11_bits_10 rfl (lv_at hl 1 rfl) ?_
  refine lv_iload_n hx hb dX11_bits_11 rfl (lv_at hl 2 rfl) ?_
  refine lv_iload_n hx hb dX11_bits_12 rfl (lv_at hl 0 rfl) ?_
  refine lv_ishr hx hb dX11_bits_13 ?_
  refine qtop (x' := 0) (by decide) ?_
  refine lv_iconst (v := 1) hx hb dX11_bits_14 (by decide) ?_
  refine lv_iand hx hb dX11_bits_15 ?_
  refine qtop (x' := 0) (by decide) ?_
  refine lv_iadd hx hb dX11_bits_16 ?_
  refine qtop (x' := 0) (by decide) ?_
  refine lv_istore_n (lv' := [(1, .int 0), (2, .int 3), (0, .int 0)]) hx hb dX11_bits_17 rfl hl (by decide) rfl (fun ls hl => ?_)
  refine lv_iinc (v := 4) (lv' := [(2, .int 4), (1, .int 0), (0, .int 0)]) hx hb dX11_bits_18 hl (k := 1) rfl (by decide) (by decide) rfl (fun ls hl => ?_)
  refine lv_goto (tgt := 4) hx hb dX11_bits_21 (by decide) ?_
  refine lv_iload_n hx hb dX11_bits_4 rfl (lv_at hl 0 rfl) ?_
  refine lv_bipush (v := 16) hx hb dX11_bits_5 (by decide) ?_
  refine lv_icmp_ge (tgt := 24) hx hb dX11_bits_7 (by decide) (fun q => absurd q (by decide)) (fun _ => ?_)
  refine lv_iload_n hx hb dX11_bits_10 rfl (lv_at hl 1 rfl) ?_
  refine lv_iload_n hx hb dX11_bits_11 rfl (lv_at hl 2 rfl) ?_
  refine lv_iload_n hx hb dX11_bits_12 rfl (lv_at hl 0 rfl) ?_
  refine lv_ishr hx hb dX11_bits_13 ?_
  refine qtop (x' := 0) (by decide) ?_
  refine lv_iconst (v := 1) hx hb dX11_bits_14 (by decide) ?_
  refine lv_iand hx hb dX11_bits_15 ?_
  refine qtop (x' := 0) (by decide) ?_
  refine lv_iadd hx hb dX11_bits_16 ?_
  refine qtop (x' := 0) (by decide) ?_
  refine lv_istore_n (lv' := [(1, .int 0), (2, .int 4), (0, .int 0)]) hx hb dX11_bits_17 rfl hl (by decide) rfl (fun ls hl => ?_)
  refine lv_iinc (v := 5) (lv' := [(2, .int 5), (1, .int 0), (0, .int 0)]) hx hb dX11_bits_18 hl (k := 1) rfl (by decide) (by decide) rfl (fun ls hl => ?_)
  refine lv_goto (tgt := 4) hx hb dX11_bits_21 (by decide) ?_
  refine lv_iload_n hx hb dX11_bits_4 rfl (lv_at hl 0 rfl) ?_
  refine lv_bipush (v := 16) hx hb dX11_bits_5 (by decide) ?_
  refine lv_icmp_ge (tgt := 24) hx hb dX11_bits_7 (by decide) (fun q => absurd q (by decide)) (fun _ => ?_)
  refine lv_iload_n hx hb dX11_bits_10 rfl (lv_at hl 1 rfl) ?_
  refine lv_iload_n hx hb dX11_bits_11 rfl (lv_at hl 2 rfl) ?_
  refine lv_iload_n hx hb dX11_bits_12 rfl (lv_at hl 0 rfl) ?_
  refine lv_ishr hx hb dX11_bits_13 ?_
  refine qtop (x' := 0) (by decide) ?_
  refine lv_iconst (v := 1) hx hb dX11_bits_14 (by decide) ?_
  refine lv_iand hx hb dX11_bits_15 ?_
  refine qtop (x' := 0) (by decide) ?_
  refine lv_iadd hx hb dX11_bits_16 ?_
  refine qtop (x' := 0) (by decide) ?_
  refine lv_istore_n (lv' := [(1, .int 0), (2, .int 5), (0, .int 0)]) hx hb dX11_bits_17 rfl hl (by decide) rfl (fun ls hl => ?_)
  refine lv_iinc (v := 6) (lv' := [(2, .int 6), (1, .int 0), (0, .int 0)]) hx hb dX11_bits_18 hl (k := 1) rfl (by decide) (by decide) rfl (fun ls hl => ?_)
  refine lv_goto (tgt := 4) hx hb dX11_bits_21 (by decide) ?_
  refine lv_iload_n hx hb dX11_bits_4 rfl (lv_at hl 0 rfl) ?_
  refine lv_bipush (v := 16) hx hb dX11_bits_5 (by decide) ?_
  refine lv_icmp_ge (tgt := 24) hx hb dX11_bits_7 (by decide) (fun q => absurd q (by decide)) (fun _ => ?_)
  refine lv_iload_n hx hb dX11_bits_10 rfl (lv_at hl 1 rfl) ?_
  refine lv_iload_n hx hb dX11_bits_11 rfl (lv_at hl 2 rfl) ?_
  refine lv_iload_n hx hb dX11_bits_12 rfl (lv_at hl 0 rfl) ?_
  refine lv_ishr hx hb dX11_bits_13 ?_
  refine qtop (x' := 0) (by decide) ?_
  refine lv_iconst (v := 1) hx hb dX11_bits_14 (by decide) ?_
  refine lv_iand hx hb dX11_bits_15 ?_
  refine qtop (x' := 0) (by decide) ?_
  refine lv_iadd hx hb dX11_bits_16 ?_
  refine qtop (x' := 0) (by decide) ?_
  refine lv_istore_n (lv' := [(1, .int 0), (2, .int 6), (0, .int 0)]) hx hb dX11_bits_17 rfl hl (by decide) rfl (fun ls hl => ?_)
  refine lv_iinc (v := 7) (lv' := [(2, .int 7), (1, .int 0), (0, .int 0)]) hx hb dX11_bits_18 hl (k := 1) rfl (by decide) (by decide) rfl (fun ls hl => ?_)
  refine lv_goto (tgt := 4) hx hb dX11_bits_21 (by decide) ?_
  refine lv_iload_n hx hb dX11_bits_4 rfl (lv_at hl 0 rfl) ?_
  refine lv_bipush (v := 16) hx hb dX11_bits_5 (by decide) ?_
  refine lv_icmp_ge (tgt := 24) hx hb dX11_bits_7 (by decide) (fun q => absurd q (by decide)) (fun _ => ?_)
  refine lv_iload_n hx hb dX11_bits_10 rfl (lv_at hl 1 rfl) ?_
  refine lv_iload_n hx hb dX11_bits_11 rfl (lv_at hl 2 rfl) ?_
  refine lv_iload_n hx hb dX11_bits_12 rfl (lv_at hl 0 rfl) ?_
  refine lv_ishr hx hb dX11_bits_13 ?_
  refine qtop (x' := 0) (by decide) ?_
  refine lv_iconst (v := 1) hx hb dX11_bits_14 (by decide) ?_
  refine lv_iand hx hb dX11_bits_15 ?_
  refine qtop (x' := 0) (by decide) ?_
  refine lv_iadd hx hb dX11_bits_16 ?_
  refine qtop (x' := 0) (by decide) ?_
  refine lv_istore_n (lv' := [(1, .int 0), (2, .int 7), (0, .int 0)]) hx hb dX11_bits_17 rfl hl (by decide) rfl (fun ls hl => ?_)
  refine lv_iinc (v := 8) (lv' := [(2, .int 8), (1, .int 0), (0, .int 0)]) hx hb dX11_bits_18 hl (k := 1) rfl (by decide) (by decide) rfl (fun ls hl => ?_)
  refine lv_goto (tgt := 4) hx hb dX11_bits_21 (by decide) ?_
  refine lv_iload_n hx hb dX11_bits_4 rfl (lv_at hl 0 rfl) ?_
  refine lv_bipush (v := 16) hx hb dX11_bits_5 (by decide) ?_
  refine lv_icmp_ge (tgt := 24) hx hb dX11_bits_7 (by decide) (fun q => absurd q (by decide)) (fun _ => ?_)
  refine lv_iload_n hx hb dX11_bits_10 rfl (lv_at hl 1 rfl) ?_
  refine lv_iload_n hx hb dX11_bits_11 rfl (lv_at hl 2 rfl) ?_
  refine lv_iload_n hx hb dX11_bits_12 rfl (lv_at hl 0 rfl) ?_
  refine lv_ishr hx hb dX11_bits_13 ?_
  refine qtop (x' := 0) (by decide) ?_
  refine lv_iconst (v := 1) hx hb dX11_bits_14 (by decide) ?_
  refine lv_iand hx hb dX11_bits_15 ?_
  refine qtop (x' := 0) (by decide) ?_
  refine lv_iadd hx hb dX11_bits_16 ?_
  refine qtop (x' := 0) (by decide) ?_
  refine lv_istore_n (lv' := [(1, .int 0), (2, .int 8), (0, .int 0)]) hx hb dX11_bits_17 rfl hl (by decide) rfl (fun ls hl => ?_)
  refine lv_iinc (v := 9) (lv' := [(2, .int 9), (1, .int 0), (0, .int 0)]) hx hb dX11_bits_18 hl (k := 1) rfl (by decide) (by decide) rfl (fun ls hl => ?_)
  refine lv_goto (tgt := 4) hx hb dX11_bits_21 (by decide) ?_
  refine lv_iload_n hx hb dX11_bits_4 rfl (lv_at hl 0 rfl) ?_
  refine lv_bipush (v := 16) hx hb dX11_bits_5 (by decide) ?_
  refine lv_icmp_ge (tgt := 24) hx hb dX11_bits_7 (by decide) (fun q => absurd q (by decide)) (fun _ => ?_)
  refine lv_iload_n hx hb dX11_bits_10 rfl (lv_at hl 1 rfl) ?_
  refine lv_iload_n hx hb dX11_bits_11 rfl (lv_at hl 2 rfl) ?_
  refine lv_iload_n hx hb dX11_bits_12 rfl (lv_at hl 0 rfl) ?_
  refine lv_ishr hx hb dX11_bits_13 ?_
  refine qtop (x' := 0) (by decide) ?_
  refine lv_iconst (v := 1) hx hb dX11_bits_14 (by decide) ?_
  refine lv_iand hx hb dX11_bits_15 ?_
  refine qtop (x' := 0) (by decide) ?_
  refine lv_iadd hx hb dX11_bits_16 ?_
  refine qtop (x' := 0) (by decide) ?_
  refine lv_istore_n (lv' := [(1, .int 0), (2, .int 9), (0, .int 0)]) hx hb dX11_bits_17 rfl hl (by decide) rfl (fun ls hl => ?_)
  refine lv_iinc (v := 10) (lv' := [(2, .int 10), (1, .int 0), (0, .int 0)]) hx hb dX11_bits_18 hl (k := 1) rfl (by decide) (by decide) rfl (fun ls hl => ?_)
  refine lv_goto (tgt := 4) hx hb dX11_bits_21 (by decide) ?_
  refine lv_iload_n hx hb dX11_bits_4 rfl (lv_at hl 0 rfl) ?_
  refine lv_bipush (v := 16) hx hb dX11_bits_5 (by decide) ?_
  refine lv_icmp_ge (tgt := 24) hx hb dX11_bits_7 (by decide) (fun q => absurd q (by decide)) (fun _ => ?_)
  refine lv_iload_n hx hb dX11_bits_10 rfl (lv_at hl 1 rfl) ?_
  refine lv_iload_n hx hb dX11_bits_11 rfl (lv_at hl 2 rfl) ?_
  refine lv_iload_n hx hb dX11_bits_12 rfl (lv_at hl 0 rfl) ?_
  refine lv_ishr hx hb dX11_bits_13 ?_
  refine qtop (x' := 0) (by decide) ?_
  refine lv_iconst (v := 1) hx hb dX11_bits_14 (by decide) ?_
  refine lv_iand hx hb dX11_bits_15 ?_
  refine qtop (x' := 0) (by decide) ?_
  refine lv_iadd hx hb dX11_bits_16 ?_
  refine qtop (x' := 0) (by decide) ?_
  refine lv_istore_n (lv' := [(1, .int 0), (2, .int 10), (0, .int 0)]) hx hb dX11_bits_17 rfl hl (by decide) rfl (fun ls hl => ?_)
  refine lv_iinc (v := 11) (lv' := [(2, .int 11), (1, .int 0), (0, .int 0)]) hx hb dX11_bits_18 hl (k := 1) rfl (by decide) (by decide) rfl (fun ls hl => ?_)
  refine lv_goto (tgt := 4) hx hb dX11_bits_21 (by decide) ?_
  refine lv_iload_n hx hb dX11_bits_4 rfl (lv_at hl 0 rfl) ?_
  refine lv_bipush (v := 16) hx hb dX11_bits_5 (by decide) ?_
  refine lv_icmp_ge (tgt := 24) hx hb dX11_bits_7 (by decide) (fun q => absurd q (by decide)) (fun _ => ?_)
  refine lv_iload_n hx hb dX11_bits_10 rfl (lv_at hl 1 rfl) ?_
  refine lv_iload_n hx hb dX11_bits_11 rfl (lv_at hl 2 rfl) ?_
  refine lv_iload_n hx hb dX11_bits_12 rfl (lv_at hl 0 rfl) ?_
  refine lv_ishr hx hb dX11_bits_13 ?_
  refine qtop (x' := 0) (by decide) ?_
  refine lv_iconst (v := 1) hx hb dX11_bits_14 (by decide) ?_
  refine lv_iand hx hb dX11_bits_15 ?_
  refine qtop (x' := 0) (by decide) ?_
  refine lv_iadd hx hb dX11_bits_16 ?_
  refine qtop (x' := 0) (by decide) ?_
  refine lv_istore_n (lv' := [(1, .int 0), (2, .int 11), (0, .int 0)]) hx hb dX11_bits_17 rfl hl (by decide) rfl (fun ls hl => ?_)
  refine lv_iinc (v := 12) (lv' := [(2, .int 12), (1, .int 0), (0, .int 0)]) hx hb dX11_bits_18 hl (k := 1) rfl (by decide) (by decide) rfl (fun ls hl => ?_)
  refine lv_goto (tgt := 4) hx hb dX11_bits_21 (by decide) ?_
  refine lv_iload_n hx hb dX11_bits_4 rfl (lv_at hl 0 rfl) ?_
  refine lv_bipush (v := 16) hx hb dX11_bits_5 (by decide) ?_
  refine lv_icmp_ge (tgt := 24) hx hb dX11_bits_7 (by decide) (fun q => absurd q (by decide)) (fun _ => ?_)
  refine lv_iload_n hx hb dX11_bits_10 rfl (lv_at hl 1 rfl) ?_
  refine lv_iload_n hx hb dX11_bits_11 rfl (lv_at hl 2 rfl) ?_
  refine lv_iload_n hx hb dX11_bits_12 rfl (lv_at hl 0 rfl) ?_
  refine lv_ishr hx hb dX11_bits_13 ?_
  refine qtop (x' := 0) (by decide) ?_
  refine lv_iconst (v := 1) hx hb dX11_bits_14 (by decide) ?_
  refine lv_iand hx hb dX11_bits_15 ?_
  refine qtop (x' := 0) (by decide) ?_
  refine lv_iadd hx hb dX11_bits_16 ?_
  refine qtop (x' := 0) (by decide) ?_
  refine lv_istore_n (lv' := [(1, .int 0), (2, .int 12), (0, .int 0)]) hx hb dX11_bits_17 rfl hl (by decide) rfl (fun ls hl => ?_)
  refine lv_iinc (v := 13) (lv' := [(2, .int 13), (1, .int 0), (0, .int 0)]) hx hb dX11_bits_18 hl (k := 1) rfl (by decide) (by decide) rfl (fun ls hl => ?_)
  refine lv_goto (tgt := 4) hx hb dX11_bits_21 (by decide) ?_
  refine lv_iload_n hx hb dX11_bits_4 rfl (lv_at hl 0 rfl) ?_
  refine lv_bipush (v := 16) hx hb dX11_bits_5 (by decide) ?_
  refine lv_icmp_ge (tgt := 24) hx hb dX11_bits_7 (by decide) (fun q => absurd q (by decide)) (fun _ => ?_)
  refine lv_iload_n hx hb dX11_bits_10 rfl (lv_at hl 1 rfl) ?_
  refine lv_iload_n hx hb dX11_bits_11 rfl (lv_at hl 2 rfl) ?_
  refine lv_iload_n hx hb dX11_bits_12 rfl (lv_at hl 0 rfl) ?_
  refine lv_ishr hx hb dX11_bits_13 ?_
  refine qtop (x' := 0) (by decide) ?_
  refine lv_iconst (v := 1) hx hb dX11_bits_14 (by decide) ?_
  refine lv_iand hx hb dX11_bits_15 ?_
  refine qtop (x' := 0) (by decide) ?_
  refine lv_iadd hx hb dX11_bits_16 ?_
  refine qtop (x' := 0) (by decide) ?_
  refine lv_istore_n (lv' := [(1, .int 0), (2, .int 13), (0, .int 0)]) hx hb dX11_bits_17 rfl hl (by decide) rfl (fun ls hl => ?_)
  refine lv_iinc (v := 14) (lv' := [(2, .int 14), (1, .int 0), (0, .int 0)]) hx hb dX11_bits_18 hl (k := 1) rfl (by decide) (by decide) rfl (fun ls hl => ?_)
  refine lv_goto (tgt := 4) hx hb dX11_bits_21 (by decide) ?_
  refine lv_iload_n hx hb dX11_bits_4 rfl (lv_at hl 0 rfl) ?_
  refine lv_bipush (v := 16) hx hb dX11_bits_5 (by decide) ?_
  refine lv_icmp_ge (tgt := 24) hx hb dX11_bits_7 (by decide) (fun q => absurd q (by decide)) (fun _ => ?_)
  refine lv_iload_n hx hb dX11_bits_10 rfl (lv_at hl 1 rfl) ?_
  refine lv_iload_n hx hb dX11_bits_11 rfl (lv_at hl 2 rfl) ?_
  refine lv_iload_n hx hb dX11_bits_12 rfl (lv_at hl 0 rfl) ?_
  refine lv_ishr hx hb dX11_bits_13 ?_
  refine qtop (x' := 0) (by decide) ?_
  refine lv_iconst (v := 1) hx hb dX11_bits_14 (by decide) ?_
  refine lv_iand hx hb dX11_bits_15 ?_
  refine qtop (x' := 0) (by decide) ?_
  refine lv_iadd hx hb dX11_bits_16 ?_
  refine qtop (x' := 0) (by decide) ?_
  refine lv_istore_n (lv' := [(1, .int 0), (2, .int 14), (0, .int 0)]) hx hb dX11_bits_17 rfl hl (by decide) rfl (fun ls hl => ?_)
  refine lv_iinc (v := 15) (lv' := [(2, .int 15), (1, .int 0), (0, .int 0)]) hx hb dX11_bits_18 hl (k := 1) rfl (by decide) (by decide) rfl (fun ls hl => ?_)
  refine lv_goto (tgt := 4) hx hb dX11_bits_21 (by decide) ?_
  refine lv_iload_n hx hb dX11_bits_4 rfl (lv_at hl 0 rfl) ?_
  refine lv_bipush (v := 16) hx hb dX11_bits_5 (by decide) ?_
  refine lv_icmp_ge (tgt := 24) hx hb dX11_bits_7 (by decide) (fun q => absurd q (by decide)) (fun _ => ?_)
  refine lv_iload_n hx hb dX11_bits_10 rfl (lv_at hl 1 rfl) ?_
  refine lv_iload_n hx hb dX11_bits_11 rfl (lv_at hl 2 rfl) ?_
  refine lv_iload_n hx hb dX11_bits_12 rfl (lv_at hl 0 rfl) ?_
  refine lv_ishr hx hb dX11_bits_13 ?_
  refine qtop (x' := 0) (by decide) ?_
  refine lv_iconst (v := 1) hx hb dX11_bits_14 (by decide) ?_
  refine lv_iand hx hb dX11_bits_15 ?_
  refine qtop (x' := 0) (by decide) ?_
  refine lv_iadd hx hb dX11_bits_16 ?_
  refine qtop (x' := 0) (by decide) ?_
  refine lv_istore_n (lv' := [(1, .int 0), (2, .int 15), (0, .int 0)]) hx hb dX11_bits_17 rfl hl (by decide) rfl (fun ls hl => ?_)
  refine lv_iinc (v := 16) (lv' := [(2, .int 16), (1, .int 0), (0, .int 0)]) hx hb dX11_bits_18 hl (k := 1) rfl (by decide) (by decide) rfl (fun ls hl => ?_)
  refine lv_goto (tgt := 4) hx hb dX11_bits_21 (by decide) ?_
  refine lv_iload_n hx hb dX11_bits_4 rfl (lv_at hl 0 rfl) ?_
  refine lv_bipush (v := 16) hx hb dX11_bits_5 (by decide) ?_
  refine lv_icmp_ge (tgt := 24) hx hb dX11_bits_7 (by decide) (fun _ => ?_) (fun q => absurd (by decide) q)
  refine lv_iload_n hx hb dX11_bits_24 rfl (lv_at hl 1 rfl) ?_
  exact W.iret (v := 0) hx hb hr (fun t ht hW => ⟨⟨0, (), rfl, rfl, by rw [ht]; exact hP, va_K.moved hW.alike hK⟩, hS.F ht⟩) hS.2.2 dX11_bits_25

set_option maxRecDepth 100000 in
set_option maxHeartbeats 4000000 in
theorem m1_bitsAny (l : Launch) (D : va_G) (ca : Nat → ClassId) (o : Nat) (z : Nat → Nat → Int32) (y : Nat → Nat → Int64) (a1 : Int32)  : qM l yX11_bits cX11_bits 3 (some .int) 1 60 (qPre D vwCl (qT6 ca) o 41 (qG (GM ca o) z y) [.int a1]) (va_Qi (fun _ _ => True) (qB D vwCl (qT6 ca) o 41 (fun _ : Unit => qG (GM ca o) z y)) (qw_A o 41)) (qw_A o 41) := by
  refine Met.ofW (cc := cX11_bits) (maxL := 3) (ret := (some .int)) (by decide) rfl ?_
  intro p e s m args below meth c s₁ B hml hv
  obtain ⟨rfl, hP, hK⟩ := hv
  have hx := B.exec
  have hb := B.bytes
  have hr := B.returns
  have hts0 := atoms_spec (ws := Cond.code yX11_bits cX11_bits 3 (some .int) :: qtbl) B.pre
  have hts : ∀ w ∈ qtbl, w.before _ s = true := fun w h => hts0 w (List.mem_cons_of_mem _ h)
  have hown : s.vm.findClass RX11 = some m.cls := findClass_of_methodNamed B.named
  have hlocks := B.notSynchronized
  have hz0 : (0 : Int32).toInt = 0 := rfl
  have hS : va_S (qw_A o 41) s.heap s.heap [] := va_S.rf
  have hl := lv_entry ([.int a1]) (n := 3) (Nat.le_of_ble_eq_true rfl)
  rw [lg_entry_eq]
  generalize (lg_sl ([.int a1]) ++ List.replicate (3 - (lg_sl ([.int a1])).length) Slot.unset).toArray = ls at hl ⊢
  have hl : lv_has ls 3 [(0, .int a1)] := hl
  refine lv_iconst (v := 0) hx hb dX11_bits_0 (by decide) ?_
  refine lv_istore_n (lv' := [(1, .int 0), (0, .int a1)]) hx hb dX11_bits_1 rfl hl (by decide) rfl (fun ls hl => ?_)
  refine lv_iconst (v := 0) hx hb dX11_bits_2 (by decide) ?_
  refine lv_istore_n (lv' := [(2, .int 0), (1, .int 0), (0, .int a1)]) hx hb dX11_bits_3 rfl hl (by decide) rfl (fun ls hl => ?_)
  refine lv_iload_n hx hb dX11_bits_4 rfl (lv_at hl 0 rfl) ?_
  refine lv_bipush (v := 16) hx hb dX11_bits_5 (by decide) ?_
  refine lv_icmp_ge (tgt := 24) hx hb dX11_bits_7 (by decide) (fun q => absurd q (by decide)) (fun _ => ?_)
  refine lv_iload_n hx hb dX11_bits_10 rfl (lv_at hl 1 rfl) ?_
  refine lv_iload_n hx hb dX11_bits_11 rfl (lv_at hl 2 rfl) ?_
  refine lv_iload_n hx hb dX11_bits_12 rfl (lv_at hl 0 rfl) ?_
  refine lv_ishr hx hb dX11_bits_13 ?_
  refine lv_topi (fun x1 e1 => ?_)
  refine lv_iconst (v := 1) hx hb dX11_bits_14 (by decide) ?_
  refine lv_iand hx hb dX11_bits_15 ?_
  refine lv_topi (fun x2 e2 => ?_)
  refine lv_iadd hx hb dX11_bits_16 ?_
  refine lv_topi (fun x3 e3 => ?_)
  refine lv_istore_n (lv' := [(1, .int x3), (2, .int 0), (0, .int a1)]) hx hb dX11_bits_17 rfl hl (by decide) rfl (fun ls hl => ?_)
  refine lv_iinc (v := 1) (lv' := [(2, .int 1), (1, .int x3), (0, .int a1)]) hx hb dX11_bits_18 hl (k := 1) rfl (by decide) (by decide) rfl (fun ls hl => ?_)
  refine lv_goto (tgt := 4) hx hb dX11_bits_21 (by decide) ?_
  refine lv_iload_n hx hb dX11_bits_4 rfl (lv_at hl 0 rfl) ?_
  refine lv_bipush (v := 16) hx hb dX11_bits_5 (by decide) ?_
  refine lv_icmp_ge (tgt := 24) hx hb dX11_bits_7 (by decide) (fun q => absurd q (by decide)) (fun _ => ?_)
  refine lv_iload_n hx hb dX11_bits_10 rfl (lv_at hl 1 rfl) ?_
  refine lv_iload_n hx hb dX11_bits_11 rfl (lv_at hl 2 rfl) ?_
  refine lv_iload_n hx hb dX11_bits_12 rfl (lv_at hl 0 rfl) ?_
  refine lv_ishr hx hb dX11_bits_13 ?_
  refine lv_topi (fun x4 e4 => ?_)
  refine lv_iconst (v := 1) hx hb dX11_bits_14 (by decide) ?_
  refine lv_iand hx hb dX11_bits_15 ?_
  refine lv_topi (fun x5 e5 => ?_)
  refine lv_iadd hx hb dX11_bits_16 ?_
  refine lv_topi (fun x6 e6 => ?_)
  refine lv_istore_n (lv' := [(1, .int x6), (2, .int 1), (0, .int a1)]) hx hb dX11_bits_17 rfl hl (by decide) rfl (fun ls hl => ?_)
  refine lv_iinc (v := 2) (lv' := [(2, .int 2), (1, .int x6), (0, .int a1)]) hx hb dX11_bits_18 hl (k := 1) rfl (by decide) (by decide) rfl (fun ls hl => ?_)
  refine lv_goto (tgt := 4) hx hb dX11_bits_21 (by decide) ?_
  refine lv_iload_n hx hb dX11_bits_4 rfl (lv_at hl 0 rfl) ?_
  refine lv_bipush (v := 16) hx hb dX11_bits_5 (by decide) ?_
  refine lv_icmp_ge (tgt := 24) hx hb dX11_bits_7 (by decide) (fun q => absurd q (by decide)) (fun _ => ?_)
  refine lv_iload_n hx hb dX11_bits_10 rfl (lv_at hl 1 rfl) ?_
  refine lv_iload_n hx hb dX11_bits_11 rfl (lv_at hl 2 rfl) ?_
  refine lv_iload_n hx hb dX11_bits_12 rfl (lv_at hl 0 rfl) ?_
  refine lv_ishr hx hb dX11_bits_13 ?_
  refine lv_topi (fun x7 e7 => ?_)
  refine lv_iconst (v := 1) hx hb dX11_bits_14 (by decide) ?_
  refine lv_iand hx hb dX11_bits_15 ?_
  refine lv_topi (fun x8 e8 => ?_)
  refine lv_iadd hx hb dX11_bits_16 ?_
  refine lv_topi (fun x9 e9 => ?_)
  refine lv_istore_n (lv' := [(1, .int x9), (2, .int 2), (0, .int a1)]) hx hb dX11_bits_17 rfl hl (by decide) rfl (fun ls hl => ?_)
  refine lv_iinc (v := 3) (lv' := [(2, .int 3), (1, .int x9), (0, .int a1)]) hx hb dX11_bits_18 hl (k := 1) rfl (by decide) (by decide) rfl (fun ls hl => ?_)
  refine lv_goto (tgt := 4) hx hb dX11_bits_21 (by decide) ?_
  refine lv_iload_n hx hb dX11_bits_4 rfl (lv_at hl 0 rfl) ?_
  refine lv_bipush (v := 16) hx hb dX11_bits_5 (by decide) ?_
  refine lv_icmp_ge (tgt := 24) hx hb dX11_bits_7 (by decide) (fun q => absurd q (by decide)) (fun _ => ?_)
  refine lv_iload_n hx hb dX11_bits_10 rfl (lv_at hl 1 rfl) ?_
  refine lv_iload_n hx hb dX11_bits_11 rfl (lv_at hl 2 rfl) ?_
  refine lv_iload_n hx hb dX11_bits_12 rfl (lv_at hl 0 rfl) ?_
  refine lv_ishr hx hb dX11_bits_13 ?_
  refine lv_topi (fun x10 e10 => ?_)
  refine lv_iconst (v := 1) hx hb dX11_bits_14 (by decide) ?_
  refine lv_iand hx hb dX11_bits_15 ?_
  refine lv_topi (fun x11 e11 => ?_)
  refine lv_iadd hx hb dX11_bits_16 ?_
  refine lv_topi (fun x12 e12 => ?_)
  refine lv_istore_n (lv' := [(1, .int x12), (2, .int 3), (0, .int a1)]) hx hb dX11_bits_17 rfl hl (by decide) rfl (fun ls hl => ?_)
  refine lv_iinc (v := 4) (lv' := [(2, .int 4), (1, .int x12), (0, .int a1)]) hx hb dX11_bits_18 hl (k := 1) rfl (by decide) (by decide) rfl (fun ls hl => ?_)
  refine lv_goto (tgt := 4) hx hb dX11_bits_21 (by decide) ?_
  refine lv_iload_n hx hb dX11_bits_4 rfl (lv_at hl 0 rfl) ?_
  refine lv_bipush (v := 16) hx hb dX11_bits_5 (by decide) ?_
  refine lv_icmp_ge (tgt := 24) hx hb dX11_bits_7 (by decide) (fun q => absurd q (by decide)) (fun _ => ?_)
  refine lv_iload_n hx hb dX11_bits_10 rfl (lv_at hl 1 rfl) ?_
  refine lv_iload_n hx hb dX11_bits_11 rfl (lv_at hl 2 rfl) ?_
  refine lv_iload_n hx hb dX11_bits_12 rfl (lv_at hl 0 rfl) ?_
  refine lv_ishr hx hb dX11_bits_13 ?_
  refine lv_topi (fun x13 e13 => ?_)
  refine lv_iconst (v := 1) hx hb dX11_bits_14 (by decide) ?_
  refine lv_iand hx hb dX11_bits_15 ?_
  refine lv_topi (fun x14 e14 => ?_)
  refine lv_iadd hx hb dX11_bits_16 ?_
  refine lv_topi (fun x15 e15 => ?_)
  refine lv_istore_n (lv' := [(1, .int x15), (2, .int 4), (0, .int a1)]) hx hb dX11_bits_17 rfl hl (by decide) rfl (fun ls hl => ?_)
  refine lv_iinc (v := 5) (lv' := [(2, .int 5), (1, .int x15), (0, .int a1)]) hx hb dX11_bits_18 hl (k := 1) rfl (by decide) (by decide) rfl (fun ls hl => ?_)
  refine lv_goto (tgt := 4) hx hb dX11_bits_21 (by decide) ?_
  refine lv_iload_n hx hb dX11_bits_4 rfl (lv_at hl 0 rfl) ?_
  refine lv_bipush (v := 16) hx hb dX11_bits_5 (by decide) ?_
  refine lv_icmp_ge (tgt := 24) hx hb dX11_bits_7 (by decide) (fun q => absurd q (by decide)) (fun _ => ?_)
  refine lv_iload_n hx hb dX11_bits_10 rfl (lv_at hl 1 rfl) ?_
  refine lv_iload_n hx hb dX11_bits_11 rfl (lv_at hl 2 rfl) ?_
  refine lv_iload_n hx hb dX11_bits_12 rfl (lv_at hl 0 rfl) ?_
  refine lv_ishr hx hb dX11_bits_13 ?_
  refine lv_topi (fun x16 e16 => ?_)
  refine lv_iconst (v := 1) hx hb dX11_bits_14 (by decide) ?_
  refine lv_iand hx hb dX11_bits_15 ?_
  refine lv_topi (fun x17 e17 => ?_)
  refine lv_iadd hx hb dX11_bits_16 ?_
  refine lv_topi (fun x18 e18 => ?_)
  refine lv_istore_n (lv' := [(1, .int x18), (2, .int 5), (0, .int a1)]) hx hb dX11_bits_17 rfl hl (by decide) rfl (fun ls hl => ?_)
  refine lv_iinc (v := 6) (lv' := [(2, .int 6), (1, .int x18), (0, .int a1)]) hx hb dX11_bits_18 hl (k := 1) rfl (by decide) (by decide) rfl (fun ls hl => ?_)
  refine lv_goto (tgt := 4) hx hb dX11_bits_21 (by decide) ?_
  refine lv_iload_n hx hb dX11_bits_4 rfl (lv_at hl 0 rfl) ?_
  refine lv_bipush (v := 16) hx hb dX11_bits_5 (by decide) ?_
  refine lv_icmp_ge (tgt := 24) hx hb dX11_bits_7 (by decide) (fun q => absurd q (by decide)) (fun _ => ?_)
  refine lv_iload_n hx hb dX11_bits_10 rfl (lv_at hl 1 rfl) ?_
  refine lv_iload_n hx hb dX11_bits_11 rfl (lv_at hl 2 rfl) ?_
  refine lv_iload_n hx hb dX11_bits_12 rfl (lv_at hl 0 rfl) ?_
  refine lv_ishr hx hb dX11_bits_13 ?_
  refine lv_topi (fun x19 e19 => ?_)
  refine lv_iconst (v := 1) hx hb dX11_bits_14 (by decide) ?_
  refine lv_iand hx hb dX11_bits_15 ?_
  refine lv_topi (fun x20 e20 => ?_)
  refine lv_iadd hx hb dX11_bits_16 ?_
  refine lv_topi (fun x21 e21 => ?_)
  refine lv_istore_n (lv' := [(1, .int x21), (2, .int 6), (0, .int a1)]) hx hb dX11_bits_17 rfl hl (by decide) rfl (fun ls hl => ?_)
  refine lv_iinc (v := 7) (lv' := [(2, .int 7), (1, .int x21), (0, .int a1)]) hx hb dX11_bits_18 hl (k := 1) rfl (by decide) (by decide) rfl (fun ls hl => ?_)
  refine lv_goto (tgt := 4) hx hb dX11_bits_21 (by decide) ?_
  refine lv_iload_n hx hb dX11_bits_4 rfl (lv_at hl 0 rfl) ?_
  refine lv_bipush (v := 16) hx hb dX11_bits_5 (by decide) ?_
  refine lv_icmp_ge (tgt := 24) hx hb dX11_bits_7 (by decide) (fun q => absurd q (by decide)) (fun _ => ?_)
  refine lv_iload_n hx hb dX11_bits_10 rfl (lv_at hl 1 rfl) ?_
  refine lv_iload_n hx hb dX11_bits_11 rfl (lv_at hl 2 rfl) ?_
  refine lv_iload_n hx hb dX11_bits_12 rfl (lv_at hl 0 rfl) ?_
  refine lv_ishr hx hb dX11_bits_13 ?_
  refine lv_topi (fun x22 e22 => ?_)
  refine lv_iconst (v := 1) hx hb dX11_bits_14 (by decide) ?_
  refine lv_iand hx hb dX11_bits_15 ?_
  refine lv_topi (fun x23 e23 => ?_)
  refine lv_iadd hx hb dX11_bits_16 ?_
  refine lv_topi (fun x24 e24 => ?_)
  refine lv_istore_n (lv' := [(1, .int x24), (2, .int 7), (0, .int a1)]) hx hb dX11_bits_17 rfl hl (by decide) rfl (fun ls hl => ?_)
  refine lv_iinc (v := 8) (lv' := [(2, .int 8), (1, .int x24), (0, .int a1)]) hx hb dX11_bits_18 hl (k := 1) rfl (by decide) (by decide) rfl (fun ls hl => ?_)
  refine lv_goto (tgt := 4) hx hb dX11_bits_21 (by decide) ?_
  refine lv_iload_n hx hb dX11_bits_4 rfl (lv_at hl 0 rfl) ?_
  refine lv_bipush (v := 16) hx hb dX11_bits_5 (by decide) ?_
  refine lv_icmp_ge (tgt := 24) hx hb dX11_bits_7 (by decide) (fun q => absurd q (by decide)) (fun _ => ?_)
  refine lv_iload_n hx hb dX11_bits_10 rfl (lv_at hl 1 rfl) ?_
  refine lv_iload_n hx hb dX11_bits_11 rfl (lv_at hl 2 rfl) ?_
  refine lv_iload_n hx hb dX11_bits_12 rfl (lv_at hl 0 rfl) ?_
  refine lv_ishr hx hb dX11_bits_13 ?_
  refine lv_topi (fun x25 e25 => ?_)
  refine lv_iconst (v := 1) hx hb dX11_bits_14 (by decide) ?_
  refine lv_iand hx hb dX11_bits_15 ?_
  refine lv_topi (fun x26 e26 => ?_)
  refine lv_iadd hx hb dX11_bits_16 ?_
  refine lv_topi (fun x27 e27 => ?_)
  refine lv_istore_n (lv' := [(1, .int x27), (2, .int 8), (0, .int a1)]) hx hb dX11_bits_17 rfl hl (by decide) rfl (fun ls hl => ?_)
  refine lv_iinc (v := 9) (lv' := [(2, .int 9), (1, .int x27), (0, .int a1)]) hx hb dX11_bits_18 hl (k := 1) rfl (by decide) (by decide) rfl (fun ls hl => ?_)
  refine lv_goto (tgt := 4) hx hb dX11_bits_21 (by decide) ?_
  refine lv_iload_n hx hb dX11_bits_4 rfl (lv_at hl 0 rfl) ?_
  refine lv_bipush (v := 16) hx hb dX11_bits_5 (by decide) ?_
  refine lv_icmp_ge (tgt := 24) hx hb dX11_bits_7 (by decide) (fun q => absurd q (by decide)) (fun _ => ?_)
  refine lv_iload_n hx hb dX11_bits_10 rfl (lv_at hl 1 rfl) ?_
  refine lv_iload_n hx hb dX11_bits_11 rfl (lv_at hl 2 rfl) ?_
  refine lv_iload_n hx hb dX11_bits_12 rfl (lv_at hl 0 rfl) ?_
  refine lv_ishr hx hb dX11_bits_13 ?_
  refine lv_topi (fun x28 e28 => ?_)
  refine lv_iconst (v := 1) hx hb dX11_bits_14 (by decide) ?_
  refine lv_iand hx hb dX11_bits_15 ?_
  refine lv_topi (fun x29 e29 => ?_)
  refine lv_iadd hx hb dX11_bits_16 ?_
  refine lv_topi (fun x30 e30 => ?_)
  refine lv_istore_n (lv' := [(1, .int x30), (2, .int 9), (0, .int a1)]) hx hb dX11_bits_17 rfl hl (by decide) rfl (fun ls hl => ?_)
  refine lv_iinc (v := 10) (lv' := [(2, .int 10), (1, .int x30), (0, .int a1)]) hx hb dX11_bits_18 hl (k := 1) rfl (by decide) (by decide) rfl (fun ls hl => ?_)
  refine lv_goto (tgt := 4) hx hb dX11_bits_21 (by decide) ?_
  refine lv_iload_n hx hb dX11_bits_4 rfl (lv_at hl 0 rfl) ?_
  refine lv_bipush (v := 16) hx hb dX11_bits_5 (by decide) ?_
  refine lv_icmp_ge (tgt := 24) hx hb dX11_bits_7 (by decide) (fun q => absurd q (by decide)) (fun _ => ?_)
  refine lv_iload_n hx hb dX11_bits_10 rfl (lv_at hl 1 rfl) ?_
  refine lv_iload_n hx hb dX11_bits_11 rfl (lv_at hl 2 rfl) ?_
  refine lv_iload_n hx hb dX11_bits_12 rfl (lv_at hl 0 rfl) ?_
  refine lv_ishr hx hb dX11_bits_13 ?_
  refine lv_topi (fun x31 e31 => ?_)
  refine lv_iconst (v := 1) hx hb dX11_bits_14 (by decide) ?_
  refine lv_iand hx hb dX11_bits_15 ?_
  refine lv_topi (fun x32 e32 => ?_)
  refine lv_iadd hx hb dX11_bits_16 ?_
  refine lv_topi (fun x33 e33 => ?_)
  refine lv_istore_n (lv' := [(1, .int x33), (2, .int 10), (0, .int a1)]) hx hb dX11_bits_17 rfl hl (by decide) rfl (fun ls hl => ?_)
  refine lv_iinc (v := 11) (lv' := [(2, .int 11), (1, .int x33), (0, .int a1)]) hx hb dX11_bits_18 hl (k := 1) rfl (by decide) (by decide) rfl (fun ls hl => ?_)
  refine lv_goto (tgt := 4) hx hb dX11_bits_21 (by decide) ?_
  refine lv_iload_n hx hb dX11_bits_4 rfl (lv_at hl 0 rfl) ?_
  refine lv_bipush (v := 16) hx hb dX11_bits_5 (by decide) ?_
  refine lv_icmp_ge (tgt := 24) hx hb dX11_bits_7 (by decide) (fun q => absurd q (by decide)) (fun _ => ?_)
  refine lv_iload_n hx hb dX11_bits_10 rfl (lv_at hl 1 rfl) ?_
  refine lv_iload_n hx hb dX11_bits_11 rfl (lv_at hl 2 rfl) ?_
  refine lv_iload_n hx hb dX11_bits_12 rfl (lv_at hl 0 rfl) ?_
  refine lv_ishr hx hb dX11_bits_13 ?_
  refine lv_topi (fun x34 e34 => ?_)
  refine lv_iconst (v := 1) hx hb dX11_bits_14 (by decide) ?_
  refine lv_iand hx hb dX11_bits_15 ?_
  refine lv_topi (fun x35 e35 => ?_)
  refine lv_iadd hx hb dX11_bits_16 ?_
  refine lv_topi (fun x36 e36 => ?_)
  refine lv_istore_n (lv' := [(1, .int x36), (2, .int 11), (0, .int a1)]) hx hb dX11_bits_17 rfl hl (by decide) rfl (fun ls hl => ?_)
  refine lv_iinc (v := 12) (lv' := [(2, .int 12), (1, .int x36), (0, .int a1)]) hx hb dX11_bits_18 hl (k := 1) rfl (by decide) (by decide) rfl (fun ls hl => ?_)
  refine lv_goto (tgt := 4) hx hb dX11_bits_21 (by decide) ?_
  refine lv_iload_n hx hb dX11_bits_4 rfl (lv_at hl 0 rfl) ?_
  refine lv_bipush (v := 16) hx hb dX11_bits_5 (by decide) ?_
  refine lv_icmp_ge (tgt := 24) hx hb dX11_bits_7 (by decide) (fun q => absurd q (by decide)) (fun _ => ?_)
  refine lv_iload_n hx hb dX11_bits_10 rfl (lv_at hl 1 rfl) ?_
  refine lv_iload_n hx hb dX11_bits_11 rfl (lv_at hl 2 rfl) ?_
  refine lv_iload_n hx hb dX11_bits_12 rfl (lv_at hl 0 rfl) ?_
  refine lv_ishr hx hb dX11_bits_13 ?_
  refine lv_topi (fun x37 e37 => ?_)
  refine lv_iconst (v := 1) hx hb dX11_bits_14 (by decide) ?_
  refine lv_iand hx hb dX11_bits_15 ?_
  refine lv_topi (fun x38 e38 => ?_)
  refine lv_iadd hx hb dX11_bits_16 ?_
  refine lv_topi (fun x39 e39 => ?_)
  refine lv_istore_n (lv' := [(1, .int x39), (2, .int 12), (0, .int a1)]) hx hb dX11_bits_17 rfl hl (by decide) rfl (fun ls hl => ?_)
  refine lv_iinc (v := 13) (lv' := [(2, .int 13), (1, .int x39), (0, .int a1)]) hx hb dX11_bits_18 hl (k := 1) rfl (by decide) (by decide) rfl (fun ls hl => ?_)
  refine lv_goto (tgt := 4) hx hb dX11_bits_21 (by decide) ?_
  refine lv_iload_n hx hb dX11_bits_4 rfl (lv_at hl 0 rfl) ?_
  refine lv_bipush (v := 16) hx hb dX11_bits_5 (by decide) ?_
  refine lv_icmp_ge (tgt := 24) hx hb dX11_bits_7 (by decide) (fun q => absurd q (by decide)) (fun _ => ?_)
  refine lv_iload_n hx hb dX11_bits_10 rfl (lv_at hl 1 rfl) ?_
  refine lv_iload_n hx hb dX11_bits_11 rfl (lv_at hl 2 rfl) ?_
  refine lv_iload_n hx hb dX11_bits_12 rfl (lv_at hl 0 rfl) ?_
  refine lv_ishr hx hb dX11_bits_13 ?_
  refine lv_topi (fun x40 e40 => ?_)
  refine lv_iconst (v := 1) hx hb dX11_bits_14 (by decide) ?_
  refine lv_iand hx hb dX11_bits_15 ?_
  refine lv_topi (fun x41 e41 => ?_)
  refine lv_iadd hx hb dX11_bits_16 ?_
  refine lv_topi (fun x42 e42 => ?_)
  refine lv_istore_n (lv' := [(1, .int x42), (2, .int 13), (0, .int a1)]) hx hb dX11_bits_17 rfl hl (by decide) rfl (fun ls hl => ?_)
  refine lv_iinc (v := 14) (lv' := [(2, .int 14), (1, .int x42), (0, .int a1)]) hx hb dX11_bits_18 hl (k := 1) rfl (by decide) (by decide) rfl (fun ls hl => ?_)
  refine lv_goto (tgt := 4) hx hb dX11_bits_21 (by decide) ?_
  refine lv_iload_n hx hb dX11_bits_4 rfl (lv_at hl 0 rfl) ?_
  refine lv_bipush (v := 16) hx hb dX11_bits_5 (by decide) ?_
  refine lv_icmp_ge (tgt := 24) hx hb dX11_bits_7 (by decide) (fun q => absurd q (by decide)) (fun _ => ?_)
  refine lv_iload_n hx hb dX11_bits_10 rfl (lv_at hl 1 rfl) ?_
  refine lv_iload_n hx hb dX11_bits_11 rfl (lv_at hl 2 rfl) ?_
  refine lv_iload_n hx hb dX11_bits_12 rfl (lv_at hl 0 rfl) ?_
  refine lv_ishr hx hb dX11_bits_13 ?_
  refine lv_topi (fun x43 e43 => ?_)
  refine lv_iconst (v := 1) hx hb dX11_bits_14 (by decide) ?_
  refine lv_iand hx hb dX11_bits_15 ?_
  refine lv_topi (fun x44 e44 => ?_)
  refine lv_iadd hx hb dX11_bits_16 ?_
  refine lv_topi (fun x45 e45 => ?_)
  refine lv_istore_n (lv' := [(1, .int x45), (2, .int 14), (0, .int a1)]) hx hb dX11_bits_17 rfl hl (by decide) rfl (fun ls hl => ?_)
  refine lv_iinc (v := 15) (lv' := [(2, .int 15), (1, .int x45), (0, .int a1)]) hx hb dX11_bits_18 hl (k := 1) rfl (by decide) (by decide) rfl (fun ls hl => ?_)
  refine lv_goto (tgt := 4) hx hb dX11_bits_21 (by decide) ?_
  refine lv_iload_n hx hb dX11_bits_4 rfl (lv_at hl 0 rfl) ?_
  refine lv_bipush (v := 16) hx hb dX11_bits_5 (by decide) ?_
  refine lv_icmp_ge (tgt := 24) hx hb dX11_bits_7 (by decide) (fun q => absurd q (by decide)) (fun _ => ?_)
  refine lv_iload_n hx hb dX11_bits_10 rfl (lv_at hl 1 rfl) ?_
  refine lv_iload_n hx hb dX11_bits_11 rfl (lv_at hl 2 rfl) ?_
  refine lv_iload_n hx hb dX11_bits_12 rfl (lv_at hl 0 rfl) ?_
  refine lv_ishr hx hb dX11_bits_13 ?_
  refine lv_topi (fun x46 e46 => ?_)
  refine lv_iconst (v := 1) hx hb dX11_bits_14 (by decide) ?_
  refine lv_iand hx hb dX11_bits_15 ?_
  refine lv_topi (fun x47 e47 => ?_)
  refine lv_iadd hx hb dX11_bits_16 ?_
  refine lv_topi (fun x48 e48 => ?_)
  refine lv_istore_n (lv' := [(1, .int x48), (2, .int 15), (0, .int a1)]) hx hb dX11_bits_17 rfl hl (by decide) rfl (fun ls hl => ?_)
  refine lv_iinc (v := 16) (lv' := [(2, .int 16), (1, .int x48), (0, .int a1)]) hx hb dX11_bits_18 hl (k := 1) rfl (by decide) (by decide) rfl (fun ls hl => ?_)
  refine lv_goto (tgt := 4) hx hb dX11_bits_21 (by decide) ?_
  refine lv_iload_n hx hb dX11_bits_4 rfl (lv_at hl 0 rfl) ?_
  refine lv_bipush (v := 16) hx hb dX11_bits_5 (by decide) ?_
  refine lv_icmp_ge (tgt := 24) hx hb dX11_bits_7 (by decide) (fun _ => ?_) (fun q => absurd (by decide) q)
  refine lv_iload_n hx hb dX11_bits_24 rfl (lv_at hl 1 rfl) ?_
  exact W.iret (v := x48) hx hb hr (fun t ht hW => ⟨⟨x48, (), rfl, trivial, by rw [ht]; exact hP, va_K.moved hW.alike hK⟩, hS.F ht⟩) hS.2.2 dX11_bits_25

set_option maxRecDepth 100000 in
set_option maxHeartbeats 4000000 in
theorem m1_isPerson (l : Launch) (D : va_G) (ca : Nat → ClassId) (o : Nat) (z : Nat → Nat → Int32) (y : Nat → Nat → Int64) (a1 : Int32) (h0_4 : z 0 4 = 0) : qM l yX11_isPerson cX11_isPerson 2 (some .boolean) 2 82 (qPre D vwCl (qT6 ca) o 41 (qG (GM ca o) z y) [.ref (o + 0), .int a1]) (va_Qi (fun r _ => r = 0) (qB D vwCl (qT6 ca) o 41 (fun _ : Unit => qG (GM ca o) z y)) (qw_A o 41)) (qw_A o 41) := by
  refine Met.ofW (cc := cX11_isPerson) (maxL := 2) (ret := (some .boolean)) (by decide) rfl ?_
  intro p e s m args below meth c s₁ B hml hv
  obtain ⟨rfl, hP, hK⟩ := hv
  have hx := B.exec
  have hb := B.bytes
  have hr := B.returns
  have hts0 := atoms_spec (ws := Cond.code yX11_isPerson cX11_isPerson 2 (some .boolean) :: qtbl) B.pre
  have hts : ∀ w ∈ qtbl, w.before _ s = true := fun w h => hts0 w (List.mem_cons_of_mem _ h)
  have hown : s.vm.findClass RX11 = some m.cls := findClass_of_methodNamed B.named
  have hlocks := B.notSynchronized
  have hz0 : (0 : Int32).toInt = 0 := rfl
  have hS : va_S (qw_A o 41) s.heap s.heap [] := va_S.rf
  have hl := lv_entry ([.ref (o + 0), .int a1]) (n := 2) (Nat.le_of_ble_eq_true rfl)
  rw [lg_entry_eq]
  generalize (lg_sl ([.ref (o + 0), .int a1]) ++ List.replicate (2 - (lg_sl ([.ref (o + 0), .int a1])).length) Slot.unset).toArray = ls at hl ⊢
  have hl : lv_has ls 2 [(0, .ref (o + 0)), (1, .int a1)] := hl
  refine lv_iload_n hx hb dX11_isPerson_0 rfl (lv_at hl 1 rfl) ?_
  refine lv_iconst (v := 0) hx hb dX11_isPerson_1 (by decide) ?_
  refine lv_iconst (v := 5) hx hb dX11_isPerson_2 (by decide) ?_
  refine qc_Si (As := [.int a1, .int 0, .int 5]) (rest := []) (k0 := 3) (m1_in l D ca o z y a1 0 5) kc_yX11_in ⟨hx, hb, hml, hown, hts⟩ wq_1187 rfl rfl ⟨Nat.le_of_ble_eq_true rfl, Nat.le_of_ble_eq_true rfl⟩ wq_all hP hK hS qw_Ai rfl hl.1 rfl (Nat.le_of_ble_eq_true rfl) dX11_isPerson_3 ⟨Nat.zero_le _, Nat.zero_le _⟩ (fun r1 u1 H locs h1 hP hS _ _ => ?_)
  rcases h1 with ⟨h1r, h1a, h1b⟩ | ⟨h1r, h1a⟩
  · subst h1r
    have t1a : a1.toInt ≥ (0 : Int) := h1a
    have t1b : a1.toInt ≤ (5 : Int) := h1b
    refine lv_if_eq (tgt := 24) hx hb dX11_isPerson_6 (by decide) (fun q => absurd q (by decide)) (fun _ => ?_)
    refine lv_aload_n hx hb dX11_isPerson_9 rfl (lv_at hl 0 rfl) ?_
    refine qf_get hx hb hts inX11 hown hK hP (q0 := 0) (by decide) (hgM_0 ca o) rfl 4 (by decide) wq_997 (v := .int (z 0 4)) rfl dX11_isPerson_10 ?_
    refine qtop (x' := 0) h0_4 ?_
    refine lv_iload_n hx hb dX11_isPerson_13 rfl (lv_at hl 1 rfl) ?_
    refine qc_Si (As := [.int 0, .int a1]) (rest := []) (k0 := 2) (m1_has0 l D ca o z y a1) kc_yX11_has ⟨hx, hb, hml, hown, hts⟩ wq_1198 rfl rfl ⟨Nat.le_of_ble_eq_true rfl, Nat.le_of_ble_eq_true rfl⟩ wq_all hP hK hS qw_Ai rfl hl.1 rfl (Nat.le_of_ble_eq_true rfl) dX11_isPerson_14 ⟨Nat.zero_le _, Nat.zero_le _⟩ (fun r2 u2 H locs h2 hP hS _ _ => ?_)
    subst h2
    refine lv_if_eq (tgt := 24) hx hb dX11_isPerson_17 (by decide) (fun _ => ?_) (fun q => absurd (by decide) q)
    refine lv_iconst (v := 0) hx hb dX11_isPerson_24 (by decide) ?_
    exact W.zret (v := 0) (ty := .boolean) hx hb hr rfl (fun t ht hW => ⟨⟨0, (), rfl, rfl, by rw [ht]; exact hP, va_K.moved hW.alike hK⟩, hS.F ht⟩) hS.2.2 dX11_isPerson_25
  · subst h1r
    have t1a : a1.toInt < (0 : Int) ∨ (5 : Int) < a1.toInt := h1a
    refine lv_if_eq (tgt := 24) hx hb dX11_isPerson_6 (by decide) (fun _ => ?_) (fun q => absurd (by decide) q)
    refine lv_iconst (v := 0) hx hb dX11_isPerson_24 (by decide) ?_
    exact W.zret (v := 0) (ty := .boolean) hx hb hr rfl (fun t ht hW => ⟨⟨0, (), rfl, rfl, by rw [ht]; exact hP, va_K.moved hW.alike hK⟩, hS.F ht⟩) hS.2.2 dX11_isPerson_25

set_option maxRecDepth 100000 in
set_option maxHeartbeats 4000000 in
theorem m1_areTwo (l : Launch) (D : va_G) (ca : Nat → ClassId) (o : Nat) (z : Nat → Nat → Int32) (y : Nat → Nat → Int64) (a1 : Int32) (a2 : Int32) (h0_4 : z 0 4 = 0) : qM l yX11_areTwo cX11_areTwo 3 (some .boolean) 3 103 (qPre D vwCl (qT6 ca) o 41 (qG (GM ca o) z y) [.ref (o + 0), .int a1, .int a2]) (va_Qi (fun r _ => r = 0) (qB D vwCl (qT6 ca) o 41 (fun _ : Unit => qG (GM ca o) z y)) (qw_A o 41)) (qw_A o 41) := by
  refine Met.ofW (cc := cX11_areTwo) (maxL := 3) (ret := (some .boolean)) (by decide) rfl ?_
  intro p e s m args below meth c s₁ B hml hv
  obtain ⟨rfl, hP, hK⟩ := hv
  have hx := B.exec
  have hb := B.bytes
  have hr := B.returns
  have hts0 := atoms_spec (ws := Cond.code yX11_areTwo cX11_areTwo 3 (some .boolean) :: qtbl) B.pre
  have hts : ∀ w ∈ qtbl, w.before _ s = true := fun w h => hts0 w (List.mem_cons_of_mem _ h)
  have hown : s.vm.findClass RX11 = some m.cls := findClass_of_methodNamed B.named
  have hlocks := B.notSynchronized
  have hz0 : (0 : Int32).toInt = 0 := rfl
  have hS : va_S (qw_A o 41) s.heap s.heap [] := va_S.rf
  have hl := lv_entry ([.ref (o + 0), .int a1, .int a2]) (n := 3) (Nat.le_of_ble_eq_true rfl)
  rw [lg_entry_eq]
  generalize (lg_sl ([.ref (o + 0), .int a1, .int a2]) ++ List.replicate (3 - (lg_sl ([.ref (o + 0), .int a1, .int a2])).length) Slot.unset).toArray = ls at hl ⊢
  have hl : lv_has ls 3 [(0, .ref (o + 0)), (1, .int a1), (2, .int a2)] := hl
  refine lv_aload_n hx hb dX11_areTwo_0 rfl (lv_at hl 0 rfl) ?_
  refine lv_iload_n hx hb dX11_areTwo_1 rfl (lv_at hl 1 rfl) ?_
  refine qc_Vi (As := [.int a1]) (rest := []) (k0 := 1) (m1_isPerson l D ca o z y a1 (h0_4)) kc_yX11_isPerson ⟨hx, hb, hml, hown, hts⟩ wq_1194 rfl rfl ⟨Nat.le_of_ble_eq_true rfl, Nat.le_of_ble_eq_true rfl⟩ wq_all hP hK hS qw_Ai (q0 := 0) (by decide) (hgM_0 ca o _ _) rfl rfl hl.1 rfl (Nat.le_of_ble_eq_true rfl) dX11_areTwo_2 ⟨Nat.zero_le _, Nat.zero_le _⟩ (fun r1 u1 H locs h1 hP hS _ _ => ?_)
  subst h1
  refine lv_if_eq (tgt := 25) hx hb dX11_areTwo_5 (by decide) (fun _ => ?_) (fun q => absurd (by decide) q)
  refine lv_iconst (v := 0) hx hb dX11_areTwo_25 (by decide) ?_
  exact W.zret (v := 0) (ty := .boolean) hx hb hr rfl (fun t ht hW => ⟨⟨0, (), rfl, rfl, by rw [ht]; exact hP, va_K.moved hW.alike hK⟩, hS.F ht⟩) hS.2.2 dX11_areTwo_26

set_option maxRecDepth 100000 in
set_option maxHeartbeats 4000000 in
theorem m1_isRemark (l : Launch) (D : va_G) (ca : Nat → ClassId) (o : Nat) (z : Nat → Nat → Int32) (y : Nat → Nat → Int64) (a1 : Int32) (h0_6 : z 0 6 = 0) : qM l yX11_isRemark cX11_isRemark 2 (some .boolean) 2 82 (qPre D vwCl (qT6 ca) o 41 (qG (GM ca o) z y) [.ref (o + 0), .int a1]) (va_Qi (fun r _ => r = 0) (qB D vwCl (qT6 ca) o 41 (fun _ : Unit => qG (GM ca o) z y)) (qw_A o 41)) (qw_A o 41) := by
  refine Met.ofW (cc := cX11_isRemark) (maxL := 2) (ret := (some .boolean)) (by decide) rfl ?_
  intro p e s m args below meth c s₁ B hml hv
  obtain ⟨rfl, hP, hK⟩ := hv
  have hx := B.exec
  have hb := B.bytes
  have hr := B.returns
  have hts0 := atoms_spec (ws := Cond.code yX11_isRemark cX11_isRemark 2 (some .boolean) :: qtbl) B.pre
  have hts : ∀ w ∈ qtbl, w.before _ s = true := fun w h => hts0 w (List.mem_cons_of_mem _ h)
  have hown : s.vm.findClass RX11 = some m.cls := findClass_of_methodNamed B.named
  have hlocks := B.notSynchronized
  have hz0 : (0 : Int32).toInt = 0 := rfl
  have hS : va_S (qw_A o 41) s.heap s.heap [] := va_S.rf
  have hl := lv_entry ([.ref (o + 0), .int a1]) (n := 2) (Nat.le_of_ble_eq_true rfl)
  rw [lg_entry_eq]
  generalize (lg_sl ([.ref (o + 0), .int a1]) ++ List.replicate (2 - (lg_sl ([.ref (o + 0), .int a1])).length) Slot.unset).toArray = ls at hl ⊢
  have hl : lv_has ls 2 [(0, .ref (o + 0)), (1, .int a1)] := hl
  refine lv_iload_n hx hb dX11_isRemark_0 rfl (lv_at hl 1 rfl) ?_
  refine lv_iconst (v := 0) hx hb dX11_isRemark_1 (by decide) ?_
  refine lv_bipush (v := 9) hx hb dX11_isRemark_2 (by decide) ?_
  refine qc_Si (As := [.int a1, .int 0, .int 9]) (rest := []) (k0 := 3) (m1_in l D ca o z y a1 0 9) kc_yX11_in ⟨hx, hb, hml, hown, hts⟩ wq_1187 rfl rfl ⟨Nat.le_of_ble_eq_true rfl, Nat.le_of_ble_eq_true rfl⟩ wq_all hP hK hS qw_Ai rfl hl.1 rfl (Nat.le_of_ble_eq_true rfl) dX11_isRemark_4 ⟨Nat.zero_le _, Nat.zero_le _⟩ (fun r1 u1 H locs h1 hP hS _ _ => ?_)
  rcases h1 with ⟨h1r, h1a, h1b⟩ | ⟨h1r, h1a⟩
  · subst h1r
    have t1a : a1.toInt ≥ (0 : Int) := h1a
    have t1b : a1.toInt ≤ (9 : Int) := h1b
    refine lv_if_eq (tgt := 25) hx hb dX11_isRemark_7 (by decide) (fun q => absurd q (by decide)) (fun _ => ?_)
    refine lv_aload_n hx hb dX11_isRemark_10 rfl (lv_at hl 0 rfl) ?_
    refine qf_get hx hb hts inX11 hown hK hP (q0 := 0) (by decide) (hgM_0 ca o) rfl 6 (by decide) wq_999 (v := .int (z 0 6)) rfl dX11_isRemark_11 ?_
    refine qtop (x' := 0) h0_6 ?_
    refine lv_iload_n hx hb dX11_isRemark_14 rfl (lv_at hl 1 rfl) ?_
    refine qc_Si (As := [.int 0, .int a1]) (rest := []) (k0 := 2) (m1_has0 l D ca o z y a1) kc_yX11_has ⟨hx, hb, hml, hown, hts⟩ wq_1198 rfl rfl ⟨Nat.le_of_ble_eq_true rfl, Nat.le_of_ble_eq_true rfl⟩ wq_all hP hK hS qw_Ai rfl hl.1 rfl (Nat.le_of_ble_eq_true rfl) dX11_isRemark_15 ⟨Nat.zero_le _, Nat.zero_le _⟩ (fun r2 u2 H locs h2 hP hS _ _ => ?_)
    subst h2
    refine lv_if_eq (tgt := 25) hx hb dX11_isRemark_18 (by decide) (fun _ => ?_) (fun q => absurd (by decide) q)
    refine lv_iconst (v := 0) hx hb dX11_isRemark_25 (by decide) ?_
    exact W.zret (v := 0) (ty := .boolean) hx hb hr rfl (fun t ht hW => ⟨⟨0, (), rfl, rfl, by rw [ht]; exact hP, va_K.moved hW.alike hK⟩, hS.F ht⟩) hS.2.2 dX11_isRemark_26
  · subst h1r
    have t1a : a1.toInt < (0 : Int) ∨ (9 : Int) < a1.toInt := h1a
    refine lv_if_eq (tgt := 25) hx hb dX11_isRemark_7 (by decide) (fun _ => ?_) (fun q => absurd (by decide) q)
    refine lv_iconst (v := 0) hx hb dX11_isRemark_25 (by decide) ?_
    exact W.zret (v := 0) (ty := .boolean) hx hb hr rfl (fun t ht hW => ⟨⟨0, (), rfl, rfl, by rw [ht]; exact hP, va_K.moved hW.alike hK⟩, hS.F ht⟩) hS.2.2 dX11_isRemark_26

set_option maxRecDepth 100000 in
set_option maxHeartbeats 4000000 in
theorem m1_isForm (l : Launch) (D : va_G) (ca : Nat → ClassId) (o : Nat) (z : Nat → Nat → Int32) (y : Nat → Nat → Int64) (a1 : Int32) (h0_6 : z 0 6 = 0) : qM l yX11_isForm cX11_isForm 2 (some .boolean) 2 82 (qPre D vwCl (qT6 ca) o 41 (qG (GM ca o) z y) [.ref (o + 0), .int a1]) (va_Qi (fun r _ => r = 0) (qB D vwCl (qT6 ca) o 41 (fun _ : Unit => qG (GM ca o) z y)) (qw_A o 41)) (qw_A o 41) := by
  refine Met.ofW (cc := cX11_isForm) (maxL := 2) (ret := (some .boolean)) (by decide) rfl ?_
  intro p e s m args below meth c s₁ B hml hv
  obtain ⟨rfl, hP, hK⟩ := hv
  have hx := B.exec
  have hb := B.bytes
  have hr := B.returns
  have hts0 := atoms_spec (ws := Cond.code yX11_isForm cX11_isForm 2 (some .boolean) :: qtbl) B.pre
  have hts : ∀ w ∈ qtbl, w.before _ s = true := fun w h => hts0 w (List.mem_cons_of_mem _ h)
  have hown : s.vm.findClass RX11 = some m.cls := findClass_of_methodNamed B.named
  have hlocks := B.notSynchronized
  have hz0 : (0 : Int32).toInt = 0 := rfl
  have hS : va_S (qw_A o 41) s.heap s.heap [] := va_S.rf
  have hl := lv_entry ([.ref (o + 0), .int a1]) (n := 2) (Nat.le_of_ble_eq_true rfl)
  rw [lg_entry_eq]
  generalize (lg_sl ([.ref (o + 0), .int a1]) ++ List.replicate (2 - (lg_sl ([.ref (o + 0), .int a1])).length) Slot.unset).toArray = ls at hl ⊢
  have hl : lv_has ls 2 [(0, .ref (o + 0)), (1, .int a1)] := hl
  refine lv_iload_n hx hb dX11_isForm_0 rfl (lv_at hl 1 rfl) ?_
  refine lv_iconst (v := 0) hx hb dX11_isForm_1 (by decide) ?_
  refine lv_iconst (v := 5) hx hb dX11_isForm_2 (by decide) ?_
  refine qc_Si (As := [.int a1, .int 0, .int 5]) (rest := []) (k0 := 3) (m1_in l D ca o z y a1 0 5) kc_yX11_in ⟨hx, hb, hml, hown, hts⟩ wq_1187 rfl rfl ⟨Nat.le_of_ble_eq_true rfl, Nat.le_of_ble_eq_true rfl⟩ wq_all hP hK hS qw_Ai rfl hl.1 rfl (Nat.le_of_ble_eq_true rfl) dX11_isForm_3 ⟨Nat.zero_le _, Nat.zero_le _⟩ (fun r1 u1 H locs h1 hP hS _ _ => ?_)
  rcases h1 with ⟨h1r, h1a, h1b⟩ | ⟨h1r, h1a⟩
  · subst h1r
    have t1a : a1.toInt ≥ (0 : Int) := h1a
    have t1b : a1.toInt ≤ (5 : Int) := h1b
    refine lv_if_eq (tgt := 27) hx hb dX11_isForm_6 (by decide) (fun q => absurd q (by decide)) (fun _ => ?_)
    refine lv_aload_n hx hb dX11_isForm_9 rfl (lv_at hl 0 rfl) ?_
    refine qf_get hx hb hts inX11 hown hK hP (q0 := 0) (by decide) (hgM_0 ca o) rfl 6 (by decide) wq_999 (v := .int (z 0 6)) rfl dX11_isForm_10 ?_
    refine qtop (x' := 0) h0_6 ?_
    refine lv_bipush (v := 10) hx hb dX11_isForm_13 (by decide) ?_
    refine lv_iload_n hx hb dX11_isForm_15 rfl (lv_at hl 1 rfl) ?_
    refine lv_iadd hx hb dX11_isForm_16 ?_
    refine lv_topi (fun x2 e2 => ?_)
    refine qc_Si (As := [.int 0, .int x2]) (rest := []) (k0 := 2) (m1_has0 l D ca o z y x2) kc_yX11_has ⟨hx, hb, hml, hown, hts⟩ wq_1198 rfl rfl ⟨Nat.le_of_ble_eq_true rfl, Nat.le_of_ble_eq_true rfl⟩ wq_all hP hK hS qw_Ai rfl hl.1 rfl (Nat.le_of_ble_eq_true rfl) dX11_isForm_17 ⟨Nat.zero_le _, Nat.zero_le _⟩ (fun r3 u3 H locs h3 hP hS _ _ => ?_)
    subst h3
    refine lv_if_eq (tgt := 27) hx hb dX11_isForm_20 (by decide) (fun _ => ?_) (fun q => absurd (by decide) q)
    refine lv_iconst (v := 0) hx hb dX11_isForm_27 (by decide) ?_
    exact W.zret (v := 0) (ty := .boolean) hx hb hr rfl (fun t ht hW => ⟨⟨0, (), rfl, rfl, by rw [ht]; exact hP, va_K.moved hW.alike hK⟩, hS.F ht⟩) hS.2.2 dX11_isForm_28
  · subst h1r
    have t1a : a1.toInt < (0 : Int) ∨ (5 : Int) < a1.toInt := h1a
    refine lv_if_eq (tgt := 27) hx hb dX11_isForm_6 (by decide) (fun _ => ?_) (fun q => absurd (by decide) q)
    refine lv_iconst (v := 0) hx hb dX11_isForm_27 (by decide) ?_
    exact W.zret (v := 0) (ty := .boolean) hx hb hr rfl (fun t ht hW => ⟨⟨0, (), rfl, rfl, by rw [ht]; exact hP, va_K.moved hW.alike hK⟩, hS.F ht⟩) hS.2.2 dX11_isForm_28

set_option maxRecDepth 100000 in
set_option maxHeartbeats 4000000 in
theorem m1_toldRemarks (l : Launch) (D : va_G) (ca : Nat → ClassId) (o : Nat) (z : Nat → Nat → Int32) (y : Nat → Nat → Int64)  (h0_6 : z 0 6 = 0) : qM l yX11_toldRemarks cX11_toldRemarks 1 (some .int) 1 60 (qPre D vwCl (qT6 ca) o 41 (qG (GM ca o) z y) [.ref (o + 0)]) (va_Qi (fun r _ => r = 0) (qB D vwCl (qT6 ca) o 41 (fun _ : Unit => qG (GM ca o) z y)) (qw_A o 41)) (qw_A o 41) := by
  refine Met.ofW (cc := cX11_toldRemarks) (maxL := 1) (ret := (some .int)) (by decide) rfl ?_
  intro p e s m args below meth c s₁ B hml hv
  obtain ⟨rfl, hP, hK⟩ := hv
  have hx := B.exec
  have hb := B.bytes
  have hr := B.returns
  have hts0 := atoms_spec (ws := Cond.code yX11_toldRemarks cX11_toldRemarks 1 (some .int) :: qtbl) B.pre
  have hts : ∀ w ∈ qtbl, w.before _ s = true := fun w h => hts0 w (List.mem_cons_of_mem _ h)
  have hown : s.vm.findClass RX11 = some m.cls := findClass_of_methodNamed B.named
  have hlocks := B.notSynchronized
  have hz0 : (0 : Int32).toInt = 0 := rfl
  have hS : va_S (qw_A o 41) s.heap s.heap [] := va_S.rf
  have hl := lv_entry ([.ref (o + 0)]) (n := 1) (Nat.le_of_ble_eq_true rfl)
  rw [lg_entry_eq]
  generalize (lg_sl ([.ref (o + 0)]) ++ List.replicate (1 - (lg_sl ([.ref (o + 0)])).length) Slot.unset).toArray = ls at hl ⊢
  have hl : lv_has ls 1 [(0, .ref (o + 0))] := hl
  refine lv_aload_n hx hb dX11_toldRemarks_0 rfl (lv_at hl 0 rfl) ?_
  refine qf_get hx hb hts inX11 hown hK hP (q0 := 0) (by decide) (hgM_0 ca o) rfl 6 (by decide) wq_999 (v := .int (z 0 6)) rfl dX11_toldRemarks_1 ?_
  refine qtop (x' := 0) h0_6 ?_
  refine lv_sipush (v := 1023) hx hb dX11_toldRemarks_4 (by decide) ?_
  refine lv_iand hx hb dX11_toldRemarks_7 ?_
  refine qtop (x' := 0) (by decide) ?_
  exact W.iret (v := 0) hx hb hr (fun t ht hW => ⟨⟨0, (), rfl, rfl, by rw [ht]; exact hP, va_K.moved hW.alike hK⟩, hS.F ht⟩) hS.2.2 dX11_toldRemarks_8

set_option maxRecDepth 100000 in
set_option maxHeartbeats 4000000 in
theorem m1_areRemarks (l : Launch) (D : va_G) (ca : Nat → ClassId) (o : Nat) (z : Nat → Nat → Int32) (y : Nat → Nat → Int64) (a1 : Int32) (h0_6 : z 0 6 = 0) : qM l yX11_areRemarks cX11_areRemarks 2 (some .boolean) 2 80 (qPre D vwCl (qT6 ca) o 41 (qG (GM ca o) z y) [.ref (o + 0), .int a1]) (va_Qi (fun r _ => (r = 1 ∧ a1.toInt = 0) ∨ (r = 0 ∧ a1.toInt ≠ 0)) (qB D vwCl (qT6 ca) o 41 (fun _ : Unit => qG (GM ca o) z y)) (qw_A o 41)) (qw_A o 41) := by
  refine Met.ofW (cc := cX11_areRemarks) (maxL := 2) (ret := (some .boolean)) (by decide) rfl ?_
  intro p e s m args below meth c s₁ B hml hv
  obtain ⟨rfl, hP, hK⟩ := hv
  have hx := B.exec
  have hb := B.bytes
  have hr := B.returns
  have hts0 := atoms_spec (ws := Cond.code yX11_areRemarks cX11_areRemarks 2 (some .boolean) :: qtbl) B.pre
  have hts : ∀ w ∈ qtbl, w.before _ s = true := fun w h => hts0 w (List.mem_cons_of_mem _ h)
  have hown : s.vm.findClass RX11 = some m.cls := findClass_of_methodNamed B.named
  have hlocks := B.notSynchronized
  have hz0 : (0 : Int32).toInt = 0 := rfl
  have hS : va_S (qw_A o 41) s.heap s.heap [] := va_S.rf
  have hl := lv_entry ([.ref (o + 0), .int a1]) (n := 2) (Nat.le_of_ble_eq_true rfl)
  rw [lg_entry_eq]
  generalize (lg_sl ([.ref (o + 0), .int a1]) ++ List.replicate (2 - (lg_sl ([.ref (o + 0), .int a1])).length) Slot.unset).toArray = ls at hl ⊢
  have hl : lv_has ls 2 [(0, .ref (o + 0)), (1, .int a1)] := hl
  refine lv_iload_n hx hb dX11_areRemarks_0 rfl (lv_at hl 1 rfl) ?_
  refine lv_if_lt (tgt := 19) hx hb dX11_areRemarks_1 (by decide) (fun c1 => ?_) (fun c1 => ?_)
  · have t1 : a1.toInt < (0 : Int) := gl_lt c1
    refine lv_iconst (v := 0) hx hb dX11_areRemarks_19 (by decide) ?_
    exact W.zret (v := 0) (ty := .boolean) hx hb hr rfl (fun t ht hW => ⟨⟨0, (), rfl, (Or.inr ⟨rfl, by omega⟩), by rw [ht]; exact hP, va_K.moved hW.alike hK⟩, hS.F ht⟩) hS.2.2 dX11_areRemarks_20
  · have t1 : a1.toInt ≥ (0 : Int) := gl_nlt c1
    refine lv_iload_n hx hb dX11_areRemarks_4 rfl (lv_at hl 1 rfl) ?_
    refine lv_aload_n hx hb dX11_areRemarks_5 rfl (lv_at hl 0 rfl) ?_
    refine qc_Vi (As := []) (rest := [.int a1]) (k0 := 0) (m1_toldRemarks l D ca o z y (h0_6)) kc_yX11_toldRemarks ⟨hx, hb, hml, hown, hts⟩ wq_1328 rfl rfl ⟨Nat.le_of_ble_eq_true rfl, Nat.le_of_ble_eq_true rfl⟩ wq_all hP hK hS qw_Ai (q0 := 0) (by decide) (hgM_0 ca o _ _) rfl rfl hl.1 rfl (Nat.le_of_ble_eq_true rfl) dX11_areRemarks_6 ⟨Nat.zero_le _, Nat.zero_le _⟩ (fun r2 u2 H locs h2 hP hS _ _ => ?_)
    subst h2
    refine lv_iconst (v := (-1)) hx hb dX11_areRemarks_9 (by decide) ?_
    refine lv_ixor hx hb dX11_areRemarks_10 ?_
    refine qtop (x' := (-1)) (by decide) ?_
    refine lv_iand hx hb dX11_areRemarks_11 ?_
    refine qtop (gi_m1 _) ?_
    refine lv_if_ne (tgt := 19) hx hb dX11_areRemarks_12 (by decide) (fun c3 => ?_) (fun c3 => ?_)
    · have t3 : a1.toInt ≠ (0 : Int) := gl_ne c3
      refine lv_iconst (v := 0) hx hb dX11_areRemarks_19 (by decide) ?_
      exact W.zret (v := 0) (ty := .boolean) hx hb hr rfl (fun t ht hW => ⟨⟨0, (), rfl, (Or.inr ⟨rfl, by omega⟩), by rw [ht]; exact hP, va_K.moved hW.alike hK⟩, hS.F ht⟩) hS.2.2 dX11_areRemarks_20
    · have t3 : a1.toInt = (0 : Int) := gl_eq c3
      refine lv_iconst (v := 1) hx hb dX11_areRemarks_15 (by decide) ?_
      refine lv_goto (tgt := 20) hx hb dX11_areRemarks_16 (by decide) ?_
      exact W.zret (v := 1) (ty := .boolean) hx hb hr rfl (fun t ht hW => ⟨⟨1, (), rfl, (Or.inl ⟨rfl, by omega⟩), by rw [ht]; exact hP, va_K.moved hW.alike hK⟩, hS.F ht⟩) hS.2.2 dX11_areRemarks_20

set_option maxRecDepth 100000 in
set_option maxHeartbeats 4000000 in
theorem m1_rowMany (l : Launch) (D : va_G) (ca : Nat → ClassId) (o : Nat) (z : Nat → Nat → Int32) (y : Nat → Nat → Int64)  (h0_4 : z 0 4 = 0) : qM l yX11_rowMany cX11_rowMany 3 (some .int) 3 103 (qPre D vwCl (qT6 ca) o 41 (qG (GM ca o) z y) [.ref (o + 0)]) (va_Qi (fun r _ => r = 1) (qB D vwCl (qT6 ca) o 41 (fun _ : Unit => qG (GM ca o) z y)) (qw_A o 41)) (qw_A o 41) := by
  refine Met.ofW (cc := cX11_rowMany) (maxL := 3) (ret := (some .int)) (by decide) rfl ?_
  intro p e s m args below meth c s₁ B hml hv
  obtain ⟨rfl, hP, hK⟩ := hv
  have hx := B.exec
  have hb := B.bytes
  have hr := B.returns
  have hts0 := atoms_spec (ws := Cond.code yX11_rowMany cX11_rowMany 3 (some .int) :: qtbl) B.pre
  have hts : ∀ w ∈ qtbl, w.before _ s = true := fun w h => hts0 w (List.mem_cons_of_mem _ h)
  have hown : s.vm.findClass RX11 = some m.cls := findClass_of_methodNamed B.named
  have hlocks := B.notSynchronized
  have hz0 : (0 : Int32).toInt = 0 := rfl
  have hS : va_S (qw_A o 41) s.heap s.heap [] := va_S.rf
  have hl := lv_entry ([.ref (o + 0)]) (n := 3) (Nat.le_of_ble_eq_true rfl)
  rw [lg_entry_eq]
  generalize (lg_sl ([.ref (o + 0)]) ++ List.replicate (3 - (lg_sl ([.ref (o + 0)])).length) Slot.unset).toArray = ls at hl ⊢
  have hl : lv_has ls 3 [(0, .ref (o + 0))] := hl
  refine lv_iconst (v := 1) hx hb dX11_rowMany_0 (by decide) ?_
  refine lv_istore_n (lv' := [(1, .int 1), (0, .ref (o + 0))]) hx hb dX11_rowMany_1 rfl hl (by decide) rfl (fun ls hl => ?_)
  refine lv_iconst (v := 0) hx hb dX11_rowMany_2 (by decide) ?_
  refine lv_istore_n (lv' := [(2, .int 0), (1, .int 1), (0, .ref (o + 0))]) hx hb dX11_rowMany_3 rfl hl (by decide) rfl (fun ls hl => ?_)
  refine lv_iload_n hx hb dX11_rowMany_4 rfl (lv_at hl 0 rfl) ?_
  refine lv_bipush (v := 6) hx hb dX11_rowMany_5 (by decide) ?_
  refine lv_icmp_ge (tgt := 49) hx hb dX11_rowMany_7 (by decide) (fun q => absurd q (by decide)) (fun _ => ?_)
  refine lv_aload_n hx hb dX11_rowMany_10 rfl (lv_at hl 2 rfl) ?_
  refine lv_iload_n hx hb dX11_rowMany_11 rfl (lv_at hl 0 rfl) ?_
  refine qc_Vi (As := [.int 0]) (rest := []) (k0 := 1) (m1_isPerson l D ca o z y 0 (h0_4)) kc_yX11_isPerson ⟨hx, hb, hml, hown, hts⟩ wq_1194 rfl rfl ⟨Nat.le_of_ble_eq_true rfl, Nat.le_of_ble_eq_true rfl⟩ wq_all hP hK hS qw_Ai (q0 := 0) (by decide) (hgM_0 ca o _ _) rfl rfl hl.1 rfl (Nat.le_of_ble_eq_true rfl) dX11_rowMany_12 ⟨Nat.zero_le _, Nat.zero_le _⟩ (fun r1 u1 H locs h1 hP hS _ _ => ?_)
  subst h1
  refine lv_if_eq (tgt := 43) hx hb dX11_rowMany_15 (by decide) (fun _ => ?_) (fun q => absurd (by decide) q)
  refine lv_iinc (v := 1) (lv' := [(2, .int 1), (1, .int 1), (0, .ref (o + 0))]) hx hb dX11_rowMany_43 hl (k := 0) rfl (by decide) (by decide) rfl (fun ls hl => ?_)
  refine lv_goto (tgt := 4) hx hb dX11_rowMany_46 (by decide) ?_
  refine lv_iload_n hx hb dX11_rowMany_4 rfl (lv_at hl 0 rfl) ?_
  refine lv_bipush (v := 6) hx hb dX11_rowMany_5 (by decide) ?_
  refine lv_icmp_ge (tgt := 49) hx hb dX11_rowMany_7 (by decide) (fun q => absurd q (by decide)) (fun _ => ?_)
  refine lv_aload_n hx hb dX11_rowMany_10 rfl (lv_at hl 2 rfl) ?_
  refine lv_iload_n hx hb dX11_rowMany_11 rfl (lv_at hl 0 rfl) ?_
  refine qc_Vi (As := [.int 1]) (rest := []) (k0 := 1) (m1_isPerson l D ca o z y 1 (h0_4)) kc_yX11_isPerson ⟨hx, hb, hml, hown, hts⟩ wq_1194 rfl rfl ⟨Nat.le_of_ble_eq_true rfl, Nat.le_of_ble_eq_true rfl⟩ wq_all hP hK hS qw_Ai (q0 := 0) (by decide) (hgM_0 ca o _ _) rfl rfl hl.1 rfl (Nat.le_of_ble_eq_true rfl) dX11_rowMany_12 ⟨Nat.zero_le _, Nat.zero_le _⟩ (fun r2 u2 H locs h2 hP hS _ _ => ?_)
  subst h2
  refine lv_if_eq (tgt := 43) hx hb dX11_rowMany_15 (by decide) (fun _ => ?_) (fun q => absurd (by decide) q)
  refine lv_iinc (v := 2) (lv' := [(2, .int 2), (1, .int 1), (0, .ref (o + 0))]) hx hb dX11_rowMany_43 hl (k := 0) rfl (by decide) (by decide) rfl (fun ls hl => ?_)
  refine lv_goto (tgt := 4) hx hb dX11_rowMany_46 (by decide) ?_
  refine lv_iload_n hx hb dX11_rowMany_4 rfl (lv_at hl 0 rfl) ?_
  refine lv_bipush (v := 6) hx hb dX11_rowMany_5 (by decide) ?_
  refine lv_icmp_ge (tgt := 49) hx hb dX11_rowMany_7 (by decide) (fun q => absurd q (by decide)) (fun _ => ?_)
  refine lv_aload_n hx hb dX11_rowMany_10 rfl (lv_at hl 2 rfl) ?_
  refine lv_iload_n hx hb dX11_rowMany_11 rfl (lv_at hl 0 rfl) ?_
  refine qc_Vi (As := [.int 2]) (rest := []) (k0 := 1) (m1_isPerson l D ca o z y 2 (h0_4)) kc_yX11_isPerson ⟨hx, hb, hml, hown, hts⟩ wq_1194 rfl rfl ⟨Nat.le_of_ble_eq_true rfl, Nat.le_of_ble_eq_true rfl⟩ wq_all hP hK hS qw_Ai (q0 := 0) (by decide) (hgM_0 ca o _ _) rfl rfl hl.1 rfl (Nat.le_of_ble_eq_true rfl) dX11_rowMany_12 ⟨Nat.zero_le _, Nat.zero_le _⟩ (fun r3 u3 H locs h3 hP hS _ _ => ?_)
  subst h3
  refine lv_if_eq (tgt := 43) hx hb dX11_rowMany_15 (by decide) (fun _ => ?_) (fun q => absurd (by decide) q)
  refine lv_iinc (v := 3) (lv' := [(2, .int 3), (1, .int 1), (0, .ref (o + 0))]) hx hb dX11_rowMany_43 hl (k := 0) rfl (by decide) (by decide) rfl (fun ls hl => ?_)
  refine lv_goto (tgt := 4) hx hb dX11_rowMany_46 (by decide) ?_
  refine lv_iload_n hx hb dX11_rowMany_4 rfl (lv_at hl 0 rfl) ?_
  refine lv_bipush (v := 6) hx hb dX11_rowMany_5 (by decide) ?_
  refine lv_icmp_ge (tgt := 49) hx hb dX11_rowMany_7 (by decide) (fun q => absurd q (by decide)) (fun _ => ?_)
  refine lv_aload_n hx hb dX11_rowMany_10 rfl (lv_at hl 2 rfl) ?_
  refine lv_iload_n hx hb dX11_rowMany_11 rfl (lv_at hl 0 rfl) ?_
  refine qc_Vi (As := [.int 3]) (rest := []) (k0 := 1) (m1_isPerson l D ca o z y 3 (h0_4)) kc_yX11_isPerson ⟨hx, hb, hml, hown, hts⟩ wq_1194 rfl rfl ⟨Nat.le_of_ble_eq_true rfl, Nat.le_of_ble_eq_true rfl⟩ wq_all hP hK hS qw_Ai (q0 := 0) (by decide) (hgM_0 ca o _ _) rfl rfl hl.1 rfl (Nat.le_of_ble_eq_true rfl) dX11_rowMany_12 ⟨Nat.zero_le _, Nat.zero_le _⟩ (fun r4 u4 H locs h4 hP hS _ _ => ?_)
  subst h4
  refine lv_if_eq (tgt := 43) hx hb dX11_rowMany_15 (by decide) (fun _ => ?_) (fun q => absurd (by decide) q)
  refine lv_iinc (v := 4) (lv' := [(2, .int 4), (1, .int 1), (0, .ref (o + 0))]) hx hb dX11_rowMany_43 hl (k := 0) rfl (by decide) (by decide) rfl (fun ls hl => ?_)
  refine lv_goto (tgt := 4) hx hb dX11_rowMany_46 (by decide) ?_
  refine lv_iload_n hx hb dX11_rowMany_4 rfl (lv_at hl 0 rfl) ?_
  refine lv_bipush (v := 6) hx hb dX11_rowMany_5 (by decide) ?_
  refine lv_icmp_ge (tgt := 49) hx hb dX11_rowMany_7 (by decide) (fun q => absurd q (by decide)) (fun _ => ?_)
  refine lv_aload_n hx hb dX11_rowMany_10 rfl (lv_at hl 2 rfl) ?_
  refine lv_iload_n hx hb dX11_rowMany_11 rfl (lv_at hl 0 rfl) ?_
  refine qc_Vi (As := [.int 4]) (rest := []) (k0 := 1) (m1_isPerson l D ca o z y 4 (h0_4)) kc_yX11_isPerson ⟨hx, hb, hml, hown, hts⟩ wq_1194 rfl rfl ⟨Nat.le_of_ble_eq_true rfl, Nat.le_of_ble_eq_true rfl⟩ wq_all hP hK hS qw_Ai (q0 := 0) (by decide) (hgM_0 ca o _ _) rfl rfl hl.1 rfl (Nat.le_of_ble_eq_true rfl) dX11_rowMany_12 ⟨Nat.zero_le _, Nat.zero_le _⟩ (fun r5 u5 H locs h5 hP hS _ _ => ?_)
  subst h5
  refine lv_if_eq (tgt := 43) hx hb dX11_rowMany_15 (by decide) (fun _ => ?_) (fun q => absurd (by decide) q)
  refine lv_iinc (v := 5) (lv' := [(2, .int 5), (1, .int 1), (0, .ref (o + 0))]) hx hb dX11_rowMany_43 hl (k := 0) rfl (by decide) (by decide) rfl (fun ls hl => ?_)
  refine lv_goto (tgt := 4) hx hb dX11_rowMany_46 (by decide) ?_
  refine lv_iload_n hx hb dX11_rowMany_4 rfl (lv_at hl 0 rfl) ?_
  refine lv_bipush (v := 6) hx hb dX11_rowMany_5 (by decide) ?_
  refine lv_icmp_ge (tgt := 49) hx hb dX11_rowMany_7 (by decide) (fun q => absurd q (by decide)) (fun _ => ?_)
  refine lv_aload_n hx hb dX11_rowMany_10 rfl (lv_at hl 2 rfl) ?_
  refine lv_iload_n hx hb dX11_rowMany_11 rfl (lv_at hl 0 rfl) ?_
  refine qc_Vi (As := [.int 5]) (rest := []) (k0 := 1) (m1_isPerson l D ca o z y 5 (h0_4)) kc_yX11_isPerson ⟨hx, hb, hml, hown, hts⟩ wq_1194 rfl rfl ⟨Nat.le_of_ble_eq_true rfl, Nat.le_of_ble_eq_true rfl⟩ wq_all hP hK hS qw_Ai (q0 := 0) (by decide) (hgM_0 ca o _ _) rfl rfl hl.1 rfl (Nat.le_of_ble_eq_true rfl) dX11_rowMany_12 ⟨Nat.zero_le _, Nat.zero_le _⟩ (fun r6 u6 H locs h6 hP hS _ _ => ?_)
  subst h6
  refine lv_if_eq (tgt := 43) hx hb dX11_rowMany_15 (by decide) (fun _ => ?_) (fun q => absurd (by decide) q)
  refine lv_iinc (v := 6) (lv' := [(2, .int 6), (1, .int 1), (0, .ref (o + 0))]) hx hb dX11_rowMany_43 hl (k := 0) rfl (by decide) (by decide) rfl (fun ls hl => ?_)
  refine lv_goto (tgt := 4) hx hb dX11_rowMany_46 (by decide) ?_
  refine lv_iload_n hx hb dX11_rowMany_4 rfl (lv_at hl 0 rfl) ?_
  refine lv_bipush (v := 6) hx hb dX11_rowMany_5 (by decide) ?_
  refine lv_icmp_ge (tgt := 49) hx hb dX11_rowMany_7 (by decide) (fun _ => ?_) (fun q => absurd (by decide) q)
  refine lv_iload_n hx hb dX11_rowMany_49 rfl (lv_at hl 1 rfl) ?_
  exact W.iret (v := 1) hx hb hr (fun t ht hW => ⟨⟨1, (), rfl, rfl, by rw [ht]; exact hP, va_K.moved hW.alike hK⟩, hS.F ht⟩) hS.2.2 dX11_rowMany_50

set_option maxRecDepth 100000 in
set_option maxHeartbeats 4000000 in
theorem m1_nextRow (l : Launch) (D : va_G) (ca : Nat → ClassId) (o : Nat) (z : Nat → Nat → Int32) (y : Nat → Nat → Int64)  (h0_4 : z 0 4 = 0) : qM l yX11_nextRow cX11_nextRow 2 (some .boolean) 3 103 (qPre D vwCl (qT6 ca) o 41 (qG (GM ca o) z y) [.ref (o + 0)]) (va_Qi (fun r _ => r = 0) (qB D vwCl (qT6 ca) o 41 (fun _ : Unit => qG (GM ca o) z y)) (qw_A o 41)) (qw_A o 41) := by
  refine Met.ofW (cc := cX11_nextRow) (maxL := 2) (ret := (some .boolean)) (by decide) rfl ?_
  intro p e s m args below meth c s₁ B hml hv
  obtain ⟨rfl, hP, hK⟩ := hv
  have hx := B.exec
  have hb := B.bytes
  have hr := B.returns
  have hts0 := atoms_spec (ws := Cond.code yX11_nextRow cX11_nextRow 2 (some .boolean) :: qtbl) B.pre
  have hts : ∀ w ∈ qtbl, w.before _ s = true := fun w h => hts0 w (List.mem_cons_of_mem _ h)
  have hown : s.vm.findClass RX11 = some m.cls := findClass_of_methodNamed B.named
  have hlocks := B.notSynchronized
  have hz0 : (0 : Int32).toInt = 0 := rfl
  have hS : va_S (qw_A o 41) s.heap s.heap [] := va_S.rf
  have hl := lv_entry ([.ref (o + 0)]) (n := 2) (Nat.le_of_ble_eq_true rfl)
  rw [lg_entry_eq]
  generalize (lg_sl ([.ref (o + 0)]) ++ List.replicate (2 - (lg_sl ([.ref (o + 0)])).length) Slot.unset).toArray = ls at hl ⊢
  have hl : lv_has ls 2 [(0, .ref (o + 0))] := hl
  refine lv_iconst (v := 5) hx hb dX11_nextRow_0 (by decide) ?_
  refine lv_istore_n (lv' := [(1, .int 5), (0, .ref (o + 0))]) hx hb dX11_nextRow_1 rfl hl (by decide) rfl (fun ls hl => ?_)
  refine lv_iload_n hx hb dX11_nextRow_2 rfl (lv_at hl 0 rfl) ?_
  refine lv_if_lt (tgt := 66) hx hb dX11_nextRow_3 (by decide) (fun q => absurd q (by decide)) (fun _ => ?_)
  refine lv_aload_n hx hb dX11_nextRow_6 rfl (lv_at hl 1 rfl) ?_
  refine lv_iload_n hx hb dX11_nextRow_7 rfl (lv_at hl 0 rfl) ?_
  refine qc_Vi (As := [.int 5]) (rest := []) (k0 := 1) (m1_isPerson l D ca o z y 5 (h0_4)) kc_yX11_isPerson ⟨hx, hb, hml, hown, hts⟩ wq_1194 rfl rfl ⟨Nat.le_of_ble_eq_true rfl, Nat.le_of_ble_eq_true rfl⟩ wq_all hP hK hS qw_Ai (q0 := 0) (by decide) (hgM_0 ca o _ _) rfl rfl hl.1 rfl (Nat.le_of_ble_eq_true rfl) dX11_nextRow_8 ⟨Nat.zero_le _, Nat.zero_le _⟩ (fun r1 u1 H locs h1 hP hS _ _ => ?_)
  subst h1
  refine lv_if_ne (tgt := 17) hx hb dX11_nextRow_11 (by decide) (fun q => absurd q (by decide)) (fun _ => ?_)
  refine lv_goto (tgt := 60) hx hb dX11_nextRow_14 (by decide) ?_
  refine lv_iinc (v := 4) (lv' := [(1, .int 4), (0, .ref (o + 0))]) hx hb dX11_nextRow_60 hl (k := 0) rfl (by decide) (by decide) rfl (fun ls hl => ?_)
  refine lv_goto (tgt := 2) hx hb dX11_nextRow_63 (by decide) ?_
  refine lv_iload_n hx hb dX11_nextRow_2 rfl (lv_at hl 0 rfl) ?_
  refine lv_if_lt (tgt := 66) hx hb dX11_nextRow_3 (by decide) (fun q => absurd q (by decide)) (fun _ => ?_)
  refine lv_aload_n hx hb dX11_nextRow_6 rfl (lv_at hl 1 rfl) ?_
  refine lv_iload_n hx hb dX11_nextRow_7 rfl (lv_at hl 0 rfl) ?_
  refine qc_Vi (As := [.int 4]) (rest := []) (k0 := 1) (m1_isPerson l D ca o z y 4 (h0_4)) kc_yX11_isPerson ⟨hx, hb, hml, hown, hts⟩ wq_1194 rfl rfl ⟨Nat.le_of_ble_eq_true rfl, Nat.le_of_ble_eq_true rfl⟩ wq_all hP hK hS qw_Ai (q0 := 0) (by decide) (hgM_0 ca o _ _) rfl rfl hl.1 rfl (Nat.le_of_ble_eq_true rfl) dX11_nextRow_8 ⟨Nat.zero_le _, Nat.zero_le _⟩ (fun r2 u2 H locs h2 hP hS _ _ => ?_)
  subst h2
  refine lv_if_ne (tgt := 17) hx hb dX11_nextRow_11 (by decide) (fun q => absurd q (by decide)) (fun _ => ?_)
  refine lv_goto (tgt := 60) hx hb dX11_nextRow_14 (by decide) ?_
  refine lv_iinc (v := 3) (lv' := [(1, .int 3), (0, .ref (o + 0))]) hx hb dX11_nextRow_60 hl (k := 0) rfl (by decide) (by decide) rfl (fun ls hl => ?_)
  refine lv_goto (tgt := 2) hx hb dX11_nextRow_63 (by decide) ?_
  refine lv_iload_n hx hb dX11_nextRow_2 rfl (lv_at hl 0 rfl) ?_
  refine lv_if_lt (tgt := 66) hx hb dX11_nextRow_3 (by decide) (fun q => absurd q (by decide)) (fun _ => ?_)
  refine lv_aload_n hx hb dX11_nextRow_6 rfl (lv_at hl 1 rfl) ?_
  refine lv_iload_n hx hb dX11_nextRow_7 rfl (lv_at hl 0 rfl) ?_
  refine qc_Vi (As := [.int 3]) (rest := []) (k0 := 1) (m1_isPerson l D ca o z y 3 (h0_4)) kc_yX11_isPerson ⟨hx, hb, hml, hown, hts⟩ wq_1194 rfl rfl ⟨Nat.le_of_ble_eq_true rfl, Nat.le_of_ble_eq_true rfl⟩ wq_all hP hK hS qw_Ai (q0 := 0) (by decide) (hgM_0 ca o _ _) rfl rfl hl.1 rfl (Nat.le_of_ble_eq_true rfl) dX11_nextRow_8 ⟨Nat.zero_le _, Nat.zero_le _⟩ (fun r3 u3 H locs h3 hP hS _ _ => ?_)
  subst h3
  refine lv_if_ne (tgt := 17) hx hb dX11_nextRow_11 (by decide) (fun q => absurd q (by decide)) (fun _ => ?_)
  refine lv_goto (tgt := 60) hx hb dX11_nextRow_14 (by decide) ?_
  refine lv_iinc (v := 2) (lv' := [(1, .int 2), (0, .ref (o + 0))]) hx hb dX11_nextRow_60 hl (k := 0) rfl (by decide) (by decide) rfl (fun ls hl => ?_)
  refine lv_goto (tgt := 2) hx hb dX11_nextRow_63 (by decide) ?_
  refine lv_iload_n hx hb dX11_nextRow_2 rfl (lv_at hl 0 rfl) ?_
  refine lv_if_lt (tgt := 66) hx hb dX11_nextRow_3 (by decide) (fun q => absurd q (by decide)) (fun _ => ?_)
  refine lv_aload_n hx hb dX11_nextRow_6 rfl (lv_at hl 1 rfl) ?_
  refine lv_iload_n hx hb dX11_nextRow_7 rfl (lv_at hl 0 rfl) ?_
  refine qc_Vi (As := [.int 2]) (rest := []) (k0 := 1) (m1_isPerson l D ca o z y 2 (h0_4)) kc_yX11_isPerson ⟨hx, hb, hml, hown, hts⟩ wq_1194 rfl rfl ⟨Nat.le_of_ble_eq_true rfl, Nat.le_of_ble_eq_true rfl⟩ wq_all hP hK hS qw_Ai (q0 := 0) (by decide) (hgM_0 ca o _ _) rfl rfl hl.1 rfl (Nat.le_of_ble_eq_true rfl) dX11_nextRow_8 ⟨Nat.zero_le _, Nat.zero_le _⟩ (fun r4 u4 H locs h4 hP hS _ _ => ?_)
  subst h4
  refine lv_if_ne (tgt := 17) hx hb dX11_nextRow_11 (by decide) (fun q => absurd q (by decide)) (fun _ => ?_)
  refine lv_goto (tgt := 60) hx hb dX11_nextRow_14 (by decide) ?_
  refine lv_iinc (v := 1) (lv' := [(1, .int 1), (0, .ref (o + 0))]) hx hb dX11_nextRow_60 hl (k := 0) rfl (by decide) (by decide) rfl (fun ls hl => ?_)
  refine lv_goto (tgt := 2) hx hb dX11_nextRow_63 (by decide) ?_
  refine lv_iload_n hx hb dX11_nextRow_2 rfl (lv_at hl 0 rfl) ?_
  refine lv_if_lt (tgt := 66) hx hb dX11_nextRow_3 (by decide) (fun q => absurd q (by decide)) (fun _ => ?_)
  refine lv_aload_n hx hb dX11_nextRow_6 rfl (lv_at hl 1 rfl) ?_
  refine lv_iload_n hx hb dX11_nextRow_7 rfl (lv_at hl 0 rfl) ?_
  refine qc_Vi (As := [.int 1]) (rest := []) (k0 := 1) (m1_isPerson l D ca o z y 1 (h0_4)) kc_yX11_isPerson ⟨hx, hb, hml, hown, hts⟩ wq_1194 rfl rfl ⟨Nat.le_of_ble_eq_true rfl, Nat.le_of_ble_eq_true rfl⟩ wq_all hP hK hS qw_Ai (q0 := 0) (by decide) (hgM_0 ca o _ _) rfl rfl hl.1 rfl (Nat.le_of_ble_eq_true rfl) dX11_nextRow_8 ⟨Nat.zero_le _, Nat.zero_le _⟩ (fun r5 u5 H locs h5 hP hS _ _ => ?_)
  subst h5
  refine lv_if_ne (tgt := 17) hx hb dX11_nextRow_11 (by decide) (fun q => absurd q (by decide)) (fun _ => ?_)
  refine lv_goto (tgt := 60) hx hb dX11_nextRow_14 (by decide) ?_
  refine lv_iinc (v := 0) (lv' := [(1, .int 0), (0, .ref (o + 0))]) hx hb dX11_nextRow_60 hl (k := 0) rfl (by decide) (by decide) rfl (fun ls hl => ?_)
  refine lv_goto (tgt := 2) hx hb dX11_nextRow_63 (by decide) ?_
  refine lv_iload_n hx hb dX11_nextRow_2 rfl (lv_at hl 0 rfl) ?_
  refine lv_if_lt (tgt := 66) hx hb dX11_nextRow_3 (by decide) (fun q => absurd q (by decide)) (fun _ => ?_)
  refine lv_aload_n hx hb dX11_nextRow_6 rfl (lv_at hl 1 rfl) ?_
  refine lv_iload_n hx hb dX11_nextRow_7 rfl (lv_at hl 0 rfl) ?_
  refine qc_Vi (As := [.int 0]) (rest := []) (k0 := 1) (m1_isPerson l D ca o z y 0 (h0_4)) kc_yX11_isPerson ⟨hx, hb, hml, hown, hts⟩ wq_1194 rfl rfl ⟨Nat.le_of_ble_eq_true rfl, Nat.le_of_ble_eq_true rfl⟩ wq_all hP hK hS qw_Ai (q0 := 0) (by decide) (hgM_0 ca o _ _) rfl rfl hl.1 rfl (Nat.le_of_ble_eq_true rfl) dX11_nextRow_8 ⟨Nat.zero_le _, Nat.zero_le _⟩ (fun r6 u6 H locs h6 hP hS _ _ => ?_)
  subst h6
  refine lv_if_ne (tgt := 17) hx hb dX11_nextRow_11 (by decide) (fun q => absurd q (by decide)) (fun _ => ?_)
  refine lv_goto (tgt := 60) hx hb dX11_nextRow_14 (by decide) ?_
  refine lv_iinc (v := (-1)) (lv' := [(1, .int ((-1))), (0, .ref (o + 0))]) hx hb dX11_nextRow_60 hl (k := 0) rfl (by decide) (by decide) rfl (fun ls hl => ?_)
  refine lv_goto (tgt := 2) hx hb dX11_nextRow_63 (by decide) ?_
  refine lv_iload_n hx hb dX11_nextRow_2 rfl (lv_at hl 0 rfl) ?_
  refine lv_if_lt (tgt := 66) hx hb dX11_nextRow_3 (by decide) (fun _ => ?_) (fun q => absurd (by decide) q)
  refine lv_iconst (v := 0) hx hb dX11_nextRow_66 (by decide) ?_
  exact W.zret (v := 0) (ty := .boolean) hx hb hr rfl (fun t ht hW => ⟨⟨0, (), rfl, rfl, by rw [ht]; exact hP, va_K.moved hW.alike hK⟩, hS.F ht⟩) hS.2.2 dX11_nextRow_67

set_option maxRecDepth 100000 in
set_option maxHeartbeats 4000000 in
theorem m1_squaresIn (l : Launch) (D : va_G) (ca : Nat → ClassId) (o : Nat) (z : Nat → Nat → Int32) (y : Nat → Nat → Int64) (a1 : Int32) (h0_4 : z 0 4 = 0) : qM l yX11_squaresIn cX11_squaresIn 5 (some .int) 3 103 (qPre D vwCl (qT6 ca) o 41 (qG (GM ca o) z y) [.ref (o + 0), .int a1]) (va_Qi (fun r _ => r = 0) (qB D vwCl (qT6 ca) o 41 (fun _ : Unit => qG (GM ca o) z y)) (qw_A o 41)) (qw_A o 41) := by
  refine Met.ofW (cc := cX11_squaresIn) (maxL := 5) (ret := (some .int)) (by decide) rfl ?_
  intro p e s m args below meth c s₁ B hml hv
  obtain ⟨rfl, hP, hK⟩ := hv
  have hx := B.exec
  have hb := B.bytes
  have hr := B.returns
  have hts0 := atoms_spec (ws := Cond.code yX11_squaresIn cX11_squaresIn 5 (some .int) :: qtbl) B.pre
  have hts : ∀ w ∈ qtbl, w.before _ s = true := fun w h => hts0 w (List.mem_cons_of_mem _ h)
  have hown : s.vm.findClass RX11 = some m.cls := findClass_of_methodNamed B.named
  have hlocks := B.notSynchronized
  have hz0 : (0 : Int32).toInt = 0 := rfl
  have hS : va_S (qw_A o 41) s.heap s.heap [] := va_S.rf
  have hl := lv_entry ([.ref (o + 0), .int a1]) (n := 5) (Nat.le_of_ble_eq_true rfl)
  rw [lg_entry_eq]
  generalize (lg_sl ([.ref (o + 0), .int a1]) ++ List.replicate (5 - (lg_sl ([.ref (o + 0), .int a1])).length) Slot.unset).toArray = ls at hl ⊢
  have hl : lv_has ls 5 [(0, .ref (o + 0)), (1, .int a1)] := hl
  refine lv_iconst (v := 0) hx hb dX11_squaresIn_0 (by decide) ?_
  refine lv_istore_n (lv' := [(2, .int 0), (0, .ref (o + 0)), (1, .int a1)]) hx hb dX11_squaresIn_1 rfl hl (by decide) rfl (fun ls hl => ?_)
  refine lv_iconst (v := 0) hx hb dX11_squaresIn_2 (by decide) ?_
  refine lv_istore_n (lv' := [(3, .int 0), (2, .int 0), (0, .ref (o + 0)), (1, .int a1)]) hx hb dX11_squaresIn_3 rfl hl (by decide) rfl (fun ls hl => ?_)
  refine lv_iload_n hx hb dX11_squaresIn_4 rfl (lv_at hl 0 rfl) ?_
  refine lv_bipush (v := 6) hx hb dX11_squaresIn_5 (by decide) ?_
  refine lv_icmp_ge (tgt := 94) hx hb dX11_squaresIn_7 (by decide) (fun q => absurd q (by decide)) (fun _ => ?_)
  refine lv_iconst (v := 0) hx hb dX11_squaresIn_10 (by decide) ?_
  refine lv_istore (lv' := [(4, .int 0), (3, .int 0), (2, .int 0), (0, .ref (o + 0)), (1, .int a1)]) hx hb dX11_squaresIn_11 hl (by decide) rfl (fun ls hl => ?_)
  refine lv_aload_n hx hb dX11_squaresIn_13 rfl (lv_at hl 3 rfl) ?_
  refine lv_iload_n hx hb dX11_squaresIn_14 rfl (lv_at hl 1 rfl) ?_
  refine qc_Vi (As := [.int 0]) (rest := []) (k0 := 1) (m1_isPerson l D ca o z y 0 (h0_4)) kc_yX11_isPerson ⟨hx, hb, hml, hown, hts⟩ wq_1194 rfl rfl ⟨Nat.le_of_ble_eq_true rfl, Nat.le_of_ble_eq_true rfl⟩ wq_all hP hK hS qw_Ai (q0 := 0) (by decide) (hgM_0 ca o _ _) rfl rfl hl.1 rfl (Nat.le_of_ble_eq_true rfl) dX11_squaresIn_15 ⟨Nat.zero_le _, Nat.zero_le _⟩ (fun r1 u1 H locs h1 hP hS _ _ => ?_)
  subst h1
  refine lv_if_eq (tgt := 51) hx hb dX11_squaresIn_18 (by decide) (fun _ => ?_) (fun q => absurd (by decide) q)
  refine lv_iload_n hx hb dX11_squaresIn_51 rfl (lv_at hl 2 rfl) ?_
  refine lv_aload_n hx hb dX11_squaresIn_52 rfl (lv_at hl 3 rfl) ?_
  refine lv_iload_n hx hb dX11_squaresIn_53 rfl (lv_at hl 1 rfl) ?_
  refine qc_Vi (As := [.int 0]) (rest := [.int 0]) (k0 := 1) (m1_isPerson l D ca o z y 0 (h0_4)) kc_yX11_isPerson ⟨hx, hb, hml, hown, hts⟩ wq_1194 rfl rfl ⟨Nat.le_of_ble_eq_true rfl, Nat.le_of_ble_eq_true rfl⟩ wq_all hP hK hS qw_Ai (q0 := 0) (by decide) (hgM_0 ca o _ _) rfl rfl hl.1 rfl (Nat.le_of_ble_eq_true rfl) dX11_squaresIn_54 ⟨Nat.zero_le _, Nat.zero_le _⟩ (fun r2 u2 H locs h2 hP hS _ _ => ?_)
  subst h2
  refine lv_if_eq (tgt := 85) hx hb dX11_squaresIn_57 (by decide) (fun _ => ?_) (fun q => absurd (by decide) q)
  refine lv_iconst (v := 0) hx hb dX11_squaresIn_85 (by decide) ?_
  refine lv_iadd hx hb dX11_squaresIn_86 ?_
  refine qtop (x' := 0) (by decide) ?_
  refine lv_istore_n (lv' := [(2, .int 0), (4, .int 0), (3, .int 0), (0, .ref (o + 0)), (1, .int a1)]) hx hb dX11_squaresIn_87 rfl hl (by decide) rfl (fun ls hl => ?_)
  refine lv_iinc (v := 1) (lv' := [(3, .int 1), (2, .int 0), (4, .int 0), (0, .ref (o + 0)), (1, .int a1)]) hx hb dX11_squaresIn_88 hl (k := 2) rfl (by decide) (by decide) rfl (fun ls hl => ?_)
  refine lv_goto (tgt := 4) hx hb dX11_squaresIn_91 (by decide) ?_
  refine lv_iload_n hx hb dX11_squaresIn_4 rfl (lv_at hl 0 rfl) ?_
  refine lv_bipush (v := 6) hx hb dX11_squaresIn_5 (by decide) ?_
  refine lv_icmp_ge (tgt := 94) hx hb dX11_squaresIn_7 (by decide) (fun q => absurd q (by decide)) (fun _ => ?_)
  refine lv_iconst (v := 0) hx hb dX11_squaresIn_10 (by decide) ?_
  refine lv_istore (lv' := [(4, .int 0), (3, .int 1), (2, .int 0), (0, .ref (o + 0)), (1, .int a1)]) hx hb dX11_squaresIn_11 hl (by decide) rfl (fun ls hl => ?_)
  refine lv_aload_n hx hb dX11_squaresIn_13 rfl (lv_at hl 3 rfl) ?_
  refine lv_iload_n hx hb dX11_squaresIn_14 rfl (lv_at hl 1 rfl) ?_
  refine qc_Vi (As := [.int 1]) (rest := []) (k0 := 1) (m1_isPerson l D ca o z y 1 (h0_4)) kc_yX11_isPerson ⟨hx, hb, hml, hown, hts⟩ wq_1194 rfl rfl ⟨Nat.le_of_ble_eq_true rfl, Nat.le_of_ble_eq_true rfl⟩ wq_all hP hK hS qw_Ai (q0 := 0) (by decide) (hgM_0 ca o _ _) rfl rfl hl.1 rfl (Nat.le_of_ble_eq_true rfl) dX11_squaresIn_15 ⟨Nat.zero_le _, Nat.zero_le _⟩ (fun r3 u3 H locs h3 hP hS _ _ => ?_)
  subst h3
  refine lv_if_eq (tgt := 51) hx hb dX11_squaresIn_18 (by decide) (fun _ => ?_) (fun q => absurd (by decide) q)
  refine lv_iload_n hx hb dX11_squaresIn_51 rfl (lv_at hl 2 rfl) ?_
  refine lv_aload_n hx hb dX11_squaresIn_52 rfl (lv_at hl 3 rfl) ?_
  refine lv_iload_n hx hb dX11_squaresIn_53 rfl (lv_at hl 1 rfl) ?_
  refine qc_Vi (As := [.int 1]) (rest := [.int 0]) (k0 := 1) (m1_isPerson l D ca o z y 1 (h0_4)) kc_yX11_isPerson ⟨hx, hb, hml, hown, hts⟩ wq_1194 rfl rfl ⟨Nat.le_of_ble_eq_true rfl, Nat.le_of_ble_eq_true rfl⟩ wq_all hP hK hS qw_Ai (q0 := 0) (by decide) (hgM_0 ca o _ _) rfl rfl hl.1 rfl (Nat.le_of_ble_eq_true rfl) dX11_squaresIn_54 ⟨Nat.zero_le _, Nat.zero_le _⟩ (fun r4 u4 H locs h4 hP hS _ _ => ?_)
  subst h4
  refine lv_if_eq (tgt := 85) hx hb dX11_squaresIn_57 (by decide) (fun _ => ?_) (fun q => absurd (by decide) q)
  refine lv_iconst (v := 0) hx hb dX11_squaresIn_85 (by decide) ?_
  refine lv_iadd hx hb dX11_squaresIn_86 ?_
  refine qtop (x' := 0) (by decide) ?_
  refine lv_istore_n (lv' := [(2, .int 0), (4, .int 0), (3, .int 1), (0, .ref (o + 0)), (1, .int a1)]) hx hb dX11_squaresIn_87 rfl hl (by decide) rfl (fun ls hl => ?_)
  refine lv_iinc (v := 2) (lv' := [(3, .int 2), (2, .int 0), (4, .int 0), (0, .ref (o + 0)), (1, .int a1)]) hx hb dX11_squaresIn_88 hl (k := 2) rfl (by decide) (by decide) rfl (fun ls hl => ?_)
  refine lv_goto (tgt := 4) hx hb dX11_squaresIn_91 (by decide) ?_
  refine lv_iload_n hx hb dX11_squaresIn_4 rfl (lv_at hl 0 rfl) ?_
  refine lv_bipush (v := 6) hx hb dX11_squaresIn_5 (by decide) ?_
  refine lv_icmp_ge (tgt := 94) hx hb dX11_squaresIn_7 (by decide) (fun q => absurd q (by decide)) (fun _ => ?_)
  refine lv_iconst (v := 0) hx hb dX11_squaresIn_10 (by decide) ?_
  refine lv_istore (lv' := [(4, .int 0), (3, .int 2), (2, .int 0), (0, .ref (o + 0)), (1, .int a1)]) hx hb dX11_squaresIn_11 hl (by decide) rfl (fun ls hl => ?_)
  refine lv_aload_n hx hb dX11_squaresIn_13 rfl (lv_at hl 3 rfl) ?_
  refine lv_iload_n hx hb dX11_squaresIn_14 rfl (lv_at hl 1 rfl) ?_
  refine qc_Vi (As := [.int 2]) (rest := []) (k0 := 1) (m1_isPerson l D ca o z y 2 (h0_4)) kc_yX11_isPerson ⟨hx, hb, hml, hown, hts⟩ wq_1194 rfl rfl ⟨Nat.le_of_ble_eq_true rfl, Nat.le_of_ble_eq_true rfl⟩ wq_all hP hK hS qw_Ai (q0 := 0) (by decide) (hgM_0 ca o _ _) rfl rfl hl.1 rfl (Nat.le_of_ble_eq_true rfl) dX11_squaresIn_15 ⟨Nat.zero_le _, Nat.zero_le _⟩ (fun r5 u5 H locs h5 hP hS _ _ => ?_)
  subst h5
  refine lv_if_eq (tgt := 51) hx hb dX11_squaresIn_18 (by decide) (fun _ => ?_) (fun q => absurd (by decide) q)
  refine lv_iload_n hx hb dX11_squaresIn_51 rfl (lv_at hl 2 rfl) ?_
  refine lv_aload_n hx hb dX11_squaresIn_52 rfl (lv_at hl 3 rfl) ?_
  refine lv_iload_n hx hb dX11_squaresIn_53 rfl (lv_at hl 1 rfl) ?_
  refine qc_Vi (As := [.int 2]) (rest := [.int 0]) (k0 := 1) (m1_isPerson l D ca o z y 2 (h0_4)) kc_yX11_isPerson ⟨hx, hb, hml, hown, hts⟩ wq_1194 rfl rfl ⟨Nat.le_of_ble_eq_true rfl, Nat.le_of_ble_eq_true rfl⟩ wq_all hP hK hS qw_Ai (q0 := 0) (by decide) (hgM_0 ca o _ _) rfl rfl hl.1 rfl (Nat.le_of_ble_eq_true rfl) dX11_squaresIn_54 ⟨Nat.zero_le _, Nat.zero_le _⟩ (fun r6 u6 H locs h6 hP hS _ _ => ?_)
  subst h6
  refine lv_if_eq (tgt := 85) hx hb dX11_squaresIn_57 (by decide) (fun _ => ?_) (fun q => absurd (by decide) q)
  refine lv_iconst (v := 0) hx hb dX11_squaresIn_85 (by decide) ?_
  refine lv_iadd hx hb dX11_squaresIn_86 ?_
  refine qtop (x' := 0) (by decide) ?_
  refine lv_istore_n (lv' := [(2, .int 0), (4, .int 0), (3, .int 2), (0, .ref (o + 0)), (1, .int a1)]) hx hb dX11_squaresIn_87 rfl hl (by decide) rfl (fun ls hl => ?_)
  refine lv_iinc (v := 3) (lv' := [(3, .int 3), (2, .int 0), (4, .int 0), (0, .ref (o + 0)), (1, .int a1)]) hx hb dX11_squaresIn_88 hl (k := 2) rfl (by decide) (by decide) rfl (fun ls hl => ?_)
  refine lv_goto (tgt := 4) hx hb dX11_squaresIn_91 (by decide) ?_
  refine lv_iload_n hx hb dX11_squaresIn_4 rfl (lv_at hl 0 rfl) ?_
  refine lv_bipush (v := 6) hx hb dX11_squaresIn_5 (by decide) ?_
  refine lv_icmp_ge (tgt := 94) hx hb dX11_squaresIn_7 (by decide) (fun q => absurd q (by decide)) (fun _ => ?_)
  refine lv_iconst (v := 0) hx hb dX11_squaresIn_10 (by decide) ?_
  refine lv_istore (lv' := [(4, .int 0), (3, .int 3), (2, .int 0), (0, .ref (o + 0)), (1, .int a1)]) hx hb dX11_squaresIn_11 hl (by decide) rfl (fun ls hl => ?_)
  refine lv_aload_n hx hb dX11_squaresIn_13 rfl (lv_at hl 3 rfl) ?_
  refine lv_iload_n hx hb dX11_squaresIn_14 rfl (lv_at hl 1 rfl) ?_
  refine qc_Vi (As := [.int 3]) (rest := []) (k0 := 1) (m1_isPerson l D ca o z y 3 (h0_4)) kc_yX11_isPerson ⟨hx, hb, hml, hown, hts⟩ wq_1194 rfl rfl ⟨Nat.le_of_ble_eq_true rfl, Nat.le_of_ble_eq_true rfl⟩ wq_all hP hK hS qw_Ai (q0 := 0) (by decide) (hgM_0 ca o _ _) rfl rfl hl.1 rfl (Nat.le_of_ble_eq_true rfl) dX11_squaresIn_15 ⟨Nat.zero_le _, Nat.zero_le _⟩ (fun r7 u7 H locs h7 hP hS _ _ => ?_)
  subst h7
  refine lv_if_eq (tgt := 51) hx hb dX11_squaresIn_18 (by decide) (fun _ => ?_) (fun q => absurd (by decide) q)
  refine lv_iload_n hx hb dX11_squaresIn_51 rfl (lv_at hl 2 rfl) ?_
  refine lv_aload_n hx hb dX11_squaresIn_52 rfl (lv_at hl 3 rfl) ?_
  refine lv_iload_n hx hb dX11_squaresIn_53 rfl (lv_at hl 1 rfl) ?_
  refine qc_Vi (As := [.int 3]) (rest := [.int 0]) (k0 := 1) (m1_isPerson l D ca o z y 3 (h0_4)) kc_yX11_isPerson ⟨hx, hb, hml, hown, hts⟩ wq_1194 rfl rfl ⟨Nat.le_of_ble_eq_true rfl, Nat.le_of_ble_eq_true rfl⟩ wq_all hP hK hS qw_Ai (q0 := 0) (by decide) (hgM_0 ca o _ _) rfl rfl hl.1 rfl (Nat.le_of_ble_eq_true rfl) dX11_squaresIn_54 ⟨Nat.zero_le _, Nat.zero_le _⟩ (fun r8 u8 H locs h8 hP hS _ _ => ?_)
  subst h8
  refine lv_if_eq (tgt := 85) hx hb dX11_squaresIn_57 (by decide) (fun _ => ?_) (fun q => absurd (by decide) q)
  refine lv_iconst (v := 0) hx hb dX11_squaresIn_85 (by decide) ?_
  refine lv_iadd hx hb dX11_squaresIn_86 ?_
  refine qtop (x' := 0) (by decide) ?_
  refine lv_istore_n (lv' := [(2, .int 0), (4, .int 0), (3, .int 3), (0, .ref (o + 0)), (1, .int a1)]) hx hb dX11_squaresIn_87 rfl hl (by decide) rfl (fun ls hl => ?_)
  refine lv_iinc (v := 4) (lv' := [(3, .int 4), (2, .int 0), (4, .int 0), (0, .ref (o + 0)), (1, .int a1)]) hx hb dX11_squaresIn_88 hl (k := 2) rfl (by decide) (by decide) rfl (fun ls hl => ?_)
  refine lv_goto (tgt := 4) hx hb dX11_squaresIn_91 (by decide) ?_
  refine lv_iload_n hx hb dX11_squaresIn_4 rfl (lv_at hl 0 rfl) ?_
  refine lv_bipush (v := 6) hx hb dX11_squaresIn_5 (by decide) ?_
  refine lv_icmp_ge (tgt := 94) hx hb dX11_squaresIn_7 (by decide) (fun q => absurd q (by decide)) (fun _ => ?_)
  refine lv_iconst (v := 0) hx hb dX11_squaresIn_10 (by decide) ?_
  refine lv_istore (lv' := [(4, .int 0), (3, .int 4), (2, .int 0), (0, .ref (o + 0)), (1, .int a1)]) hx hb dX11_squaresIn_11 hl (by decide) rfl (fun ls hl => ?_)
  refine lv_aload_n hx hb dX11_squaresIn_13 rfl (lv_at hl 3 rfl) ?_
  refine lv_iload_n hx hb dX11_squaresIn_14 rfl (lv_at hl 1 rfl) ?_
  refine qc_Vi (As := [.int 4]) (rest := []) (k0 := 1) (m1_isPerson l D ca o z y 4 (h0_4)) kc_yX11_isPerson ⟨hx, hb, hml, hown, hts⟩ wq_1194 rfl rfl ⟨Nat.le_of_ble_eq_true rfl, Nat.le_of_ble_eq_true rfl⟩ wq_all hP hK hS qw_Ai (q0 := 0) (by decide) (hgM_0 ca o _ _) rfl rfl hl.1 rfl (Nat.le_of_ble_eq_true rfl) dX11_squaresIn_15 ⟨Nat.zero_le _, Nat.zero_le _⟩ (fun r9 u9 H locs h9 hP hS _ _ => ?_)
  subst h9
  refine lv_if_eq (tgt := 51) hx hb dX11_squaresIn_18 (by decide) (fun _ => ?_) (fun q => absurd (by decide) q)
  refine lv_iload_n hx hb dX11_squaresIn_51 rfl (lv_at hl 2 rfl) ?_
  refine lv_aload_n hx hb dX11_squaresIn_52 rfl (lv_at hl 3 rfl) ?_
  refine lv_iload_n hx hb dX11_squaresIn_53 rfl (lv_at hl 1 rfl) ?_
  refine qc_Vi (As := [.int 4]) (rest := [.int 0]) (k0 := 1) (m1_isPerson l D ca o z y 4 (h0_4)) kc_yX11_isPerson ⟨hx, hb, hml, hown, hts⟩ wq_1194 rfl rfl ⟨Nat.le_of_ble_eq_true rfl, Nat.le_of_ble_eq_true rfl⟩ wq_all hP hK hS qw_Ai (q0 := 0) (by decide) (hgM_0 ca o _ _) rfl rfl hl.1 rfl (Nat.le_of_ble_eq_true rfl) dX11_squaresIn_54 ⟨Nat.zero_le _, Nat.zero_le _⟩ (fun r10 u10 H locs h10 hP hS _ _ => ?_)
  subst h10
  refine lv_if_eq (tgt := 85) hx hb dX11_squaresIn_57 (by decide) (fun _ => ?_) (fun q => absurd (by decide) q)
  refine lv_iconst (v := 0) hx hb dX11_squaresIn_85 (by decide) ?_
  refine lv_iadd hx hb dX11_squaresIn_86 ?_
  refine qtop (x' := 0) (by decide) ?_
  refine lv_istore_n (lv' := [(2, .int 0), (4, .int 0), (3, .int 4), (0, .ref (o + 0)), (1, .int a1)]) hx hb dX11_squaresIn_87 rfl hl (by decide) rfl (fun ls hl => ?_)
  refine lv_iinc (v := 5) (lv' := [(3, .int 5), (2, .int 0), (4, .int 0), (0, .ref (o + 0)), (1, .int a1)]) hx hb dX11_squaresIn_88 hl (k := 2) rfl (by decide) (by decide) rfl (fun ls hl => ?_)
  refine lv_goto (tgt := 4) hx hb dX11_squaresIn_91 (by decide) ?_
  refine lv_iload_n hx hb dX11_squaresIn_4 rfl (lv_at hl 0 rfl) ?_
  refine lv_bipush (v := 6) hx hb dX11_squaresIn_5 (by decide) ?_
  refine lv_icmp_ge (tgt := 94) hx hb dX11_squaresIn_7 (by decide) (fun q => absurd q (by decide)) (fun _ => ?_)
  refine lv_iconst (v := 0) hx hb dX11_squaresIn_10 (by decide) ?_
  refine lv_istore (lv' := [(4, .int 0), (3, .int 5), (2, .int 0), (0, .ref (o + 0)), (1, .int a1)]) hx hb dX11_squaresIn_11 hl (by decide) rfl (fun ls hl => ?_)
  refine lv_aload_n hx hb dX11_squaresIn_13 rfl (lv_at hl 3 rfl) ?_
  refine lv_iload_n hx hb dX11_squaresIn_14 rfl (lv_at hl 1 rfl) ?_
  refine qc_Vi (As := [.int 5]) (rest := []) (k0 := 1) (m1_isPerson l D ca o z y 5 (h0_4)) kc_yX11_isPerson ⟨hx, hb, hml, hown, hts⟩ wq_1194 rfl rfl ⟨Nat.le_of_ble_eq_true rfl, Nat.le_of_ble_eq_true rfl⟩ wq_all hP hK hS qw_Ai (q0 := 0) (by decide) (hgM_0 ca o _ _) rfl rfl hl.1 rfl (Nat.le_of_ble_eq_true rfl) dX11_squaresIn_15 ⟨Nat.zero_le _, Nat.zero_le _⟩ (fun r11 u11 H locs h11 hP hS _ _ => ?_)
  subst h11
  refine lv_if_eq (tgt := 51) hx hb dX11_squaresIn_18 (by decide) (fun _ => ?_) (fun q => absurd (by decide) q)
  refine lv_iload_n hx hb dX11_squaresIn_51 rfl (lv_at hl 2 rfl) ?_
  refine lv_aload_n hx hb dX11_squaresIn_52 rfl (lv_at hl 3 rfl) ?_
  refine lv_iload_n hx hb dX11_squaresIn_53 rfl (lv_at hl 1 rfl) ?_
  refine qc_Vi (As := [.int 5]) (rest := [.int 0]) (k0 := 1) (m1_isPerson l D ca o z y 5 (h0_4)) kc_yX11_isPerson ⟨hx, hb, hml, hown, hts⟩ wq_1194 rfl rfl ⟨Nat.le_of_ble_eq_true rfl, Nat.le_of_ble_eq_true rfl⟩ wq_all hP hK hS qw_Ai (q0 := 0) (by decide) (hgM_0 ca o _ _) rfl rfl hl.1 rfl (Nat.le_of_ble_eq_true rfl) dX11_squaresIn_54 ⟨Nat.zero_le _, Nat.zero_le _⟩ (fun r12 u12 H locs h12 hP hS _ _ => ?_)
  subst h12
  refine lv_if_eq (tgt := 85) hx hb dX11_squaresIn_57 (by decide) (fun _ => ?_) (fun q => absurd (by decide) q)
  refine lv_iconst (v := 0) hx hb dX11_squaresIn_85 (by decide) ?_
  refine lv_iadd hx hb dX11_squaresIn_86 ?_
  refine qtop (x' := 0) (by decide) ?_
  refine lv_istore_n (lv' := [(2, .int 0), (4, .int 0), (3, .int 5), (0, .ref (o + 0)), (1, .int a1)]) hx hb dX11_squaresIn_87 rfl hl (by decide) rfl (fun ls hl => ?_)
  refine lv_iinc (v := 6) (lv' := [(3, .int 6), (2, .int 0), (4, .int 0), (0, .ref (o + 0)), (1, .int a1)]) hx hb dX11_squaresIn_88 hl (k := 2) rfl (by decide) (by decide) rfl (fun ls hl => ?_)
  refine lv_goto (tgt := 4) hx hb dX11_squaresIn_91 (by decide) ?_
  refine lv_iload_n hx hb dX11_squaresIn_4 rfl (lv_at hl 0 rfl) ?_
  refine lv_bipush (v := 6) hx hb dX11_squaresIn_5 (by decide) ?_
  refine lv_icmp_ge (tgt := 94) hx hb dX11_squaresIn_7 (by decide) (fun _ => ?_) (fun q => absurd (by decide) q)
  refine lv_iload_n hx hb dX11_squaresIn_94 rfl (lv_at hl 1 rfl) ?_
  exact W.iret (v := 0) hx hb hr (fun t ht hW => ⟨⟨0, (), rfl, rfl, by rw [ht]; exact hP, va_K.moved hW.alike hK⟩, hS.F ht⟩) hS.2.2 dX11_squaresIn_95

set_option maxRecDepth 100000 in
set_option maxHeartbeats 4000000 in
theorem m1_textOf (l : Launch) (D : va_G) (ca : Nat → ClassId) (o : Nat) (z : Nat → Nat → Int32) (y : Nat → Nat → Int64) (a1 : Int32) (a2 : Int32) (a3 : Int32) (h0_15 : z 0 15 = 0) : qM l yX11_textOf cX11_textOf 7 (some .int) 2 82 (qPre D vwCl (qT6 ca) o 41 (qG (GM ca o) z y) [.ref (o + 0), .int a1, .int a2, .int a3]) (va_Qi (fun r _ => r = (-1)) (qB D vwCl (qT6 ca) o 41 (fun _ : Unit => qG (GM ca o) z y)) (qw_A o 41)) (qw_A o 41) := by
  refine Met.ofW (cc := cX11_textOf) (maxL := 7) (ret := (some .int)) (by decide) rfl ?_
  intro p e s m args below meth c s₁ B hml hv
  obtain ⟨rfl, hP, hK⟩ := hv
  have hx := B.exec
  have hb := B.bytes
  have hr := B.returns
  have hts0 := atoms_spec (ws := Cond.code yX11_textOf cX11_textOf 7 (some .int) :: qtbl) B.pre
  have hts : ∀ w ∈ qtbl, w.before _ s = true := fun w h => hts0 w (List.mem_cons_of_mem _ h)
  have hown : s.vm.findClass RX11 = some m.cls := findClass_of_methodNamed B.named
  have hlocks := B.notSynchronized
  have hz0 : (0 : Int32).toInt = 0 := rfl
  have hS : va_S (qw_A o 41) s.heap s.heap [] := va_S.rf
  have hl := lv_entry ([.ref (o + 0), .int a1, .int a2, .int a3]) (n := 7) (Nat.le_of_ble_eq_true rfl)
  rw [lg_entry_eq]
  generalize (lg_sl ([.ref (o + 0), .int a1, .int a2, .int a3]) ++ List.replicate (7 - (lg_sl ([.ref (o + 0), .int a1, .int a2, .int a3])).length) Slot.unset).toArray = ls at hl ⊢
  have hl : lv_has ls 7 [(0, .ref (o + 0)), (1, .int a1), (2, .int a2), (3, .int a3)] := hl
  refine lv_iload_n hx hb dX11_textOf_0 rfl (lv_at hl 2 rfl) ?_
  refine lv_iconst (v := 1) hx hb dX11_textOf_1 (by decide) ?_
  refine lv_bipush (v := 60) hx hb dX11_textOf_2 (by decide) ?_
  refine qc_Si (As := [.int a2, .int 1, .int 60]) (rest := []) (k0 := 3) (m1_in l D ca o z y a2 1 60) kc_yX11_in ⟨hx, hb, hml, hown, hts⟩ wq_1187 rfl rfl ⟨Nat.le_of_ble_eq_true rfl, Nat.le_of_ble_eq_true rfl⟩ wq_all hP hK hS qw_Ai rfl hl.1 rfl (Nat.le_of_ble_eq_true rfl) dX11_textOf_4 ⟨Nat.zero_le _, Nat.zero_le _⟩ (fun r1 u1 H locs h1 hP hS _ _ => ?_)
  rcases h1 with ⟨h1r, h1a, h1b⟩ | ⟨h1r, h1a⟩
  · subst h1r
    have t1a : a2.toInt ≥ (1 : Int) := h1a
    have t1b : a2.toInt ≤ (60 : Int) := h1b
    refine lv_if_eq (tgt := 18) hx hb dX11_textOf_7 (by decide) (fun q => absurd q (by decide)) (fun _ => ?_)
    refine lv_iload_n hx hb dX11_textOf_10 rfl (lv_at hl 2 rfl) ?_
    refine lv_aload_n hx hb dX11_textOf_11 rfl (lv_at hl 0 rfl) ?_
    refine qf_get hx hb hts inX11 hown hK hP (q0 := 0) (by decide) (hgM_0 ca o) rfl 15 (by decide) wq_1008 (v := .int (z 0 15)) rfl dX11_textOf_12 ?_
    refine qtop (x' := 0) h0_15 ?_
    refine lv_icmp_le (tgt := 20) hx hb dX11_textOf_15 (by decide) (fun q => absurd q (gr_nle (by show (0 : Int) < a2.toInt; omega))) (fun _ => ?_)
    refine lv_iconst (v := (-1)) hx hb dX11_textOf_18 (by decide) ?_
    exact W.iret (v := (-1)) hx hb hr (fun t ht hW => ⟨⟨(-1), (), rfl, rfl, by rw [ht]; exact hP, va_K.moved hW.alike hK⟩, hS.F ht⟩) hS.2.2 dX11_textOf_19
  · subst h1r
    have t1a : a2.toInt < (1 : Int) ∨ (60 : Int) < a2.toInt := h1a
    refine lv_if_eq (tgt := 18) hx hb dX11_textOf_7 (by decide) (fun _ => ?_) (fun q => absurd (by decide) q)
    refine lv_iconst (v := (-1)) hx hb dX11_textOf_18 (by decide) ?_
    exact W.iret (v := (-1)) hx hb hr (fun t ht hW => ⟨⟨(-1), (), rfl, rfl, by rw [ht]; exact hP, va_K.moved hW.alike hK⟩, hS.F ht⟩) hS.2.2 dX11_textOf_19

set_option maxRecDepth 100000 in
set_option maxHeartbeats 4000000 in
theorem m1_fitsAll (l : Launch) (D : va_G) (ca : Nat → ClassId) (o : Nat) (z : Nat → Nat → Int32) (y : Nat → Nat → Int64)   : qM l yX11_fitsAll cX11_fitsAll 3 (some .boolean) 2 81 (qPre D vwCl (qT6 ca) o 41 (qG (GM ca o) z y) [.ref (o + 0), .int 0]) (va_Qi (fun r _ => r = 1) (qB D vwCl (qT6 ca) o 41 (fun _ : Unit => qG (GM ca o) z y)) (qw_A o 41)) (qw_A o 41) := by
  refine Met.ofW (cc := cX11_fitsAll) (maxL := 3) (ret := (some .boolean)) (by decide) rfl ?_
  intro p e s m args below meth c s₁ B hml hv
  obtain ⟨rfl, hP, hK⟩ := hv
  have hx := B.exec
  have hb := B.bytes
  have hr := B.returns
  have hts0 := atoms_spec (ws := Cond.code yX11_fitsAll cX11_fitsAll 3 (some .boolean) :: qtbl) B.pre
  have hts : ∀ w ∈ qtbl, w.before _ s = true := fun w h => hts0 w (List.mem_cons_of_mem _ h)
  have hown : s.vm.findClass RX11 = some m.cls := findClass_of_methodNamed B.named
  have hlocks := B.notSynchronized
  have hz0 : (0 : Int32).toInt = 0 := rfl
  have hS : va_S (qw_A o 41) s.heap s.heap [] := va_S.rf
  have hl := lv_entry ([.ref (o + 0), .int 0]) (n := 3) (Nat.le_of_ble_eq_true rfl)
  rw [lg_entry_eq]
  generalize (lg_sl ([.ref (o + 0), .int 0]) ++ List.replicate (3 - (lg_sl ([.ref (o + 0), .int 0])).length) Slot.unset).toArray = ls at hl ⊢
  have hl : lv_has ls 3 [(0, .ref (o + 0)), (1, .int 0)] := hl
  refine lv_iconst (v := 0) hx hb dX11_fitsAll_0 (by decide) ?_
  refine lv_istore_n (lv' := [(2, .int 0), (0, .ref (o + 0)), (1, .int 0)]) hx hb dX11_fitsAll_1 rfl hl (by decide) rfl (fun ls hl => ?_)
  refine lv_iload_n hx hb dX11_fitsAll_2 rfl (lv_at hl 0 rfl) ?_
  refine lv_bipush (v := 10) hx hb dX11_fitsAll_3 (by decide) ?_
  refine lv_icmp_ge (tgt := 37) hx hb dX11_fitsAll_5 (by decide) (fun q => absurd q (by decide)) (fun _ => ?_)
  refine lv_iload_n hx hb dX11_fitsAll_8 rfl (lv_at hl 2 rfl) ?_
  refine lv_iload_n hx hb dX11_fitsAll_9 rfl (lv_at hl 0 rfl) ?_
  refine qc_Si (As := [.int 0, .int 0]) (rest := []) (k0 := 2) (m1_has0 l D ca o z y 0) kc_yX11_has ⟨hx, hb, hml, hown, hts⟩ wq_1198 rfl rfl ⟨Nat.le_of_ble_eq_true rfl, Nat.le_of_ble_eq_true rfl⟩ wq_all hP hK hS qw_Ai rfl hl.1 rfl (Nat.le_of_ble_eq_true rfl) dX11_fitsAll_10 ⟨Nat.zero_le _, Nat.zero_le _⟩ (fun r1 u1 H locs h1 hP hS _ _ => ?_)
  subst h1
  refine lv_if_eq (tgt := 31) hx hb dX11_fitsAll_13 (by decide) (fun _ => ?_) (fun q => absurd (by decide) q)
  refine lv_iinc (v := 1) (lv' := [(2, .int 1), (0, .ref (o + 0)), (1, .int 0)]) hx hb dX11_fitsAll_31 hl (k := 0) rfl (by decide) (by decide) rfl (fun ls hl => ?_)
  refine lv_goto (tgt := 2) hx hb dX11_fitsAll_34 (by decide) ?_
  refine lv_iload_n hx hb dX11_fitsAll_2 rfl (lv_at hl 0 rfl) ?_
  refine lv_bipush (v := 10) hx hb dX11_fitsAll_3 (by decide) ?_
  refine lv_icmp_ge (tgt := 37) hx hb dX11_fitsAll_5 (by decide) (fun q => absurd q (by decide)) (fun _ => ?_)
  refine lv_iload_n hx hb dX11_fitsAll_8 rfl (lv_at hl 2 rfl) ?_
  refine lv_iload_n hx hb dX11_fitsAll_9 rfl (lv_at hl 0 rfl) ?_
  refine qc_Si (As := [.int 0, .int 1]) (rest := []) (k0 := 2) (m1_has0 l D ca o z y 1) kc_yX11_has ⟨hx, hb, hml, hown, hts⟩ wq_1198 rfl rfl ⟨Nat.le_of_ble_eq_true rfl, Nat.le_of_ble_eq_true rfl⟩ wq_all hP hK hS qw_Ai rfl hl.1 rfl (Nat.le_of_ble_eq_true rfl) dX11_fitsAll_10 ⟨Nat.zero_le _, Nat.zero_le _⟩ (fun r2 u2 H locs h2 hP hS _ _ => ?_)
  subst h2
  refine lv_if_eq (tgt := 31) hx hb dX11_fitsAll_13 (by decide) (fun _ => ?_) (fun q => absurd (by decide) q)
  refine lv_iinc (v := 2) (lv' := [(2, .int 2), (0, .ref (o + 0)), (1, .int 0)]) hx hb dX11_fitsAll_31 hl (k := 0) rfl (by decide) (by decide) rfl (fun ls hl => ?_)
  refine lv_goto (tgt := 2) hx hb dX11_fitsAll_34 (by decide) ?_
  refine lv_iload_n hx hb dX11_fitsAll_2 rfl (lv_at hl 0 rfl) ?_
  refine lv_bipush (v := 10) hx hb dX11_fitsAll_3 (by decide) ?_
  refine lv_icmp_ge (tgt := 37) hx hb dX11_fitsAll_5 (by decide) (fun q => absurd q (by decide)) (fun _ => ?_)
  refine lv_iload_n hx hb dX11_fitsAll_8 rfl (lv_at hl 2 rfl) ?_
  refine lv_iload_n hx hb dX11_fitsAll_9 rfl (lv_at hl 0 rfl) ?_
  refine qc_Si (As := [.int 0, .int 2]) (rest := []) (k0 := 2) (m1_has0 l D ca o z y 2) kc_yX11_has ⟨hx, hb, hml, hown, hts⟩ wq_1198 rfl rfl ⟨Nat.le_of_ble_eq_true rfl, Nat.le_of_ble_eq_true rfl⟩ wq_all hP hK hS qw_Ai rfl hl.1 rfl (Nat.le_of_ble_eq_true rfl) dX11_fitsAll_10 ⟨Nat.zero_le _, Nat.zero_le _⟩ (fun r3 u3 H locs h3 hP hS _ _ => ?_)
  subst h3
  refine lv_if_eq (tgt := 31) hx hb dX11_fitsAll_13 (by decide) (fun _ => ?_) (fun q => absurd (by decide) q)
  refine lv_iinc (v := 3) (lv' := [(2, .int 3), (0, .ref (o + 0)), (1, .int 0)]) hx hb dX11_fitsAll_31 hl (k := 0) rfl (by decide) (by decide) rfl (fun ls hl => ?_)
  refine lv_goto (tgt := 2) hx hb dX11_fitsAll_34 (by decide) ?_
  refine lv_iload_n hx hb dX11_fitsAll_2 rfl (lv_at hl 0 rfl) ?_
  refine lv_bipush (v := 10) hx hb dX11_fitsAll_3 (by decide) ?_
  refine lv_icmp_ge (tgt := 37) hx hb dX11_fitsAll_5 (by decide) (fun q => absurd q (by decide)) (fun _ => ?_)
  refine lv_iload_n hx hb dX11_fitsAll_8 rfl (lv_at hl 2 rfl) ?_
  refine lv_iload_n hx hb dX11_fitsAll_9 rfl (lv_at hl 0 rfl) ?_
  refine qc_Si (As := [.int 0, .int 3]) (rest := []) (k0 := 2) (m1_has0 l D ca o z y 3) kc_yX11_has ⟨hx, hb, hml, hown, hts⟩ wq_1198 rfl rfl ⟨Nat.le_of_ble_eq_true rfl, Nat.le_of_ble_eq_true rfl⟩ wq_all hP hK hS qw_Ai rfl hl.1 rfl (Nat.le_of_ble_eq_true rfl) dX11_fitsAll_10 ⟨Nat.zero_le _, Nat.zero_le _⟩ (fun r4 u4 H locs h4 hP hS _ _ => ?_)
  subst h4
  refine lv_if_eq (tgt := 31) hx hb dX11_fitsAll_13 (by decide) (fun _ => ?_) (fun q => absurd (by decide) q)
  refine lv_iinc (v := 4) (lv' := [(2, .int 4), (0, .ref (o + 0)), (1, .int 0)]) hx hb dX11_fitsAll_31 hl (k := 0) rfl (by decide) (by decide) rfl (fun ls hl => ?_)
  refine lv_goto (tgt := 2) hx hb dX11_fitsAll_34 (by decide) ?_
  refine lv_iload_n hx hb dX11_fitsAll_2 rfl (lv_at hl 0 rfl) ?_
  refine lv_bipush (v := 10) hx hb dX11_fitsAll_3 (by decide) ?_
  refine lv_icmp_ge (tgt := 37) hx hb dX11_fitsAll_5 (by decide) (fun q => absurd q (by decide)) (fun _ => ?_)
  refine lv_iload_n hx hb dX11_fitsAll_8 rfl (lv_at hl 2 rfl) ?_
  refine lv_iload_n hx hb dX11_fitsAll_9 rfl (lv_at hl 0 rfl) ?_
  refine qc_Si (As := [.int 0, .int 4]) (rest := []) (k0 := 2) (m1_has0 l D ca o z y 4) kc_yX11_has ⟨hx, hb, hml, hown, hts⟩ wq_1198 rfl rfl ⟨Nat.le_of_ble_eq_true rfl, Nat.le_of_ble_eq_true rfl⟩ wq_all hP hK hS qw_Ai rfl hl.1 rfl (Nat.le_of_ble_eq_true rfl) dX11_fitsAll_10 ⟨Nat.zero_le _, Nat.zero_le _⟩ (fun r5 u5 H locs h5 hP hS _ _ => ?_)
  subst h5
  refine lv_if_eq (tgt := 31) hx hb dX11_fitsAll_13 (by decide) (fun _ => ?_) (fun q => absurd (by decide) q)
  refine lv_iinc (v := 5) (lv' := [(2, .int 5), (0, .ref (o + 0)), (1, .int 0)]) hx hb dX11_fitsAll_31 hl (k := 0) rfl (by decide) (by decide) rfl (fun ls hl => ?_)
  refine lv_goto (tgt := 2) hx hb dX11_fitsAll_34 (by decide) ?_
  refine lv_iload_n hx hb dX11_fitsAll_2 rfl (lv_at hl 0 rfl) ?_
  refine lv_bipush (v := 10) hx hb dX11_fitsAll_3 (by decide) ?_
  refine lv_icmp_ge (tgt := 37) hx hb dX11_fitsAll_5 (by decide) (fun q => absurd q (by decide)) (fun _ => ?_)
  refine lv_iload_n hx hb dX11_fitsAll_8 rfl (lv_at hl 2 rfl) ?_
  refine lv_iload_n hx hb dX11_fitsAll_9 rfl (lv_at hl 0 rfl) ?_
  refine qc_Si (As := [.int 0, .int 5]) (rest := []) (k0 := 2) (m1_has0 l D ca o z y 5) kc_yX11_has ⟨hx, hb, hml, hown, hts⟩ wq_1198 rfl rfl ⟨Nat.le_of_ble_eq_true rfl, Nat.le_of_ble_eq_true rfl⟩ wq_all hP hK hS qw_Ai rfl hl.1 rfl (Nat.le_of_ble_eq_true rfl) dX11_fitsAll_10 ⟨Nat.zero_le _, Nat.zero_le _⟩ (fun r6 u6 H locs h6 hP hS _ _ => ?_)
  subst h6
  refine lv_if_eq (tgt := 31) hx hb dX11_fitsAll_13 (by decide) (fun _ => ?_) (fun q => absurd (by decide) q)
  refine lv_iinc (v := 6) (lv' := [(2, .int 6), (0, .ref (o + 0)), (1, .int 0)]) hx hb dX11_fitsAll_31 hl (k := 0) rfl (by decide) (by decide) rfl (fun ls hl => ?_)
  refine lv_goto (tgt := 2) hx hb dX11_fitsAll_34 (by decide) ?_
  refine lv_iload_n hx hb dX11_fitsAll_2 rfl (lv_at hl 0 rfl) ?_
  refine lv_bipush (v := 10) hx hb dX11_fitsAll_3 (by decide) ?_
  refine lv_icmp_ge (tgt := 37) hx hb dX11_fitsAll_5 (by decide) (fun q => absurd q (by decide)) (fun _ => ?_)
  refine lv_iload_n hx hb dX11_fitsAll_8 rfl (lv_at hl 2 rfl) ?_
  refine lv_iload_n hx hb dX11_fitsAll_9 rfl (lv_at hl 0 rfl) ?_
  refine qc_Si (As := [.int 0, .int 6]) (rest := []) (k0 := 2) (m1_has0 l D ca o z y 6) kc_yX11_has ⟨hx, hb, hml, hown, hts⟩ wq_1198 rfl rfl ⟨Nat.le_of_ble_eq_true rfl, Nat.le_of_ble_eq_true rfl⟩ wq_all hP hK hS qw_Ai rfl hl.1 rfl (Nat.le_of_ble_eq_true rfl) dX11_fitsAll_10 ⟨Nat.zero_le _, Nat.zero_le _⟩ (fun r7 u7 H locs h7 hP hS _ _ => ?_)
  subst h7
  refine lv_if_eq (tgt := 31) hx hb dX11_fitsAll_13 (by decide) (fun _ => ?_) (fun q => absurd (by decide) q)
  refine lv_iinc (v := 7) (lv' := [(2, .int 7), (0, .ref (o + 0)), (1, .int 0)]) hx hb dX11_fitsAll_31 hl (k := 0) rfl (by decide) (by decide) rfl (fun ls hl => ?_)
  refine lv_goto (tgt := 2) hx hb dX11_fitsAll_34 (by decide) ?_
  refine lv_iload_n hx hb dX11_fitsAll_2 rfl (lv_at hl 0 rfl) ?_
  refine lv_bipush (v := 10) hx hb dX11_fitsAll_3 (by decide) ?_
  refine lv_icmp_ge (tgt := 37) hx hb dX11_fitsAll_5 (by decide) (fun q => absurd q (by decide)) (fun _ => ?_)
  refine lv_iload_n hx hb dX11_fitsAll_8 rfl (lv_at hl 2 rfl) ?_
  refine lv_iload_n hx hb dX11_fitsAll_9 rfl (lv_at hl 0 rfl) ?_
  refine qc_Si (As := [.int 0, .int 7]) (rest := []) (k0 := 2) (m1_has0 l D ca o z y 7) kc_yX11_has ⟨hx, hb, hml, hown, hts⟩ wq_1198 rfl rfl ⟨Nat.le_of_ble_eq_true rfl, Nat.le_of_ble_eq_true rfl⟩ wq_all hP hK hS qw_Ai rfl hl.1 rfl (Nat.le_of_ble_eq_true rfl) dX11_fitsAll_10 ⟨Nat.zero_le _, Nat.zero_le _⟩ (fun r8 u8 H locs h8 hP hS _ _ => ?_)
  subst h8
  refine lv_if_eq (tgt := 31) hx hb dX11_fitsAll_13 (by decide) (fun _ => ?_) (fun q => absurd (by decide) q)
  refine lv_iinc (v := 8) (lv' := [(2, .int 8), (0, .ref (o + 0)), (1, .int 0)]) hx hb dX11_fitsAll_31 hl (k := 0) rfl (by decide) (by decide) rfl (fun ls hl => ?_)
  refine lv_goto (tgt := 2) hx hb dX11_fitsAll_34 (by decide) ?_
  refine lv_iload_n hx hb dX11_fitsAll_2 rfl (lv_at hl 0 rfl) ?_
  refine lv_bipush (v := 10) hx hb dX11_fitsAll_3 (by decide) ?_
  refine lv_icmp_ge (tgt := 37) hx hb dX11_fitsAll_5 (by decide) (fun q => absurd q (by decide)) (fun _ => ?_)
  refine lv_iload_n hx hb dX11_fitsAll_8 rfl (lv_at hl 2 rfl) ?_
  refine lv_iload_n hx hb dX11_fitsAll_9 rfl (lv_at hl 0 rfl) ?_
  refine qc_Si (As := [.int 0, .int 8]) (rest := []) (k0 := 2) (m1_has0 l D ca o z y 8) kc_yX11_has ⟨hx, hb, hml, hown, hts⟩ wq_1198 rfl rfl ⟨Nat.le_of_ble_eq_true rfl, Nat.le_of_ble_eq_true rfl⟩ wq_all hP hK hS qw_Ai rfl hl.1 rfl (Nat.le_of_ble_eq_true rfl) dX11_fitsAll_10 ⟨Nat.zero_le _, Nat.zero_le _⟩ (fun r9 u9 H locs h9 hP hS _ _ => ?_)
  subst h9
  refine lv_if_eq (tgt := 31) hx hb dX11_fitsAll_13 (by decide) (fun _ => ?_) (fun q => absurd (by decide) q)
  refine lv_iinc (v := 9) (lv' := [(2, .int 9), (0, .ref (o + 0)), (1, .int 0)]) hx hb dX11_fitsAll_31 hl (k := 0) rfl (by decide) (by decide) rfl (fun ls hl => ?_)
  refine lv_goto (tgt := 2) hx hb dX11_fitsAll_34 (by decide) ?_
  refine lv_iload_n hx hb dX11_fitsAll_2 rfl (lv_at hl 0 rfl) ?_
  refine lv_bipush (v := 10) hx hb dX11_fitsAll_3 (by decide) ?_
  refine lv_icmp_ge (tgt := 37) hx hb dX11_fitsAll_5 (by decide) (fun q => absurd q (by decide)) (fun _ => ?_)
  refine lv_iload_n hx hb dX11_fitsAll_8 rfl (lv_at hl 2 rfl) ?_
  refine lv_iload_n hx hb dX11_fitsAll_9 rfl (lv_at hl 0 rfl) ?_
  refine qc_Si (As := [.int 0, .int 9]) (rest := []) (k0 := 2) (m1_has0 l D ca o z y 9) kc_yX11_has ⟨hx, hb, hml, hown, hts⟩ wq_1198 rfl rfl ⟨Nat.le_of_ble_eq_true rfl, Nat.le_of_ble_eq_true rfl⟩ wq_all hP hK hS qw_Ai rfl hl.1 rfl (Nat.le_of_ble_eq_true rfl) dX11_fitsAll_10 ⟨Nat.zero_le _, Nat.zero_le _⟩ (fun r10 u10 H locs h10 hP hS _ _ => ?_)
  subst h10
  refine lv_if_eq (tgt := 31) hx hb dX11_fitsAll_13 (by decide) (fun _ => ?_) (fun q => absurd (by decide) q)
  refine lv_iinc (v := 10) (lv' := [(2, .int 10), (0, .ref (o + 0)), (1, .int 0)]) hx hb dX11_fitsAll_31 hl (k := 0) rfl (by decide) (by decide) rfl (fun ls hl => ?_)
  refine lv_goto (tgt := 2) hx hb dX11_fitsAll_34 (by decide) ?_
  refine lv_iload_n hx hb dX11_fitsAll_2 rfl (lv_at hl 0 rfl) ?_
  refine lv_bipush (v := 10) hx hb dX11_fitsAll_3 (by decide) ?_
  refine lv_icmp_ge (tgt := 37) hx hb dX11_fitsAll_5 (by decide) (fun _ => ?_) (fun q => absurd (by decide) q)
  refine lv_iconst (v := 1) hx hb dX11_fitsAll_37 (by decide) ?_
  exact W.zret (v := 1) (ty := .boolean) hx hb hr rfl (fun t ht hW => ⟨⟨1, (), rfl, rfl, by rw [ht]; exact hP, va_K.moved hW.alike hK⟩, hS.F ht⟩) hS.2.2 dX11_fitsAll_38

set_option maxRecDepth 100000 in
set_option maxHeartbeats 4000000 in
theorem m1_firstRow (l : Launch) (D : va_G) (ca : Nat → ClassId) (o : Nat) (z : Nat → Nat → Int32) (y : Nat → Nat → Int64)   : qM l yX11_firstRow cX11_firstRow 2 none 1 60 (qPre D vwCl (qT6 ca) o 41 (qG (GM ca o) z y) [.ref (o + 0)]) (va_Qv (fun u => (∀ k : Nat, (k ≠ 23) → u.1 k = z k) ∧ u.2 = y) (qB D vwCl (qT6 ca) o 41 (fun u : qZ => qG (GM ca o) u.1 u.2)) (qw_A o 41)) (qw_A o 41) := by
  refine Met.ofW (cc := cX11_firstRow) (maxL := 2) (ret := none) (by decide) rfl ?_
  intro p e s m args below meth c s₁ B hml hv
  obtain ⟨rfl, hP, hK⟩ := hv
  have hx := B.exec
  have hb := B.bytes
  have hr := B.returns
  have hts0 := atoms_spec (ws := Cond.code yX11_firstRow cX11_firstRow 2 none :: qtbl) B.pre
  have hts : ∀ w ∈ qtbl, w.before _ s = true := fun w h => hts0 w (List.mem_cons_of_mem _ h)
  have hown : s.vm.findClass RX11 = some m.cls := findClass_of_methodNamed B.named
  have hlocks := B.notSynchronized
  have hz0 : (0 : Int32).toInt = 0 := rfl
  have hS : va_S (qw_A o 41) s.heap s.heap [] := va_S.rf
  have hl := lv_entry ([.ref (o + 0)]) (n := 2) (Nat.le_of_ble_eq_true rfl)
  rw [lg_entry_eq]
  generalize (lg_sl ([.ref (o + 0)]) ++ List.replicate (2 - (lg_sl ([.ref (o + 0)])).length) Slot.unset).toArray = ls at hl ⊢
  have hl : lv_has ls 2 [(0, .ref (o + 0))] := hl
  refine lv_iconst (v := 0) hx hb dX11_firstRow_0 (by decide) ?_
  refine lv_istore_n (lv' := [(1, .int 0), (0, .ref (o + 0))]) hx hb dX11_firstRow_1 rfl hl (by decide) rfl (fun ls hl => ?_)
  refine lv_iload_n hx hb dX11_firstRow_2 rfl (lv_at hl 0 rfl) ?_
  refine lv_bipush (v := 6) hx hb dX11_firstRow_3 (by decide) ?_
  refine lv_icmp_ge (tgt := 26) hx hb dX11_firstRow_5 (by decide) (fun q => absurd q (by decide)) (fun _ => ?_)
  refine lv_aload_n hx hb dX11_firstRow_8 rfl (lv_at hl 1 rfl) ?_
  refine qf_get hx hb hts inX11 hown hK hP (q0 := 0) (by decide) (hgM_0 ca o) rfl 36 (by decide) wq_1028 (v := .ref (o + 23)) rfl dX11_firstRow_9 ?_
  refine lv_iload_n hx hb dX11_firstRow_12 rfl (lv_at hl 0 rfl) ?_
  refine lv_aload_n hx hb dX11_firstRow_13 rfl (lv_at hl 1 rfl) ?_
  refine qf_get hx hb hts inX11 hown hK hP (q0 := 0) (by decide) (hgM_0 ca o) rfl 0 (by decide) wq_993 (v := .ref (o + 1)) rfl dX11_firstRow_14 ?_
  refine lv_iload_n hx hb dX11_firstRow_17 rfl (lv_at hl 0 rfl) ?_
  refine qa_iald hx hb hK hP (q0 := 1) (by decide) 0 (N := 6) (hgM_1 ca o) rfl (gi_in (by decide) (by decide)) dX11_firstRow_18 ?_
  refine lv_topi (fun x1 e1 => ?_)
  refine qa_iast hx hb hK hP hS qw_Ai (q0 := 23) (by decide) 0 (N := 6) (hgM_23 ca o) rfl (gi_in (by decide) (by decide)) dX11_firstRow_19 (fun H locs hP hS => ?_)
  refine lv_iinc (v := 1) (lv' := [(1, .int 1), (0, .ref (o + 0))]) hx hb dX11_firstRow_20 hl (k := 0) rfl (by decide) (by decide) rfl (fun ls hl => ?_)
  refine lv_goto (tgt := 2) hx hb dX11_firstRow_23 (by decide) ?_
  refine lv_iload_n hx hb dX11_firstRow_2 rfl (lv_at hl 0 rfl) ?_
  refine lv_bipush (v := 6) hx hb dX11_firstRow_3 (by decide) ?_
  refine lv_icmp_ge (tgt := 26) hx hb dX11_firstRow_5 (by decide) (fun q => absurd q (by decide)) (fun _ => ?_)
  refine lv_aload_n hx hb dX11_firstRow_8 rfl (lv_at hl 1 rfl) ?_
  refine qf_get hx hb hts inX11 hown hK hP (q0 := 0) (by decide) (hgM_0 ca o) rfl 36 (by decide) wq_1028 (v := .ref (o + 23)) rfl dX11_firstRow_9 ?_
  refine lv_iload_n hx hb dX11_firstRow_12 rfl (lv_at hl 0 rfl) ?_
  refine lv_aload_n hx hb dX11_firstRow_13 rfl (lv_at hl 1 rfl) ?_
  refine qf_get hx hb hts inX11 hown hK hP (q0 := 0) (by decide) (hgM_0 ca o) rfl 0 (by decide) wq_993 (v := .ref (o + 1)) rfl dX11_firstRow_14 ?_
  refine lv_iload_n hx hb dX11_firstRow_17 rfl (lv_at hl 0 rfl) ?_
  refine qa_iald hx hb hK hP (q0 := 1) (by decide) 0 (N := 6) (hgM_1 ca o) rfl (gi_in (by decide) (by decide)) dX11_firstRow_18 ?_
  refine lv_topi (fun x2 e2 => ?_)
  refine qa_iast hx hb hK hP hS qw_Ai (q0 := 23) (by decide) 0 (N := 6) (hgM_23 ca o) rfl (gi_in (by decide) (by decide)) dX11_firstRow_19 (fun H locs hP hS => ?_)
  refine lv_iinc (v := 2) (lv' := [(1, .int 2), (0, .ref (o + 0))]) hx hb dX11_firstRow_20 hl (k := 0) rfl (by decide) (by decide) rfl (fun ls hl => ?_)
  refine lv_goto (tgt := 2) hx hb dX11_firstRow_23 (by decide) ?_
  refine lv_iload_n hx hb dX11_firstRow_2 rfl (lv_at hl 0 rfl) ?_
  refine lv_bipush (v := 6) hx hb dX11_firstRow_3 (by decide) ?_
  refine lv_icmp_ge (tgt := 26) hx hb dX11_firstRow_5 (by decide) (fun q => absurd q (by decide)) (fun _ => ?_)
  refine lv_aload_n hx hb dX11_firstRow_8 rfl (lv_at hl 1 rfl) ?_
  refine qf_get hx hb hts inX11 hown hK hP (q0 := 0) (by decide) (hgM_0 ca o) rfl 36 (by decide) wq_1028 (v := .ref (o + 23)) rfl dX11_firstRow_9 ?_
  refine lv_iload_n hx hb dX11_firstRow_12 rfl (lv_at hl 0 rfl) ?_
  refine lv_aload_n hx hb dX11_firstRow_13 rfl (lv_at hl 1 rfl) ?_
  refine qf_get hx hb hts inX11 hown hK hP (q0 := 0) (by decide) (hgM_0 ca o) rfl 0 (by decide) wq_993 (v := .ref (o + 1)) rfl dX11_firstRow_14 ?_
  refine lv_iload_n hx hb dX11_firstRow_17 rfl (lv_at hl 0 rfl) ?_
  refine qa_iald hx hb hK hP (q0 := 1) (by decide) 0 (N := 6) (hgM_1 ca o) rfl (gi_in (by decide) (by decide)) dX11_firstRow_18 ?_
  refine lv_topi (fun x3 e3 => ?_)
  refine qa_iast hx hb hK hP hS qw_Ai (q0 := 23) (by decide) 0 (N := 6) (hgM_23 ca o) rfl (gi_in (by decide) (by decide)) dX11_firstRow_19 (fun H locs hP hS => ?_)
  refine lv_iinc (v := 3) (lv' := [(1, .int 3), (0, .ref (o + 0))]) hx hb dX11_firstRow_20 hl (k := 0) rfl (by decide) (by decide) rfl (fun ls hl => ?_)
  refine lv_goto (tgt := 2) hx hb dX11_firstRow_23 (by decide) ?_
  refine lv_iload_n hx hb dX11_firstRow_2 rfl (lv_at hl 0 rfl) ?_
  refine lv_bipush (v := 6) hx hb dX11_firstRow_3 (by decide) ?_
  refine lv_icmp_ge (tgt := 26) hx hb dX11_firstRow_5 (by decide) (fun q => absurd q (by decide)) (fun _ => ?_)
  refine lv_aload_n hx hb dX11_firstRow_8 rfl (lv_at hl 1 rfl) ?_
  refine qf_get hx hb hts inX11 hown hK hP (q0 := 0) (by decide) (hgM_0 ca o) rfl 36 (by decide) wq_1028 (v := .ref (o + 23)) rfl dX11_firstRow_9 ?_
  refine lv_iload_n hx hb dX11_firstRow_12 rfl (lv_at hl 0 rfl) ?_
  refine lv_aload_n hx hb dX11_firstRow_13 rfl (lv_at hl 1 rfl) ?_
  refine qf_get hx hb hts inX11 hown hK hP (q0 := 0) (by decide) (hgM_0 ca o) rfl 0 (by decide) wq_993 (v := .ref (o + 1)) rfl dX11_firstRow_14 ?_
  refine lv_iload_n hx hb dX11_firstRow_17 rfl (lv_at hl 0 rfl) ?_
  refine qa_iald hx hb hK hP (q0 := 1) (by decide) 0 (N := 6) (hgM_1 ca o) rfl (gi_in (by decide) (by decide)) dX11_firstRow_18 ?_
  refine lv_topi (fun x4 e4 => ?_)
  refine qa_iast hx hb hK hP hS qw_Ai (q0 := 23) (by decide) 0 (N := 6) (hgM_23 ca o) rfl (gi_in (by decide) (by decide)) dX11_firstRow_19 (fun H locs hP hS => ?_)
  refine lv_iinc (v := 4) (lv' := [(1, .int 4), (0, .ref (o + 0))]) hx hb dX11_firstRow_20 hl (k := 0) rfl (by decide) (by decide) rfl (fun ls hl => ?_)
  refine lv_goto (tgt := 2) hx hb dX11_firstRow_23 (by decide) ?_
  refine lv_iload_n hx hb dX11_firstRow_2 rfl (lv_at hl 0 rfl) ?_
  refine lv_bipush (v := 6) hx hb dX11_firstRow_3 (by decide) ?_
  refine lv_icmp_ge (tgt := 26) hx hb dX11_firstRow_5 (by decide) (fun q => absurd q (by decide)) (fun _ => ?_)
  refine lv_aload_n hx hb dX11_firstRow_8 rfl (lv_at hl 1 rfl) ?_
  refine qf_get hx hb hts inX11 hown hK hP (q0 := 0) (by decide) (hgM_0 ca o) rfl 36 (by decide) wq_1028 (v := .ref (o + 23)) rfl dX11_firstRow_9 ?_
  refine lv_iload_n hx hb dX11_firstRow_12 rfl (lv_at hl 0 rfl) ?_
  refine lv_aload_n hx hb dX11_firstRow_13 rfl (lv_at hl 1 rfl) ?_
  refine qf_get hx hb hts inX11 hown hK hP (q0 := 0) (by decide) (hgM_0 ca o) rfl 0 (by decide) wq_993 (v := .ref (o + 1)) rfl dX11_firstRow_14 ?_
  refine lv_iload_n hx hb dX11_firstRow_17 rfl (lv_at hl 0 rfl) ?_
  refine qa_iald hx hb hK hP (q0 := 1) (by decide) 0 (N := 6) (hgM_1 ca o) rfl (gi_in (by decide) (by decide)) dX11_firstRow_18 ?_
  refine lv_topi (fun x5 e5 => ?_)
  refine qa_iast hx hb hK hP hS qw_Ai (q0 := 23) (by decide) 0 (N := 6) (hgM_23 ca o) rfl (gi_in (by decide) (by decide)) dX11_firstRow_19 (fun H locs hP hS => ?_)
  refine lv_iinc (v := 5) (lv' := [(1, .int 5), (0, .ref (o + 0))]) hx hb dX11_firstRow_20 hl (k := 0) rfl (by decide) (by decide) rfl (fun ls hl => ?_)
  refine lv_goto (tgt := 2) hx hb dX11_firstRow_23 (by decide) ?_
  refine lv_iload_n hx hb dX11_firstRow_2 rfl (lv_at hl 0 rfl) ?_
  refine lv_bipush (v := 6) hx hb dX11_firstRow_3 (by decide) ?_
  refine lv_icmp_ge (tgt := 26) hx hb dX11_firstRow_5 (by decide) (fun q => absurd q (by decide)) (fun _ => ?_)
  refine lv_aload_n hx hb dX11_firstRow_8 rfl (lv_at hl 1 rfl) ?_
  refine qf_get hx hb hts inX11 hown hK hP (q0 := 0) (by decide) (hgM_0 ca o) rfl 36 (by decide) wq_1028 (v := .ref (o + 23)) rfl dX11_firstRow_9 ?_
  refine lv_iload_n hx hb dX11_firstRow_12 rfl (lv_at hl 0 rfl) ?_
  refine lv_aload_n hx hb dX11_firstRow_13 rfl (lv_at hl 1 rfl) ?_
  refine qf_get hx hb hts inX11 hown hK hP (q0 := 0) (by decide) (hgM_0 ca o) rfl 0 (by decide) wq_993 (v := .ref (o + 1)) rfl dX11_firstRow_14 ?_
  refine lv_iload_n hx hb dX11_firstRow_17 rfl (lv_at hl 0 rfl) ?_
  refine qa_iald hx hb hK hP (q0 := 1) (by decide) 0 (N := 6) (hgM_1 ca o) rfl (gi_in (by decide) (by decide)) dX11_firstRow_18 ?_
  refine lv_topi (fun x6 e6 => ?_)
  refine qa_iast hx hb hK hP hS qw_Ai (q0 := 23) (by decide) 0 (N := 6) (hgM_23 ca o) rfl (gi_in (by decide) (by decide)) dX11_firstRow_19 (fun H locs hP hS => ?_)
  refine lv_iinc (v := 6) (lv' := [(1, .int 6), (0, .ref (o + 0))]) hx hb dX11_firstRow_20 hl (k := 0) rfl (by decide) (by decide) rfl (fun ls hl => ?_)
  refine lv_goto (tgt := 2) hx hb dX11_firstRow_23 (by decide) ?_
  refine lv_iload_n hx hb dX11_firstRow_2 rfl (lv_at hl 0 rfl) ?_
  refine lv_bipush (v := 6) hx hb dX11_firstRow_3 (by decide) ?_
  refine lv_icmp_ge (tgt := 26) hx hb dX11_firstRow_5 (by decide) (fun _ => ?_) (fun q => absurd (by decide) q)
  exact W.vret hx hb hr (fun t ht hW => ⟨⟨((qu (qu (qu (qu (qu (qu z 23 ((0 : Int32).toNatClampNeg) x1) 23 ((1 : Int32).toNatClampNeg) x2) 23 ((2 : Int32).toNatClampNeg) x3) 23 ((3 : Int32).toNatClampNeg) x4) 23 ((4 : Int32).toNatClampNeg) x5) 23 ((5 : Int32).toNatClampNeg) x6), y), rfl, ⟨(fun (k : Nat) (h0 : k ≠ 23) => by simp only [qu_ne h0]), rfl⟩, by rw [ht]; exact hP, va_K.moved hW.alike hK⟩, hS.F ht⟩) hS.2.2 dX11_firstRow_26

set_option maxRecDepth 100000 in
set_option maxHeartbeats 4000000 in
theorem m1_findsRow (l : Launch) (D : va_G) (ca : Nat → ClassId) (o : Nat) (z : Nat → Nat → Int32) (y : Nat → Nat → Int64)  (h0_4 : z 0 4 = 0) : qM l yX11_findsRow cX11_findsRow 3 (some .boolean) 3 103 (qPre D vwCl (qT6 ca) o 41 (qG (GM ca o) z y) [.ref (o + 0), .int 0]) (va_Qi (fun r u => r = 1 ∧ (∀ k : Nat, (k ≠ 23) → u.1 k = z k) ∧ u.2 = y) (qB D vwCl (qT6 ca) o 41 (fun u : qZ => qG (GM ca o) u.1 u.2)) (qw_A o 41)) (qw_A o 41) := by
  refine Met.ofW (cc := cX11_findsRow) (maxL := 3) (ret := (some .boolean)) (by decide) rfl ?_
  intro p e s m args below meth c s₁ B hml hv
  obtain ⟨rfl, hP, hK⟩ := hv
  have hx := B.exec
  have hb := B.bytes
  have hr := B.returns
  have hts0 := atoms_spec (ws := Cond.code yX11_findsRow cX11_findsRow 3 (some .boolean) :: qtbl) B.pre
  have hts : ∀ w ∈ qtbl, w.before _ s = true := fun w h => hts0 w (List.mem_cons_of_mem _ h)
  have hown : s.vm.findClass RX11 = some m.cls := findClass_of_methodNamed B.named
  have hlocks := B.notSynchronized
  have hz0 : (0 : Int32).toInt = 0 := rfl
  have hS : va_S (qw_A o 41) s.heap s.heap [] := va_S.rf
  have hl := lv_entry ([.ref (o + 0), .int 0]) (n := 3) (Nat.le_of_ble_eq_true rfl)
  rw [lg_entry_eq]
  generalize (lg_sl ([.ref (o + 0), .int 0]) ++ List.replicate (3 - (lg_sl ([.ref (o + 0), .int 0])).length) Slot.unset).toArray = ls at hl ⊢
  have hl : lv_has ls 3 [(0, .ref (o + 0)), (1, .int 0)] := hl
  refine lv_aload_n hx hb dX11_findsRow_0 rfl (lv_at hl 0 rfl) ?_
  refine qc_Vv (As := []) (rest := []) (k0 := 0) (m1_firstRow l D ca o z y ) kc_yX11_firstRow ⟨hx, hb, hml, hown, hts⟩ wq_1336 rfl rfl ⟨Nat.le_of_ble_eq_true rfl, Nat.le_of_ble_eq_true rfl⟩ wq_all hP hK hS qw_Ai (q0 := 0) (by decide) (hgM_0 ca o _ _) rfl rfl hl.1 rfl (Nat.le_of_ble_eq_true rfl) dX11_findsRow_1 ⟨Nat.zero_le _, Nat.zero_le _⟩ (fun u1 H locs h1 hP hS _ _ => ?_)
  obtain ⟨z1, y1⟩ := u1
  obtain ⟨h1f, h1y⟩ := h1
  dsimp only at h1f h1y hP
  rw [h1y] at hP
  have g1 : ∀ k : Nat, (k ≠ 23) → z1 k = z k := fun k h0 => (h1f k h0).trans ((show ∀ k : Nat, (k ≠ 23) → z k = z k from (fun _ _ => rfl)) k h0)
  have f1_0_4 : z1 0 4 = 0 := (congrFun (h1f 0 (by decide)) 4).trans (h0_4)
  refine lv_iconst (v := 1) hx hb dX11_findsRow_4 (by decide) ?_
  refine lv_istore_n (lv' := [(2, .int 1), (0, .ref (o + 0)), (1, .int 0)]) hx hb dX11_findsRow_5 rfl hl (by decide) rfl (fun ls hl => ?_)
  refine lv_iload_n hx hb dX11_findsRow_6 rfl (lv_at hl 0 rfl) ?_
  refine lv_if_eq (tgt := 28) hx hb dX11_findsRow_7 (by decide) (fun q => absurd q (by decide)) (fun _ => ?_)
  refine lv_aload_n hx hb dX11_findsRow_10 rfl (lv_at hl 1 rfl) ?_
  refine lv_iload_n hx hb dX11_findsRow_11 rfl (lv_at hl 2 rfl) ?_
  refine qc_Vi (As := [.int 0]) (rest := []) (k0 := 1) (m1_fitsAll l D ca o z1 y) kc_yX11_fitsAll ⟨hx, hb, hml, hown, hts⟩ wq_1340 rfl rfl ⟨Nat.le_of_ble_eq_true rfl, Nat.le_of_ble_eq_true rfl⟩ wq_all hP hK hS qw_Ai (q0 := 0) (by decide) (hgM_0 ca o _ _) rfl rfl hl.1 rfl (Nat.le_of_ble_eq_true rfl) dX11_findsRow_12 ⟨Nat.zero_le _, Nat.zero_le _⟩ (fun r2 u2 H locs h2 hP hS _ _ => ?_)
  subst h2
  refine lv_if_eq (tgt := 20) hx hb dX11_findsRow_15 (by decide) (fun q => absurd q (by decide)) (fun _ => ?_)
  refine lv_iconst (v := 1) hx hb dX11_findsRow_18 (by decide) ?_
  exact W.zret (v := 1) (ty := .boolean) hx hb hr rfl (fun t ht hW => ⟨⟨1, (z1, y), rfl, ⟨rfl, (fun (k : Nat) (h0 : k ≠ 23) => g1 k h0), rfl⟩, by rw [ht]; exact hP, va_K.moved hW.alike hK⟩, hS.F ht⟩) hS.2.2 dX11_findsRow_19

set_option maxRecDepth 100000 in
set_option maxHeartbeats 4000000 in
theorem m1_counts (l : Launch) (D : va_G) (ca : Nat → ClassId) (o : Nat) (z : Nat → Nat → Int32) (y : Nat → Nat → Int64)  (h0_4 : z 0 4 = 0) (h0_6 : z 0 6 = 0) : qM l yX11_counts cX11_counts 4 none 4 124 (qPre D vwCl (qT6 ca) o 41 (qG (GM ca o) z y) [.ref (o + 0)]) (va_Qv (fun u => (∀ k : Nat, (k ≠ 23) → (k ≠ 24) → u.1 k = z k) ∧ u.2 = y ∧ gMANY (u.1 24)) (qB D vwCl (qT6 ca) o 41 (fun u : qZ => qG (GM ca o) u.1 u.2)) (qw_A o 41)) (qw_A o 41) := by
  refine Met.ofW (cc := cX11_counts) (maxL := 4) (ret := none) (by decide) rfl ?_
  intro p e s m args below meth c s₁ B hml hv
  obtain ⟨rfl, hP, hK⟩ := hv
  have hx := B.exec
  have hb := B.bytes
  have hr := B.returns
  have hts0 := atoms_spec (ws := Cond.code yX11_counts cX11_counts 4 none :: qtbl) B.pre
  have hts : ∀ w ∈ qtbl, w.before _ s = true := fun w h => hts0 w (List.mem_cons_of_mem _ h)
  have hown : s.vm.findClass RX11 = some m.cls := findClass_of_methodNamed B.named
  have hlocks := B.notSynchronized
  have hz0 : (0 : Int32).toInt = 0 := rfl
  have hS : va_S (qw_A o 41) s.heap s.heap [] := va_S.rf
  have hl := lv_entry ([.ref (o + 0)]) (n := 4) (Nat.le_of_ble_eq_true rfl)
  rw [lg_entry_eq]
  generalize (lg_sl ([.ref (o + 0)]) ++ List.replicate (4 - (lg_sl ([.ref (o + 0)])).length) Slot.unset).toArray = ls at hl ⊢
  have hl : lv_has ls 4 [(0, .ref (o + 0))] := hl
  refine lv_iconst (v := 0) hx hb dX11_counts_0 (by decide) ?_
  refine lv_istore_n (lv' := [(1, .int 0), (0, .ref (o + 0))]) hx hb dX11_counts_1 rfl hl (by decide) rfl (fun ls hl => ?_)
  have loop1 : ∀ (n i1 : Nat) (x1 : Int32) (z1 : Nat → Nat → Int32), 1024 < i1 + n → i1 ≤ 1024 → 0 ≤ i1 → x1.toInt = (i1 : Int) → (∀ k : Nat, (k ≠ 23) → (k ≠ 24) → z1 k = z k) → (∀ j : Nat, j < i1 → z1 24 j = 0) → ∀ (H : Heap) (locs : List Loc), qw_P D vwCl o 41 (qG (GM ca o) z1 y) H → va_S (qw_A o 41) s.heap H locs → ∀ (ls : Array Slot), lv_has ls 4 [(1, .int x1), (0, .ref (o + 0))] → W p l e (headSpec (Cond.code yX11_counts cX11_counts 4 none :: qtbl) ({ frames := 4, cells := 0, slots := 0, locals := 124 })).room s m (([.ref (o + 0)] : List Value).toArray) below meth c H locs 0 0 (MQ below (va_Qv (fun u => (∀ k : Nat, (k ≠ 23) → (k ≠ 24) → u.1 k = z k) ∧ u.2 = y ∧ gMANY (u.1 24)) (qB D vwCl (qT6 ca) o 41 (fun u : qZ => qG (GM ca o) u.1 u.2)) (qw_A o 41)) (([.ref (o + 0)] : List Value).toArray) s 0 0 (qw_A o 41)) (F0 m 2 ls []) := by
    intro n
    induction n with
    | zero => intro i1 x1 z1 hb1 hi1; exact absurd hb1 (by omega)
    | succ n ih =>
      intro i1 x1 z1 hb1 hi1 ho1 hx1 g1 n1 H locs hP hS ls hl
      have f1_0_4 : z1 0 4 = 0 := (congrFun (g1 0 (by decide) (by decide)) 4).trans h0_4
      have f1_0_6 : z1 0 6 = 0 := (congrFun (g1 0 (by decide) (by decide)) 6).trans h0_6
      refine lv_iload_n hx hb dX11_counts_2 rfl (lv_at hl 0 rfl) ?_
      refine lv_sipush (v := 1024) hx hb dX11_counts_3 (by decide) ?_
      refine lv_icmp_ge (tgt := 22) hx hb dX11_counts_6 (by decide) (fun c2 => ?_) (fun c2 => ?_)
      · have t2 : x1.toInt ≥ (1024 : Int) := gl_le c2
        refine lv_aload_n hx hb dX11_counts_22 rfl (lv_at hl 1 rfl) ?_
        refine qc_Vv (As := []) (rest := []) (k0 := 0) (m1_firstRow l D ca o z1 y ) kc_yX11_firstRow ⟨hx, hb, hml, hown, hts⟩ wq_1336 rfl rfl ⟨Nat.le_of_ble_eq_true rfl, Nat.le_of_ble_eq_true rfl⟩ wq_all hP hK hS qw_Ai (q0 := 0) (by decide) (hgM_0 ca o _ _) rfl rfl hl.1 rfl (Nat.le_of_ble_eq_true rfl) dX11_counts_23 ⟨Nat.zero_le _, Nat.zero_le _⟩ (fun u3 H locs h3 hP hS _ _ => ?_)
        obtain ⟨z3, y3⟩ := u3
        obtain ⟨h3f, h3y⟩ := h3
        dsimp only at h3f h3y hP
        rw [h3y] at hP
        have g3 : ∀ k : Nat, (k ≠ 23) → (k ≠ 24) → z3 k = z k := fun k h0 h1 => (h3f k h0).trans ((show ∀ k : Nat, (k ≠ 23) → (k ≠ 24) → z1 k = z k from (fun (k : Nat) (h0 : k ≠ 23) (h1 : k ≠ 24) => g1 k h0 h1)) k h0 h1)
        have f3_0_4 : z3 0 4 = 0 := (congrFun (h3f 0 (by decide)) 4).trans (f1_0_4)
        have f3_0_6 : z3 0 6 = 0 := (congrFun (h3f 0 (by decide)) 6).trans (f1_0_6)
        have cn3 : ∀ j : Nat, j < 1024 → z3 24 j = 0 := fun j hj => (congrFun (h3f 24 (by decide)) j).trans (n1 j (by omega))
        refine lv_iconst (v := 1) hx hb dX11_counts_26 (by decide) ?_
        refine lv_istore_n (lv' := [(1, .int 1), (0, .ref (o + 0))]) hx hb dX11_counts_27 rfl hl (by decide) rfl (fun ls hl => ?_)
        refine lv_iload_n hx hb dX11_counts_28 rfl (lv_at hl 0 rfl) ?_
        refine lv_if_eq (tgt := 97) hx hb dX11_counts_29 (by decide) (fun q => absurd q (by decide)) (fun _ => ?_)
        refine lv_iconst (v := 0) hx hb dX11_counts_32 (by decide) ?_
        refine lv_istore_n (lv' := [(2, .int 0), (1, .int 1), (0, .ref (o + 0))]) hx hb dX11_counts_33 rfl hl (by decide) rfl (fun ls hl => ?_)
        refine lv_iconst (v := 0) hx hb dX11_counts_34 (by decide) ?_
        refine lv_istore_n (lv' := [(3, .int 0), (2, .int 0), (1, .int 1), (0, .ref (o + 0))]) hx hb dX11_counts_35 rfl hl (by decide) rfl (fun ls hl => ?_)
        refine lv_iload_n hx hb dX11_counts_36 rfl (lv_at hl 0 rfl) ?_
        refine lv_bipush (v := 10) hx hb dX11_counts_37 (by decide) ?_
        refine lv_icmp_ge (tgt := 75) hx hb dX11_counts_39 (by decide) (fun q => absurd q (by decide)) (fun _ => ?_)
        refine lv_aload_n hx hb dX11_counts_42 rfl (lv_at hl 3 rfl) ?_
        refine lv_iload_n hx hb dX11_counts_43 rfl (lv_at hl 0 rfl) ?_
        refine qc_Vi (As := [.int 0]) (rest := []) (k0 := 1) (m1_isRemark l D ca o z3 y 0 (f3_0_6)) kc_yX11_isRemark ⟨hx, hb, hml, hown, hts⟩ wq_1307 rfl rfl ⟨Nat.le_of_ble_eq_true rfl, Nat.le_of_ble_eq_true rfl⟩ wq_all hP hK hS qw_Ai (q0 := 0) (by decide) (hgM_0 ca o _ _) rfl rfl hl.1 rfl (Nat.le_of_ble_eq_true rfl) dX11_counts_44 ⟨Nat.zero_le _, Nat.zero_le _⟩ (fun r4 u4 H locs h4 hP hS _ _ => ?_)
        subst h4
        refine lv_if_eq (tgt := 69) hx hb dX11_counts_47 (by decide) (fun _ => ?_) (fun q => absurd (by decide) q)
        refine lv_iinc (v := 1) (lv' := [(3, .int 1), (2, .int 0), (1, .int 1), (0, .ref (o + 0))]) hx hb dX11_counts_69 hl (k := 0) rfl (by decide) (by decide) rfl (fun ls hl => ?_)
        refine lv_goto (tgt := 36) hx hb dX11_counts_72 (by decide) ?_
        refine lv_iload_n hx hb dX11_counts_36 rfl (lv_at hl 0 rfl) ?_
        refine lv_bipush (v := 10) hx hb dX11_counts_37 (by decide) ?_
        refine lv_icmp_ge (tgt := 75) hx hb dX11_counts_39 (by decide) (fun q => absurd q (by decide)) (fun _ => ?_)
        refine lv_aload_n hx hb dX11_counts_42 rfl (lv_at hl 3 rfl) ?_
        refine lv_iload_n hx hb dX11_counts_43 rfl (lv_at hl 0 rfl) ?_
        refine qc_Vi (As := [.int 1]) (rest := []) (k0 := 1) (m1_isRemark l D ca o z3 y 1 (f3_0_6)) kc_yX11_isRemark ⟨hx, hb, hml, hown, hts⟩ wq_1307 rfl rfl ⟨Nat.le_of_ble_eq_true rfl, Nat.le_of_ble_eq_true rfl⟩ wq_all hP hK hS qw_Ai (q0 := 0) (by decide) (hgM_0 ca o _ _) rfl rfl hl.1 rfl (Nat.le_of_ble_eq_true rfl) dX11_counts_44 ⟨Nat.zero_le _, Nat.zero_le _⟩ (fun r5 u5 H locs h5 hP hS _ _ => ?_)
        subst h5
        refine lv_if_eq (tgt := 69) hx hb dX11_counts_47 (by decide) (fun _ => ?_) (fun q => absurd (by decide) q)
        refine lv_iinc (v := 2) (lv' := [(3, .int 2), (2, .int 0), (1, .int 1), (0, .ref (o + 0))]) hx hb dX11_counts_69 hl (k := 0) rfl (by decide) (by decide) rfl (fun ls hl => ?_)
        refine lv_goto (tgt := 36) hx hb dX11_counts_72 (by decide) ?_
        refine lv_iload_n hx hb dX11_counts_36 rfl (lv_at hl 0 rfl) ?_
        refine lv_bipush (v := 10) hx hb dX11_counts_37 (by decide) ?_
        refine lv_icmp_ge (tgt := 75) hx hb dX11_counts_39 (by decide) (fun q => absurd q (by decide)) (fun _ => ?_)
        refine lv_aload_n hx hb dX11_counts_42 rfl (lv_at hl 3 rfl) ?_
        refine lv_iload_n hx hb dX11_counts_43 rfl (lv_at hl 0 rfl) ?_
        refine qc_Vi (As := [.int 2]) (rest := []) (k0 := 1) (m1_isRemark l D ca o z3 y 2 (f3_0_6)) kc_yX11_isRemark ⟨hx, hb, hml, hown, hts⟩ wq_1307 rfl rfl ⟨Nat.le_of_ble_eq_true rfl, Nat.le_of_ble_eq_true rfl⟩ wq_all hP hK hS qw_Ai (q0 := 0) (by decide) (hgM_0 ca o _ _) rfl rfl hl.1 rfl (Nat.le_of_ble_eq_true rfl) dX11_counts_44 ⟨Nat.zero_le _, Nat.zero_le _⟩ (fun r6 u6 H locs h6 hP hS _ _ => ?_)
        subst h6
        refine lv_if_eq (tgt := 69) hx hb dX11_counts_47 (by decide) (fun _ => ?_) (fun q => absurd (by decide) q)
        refine lv_iinc (v := 3) (lv' := [(3, .int 3), (2, .int 0), (1, .int 1), (0, .ref (o + 0))]) hx hb dX11_counts_69 hl (k := 0) rfl (by decide) (by decide) rfl (fun ls hl => ?_)
        refine lv_goto (tgt := 36) hx hb dX11_counts_72 (by decide) ?_
        refine lv_iload_n hx hb dX11_counts_36 rfl (lv_at hl 0 rfl) ?_
        refine lv_bipush (v := 10) hx hb dX11_counts_37 (by decide) ?_
        refine lv_icmp_ge (tgt := 75) hx hb dX11_counts_39 (by decide) (fun q => absurd q (by decide)) (fun _ => ?_)
        refine lv_aload_n hx hb dX11_counts_42 rfl (lv_at hl 3 rfl) ?_
        refine lv_iload_n hx hb dX11_counts_43 rfl (lv_at hl 0 rfl) ?_
        refine qc_Vi (As := [.int 3]) (rest := []) (k0 := 1) (m1_isRemark l D ca o z3 y 3 (f3_0_6)) kc_yX11_isRemark ⟨hx, hb, hml, hown, hts⟩ wq_1307 rfl rfl ⟨Nat.le_of_ble_eq_true rfl, Nat.le_of_ble_eq_true rfl⟩ wq_all hP hK hS qw_Ai (q0 := 0) (by decide) (hgM_0 ca o _ _) rfl rfl hl.1 rfl (Nat.le_of_ble_eq_true rfl) dX11_counts_44 ⟨Nat.zero_le _, Nat.zero_le _⟩ (fun r7 u7 H locs h7 hP hS _ _ => ?_)
        subst h7
        refine lv_if_eq (tgt := 69) hx hb dX11_counts_47 (by decide) (fun _ => ?_) (fun q => absurd (by decide) q)
        refine lv_iinc (v := 4) (lv' := [(3, .int 4), (2, .int 0), (1, .int 1), (0, .ref (o + 0))]) hx hb dX11_counts_69 hl (k := 0) rfl (by decide) (by decide) rfl (fun ls hl => ?_)
        refine lv_goto (tgt := 36) hx hb dX11_counts_72 (by decide) ?_
        refine lv_iload_n hx hb dX11_counts_36 rfl (lv_at hl 0 rfl) ?_
        refine lv_bipush (v := 10) hx hb dX11_counts_37 (by decide) ?_
        refine lv_icmp_ge (tgt := 75) hx hb dX11_counts_39 (by decide) (fun q => absurd q (by decide)) (fun _ => ?_)
        refine lv_aload_n hx hb dX11_counts_42 rfl (lv_at hl 3 rfl) ?_
        refine lv_iload_n hx hb dX11_counts_43 rfl (lv_at hl 0 rfl) ?_
        refine qc_Vi (As := [.int 4]) (rest := []) (k0 := 1) (m1_isRemark l D ca o z3 y 4 (f3_0_6)) kc_yX11_isRemark ⟨hx, hb, hml, hown, hts⟩ wq_1307 rfl rfl ⟨Nat.le_of_ble_eq_true rfl, Nat.le_of_ble_eq_true rfl⟩ wq_all hP hK hS qw_Ai (q0 := 0) (by decide) (hgM_0 ca o _ _) rfl rfl hl.1 rfl (Nat.le_of_ble_eq_true rfl) dX11_counts_44 ⟨Nat.zero_le _, Nat.zero_le _⟩ (fun r8 u8 H locs h8 hP hS _ _ => ?_)
        subst h8
        refine lv_if_eq (tgt := 69) hx hb dX11_counts_47 (by decide) (fun _ => ?_) (fun q => absurd (by decide) q)
        refine lv_iinc (v := 5) (lv' := [(3, .int 5), (2, .int 0), (1, .int 1), (0, .ref (o + 0))]) hx hb dX11_counts_69 hl (k := 0) rfl (by decide) (by decide) rfl (fun ls hl => ?_)
        refine lv_goto (tgt := 36) hx hb dX11_counts_72 (by decide) ?_
        refine lv_iload_n hx hb dX11_counts_36 rfl (lv_at hl 0 rfl) ?_
        refine lv_bipush (v := 10) hx hb dX11_counts_37 (by decide) ?_
        refine lv_icmp_ge (tgt := 75) hx hb dX11_counts_39 (by decide) (fun q => absurd q (by decide)) (fun _ => ?_)
        refine lv_aload_n hx hb dX11_counts_42 rfl (lv_at hl 3 rfl) ?_
        refine lv_iload_n hx hb dX11_counts_43 rfl (lv_at hl 0 rfl) ?_
        refine qc_Vi (As := [.int 5]) (rest := []) (k0 := 1) (m1_isRemark l D ca o z3 y 5 (f3_0_6)) kc_yX11_isRemark ⟨hx, hb, hml, hown, hts⟩ wq_1307 rfl rfl ⟨Nat.le_of_ble_eq_true rfl, Nat.le_of_ble_eq_true rfl⟩ wq_all hP hK hS qw_Ai (q0 := 0) (by decide) (hgM_0 ca o _ _) rfl rfl hl.1 rfl (Nat.le_of_ble_eq_true rfl) dX11_counts_44 ⟨Nat.zero_le _, Nat.zero_le _⟩ (fun r9 u9 H locs h9 hP hS _ _ => ?_)
        subst h9
        refine lv_if_eq (tgt := 69) hx hb dX11_counts_47 (by decide) (fun _ => ?_) (fun q => absurd (by decide) q)
        refine lv_iinc (v := 6) (lv' := [(3, .int 6), (2, .int 0), (1, .int 1), (0, .ref (o + 0))]) hx hb dX11_counts_69 hl (k := 0) rfl (by decide) (by decide) rfl (fun ls hl => ?_)
        refine lv_goto (tgt := 36) hx hb dX11_counts_72 (by decide) ?_
        refine lv_iload_n hx hb dX11_counts_36 rfl (lv_at hl 0 rfl) ?_
        refine lv_bipush (v := 10) hx hb dX11_counts_37 (by decide) ?_
        refine lv_icmp_ge (tgt := 75) hx hb dX11_counts_39 (by decide) (fun q => absurd q (by decide)) (fun _ => ?_)
        refine lv_aload_n hx hb dX11_counts_42 rfl (lv_at hl 3 rfl) ?_
        refine lv_iload_n hx hb dX11_counts_43 rfl (lv_at hl 0 rfl) ?_
        refine qc_Vi (As := [.int 6]) (rest := []) (k0 := 1) (m1_isRemark l D ca o z3 y 6 (f3_0_6)) kc_yX11_isRemark ⟨hx, hb, hml, hown, hts⟩ wq_1307 rfl rfl ⟨Nat.le_of_ble_eq_true rfl, Nat.le_of_ble_eq_true rfl⟩ wq_all hP hK hS qw_Ai (q0 := 0) (by decide) (hgM_0 ca o _ _) rfl rfl hl.1 rfl (Nat.le_of_ble_eq_true rfl) dX11_counts_44 ⟨Nat.zero_le _, Nat.zero_le _⟩ (fun r10 u10 H locs h10 hP hS _ _ => ?_)
        subst h10
        refine lv_if_eq (tgt := 69) hx hb dX11_counts_47 (by decide) (fun _ => ?_) (fun q => absurd (by decide) q)
        refine lv_iinc (v := 7) (lv' := [(3, .int 7), (2, .int 0), (1, .int 1), (0, .ref (o + 0))]) hx hb dX11_counts_69 hl (k := 0) rfl (by decide) (by decide) rfl (fun ls hl => ?_)
        refine lv_goto (tgt := 36) hx hb dX11_counts_72 (by decide) ?_
        refine lv_iload_n hx hb dX11_counts_36 rfl (lv_at hl 0 rfl) ?_
        refine lv_bipush (v := 10) hx hb dX11_counts_37 (by decide) ?_
        refine lv_icmp_ge (tgt := 75) hx hb dX11_counts_39 (by decide) (fun q => absurd q (by decide)) (fun _ => ?_)
        refine lv_aload_n hx hb dX11_counts_42 rfl (lv_at hl 3 rfl) ?_
        refine lv_iload_n hx hb dX11_counts_43 rfl (lv_at hl 0 rfl) ?_
        refine qc_Vi (As := [.int 7]) (rest := []) (k0 := 1) (m1_isRemark l D ca o z3 y 7 (f3_0_6)) kc_yX11_isRemark ⟨hx, hb, hml, hown, hts⟩ wq_1307 rfl rfl ⟨Nat.le_of_ble_eq_true rfl, Nat.le_of_ble_eq_true rfl⟩ wq_all hP hK hS qw_Ai (q0 := 0) (by decide) (hgM_0 ca o _ _) rfl rfl hl.1 rfl (Nat.le_of_ble_eq_true rfl) dX11_counts_44 ⟨Nat.zero_le _, Nat.zero_le _⟩ (fun r11 u11 H locs h11 hP hS _ _ => ?_)
        subst h11
        refine lv_if_eq (tgt := 69) hx hb dX11_counts_47 (by decide) (fun _ => ?_) (fun q => absurd (by decide) q)
        refine lv_iinc (v := 8) (lv' := [(3, .int 8), (2, .int 0), (1, .int 1), (0, .ref (o + 0))]) hx hb dX11_counts_69 hl (k := 0) rfl (by decide) (by decide) rfl (fun ls hl => ?_)
        refine lv_goto (tgt := 36) hx hb dX11_counts_72 (by decide) ?_
        refine lv_iload_n hx hb dX11_counts_36 rfl (lv_at hl 0 rfl) ?_
        refine lv_bipush (v := 10) hx hb dX11_counts_37 (by decide) ?_
        refine lv_icmp_ge (tgt := 75) hx hb dX11_counts_39 (by decide) (fun q => absurd q (by decide)) (fun _ => ?_)
        refine lv_aload_n hx hb dX11_counts_42 rfl (lv_at hl 3 rfl) ?_
        refine lv_iload_n hx hb dX11_counts_43 rfl (lv_at hl 0 rfl) ?_
        refine qc_Vi (As := [.int 8]) (rest := []) (k0 := 1) (m1_isRemark l D ca o z3 y 8 (f3_0_6)) kc_yX11_isRemark ⟨hx, hb, hml, hown, hts⟩ wq_1307 rfl rfl ⟨Nat.le_of_ble_eq_true rfl, Nat.le_of_ble_eq_true rfl⟩ wq_all hP hK hS qw_Ai (q0 := 0) (by decide) (hgM_0 ca o _ _) rfl rfl hl.1 rfl (Nat.le_of_ble_eq_true rfl) dX11_counts_44 ⟨Nat.zero_le _, Nat.zero_le _⟩ (fun r12 u12 H locs h12 hP hS _ _ => ?_)
        subst h12
        refine lv_if_eq (tgt := 69) hx hb dX11_counts_47 (by decide) (fun _ => ?_) (fun q => absurd (by decide) q)
        refine lv_iinc (v := 9) (lv' := [(3, .int 9), (2, .int 0), (1, .int 1), (0, .ref (o + 0))]) hx hb dX11_counts_69 hl (k := 0) rfl (by decide) (by decide) rfl (fun ls hl => ?_)
        refine lv_goto (tgt := 36) hx hb dX11_counts_72 (by decide) ?_
        refine lv_iload_n hx hb dX11_counts_36 rfl (lv_at hl 0 rfl) ?_
        refine lv_bipush (v := 10) hx hb dX11_counts_37 (by decide) ?_
        refine lv_icmp_ge (tgt := 75) hx hb dX11_counts_39 (by decide) (fun q => absurd q (by decide)) (fun _ => ?_)
        refine lv_aload_n hx hb dX11_counts_42 rfl (lv_at hl 3 rfl) ?_
        refine lv_iload_n hx hb dX11_counts_43 rfl (lv_at hl 0 rfl) ?_
        refine qc_Vi (As := [.int 9]) (rest := []) (k0 := 1) (m1_isRemark l D ca o z3 y 9 (f3_0_6)) kc_yX11_isRemark ⟨hx, hb, hml, hown, hts⟩ wq_1307 rfl rfl ⟨Nat.le_of_ble_eq_true rfl, Nat.le_of_ble_eq_true rfl⟩ wq_all hP hK hS qw_Ai (q0 := 0) (by decide) (hgM_0 ca o _ _) rfl rfl hl.1 rfl (Nat.le_of_ble_eq_true rfl) dX11_counts_44 ⟨Nat.zero_le _, Nat.zero_le _⟩ (fun r13 u13 H locs h13 hP hS _ _ => ?_)
        subst h13
        refine lv_if_eq (tgt := 69) hx hb dX11_counts_47 (by decide) (fun _ => ?_) (fun q => absurd (by decide) q)
        refine lv_iinc (v := 10) (lv' := [(3, .int 10), (2, .int 0), (1, .int 1), (0, .ref (o + 0))]) hx hb dX11_counts_69 hl (k := 0) rfl (by decide) (by decide) rfl (fun ls hl => ?_)
        refine lv_goto (tgt := 36) hx hb dX11_counts_72 (by decide) ?_
        refine lv_iload_n hx hb dX11_counts_36 rfl (lv_at hl 0 rfl) ?_
        refine lv_bipush (v := 10) hx hb dX11_counts_37 (by decide) ?_
        refine lv_icmp_ge (tgt := 75) hx hb dX11_counts_39 (by decide) (fun _ => ?_) (fun q => absurd (by decide) q)
        refine lv_aload_n hx hb dX11_counts_75 rfl (lv_at hl 3 rfl) ?_
        refine qf_get hx hb hts inX11 hown hK hP (q0 := 0) (by decide) (hgM_0 ca o) rfl 37 (by decide) wq_1029 (v := .ref (o + 24)) rfl dX11_counts_76 ?_
        refine lv_iload_n hx hb dX11_counts_79 rfl (lv_at hl 1 rfl) ?_
        refine lv_aload_n hx hb dX11_counts_80 rfl (lv_at hl 3 rfl) ?_
        refine qf_get hx hb hts inX11 hown hK hP (q0 := 0) (by decide) (hgM_0 ca o) rfl 37 (by decide) wq_1029 (v := .ref (o + 24)) rfl dX11_counts_81 ?_
        refine lv_iload_n hx hb dX11_counts_84 rfl (lv_at hl 1 rfl) ?_
        refine qa_iald hx hb hK hP (q0 := 24) (by decide) 0 (N := 1024) (hgM_24 ca o) rfl (gi_in (by decide) (by decide)) dX11_counts_85 ?_
        refine qtop (x' := 0) (cn3 0 (by decide)) ?_
        refine lv_iconst (v := 1) hx hb dX11_counts_86 (by decide) ?_
        refine lv_iadd hx hb dX11_counts_87 ?_
        refine qtop (x' := 1) (by decide) ?_
        refine qa_iast hx hb hK hP hS qw_Ai (q0 := 24) (by decide) 0 (N := 1024) (hgM_24 ca o) rfl (gi_in (by decide) (by decide)) dX11_counts_88 (fun H locs hP hS => ?_)
        refine lv_aload_n hx hb dX11_counts_89 rfl (lv_at hl 3 rfl) ?_
        refine qc_Vi (As := []) (rest := []) (k0 := 0) (m1_nextRow l D ca o (qu z3 24 ((0 : Int32).toNatClampNeg) 1) y (f3_0_4)) kc_yX11_nextRow ⟨hx, hb, hml, hown, hts⟩ wq_1352 rfl rfl ⟨Nat.le_of_ble_eq_true rfl, Nat.le_of_ble_eq_true rfl⟩ wq_all hP hK hS qw_Ai (q0 := 0) (by decide) (hgM_0 ca o _ _) rfl rfl hl.1 rfl (Nat.le_of_ble_eq_true rfl) dX11_counts_90 ⟨Nat.zero_le _, Nat.zero_le _⟩ (fun r14 u14 H locs h14 hP hS _ _ => ?_)
        subst h14
        refine lv_istore_n (lv' := [(1, .int 0), (3, .int 10), (2, .int 0), (0, .ref (o + 0))]) hx hb dX11_counts_93 rfl hl (by decide) rfl (fun ls hl => ?_)
        refine lv_goto (tgt := 28) hx hb dX11_counts_94 (by decide) ?_
        refine lv_iload_n hx hb dX11_counts_28 rfl (lv_at hl 0 rfl) ?_
        refine lv_if_eq (tgt := 97) hx hb dX11_counts_29 (by decide) (fun _ => ?_) (fun q => absurd (by decide) q)
        exact W.vret hx hb hr (fun t ht hW => ⟨⟨((qu z3 24 ((0 : Int32).toNatClampNeg) 1), y), rfl, ⟨(fun (k : Nat) (h0 : k ≠ 23) (h1 : k ≠ 24) => by simp only [qu_ne h1]; exact g3 k h0 h1), rfl, by show gMANY (qu _ 24 _ _ 24); rw [qu_eq]; exact gmany_first (fun j hj => cn3 j (by omega))⟩, by rw [ht]; exact hP, va_K.moved hW.alike hK⟩, hS.F ht⟩) hS.2.2 dX11_counts_97
      · have t2 : x1.toInt < (1024 : Int) := gl_nle c2
        refine lv_aload_n hx hb dX11_counts_9 rfl (lv_at hl 1 rfl) ?_
        refine qf_get hx hb hts inX11 hown hK hP (q0 := 0) (by decide) (hgM_0 ca o) rfl 37 (by decide) wq_1029 (v := .ref (o + 24)) rfl dX11_counts_10 ?_
        refine lv_iload_n hx hb dX11_counts_13 rfl (lv_at hl 0 rfl) ?_
        refine lv_iconst (v := 0) hx hb dX11_counts_14 (by decide) ?_
        refine qa_iast hx hb hK hP hS qw_Ai (q0 := 24) (by decide) 0 (N := 1024) (hgM_24 ca o) rfl (gi_in (by omega) (by omega)) dX11_counts_15 (fun H locs hP hS => ?_)
        obtain ⟨x15, e15⟩ : ∃ t : Int32, t = x1 + 1 := ⟨_, rfl⟩
        refine lv_iinc (v := x15) (lv' := [(1, .int x15), (0, .ref (o + 0))]) hx hb dX11_counts_16 hl (k := 0) rfl (by rw [e15]; rfl) (by decide) rfl (fun ls hl => ?_)
        refine lv_goto (tgt := 2) hx hb dX11_counts_19 (by decide) ?_
        exact ih (i1 + 1) x15 (qu z1 24 (x1.toNatClampNeg) 0) (by omega) (by omega) (by omega) (by rw [e15]; rw [gi_add (by rw [hx1]; show _ ≤ _ + (1 : Int); omega) (by rw [hx1]; show _ + (1 : Int) ≤ _; omega), hx1]; rfl) (fun (k : Nat) (h0 : k ≠ 23) (h1 : k ≠ 24) => by simp only [qu_ne h1]; exact g1 k h0 h1) (gfill_step hx1 n1) _ _ hP hS _ (lv_sub hl [0, 1] rfl)
  exact loop1 1025 0 0 z (by omega) (by omega) (by omega) rfl (fun _ _ _ => rfl) (fun j h => absurd h (by omega)) _ _ hP hS _ (lv_sub hl [0, 1] rfl)

set_option maxRecDepth 100000 in
set_option maxHeartbeats 4000000 in
theorem m1_fitting (l : Launch) (D : va_G) (ca : Nat → ClassId) (o : Nat) (z : Nat → Nat → Int32) (y : Nat → Nat → Int64) (hm : gMANY (z 24)) (h24_0 : z 24 0 = 1) : qM l yX11_fitting cX11_fitting 4 (some .int) 1 60 (qPre D vwCl (qT6 ca) o 41 (qG (GM ca o) z y) [.ref (o + 0), .int 0]) (va_Qi (fun r _ => r = 1) (qB D vwCl (qT6 ca) o 41 (fun _ : Unit => qG (GM ca o) z y)) (qw_A o 41)) (qw_A o 41) := by
  refine Met.ofW (cc := cX11_fitting) (maxL := 4) (ret := (some .int)) (by decide) rfl ?_
  intro p e s m args below meth c s₁ B hml hv
  obtain ⟨rfl, hP, hK⟩ := hv
  have hx := B.exec
  have hb := B.bytes
  have hr := B.returns
  have hts0 := atoms_spec (ws := Cond.code yX11_fitting cX11_fitting 4 (some .int) :: qtbl) B.pre
  have hts : ∀ w ∈ qtbl, w.before _ s = true := fun w h => hts0 w (List.mem_cons_of_mem _ h)
  have hown : s.vm.findClass RX11 = some m.cls := findClass_of_methodNamed B.named
  have hlocks := B.notSynchronized
  have hz0 : (0 : Int32).toInt = 0 := rfl
  have hS : va_S (qw_A o 41) s.heap s.heap [] := va_S.rf
  have hl := lv_entry ([.ref (o + 0), .int 0]) (n := 4) (Nat.le_of_ble_eq_true rfl)
  rw [lg_entry_eq]
  generalize (lg_sl ([.ref (o + 0), .int 0]) ++ List.replicate (4 - (lg_sl ([.ref (o + 0), .int 0])).length) Slot.unset).toArray = ls at hl ⊢
  have hl : lv_has ls 4 [(0, .ref (o + 0)), (1, .int 0)] := hl
  refine lv_iconst (v := 0) hx hb dX11_fitting_0 (by decide) ?_
  refine lv_istore_n (lv' := [(2, .int 0), (0, .ref (o + 0)), (1, .int 0)]) hx hb dX11_fitting_1 rfl hl (by decide) rfl (fun ls hl => ?_)
  refine lv_iconst (v := 0) hx hb dX11_fitting_2 (by decide) ?_
  refine lv_istore_n (lv' := [(3, .int 0), (2, .int 0), (0, .ref (o + 0)), (1, .int 0)]) hx hb dX11_fitting_3 rfl hl (by decide) rfl (fun ls hl => ?_)
  refine lv_iload_n hx hb dX11_fitting_4 rfl (lv_at hl 0 rfl) ?_
  refine lv_sipush (v := 1024) hx hb dX11_fitting_5 (by decide) ?_
  refine lv_icmp_ge (tgt := 34) hx hb dX11_fitting_8 (by decide) (fun q => absurd q (by decide)) (fun _ => ?_)
  refine lv_iload_n hx hb dX11_fitting_11 rfl (lv_at hl 3 rfl) ?_
  refine lv_iload_n hx hb dX11_fitting_12 rfl (lv_at hl 0 rfl) ?_
  refine lv_iconst (v := (-1)) hx hb dX11_fitting_13 (by decide) ?_
  refine lv_ixor hx hb dX11_fitting_14 ?_
  refine qtop (x' := (-1)) (by decide) ?_
  refine lv_iand hx hb dX11_fitting_15 ?_
  refine qtop (x' := 0) (by decide) ?_
  refine lv_if_ne (tgt := 28) hx hb dX11_fitting_16 (by decide) (fun q => absurd q (by decide)) (fun _ => ?_)
  refine lv_iload_n hx hb dX11_fitting_19 rfl (lv_at hl 1 rfl) ?_
  refine lv_aload_n hx hb dX11_fitting_20 rfl (lv_at hl 2 rfl) ?_
  refine qf_get hx hb hts inX11 hown hK hP (q0 := 0) (by decide) (hgM_0 ca o) rfl 37 (by decide) wq_1029 (v := .ref (o + 24)) rfl dX11_fitting_21 ?_
  refine lv_iload_n hx hb dX11_fitting_24 rfl (lv_at hl 0 rfl) ?_
  refine qa_iald hx hb hK hP (q0 := 24) (by decide) 0 (N := 1024) (hgM_24 ca o) rfl (gi_in (by decide) (by decide)) dX11_fitting_25 ?_
  refine qtop (x' := 1) h24_0 ?_
  refine lv_iadd hx hb dX11_fitting_26 ?_
  refine qtop (x' := 1) (by decide) ?_
  refine lv_istore_n (lv' := [(2, .int 1), (3, .int 0), (0, .ref (o + 0)), (1, .int 0)]) hx hb dX11_fitting_27 rfl hl (by decide) rfl (fun ls hl => ?_)
  refine lv_iinc (v := 1) (lv' := [(3, .int 1), (2, .int 1), (0, .ref (o + 0)), (1, .int 0)]) hx hb dX11_fitting_28 hl (k := 1) rfl (by decide) (by decide) rfl (fun ls hl => ?_)
  refine lv_goto (tgt := 4) hx hb dX11_fitting_31 (by decide) ?_
  have loop1 : ∀ (n i1 : Nat) (x1 : Int32), 1024 < i1 + n → i1 ≤ 1024 → 1 ≤ i1 → x1.toInt = (i1 : Int) → ∀ (H : Heap) (locs : List Loc), qw_P D vwCl o 41 (qG (GM ca o) z y) H → va_S (qw_A o 41) s.heap H locs → ∀ (ls : Array Slot), lv_has ls 4 [(3, .int x1), (2, .int 1), (0, .ref (o + 0)), (1, .int 0)] → W p l e (headSpec (Cond.code yX11_fitting cX11_fitting 4 (some .int) :: qtbl) ({ frames := 1, cells := 0, slots := 0, locals := 60 })).room s m (([.ref (o + 0), .int 0] : List Value).toArray) below meth c H locs 0 0 (MQ below (va_Qi (fun r _ => r = 1) (qB D vwCl (qT6 ca) o 41 (fun _ : Unit => qG (GM ca o) z y)) (qw_A o 41)) (([.ref (o + 0), .int 0] : List Value).toArray) s 0 0 (qw_A o 41)) (F0 m 4 ls []) := by
    intro n
    induction n with
    | zero => intro i1 x1 hb1 hi1; exact absurd hb1 (by omega)
    | succ n ih =>
      intro i1 x1 hb1 hi1 ho1 hx1 H locs hP hS ls hl
      refine lv_iload_n hx hb dX11_fitting_4 rfl (lv_at hl 0 rfl) ?_
      refine lv_sipush (v := 1024) hx hb dX11_fitting_5 (by decide) ?_
      refine lv_icmp_ge (tgt := 34) hx hb dX11_fitting_8 (by decide) (fun c2 => ?_) (fun c2 => ?_)
      · have t2 : x1.toInt ≥ (1024 : Int) := gl_le c2
        refine lv_iload_n hx hb dX11_fitting_34 rfl (lv_at hl 1 rfl) ?_
        exact W.iret (v := 1) hx hb hr (fun t ht hW => ⟨⟨1, (), rfl, rfl, by rw [ht]; exact hP, va_K.moved hW.alike hK⟩, hS.F ht⟩) hS.2.2 dX11_fitting_35
      · have t2 : x1.toInt < (1024 : Int) := gl_nle c2
        refine lv_iload_n hx hb dX11_fitting_11 rfl (lv_at hl 3 rfl) ?_
        refine lv_iload_n hx hb dX11_fitting_12 rfl (lv_at hl 0 rfl) ?_
        refine lv_iconst (v := (-1)) hx hb dX11_fitting_13 (by decide) ?_
        refine lv_ixor hx hb dX11_fitting_14 ?_
        refine lv_topi (fun x3 e3 => ?_)
        refine lv_iand hx hb dX11_fitting_15 ?_
        refine qtop (gi_0a _) ?_
        refine lv_if_ne (tgt := 28) hx hb dX11_fitting_16 (by decide) (fun q => absurd q (by decide)) (fun _ => ?_)
        refine lv_iload_n hx hb dX11_fitting_19 rfl (lv_at hl 1 rfl) ?_
        refine lv_aload_n hx hb dX11_fitting_20 rfl (lv_at hl 2 rfl) ?_
        refine qf_get hx hb hts inX11 hown hK hP (q0 := 0) (by decide) (hgM_0 ca o) rfl 37 (by decide) wq_1029 (v := .ref (o + 24)) rfl dX11_fitting_21 ?_
        refine lv_iload_n hx hb dX11_fitting_24 rfl (lv_at hl 0 rfl) ?_
        refine qa_iald hx hb hK hP (q0 := 24) (by decide) 0 (N := 1024) (hgM_24 ca o) rfl (gi_in (by omega) (by omega)) dX11_fitting_25 ?_
        refine qtop (x' := 0) (gmany_at hm (by omega) (by omega)) ?_
        refine lv_iadd hx hb dX11_fitting_26 ?_
        refine qtop (x' := 1) (by decide) ?_
        refine lv_istore_n (lv' := [(2, .int 1), (3, .int x1), (0, .ref (o + 0)), (1, .int 0)]) hx hb dX11_fitting_27 rfl hl (by decide) rfl (fun ls hl => ?_)
        obtain ⟨x4, e4⟩ : ∃ t : Int32, t = x1 + 1 := ⟨_, rfl⟩
        refine lv_iinc (v := x4) (lv' := [(3, .int x4), (2, .int 1), (0, .ref (o + 0)), (1, .int 0)]) hx hb dX11_fitting_28 hl (k := 1) rfl (by rw [e4]; rfl) (by decide) rfl (fun ls hl => ?_)
        refine lv_goto (tgt := 4) hx hb dX11_fitting_31 (by decide) ?_
        exact ih (i1 + 1) x4 (by omega) (by omega) (by omega) (by rw [e4]; rw [gi_add (by rw [hx1]; show _ ≤ _ + (1 : Int); omega) (by rw [hx1]; show _ + (1 : Int) ≤ _; omega), hx1]; rfl) _ _ hP hS _ (lv_sub hl [0, 1, 2, 3] rfl)
  exact loop1 1025 1 1 (by omega) (by omega) (by omega) rfl _ _ hP hS _ (lv_sub hl [0, 1, 2, 3] rfl)

set_option maxRecDepth 100000 in
set_option maxHeartbeats 4000000 in
theorem m1_offIn (l : Launch) (D : va_G) (ca : Nat → ClassId) (o : Nat) (z : Nat → Nat → Int32) (y : Nat → Nat → Int64)   : qM l yX11_offIn cX11_offIn 5 (some .int) 2 81 (qPre D vwCl (qT6 ca) o 41 (qG (GM ca o) z y) [.ref (o + 0), .int 0]) (va_Qi (fun r _ => r = 0) (qB D vwCl (qT6 ca) o 41 (fun _ : Unit => qG (GM ca o) z y)) (qw_A o 41)) (qw_A o 41) := by
  refine Met.ofW (cc := cX11_offIn) (maxL := 5) (ret := (some .int)) (by decide) rfl ?_
  intro p e s m args below meth c s₁ B hml hv
  obtain ⟨rfl, hP, hK⟩ := hv
  have hx := B.exec
  have hb := B.bytes
  have hr := B.returns
  have hts0 := atoms_spec (ws := Cond.code yX11_offIn cX11_offIn 5 (some .int) :: qtbl) B.pre
  have hts : ∀ w ∈ qtbl, w.before _ s = true := fun w h => hts0 w (List.mem_cons_of_mem _ h)
  have hown : s.vm.findClass RX11 = some m.cls := findClass_of_methodNamed B.named
  have hlocks := B.notSynchronized
  have hz0 : (0 : Int32).toInt = 0 := rfl
  have hS : va_S (qw_A o 41) s.heap s.heap [] := va_S.rf
  have hl := lv_entry ([.ref (o + 0), .int 0]) (n := 5) (Nat.le_of_ble_eq_true rfl)
  rw [lg_entry_eq]
  generalize (lg_sl ([.ref (o + 0), .int 0]) ++ List.replicate (5 - (lg_sl ([.ref (o + 0), .int 0])).length) Slot.unset).toArray = ls at hl ⊢
  have hl : lv_has ls 5 [(0, .ref (o + 0)), (1, .int 0)] := hl
  refine lv_iconst (v := 0) hx hb dX11_offIn_0 (by decide) ?_
  refine lv_istore_n (lv' := [(2, .int 0), (0, .ref (o + 0)), (1, .int 0)]) hx hb dX11_offIn_1 rfl hl (by decide) rfl (fun ls hl => ?_)
  refine lv_iconst (v := 0) hx hb dX11_offIn_2 (by decide) ?_
  refine lv_istore_n (lv' := [(3, .int 0), (2, .int 0), (0, .ref (o + 0)), (1, .int 0)]) hx hb dX11_offIn_3 rfl hl (by decide) rfl (fun ls hl => ?_)
  refine lv_iload_n hx hb dX11_offIn_4 rfl (lv_at hl 0 rfl) ?_
  refine lv_bipush (v := 10) hx hb dX11_offIn_5 (by decide) ?_
  refine lv_icmp_ge (tgt := 76) hx hb dX11_offIn_7 (by decide) (fun q => absurd q (by decide)) (fun _ => ?_)
  refine lv_iload_n hx hb dX11_offIn_10 rfl (lv_at hl 3 rfl) ?_
  refine lv_iload_n hx hb dX11_offIn_11 rfl (lv_at hl 0 rfl) ?_
  refine qc_Si (As := [.int 0, .int 0]) (rest := []) (k0 := 2) (m1_has0 l D ca o z y 0) kc_yX11_has ⟨hx, hb, hml, hown, hts⟩ wq_1198 rfl rfl ⟨Nat.le_of_ble_eq_true rfl, Nat.le_of_ble_eq_true rfl⟩ wq_all hP hK hS qw_Ai rfl hl.1 rfl (Nat.le_of_ble_eq_true rfl) dX11_offIn_12 ⟨Nat.zero_le _, Nat.zero_le _⟩ (fun r1 u1 H locs h1 hP hS _ _ => ?_)
  subst h1
  refine lv_if_ne (tgt := 21) hx hb dX11_offIn_15 (by decide) (fun q => absurd q (by decide)) (fun _ => ?_)
  refine lv_goto (tgt := 70) hx hb dX11_offIn_18 (by decide) ?_
  refine lv_iinc (v := 1) (lv' := [(3, .int 1), (2, .int 0), (0, .ref (o + 0)), (1, .int 0)]) hx hb dX11_offIn_70 hl (k := 0) rfl (by decide) (by decide) rfl (fun ls hl => ?_)
  refine lv_goto (tgt := 4) hx hb dX11_offIn_73 (by decide) ?_
  refine lv_iload_n hx hb dX11_offIn_4 rfl (lv_at hl 0 rfl) ?_
  refine lv_bipush (v := 10) hx hb dX11_offIn_5 (by decide) ?_
  refine lv_icmp_ge (tgt := 76) hx hb dX11_offIn_7 (by decide) (fun q => absurd q (by decide)) (fun _ => ?_)
  refine lv_iload_n hx hb dX11_offIn_10 rfl (lv_at hl 3 rfl) ?_
  refine lv_iload_n hx hb dX11_offIn_11 rfl (lv_at hl 0 rfl) ?_
  refine qc_Si (As := [.int 0, .int 1]) (rest := []) (k0 := 2) (m1_has0 l D ca o z y 1) kc_yX11_has ⟨hx, hb, hml, hown, hts⟩ wq_1198 rfl rfl ⟨Nat.le_of_ble_eq_true rfl, Nat.le_of_ble_eq_true rfl⟩ wq_all hP hK hS qw_Ai rfl hl.1 rfl (Nat.le_of_ble_eq_true rfl) dX11_offIn_12 ⟨Nat.zero_le _, Nat.zero_le _⟩ (fun r2 u2 H locs h2 hP hS _ _ => ?_)
  subst h2
  refine lv_if_ne (tgt := 21) hx hb dX11_offIn_15 (by decide) (fun q => absurd q (by decide)) (fun _ => ?_)
  refine lv_goto (tgt := 70) hx hb dX11_offIn_18 (by decide) ?_
  refine lv_iinc (v := 2) (lv' := [(3, .int 2), (2, .int 0), (0, .ref (o + 0)), (1, .int 0)]) hx hb dX11_offIn_70 hl (k := 0) rfl (by decide) (by decide) rfl (fun ls hl => ?_)
  refine lv_goto (tgt := 4) hx hb dX11_offIn_73 (by decide) ?_
  refine lv_iload_n hx hb dX11_offIn_4 rfl (lv_at hl 0 rfl) ?_
  refine lv_bipush (v := 10) hx hb dX11_offIn_5 (by decide) ?_
  refine lv_icmp_ge (tgt := 76) hx hb dX11_offIn_7 (by decide) (fun q => absurd q (by decide)) (fun _ => ?_)
  refine lv_iload_n hx hb dX11_offIn_10 rfl (lv_at hl 3 rfl) ?_
  refine lv_iload_n hx hb dX11_offIn_11 rfl (lv_at hl 0 rfl) ?_
  refine qc_Si (As := [.int 0, .int 2]) (rest := []) (k0 := 2) (m1_has0 l D ca o z y 2) kc_yX11_has ⟨hx, hb, hml, hown, hts⟩ wq_1198 rfl rfl ⟨Nat.le_of_ble_eq_true rfl, Nat.le_of_ble_eq_true rfl⟩ wq_all hP hK hS qw_Ai rfl hl.1 rfl (Nat.le_of_ble_eq_true rfl) dX11_offIn_12 ⟨Nat.zero_le _, Nat.zero_le _⟩ (fun r3 u3 H locs h3 hP hS _ _ => ?_)
  subst h3
  refine lv_if_ne (tgt := 21) hx hb dX11_offIn_15 (by decide) (fun q => absurd q (by decide)) (fun _ => ?_)
  refine lv_goto (tgt := 70) hx hb dX11_offIn_18 (by decide) ?_
  refine lv_iinc (v := 3) (lv' := [(3, .int 3), (2, .int 0), (0, .ref (o + 0)), (1, .int 0)]) hx hb dX11_offIn_70 hl (k := 0) rfl (by decide) (by decide) rfl (fun ls hl => ?_)
  refine lv_goto (tgt := 4) hx hb dX11_offIn_73 (by decide) ?_
  refine lv_iload_n hx hb dX11_offIn_4 rfl (lv_at hl 0 rfl) ?_
  refine lv_bipush (v := 10) hx hb dX11_offIn_5 (by decide) ?_
  refine lv_icmp_ge (tgt := 76) hx hb dX11_offIn_7 (by decide) (fun q => absurd q (by decide)) (fun _ => ?_)
  refine lv_iload_n hx hb dX11_offIn_10 rfl (lv_at hl 3 rfl) ?_
  refine lv_iload_n hx hb dX11_offIn_11 rfl (lv_at hl 0 rfl) ?_
  refine qc_Si (As := [.int 0, .int 3]) (rest := []) (k0 := 2) (m1_has0 l D ca o z y 3) kc_yX11_has ⟨hx, hb, hml, hown, hts⟩ wq_1198 rfl rfl ⟨Nat.le_of_ble_eq_true rfl, Nat.le_of_ble_eq_true rfl⟩ wq_all hP hK hS qw_Ai rfl hl.1 rfl (Nat.le_of_ble_eq_true rfl) dX11_offIn_12 ⟨Nat.zero_le _, Nat.zero_le _⟩ (fun r4 u4 H locs h4 hP hS _ _ => ?_)
  subst h4
  refine lv_if_ne (tgt := 21) hx hb dX11_offIn_15 (by decide) (fun q => absurd q (by decide)) (fun _ => ?_)
  refine lv_goto (tgt := 70) hx hb dX11_offIn_18 (by decide) ?_
  refine lv_iinc (v := 4) (lv' := [(3, .int 4), (2, .int 0), (0, .ref (o + 0)), (1, .int 0)]) hx hb dX11_offIn_70 hl (k := 0) rfl (by decide) (by decide) rfl (fun ls hl => ?_)
  refine lv_goto (tgt := 4) hx hb dX11_offIn_73 (by decide) ?_
  refine lv_iload_n hx hb dX11_offIn_4 rfl (lv_at hl 0 rfl) ?_
  refine lv_bipush (v := 10) hx hb dX11_offIn_5 (by decide) ?_
  refine lv_icmp_ge (tgt := 76) hx hb dX11_offIn_7 (by decide) (fun q => absurd q (by decide)) (fun _ => ?_)
  refine lv_iload_n hx hb dX11_offIn_10 rfl (lv_at hl 3 rfl) ?_
  refine lv_iload_n hx hb dX11_offIn_11 rfl (lv_at hl 0 rfl) ?_
  refine qc_Si (As := [.int 0, .int 4]) (rest := []) (k0 := 2) (m1_has0 l D ca o z y 4) kc_yX11_has ⟨hx, hb, hml, hown, hts⟩ wq_1198 rfl rfl ⟨Nat.le_of_ble_eq_true rfl, Nat.le_of_ble_eq_true rfl⟩ wq_all hP hK hS qw_Ai rfl hl.1 rfl (Nat.le_of_ble_eq_true rfl) dX11_offIn_12 ⟨Nat.zero_le _, Nat.zero_le _⟩ (fun r5 u5 H locs h5 hP hS _ _ => ?_)
  subst h5
  refine lv_if_ne (tgt := 21) hx hb dX11_offIn_15 (by decide) (fun q => absurd q (by decide)) (fun _ => ?_)
  refine lv_goto (tgt := 70) hx hb dX11_offIn_18 (by decide) ?_
  refine lv_iinc (v := 5) (lv' := [(3, .int 5), (2, .int 0), (0, .ref (o + 0)), (1, .int 0)]) hx hb dX11_offIn_70 hl (k := 0) rfl (by decide) (by decide) rfl (fun ls hl => ?_)
  refine lv_goto (tgt := 4) hx hb dX11_offIn_73 (by decide) ?_
  refine lv_iload_n hx hb dX11_offIn_4 rfl (lv_at hl 0 rfl) ?_
  refine lv_bipush (v := 10) hx hb dX11_offIn_5 (by decide) ?_
  refine lv_icmp_ge (tgt := 76) hx hb dX11_offIn_7 (by decide) (fun q => absurd q (by decide)) (fun _ => ?_)
  refine lv_iload_n hx hb dX11_offIn_10 rfl (lv_at hl 3 rfl) ?_
  refine lv_iload_n hx hb dX11_offIn_11 rfl (lv_at hl 0 rfl) ?_
  refine qc_Si (As := [.int 0, .int 5]) (rest := []) (k0 := 2) (m1_has0 l D ca o z y 5) kc_yX11_has ⟨hx, hb, hml, hown, hts⟩ wq_1198 rfl rfl ⟨Nat.le_of_ble_eq_true rfl, Nat.le_of_ble_eq_true rfl⟩ wq_all hP hK hS qw_Ai rfl hl.1 rfl (Nat.le_of_ble_eq_true rfl) dX11_offIn_12 ⟨Nat.zero_le _, Nat.zero_le _⟩ (fun r6 u6 H locs h6 hP hS _ _ => ?_)
  subst h6
  refine lv_if_ne (tgt := 21) hx hb dX11_offIn_15 (by decide) (fun q => absurd q (by decide)) (fun _ => ?_)
  refine lv_goto (tgt := 70) hx hb dX11_offIn_18 (by decide) ?_
  refine lv_iinc (v := 6) (lv' := [(3, .int 6), (2, .int 0), (0, .ref (o + 0)), (1, .int 0)]) hx hb dX11_offIn_70 hl (k := 0) rfl (by decide) (by decide) rfl (fun ls hl => ?_)
  refine lv_goto (tgt := 4) hx hb dX11_offIn_73 (by decide) ?_
  refine lv_iload_n hx hb dX11_offIn_4 rfl (lv_at hl 0 rfl) ?_
  refine lv_bipush (v := 10) hx hb dX11_offIn_5 (by decide) ?_
  refine lv_icmp_ge (tgt := 76) hx hb dX11_offIn_7 (by decide) (fun q => absurd q (by decide)) (fun _ => ?_)
  refine lv_iload_n hx hb dX11_offIn_10 rfl (lv_at hl 3 rfl) ?_
  refine lv_iload_n hx hb dX11_offIn_11 rfl (lv_at hl 0 rfl) ?_
  refine qc_Si (As := [.int 0, .int 6]) (rest := []) (k0 := 2) (m1_has0 l D ca o z y 6) kc_yX11_has ⟨hx, hb, hml, hown, hts⟩ wq_1198 rfl rfl ⟨Nat.le_of_ble_eq_true rfl, Nat.le_of_ble_eq_true rfl⟩ wq_all hP hK hS qw_Ai rfl hl.1 rfl (Nat.le_of_ble_eq_true rfl) dX11_offIn_12 ⟨Nat.zero_le _, Nat.zero_le _⟩ (fun r7 u7 H locs h7 hP hS _ _ => ?_)
  subst h7
  refine lv_if_ne (tgt := 21) hx hb dX11_offIn_15 (by decide) (fun q => absurd q (by decide)) (fun _ => ?_)
  refine lv_goto (tgt := 70) hx hb dX11_offIn_18 (by decide) ?_
  refine lv_iinc (v := 7) (lv' := [(3, .int 7), (2, .int 0), (0, .ref (o + 0)), (1, .int 0)]) hx hb dX11_offIn_70 hl (k := 0) rfl (by decide) (by decide) rfl (fun ls hl => ?_)
  refine lv_goto (tgt := 4) hx hb dX11_offIn_73 (by decide) ?_
  refine lv_iload_n hx hb dX11_offIn_4 rfl (lv_at hl 0 rfl) ?_
  refine lv_bipush (v := 10) hx hb dX11_offIn_5 (by decide) ?_
  refine lv_icmp_ge (tgt := 76) hx hb dX11_offIn_7 (by decide) (fun q => absurd q (by decide)) (fun _ => ?_)
  refine lv_iload_n hx hb dX11_offIn_10 rfl (lv_at hl 3 rfl) ?_
  refine lv_iload_n hx hb dX11_offIn_11 rfl (lv_at hl 0 rfl) ?_
  refine qc_Si (As := [.int 0, .int 7]) (rest := []) (k0 := 2) (m1_has0 l D ca o z y 7) kc_yX11_has ⟨hx, hb, hml, hown, hts⟩ wq_1198 rfl rfl ⟨Nat.le_of_ble_eq_true rfl, Nat.le_of_ble_eq_true rfl⟩ wq_all hP hK hS qw_Ai rfl hl.1 rfl (Nat.le_of_ble_eq_true rfl) dX11_offIn_12 ⟨Nat.zero_le _, Nat.zero_le _⟩ (fun r8 u8 H locs h8 hP hS _ _ => ?_)
  subst h8
  refine lv_if_ne (tgt := 21) hx hb dX11_offIn_15 (by decide) (fun q => absurd q (by decide)) (fun _ => ?_)
  refine lv_goto (tgt := 70) hx hb dX11_offIn_18 (by decide) ?_
  refine lv_iinc (v := 8) (lv' := [(3, .int 8), (2, .int 0), (0, .ref (o + 0)), (1, .int 0)]) hx hb dX11_offIn_70 hl (k := 0) rfl (by decide) (by decide) rfl (fun ls hl => ?_)
  refine lv_goto (tgt := 4) hx hb dX11_offIn_73 (by decide) ?_
  refine lv_iload_n hx hb dX11_offIn_4 rfl (lv_at hl 0 rfl) ?_
  refine lv_bipush (v := 10) hx hb dX11_offIn_5 (by decide) ?_
  refine lv_icmp_ge (tgt := 76) hx hb dX11_offIn_7 (by decide) (fun q => absurd q (by decide)) (fun _ => ?_)
  refine lv_iload_n hx hb dX11_offIn_10 rfl (lv_at hl 3 rfl) ?_
  refine lv_iload_n hx hb dX11_offIn_11 rfl (lv_at hl 0 rfl) ?_
  refine qc_Si (As := [.int 0, .int 8]) (rest := []) (k0 := 2) (m1_has0 l D ca o z y 8) kc_yX11_has ⟨hx, hb, hml, hown, hts⟩ wq_1198 rfl rfl ⟨Nat.le_of_ble_eq_true rfl, Nat.le_of_ble_eq_true rfl⟩ wq_all hP hK hS qw_Ai rfl hl.1 rfl (Nat.le_of_ble_eq_true rfl) dX11_offIn_12 ⟨Nat.zero_le _, Nat.zero_le _⟩ (fun r9 u9 H locs h9 hP hS _ _ => ?_)
  subst h9
  refine lv_if_ne (tgt := 21) hx hb dX11_offIn_15 (by decide) (fun q => absurd q (by decide)) (fun _ => ?_)
  refine lv_goto (tgt := 70) hx hb dX11_offIn_18 (by decide) ?_
  refine lv_iinc (v := 9) (lv' := [(3, .int 9), (2, .int 0), (0, .ref (o + 0)), (1, .int 0)]) hx hb dX11_offIn_70 hl (k := 0) rfl (by decide) (by decide) rfl (fun ls hl => ?_)
  refine lv_goto (tgt := 4) hx hb dX11_offIn_73 (by decide) ?_
  refine lv_iload_n hx hb dX11_offIn_4 rfl (lv_at hl 0 rfl) ?_
  refine lv_bipush (v := 10) hx hb dX11_offIn_5 (by decide) ?_
  refine lv_icmp_ge (tgt := 76) hx hb dX11_offIn_7 (by decide) (fun q => absurd q (by decide)) (fun _ => ?_)
  refine lv_iload_n hx hb dX11_offIn_10 rfl (lv_at hl 3 rfl) ?_
  refine lv_iload_n hx hb dX11_offIn_11 rfl (lv_at hl 0 rfl) ?_
  refine qc_Si (As := [.int 0, .int 9]) (rest := []) (k0 := 2) (m1_has0 l D ca o z y 9) kc_yX11_has ⟨hx, hb, hml, hown, hts⟩ wq_1198 rfl rfl ⟨Nat.le_of_ble_eq_true rfl, Nat.le_of_ble_eq_true rfl⟩ wq_all hP hK hS qw_Ai rfl hl.1 rfl (Nat.le_of_ble_eq_true rfl) dX11_offIn_12 ⟨Nat.zero_le _, Nat.zero_le _⟩ (fun r10 u10 H locs h10 hP hS _ _ => ?_)
  subst h10
  refine lv_if_ne (tgt := 21) hx hb dX11_offIn_15 (by decide) (fun q => absurd q (by decide)) (fun _ => ?_)
  refine lv_goto (tgt := 70) hx hb dX11_offIn_18 (by decide) ?_
  refine lv_iinc (v := 10) (lv' := [(3, .int 10), (2, .int 0), (0, .ref (o + 0)), (1, .int 0)]) hx hb dX11_offIn_70 hl (k := 0) rfl (by decide) (by decide) rfl (fun ls hl => ?_)
  refine lv_goto (tgt := 4) hx hb dX11_offIn_73 (by decide) ?_
  refine lv_iload_n hx hb dX11_offIn_4 rfl (lv_at hl 0 rfl) ?_
  refine lv_bipush (v := 10) hx hb dX11_offIn_5 (by decide) ?_
  refine lv_icmp_ge (tgt := 76) hx hb dX11_offIn_7 (by decide) (fun _ => ?_) (fun q => absurd (by decide) q)
  refine lv_iload_n hx hb dX11_offIn_76 rfl (lv_at hl 1 rfl) ?_
  exact W.iret (v := 0) hx hb hr (fun t ht hW => ⟨⟨0, (), rfl, rfl, by rw [ht]; exact hP, va_K.moved hW.alike hK⟩, hS.F ht⟩) hS.2.2 dX11_offIn_77

set_option maxRecDepth 100000 in
set_option maxHeartbeats 4000000 in
theorem m1_lists (l : Launch) (D : va_G) (ca : Nat → ClassId) (o : Nat) (z : Nat → Nat → Int32) (y : Nat → Nat → Int64)  (h0_4 : z 0 4 = 0) : qM l yX11_lists cX11_lists 4 (some .boolean) 4 125 (qPre D vwCl (qT6 ca) o 41 (qG (GM ca o) z y) [.ref (o + 0), .int 0]) (va_Qi (fun r u => r = 1 ∧ (∀ k : Nat, (k ≠ 0) → (k ≠ 23) → (k ≠ 26) → u.1 k = z k) ∧ u.2 = y ∧ u.1 0 41 = 1 ∧ u.1 0 4 = 0) (qB D vwCl (qT6 ca) o 41 (fun u : qZ => qG (GM ca o) u.1 u.2)) (qw_A o 41)) (qw_A o 41) := by
  refine Met.ofW (cc := cX11_lists) (maxL := 4) (ret := (some .boolean)) (by decide) rfl ?_
  intro p e s m args below meth c s₁ B hml hv
  obtain ⟨rfl, hP, hK⟩ := hv
  have hx := B.exec
  have hb := B.bytes
  have hr := B.returns
  have hts0 := atoms_spec (ws := Cond.code yX11_lists cX11_lists 4 (some .boolean) :: qtbl) B.pre
  have hts : ∀ w ∈ qtbl, w.before _ s = true := fun w h => hts0 w (List.mem_cons_of_mem _ h)
  have hown : s.vm.findClass RX11 = some m.cls := findClass_of_methodNamed B.named
  have hlocks := B.notSynchronized
  have hz0 : (0 : Int32).toInt = 0 := rfl
  have hS : va_S (qw_A o 41) s.heap s.heap [] := va_S.rf
  have hl := lv_entry ([.ref (o + 0), .int 0]) (n := 4) (Nat.le_of_ble_eq_true rfl)
  rw [lg_entry_eq]
  generalize (lg_sl ([.ref (o + 0), .int 0]) ++ List.replicate (4 - (lg_sl ([.ref (o + 0), .int 0])).length) Slot.unset).toArray = ls at hl ⊢
  have hl : lv_has ls 4 [(0, .ref (o + 0)), (1, .int 0)] := hl
  refine lv_aload_n hx hb dX11_lists_0 rfl (lv_at hl 0 rfl) ?_
  refine lv_iconst (v := 0) hx hb dX11_lists_1 (by decide) ?_
  refine qf_put hx hb hts inX11 tyX11 tyX11_ok nmX11 hown hK hP hS qw_Ai (q0 := 0) (by decide) (hgM_0 ca o) rfl 41 (by decide) wq_1033 rfl (x := 0) 41 rfl rfl rfl (Nat.le_of_ble_eq_true rfl) dX11_lists_2 (fun H locs hP hS => ?_)
  obtain ⟨z1, hz1⟩ : ∃ t : Nat → Nat → Int32, t = (qu z 0 41 0) := ⟨_, rfl⟩
  rw [← hz1] at hP
  have g1 : ∀ k : Nat, (k ≠ 0) → (k ≠ 23) → (k ≠ 26) → z1 k = z k := by rw [hz1]; exact (fun (k : Nat) (h0 : k ≠ 0) (h1 : k ≠ 23) (h2 : k ≠ 26) => by simp only [qu_ne h0])
  have f1_0_4 : z1 0 4 = 0 := by rw [hz1]; exact h0_4
  have f1_0_41 : z1 0 41 = 0 := by rw [hz1]; exact rfl
  refine lv_aload_n hx hb dX11_lists_5 rfl (lv_at hl 0 rfl) ?_
  refine qc_Vi (As := []) (rest := []) (k0 := 0) (m1_rowMany l D ca o z1 y (f1_0_4)) kc_yX11_rowMany ⟨hx, hb, hml, hown, hts⟩ wq_1315 rfl rfl ⟨Nat.le_of_ble_eq_true rfl, Nat.le_of_ble_eq_true rfl⟩ wq_all hP hK hS qw_Ai (q0 := 0) (by decide) (hgM_0 ca o _ _) rfl rfl hl.1 rfl (Nat.le_of_ble_eq_true rfl) dX11_lists_6 ⟨Nat.zero_le _, Nat.zero_le _⟩ (fun r2 u2 H locs h2 hP hS _ _ => ?_)
  subst h2
  refine lv_ldcw (v := 200000) hx hb hown (hts _ wq_1319) dX11_lists_9 ?_
  refine lv_icmp_le (tgt := 17) hx hb dX11_lists_12 (by decide) (fun _ => ?_) (fun q => absurd (by decide) q)
  refine lv_aload_n hx hb dX11_lists_17 rfl (lv_at hl 0 rfl) ?_
  refine qc_Vv (As := []) (rest := []) (k0 := 0) (m1_firstRow l D ca o z1 y ) kc_yX11_firstRow ⟨hx, hb, hml, hown, hts⟩ wq_1336 rfl rfl ⟨Nat.le_of_ble_eq_true rfl, Nat.le_of_ble_eq_true rfl⟩ wq_all hP hK hS qw_Ai (q0 := 0) (by decide) (hgM_0 ca o _ _) rfl rfl hl.1 rfl (Nat.le_of_ble_eq_true rfl) dX11_lists_18 ⟨Nat.zero_le _, Nat.zero_le _⟩ (fun u3 H locs h3 hP hS _ _ => ?_)
  obtain ⟨z3, y3⟩ := u3
  obtain ⟨h3f, h3y⟩ := h3
  dsimp only at h3f h3y hP
  rw [h3y] at hP
  have g3 : ∀ k : Nat, (k ≠ 0) → (k ≠ 23) → (k ≠ 26) → z3 k = z k := fun k h0 h1 h2 => (h3f k h1).trans ((show ∀ k : Nat, (k ≠ 0) → (k ≠ 23) → (k ≠ 26) → z1 k = z k from (fun (k : Nat) (h0 : k ≠ 0) (h1 : k ≠ 23) (h2 : k ≠ 26) => g1 k h0 h1 h2)) k h0 h1 h2)
  have f3_0_4 : z3 0 4 = 0 := (congrFun (h3f 0 (by decide)) 4).trans (f1_0_4)
  have f3_0_41 : z3 0 41 = 0 := (congrFun (h3f 0 (by decide)) 41).trans (f1_0_41)
  refine lv_iconst (v := 1) hx hb dX11_lists_21 (by decide) ?_
  refine lv_istore_n (lv' := [(2, .int 1), (0, .ref (o + 0)), (1, .int 0)]) hx hb dX11_lists_22 rfl hl (by decide) rfl (fun ls hl => ?_)
  refine lv_iload_n hx hb dX11_lists_23 rfl (lv_at hl 0 rfl) ?_
  refine lv_if_eq (tgt := 100) hx hb dX11_lists_24 (by decide) (fun q => absurd q (by decide)) (fun _ => ?_)
  refine lv_aload_n hx hb dX11_lists_27 rfl (lv_at hl 1 rfl) ?_
  refine lv_iload_n hx hb dX11_lists_28 rfl (lv_at hl 2 rfl) ?_
  refine qc_Vi (As := [.int 0]) (rest := []) (k0 := 1) (m1_fitsAll l D ca o z3 y) kc_yX11_fitsAll ⟨hx, hb, hml, hown, hts⟩ wq_1340 rfl rfl ⟨Nat.le_of_ble_eq_true rfl, Nat.le_of_ble_eq_true rfl⟩ wq_all hP hK hS qw_Ai (q0 := 0) (by decide) (hgM_0 ca o _ _) rfl rfl hl.1 rfl (Nat.le_of_ble_eq_true rfl) dX11_lists_29 ⟨Nat.zero_le _, Nat.zero_le _⟩ (fun r4 u4 H locs h4 hP hS _ _ => ?_)
  subst h4
  refine lv_if_eq (tgt := 92) hx hb dX11_lists_32 (by decide) (fun q => absurd q (by decide)) (fun _ => ?_)
  refine lv_aload_n hx hb dX11_lists_35 rfl (lv_at hl 1 rfl) ?_
  refine qf_get hx hb hts inX11 hown hK hP (q0 := 0) (by decide) (hgM_0 ca o) rfl 41 (by decide) wq_1033 (v := .int (z3 0 41)) rfl dX11_lists_36 ?_
  refine qtop (x' := 0) f3_0_41 ?_
  refine lv_sipush (v := 2000) hx hb dX11_lists_39 (by decide) ?_
  refine lv_icmp_ne (tgt := 47) hx hb dX11_lists_42 (by decide) (fun _ => ?_) (fun q => absurd q (by decide))
  refine lv_iconst (v := 0) hx hb dX11_lists_47 (by decide) ?_
  refine lv_istore_n (lv' := [(3, .int 0), (2, .int 1), (0, .ref (o + 0)), (1, .int 0)]) hx hb dX11_lists_48 rfl hl (by decide) rfl (fun ls hl => ?_)
  refine lv_iload_n hx hb dX11_lists_49 rfl (lv_at hl 0 rfl) ?_
  refine lv_bipush (v := 6) hx hb dX11_lists_50 (by decide) ?_
  refine lv_icmp_ge (tgt := 82) hx hb dX11_lists_52 (by decide) (fun q => absurd q (by decide)) (fun _ => ?_)
  refine lv_aload_n hx hb dX11_lists_55 rfl (lv_at hl 2 rfl) ?_
  refine qf_get hx hb hts inX11 hown hK hP (q0 := 0) (by decide) (hgM_0 ca o) rfl 39 (by decide) wq_1031 (v := .ref (o + 26)) rfl dX11_lists_56 ?_
  refine lv_bipush (v := 6) hx hb dX11_lists_59 (by decide) ?_
  refine lv_aload_n hx hb dX11_lists_61 rfl (lv_at hl 2 rfl) ?_
  refine qf_get hx hb hts inX11 hown hK hP (q0 := 0) (by decide) (hgM_0 ca o) rfl 41 (by decide) wq_1033 (v := .int (z3 0 41)) rfl dX11_lists_62 ?_
  refine qtop (x' := 0) f3_0_41 ?_
  refine lv_imul hx hb dX11_lists_65 ?_
  refine qtop (x' := 0) (by decide) ?_
  refine lv_iload_n hx hb dX11_lists_66 rfl (lv_at hl 0 rfl) ?_
  refine lv_iadd hx hb dX11_lists_67 ?_
  refine qtop (x' := 0) (by decide) ?_
  refine lv_aload_n hx hb dX11_lists_68 rfl (lv_at hl 2 rfl) ?_
  refine qf_get hx hb hts inX11 hown hK hP (q0 := 0) (by decide) (hgM_0 ca o) rfl 36 (by decide) wq_1028 (v := .ref (o + 23)) rfl dX11_lists_69 ?_
  refine lv_iload_n hx hb dX11_lists_72 rfl (lv_at hl 0 rfl) ?_
  refine qa_iald hx hb hK hP (q0 := 23) (by decide) 0 (N := 6) (hgM_23 ca o) rfl (gi_in (by decide) (by decide)) dX11_lists_73 ?_
  refine lv_topi (fun x5 e5 => ?_)
  refine lv_i2b hx hb dX11_lists_74 rfl ?_
  refine lv_topi (fun x6 e6 => ?_)
  refine qa_bast hx hb hK hP hS qw_Ai (q0 := 26) (by decide) 3 (N := 12000) (hgM_26 ca o) rfl (gi_in (by decide) (by decide)) dX11_lists_75 (fun H locs hP hS => ?_)
  obtain ⟨z7, hz7⟩ : ∃ t : Nat → Nat → Int32, t = (qu z3 26 ((0 : Int32).toNatClampNeg) (vp_nar .byte x6)) := ⟨_, rfl⟩
  rw [← hz7] at hP
  have g7 : ∀ k : Nat, (k ≠ 0) → (k ≠ 23) → (k ≠ 26) → z7 k = z k := by rw [hz7]; exact (fun (k : Nat) (h0 : k ≠ 0) (h1 : k ≠ 23) (h2 : k ≠ 26) => by simp only [qu_ne h2]; exact g3 k h0 h1 h2)
  have f7_0_4 : z7 0 4 = 0 := by rw [hz7]; exact f3_0_4
  have f7_0_41 : z7 0 41 = 0 := by rw [hz7]; exact f3_0_41
  refine lv_iinc (v := 1) (lv' := [(3, .int 1), (2, .int 1), (0, .ref (o + 0)), (1, .int 0)]) hx hb dX11_lists_76 hl (k := 0) rfl (by decide) (by decide) rfl (fun ls hl => ?_)
  refine lv_goto (tgt := 49) hx hb dX11_lists_79 (by decide) ?_
  refine lv_iload_n hx hb dX11_lists_49 rfl (lv_at hl 0 rfl) ?_
  refine lv_bipush (v := 6) hx hb dX11_lists_50 (by decide) ?_
  refine lv_icmp_ge (tgt := 82) hx hb dX11_lists_52 (by decide) (fun q => absurd q (by decide)) (fun _ => ?_)
  refine lv_aload_n hx hb dX11_lists_55 rfl (lv_at hl 2 rfl) ?_
  refine qf_get hx hb hts inX11 hown hK hP (q0 := 0) (by decide) (hgM_0 ca o) rfl 39 (by decide) wq_1031 (v := .ref (o + 26)) rfl dX11_lists_56 ?_
  refine lv_bipush (v := 6) hx hb dX11_lists_59 (by decide) ?_
  refine lv_aload_n hx hb dX11_lists_61 rfl (lv_at hl 2 rfl) ?_
  refine qf_get hx hb hts inX11 hown hK hP (q0 := 0) (by decide) (hgM_0 ca o) rfl 41 (by decide) wq_1033 (v := .int (z7 0 41)) rfl dX11_lists_62 ?_
  refine qtop (x' := 0) f7_0_41 ?_
  refine lv_imul hx hb dX11_lists_65 ?_
  refine qtop (x' := 0) (by decide) ?_
  refine lv_iload_n hx hb dX11_lists_66 rfl (lv_at hl 0 rfl) ?_
  refine lv_iadd hx hb dX11_lists_67 ?_
  refine qtop (x' := 1) (by decide) ?_
  refine lv_aload_n hx hb dX11_lists_68 rfl (lv_at hl 2 rfl) ?_
  refine qf_get hx hb hts inX11 hown hK hP (q0 := 0) (by decide) (hgM_0 ca o) rfl 36 (by decide) wq_1028 (v := .ref (o + 23)) rfl dX11_lists_69 ?_
  refine lv_iload_n hx hb dX11_lists_72 rfl (lv_at hl 0 rfl) ?_
  refine qa_iald hx hb hK hP (q0 := 23) (by decide) 0 (N := 6) (hgM_23 ca o) rfl (gi_in (by decide) (by decide)) dX11_lists_73 ?_
  refine lv_topi (fun x8 e8 => ?_)
  refine lv_i2b hx hb dX11_lists_74 rfl ?_
  refine lv_topi (fun x9 e9 => ?_)
  refine qa_bast hx hb hK hP hS qw_Ai (q0 := 26) (by decide) 3 (N := 12000) (hgM_26 ca o) rfl (gi_in (by decide) (by decide)) dX11_lists_75 (fun H locs hP hS => ?_)
  obtain ⟨z10, hz10⟩ : ∃ t : Nat → Nat → Int32, t = (qu z7 26 ((1 : Int32).toNatClampNeg) (vp_nar .byte x9)) := ⟨_, rfl⟩
  rw [← hz10] at hP
  have g10 : ∀ k : Nat, (k ≠ 0) → (k ≠ 23) → (k ≠ 26) → z10 k = z k := by rw [hz10]; exact (fun (k : Nat) (h0 : k ≠ 0) (h1 : k ≠ 23) (h2 : k ≠ 26) => by simp only [qu_ne h2]; exact g7 k h0 h1 h2)
  have f10_0_4 : z10 0 4 = 0 := by rw [hz10]; exact f7_0_4
  have f10_0_41 : z10 0 41 = 0 := by rw [hz10]; exact f7_0_41
  refine lv_iinc (v := 2) (lv' := [(3, .int 2), (2, .int 1), (0, .ref (o + 0)), (1, .int 0)]) hx hb dX11_lists_76 hl (k := 0) rfl (by decide) (by decide) rfl (fun ls hl => ?_)
  refine lv_goto (tgt := 49) hx hb dX11_lists_79 (by decide) ?_
  refine lv_iload_n hx hb dX11_lists_49 rfl (lv_at hl 0 rfl) ?_
  refine lv_bipush (v := 6) hx hb dX11_lists_50 (by decide) ?_
  refine lv_icmp_ge (tgt := 82) hx hb dX11_lists_52 (by decide) (fun q => absurd q (by decide)) (fun _ => ?_)
  refine lv_aload_n hx hb dX11_lists_55 rfl (lv_at hl 2 rfl) ?_
  refine qf_get hx hb hts inX11 hown hK hP (q0 := 0) (by decide) (hgM_0 ca o) rfl 39 (by decide) wq_1031 (v := .ref (o + 26)) rfl dX11_lists_56 ?_
  refine lv_bipush (v := 6) hx hb dX11_lists_59 (by decide) ?_
  refine lv_aload_n hx hb dX11_lists_61 rfl (lv_at hl 2 rfl) ?_
  refine qf_get hx hb hts inX11 hown hK hP (q0 := 0) (by decide) (hgM_0 ca o) rfl 41 (by decide) wq_1033 (v := .int (z10 0 41)) rfl dX11_lists_62 ?_
  refine qtop (x' := 0) f10_0_41 ?_
  refine lv_imul hx hb dX11_lists_65 ?_
  refine qtop (x' := 0) (by decide) ?_
  refine lv_iload_n hx hb dX11_lists_66 rfl (lv_at hl 0 rfl) ?_
  refine lv_iadd hx hb dX11_lists_67 ?_
  refine qtop (x' := 2) (by decide) ?_
  refine lv_aload_n hx hb dX11_lists_68 rfl (lv_at hl 2 rfl) ?_
  refine qf_get hx hb hts inX11 hown hK hP (q0 := 0) (by decide) (hgM_0 ca o) rfl 36 (by decide) wq_1028 (v := .ref (o + 23)) rfl dX11_lists_69 ?_
  refine lv_iload_n hx hb dX11_lists_72 rfl (lv_at hl 0 rfl) ?_
  refine qa_iald hx hb hK hP (q0 := 23) (by decide) 0 (N := 6) (hgM_23 ca o) rfl (gi_in (by decide) (by decide)) dX11_lists_73 ?_
  refine lv_topi (fun x11 e11 => ?_)
  refine lv_i2b hx hb dX11_lists_74 rfl ?_
  refine lv_topi (fun x12 e12 => ?_)
  refine qa_bast hx hb hK hP hS qw_Ai (q0 := 26) (by decide) 3 (N := 12000) (hgM_26 ca o) rfl (gi_in (by decide) (by decide)) dX11_lists_75 (fun H locs hP hS => ?_)
  obtain ⟨z13, hz13⟩ : ∃ t : Nat → Nat → Int32, t = (qu z10 26 ((2 : Int32).toNatClampNeg) (vp_nar .byte x12)) := ⟨_, rfl⟩
  rw [← hz13] at hP
  have g13 : ∀ k : Nat, (k ≠ 0) → (k ≠ 23) → (k ≠ 26) → z13 k = z k := by rw [hz13]; exact (fun (k : Nat) (h0 : k ≠ 0) (h1 : k ≠ 23) (h2 : k ≠ 26) => by simp only [qu_ne h2]; exact g10 k h0 h1 h2)
  have f13_0_4 : z13 0 4 = 0 := by rw [hz13]; exact f10_0_4
  have f13_0_41 : z13 0 41 = 0 := by rw [hz13]; exact f10_0_41
  refine lv_iinc (v := 3) (lv' := [(3, .int 3), (2, .int 1), (0, .ref (o + 0)), (1, .int 0)]) hx hb dX11_lists_76 hl (k := 0) rfl (by decide) (by decide) rfl (fun ls hl => ?_)
  refine lv_goto (tgt := 49) hx hb dX11_lists_79 (by decide) ?_
  refine lv_iload_n hx hb dX11_lists_49 rfl (lv_at hl 0 rfl) ?_
  refine lv_bipush (v := 6) hx hb dX11_lists_50 (by decide) ?_
  refine lv_icmp_ge (tgt := 82) hx hb dX11_lists_52 (by decide) (fun q => absurd q (by decide)) (fun _ => ?_)
  refine lv_aload_n hx hb dX11_lists_55 rfl (lv_at hl 2 rfl) ?_
  refine qf_get hx hb hts inX11 hown hK hP (q0 := 0) (by decide) (hgM_0 ca o) rfl 39 (by decide) wq_1031 (v := .ref (o + 26)) rfl dX11_lists_56 ?_
  refine lv_bipush (v := 6) hx hb dX11_lists_59 (by decide) ?_
  refine lv_aload_n hx hb dX11_lists_61 rfl (lv_at hl 2 rfl) ?_
  refine qf_get hx hb hts inX11 hown hK hP (q0 := 0) (by decide) (hgM_0 ca o) rfl 41 (by decide) wq_1033 (v := .int (z13 0 41)) rfl dX11_lists_62 ?_
  refine qtop (x' := 0) f13_0_41 ?_
  refine lv_imul hx hb dX11_lists_65 ?_
  refine qtop (x' := 0) (by decide) ?_
  refine lv_iload_n hx hb dX11_lists_66 rfl (lv_at hl 0 rfl) ?_
  refine lv_iadd hx hb dX11_lists_67 ?_
  refine qtop (x' := 3) (by decide) ?_
  refine lv_aload_n hx hb dX11_lists_68 rfl (lv_at hl 2 rfl) ?_
  refine qf_get hx hb hts inX11 hown hK hP (q0 := 0) (by decide) (hgM_0 ca o) rfl 36 (by decide) wq_1028 (v := .ref (o + 23)) rfl dX11_lists_69 ?_
  refine lv_iload_n hx hb dX11_lists_72 rfl (lv_at hl 0 rfl) ?_
  refine qa_iald hx hb hK hP (q0 := 23) (by decide) 0 (N := 6) (hgM_23 ca o) rfl (gi_in (by decide) (by decide)) dX11_lists_73 ?_
  refine lv_topi (fun x14 e14 => ?_)
  refine lv_i2b hx hb dX11_lists_74 rfl ?_
  refine lv_topi (fun x15 e15 => ?_)
  refine qa_bast hx hb hK hP hS qw_Ai (q0 := 26) (by decide) 3 (N := 12000) (hgM_26 ca o) rfl (gi_in (by decide) (by decide)) dX11_lists_75 (fun H locs hP hS => ?_)
  obtain ⟨z16, hz16⟩ : ∃ t : Nat → Nat → Int32, t = (qu z13 26 ((3 : Int32).toNatClampNeg) (vp_nar .byte x15)) := ⟨_, rfl⟩
  rw [← hz16] at hP
  have g16 : ∀ k : Nat, (k ≠ 0) → (k ≠ 23) → (k ≠ 26) → z16 k = z k := by rw [hz16]; exact (fun (k : Nat) (h0 : k ≠ 0) (h1 : k ≠ 23) (h2 : k ≠ 26) => by simp only [qu_ne h2]; exact g13 k h0 h1 h2)
  have f16_0_4 : z16 0 4 = 0 := by rw [hz16]; exact f13_0_4
  have f16_0_41 : z16 0 41 = 0 := by rw [hz16]; exact f13_0_41
  refine lv_iinc (v := 4) (lv' := [(3, .int 4), (2, .int 1), (0, .ref (o + 0)), (1, .int 0)]) hx hb dX11_lists_76 hl (k := 0) rfl (by decide) (by decide) rfl (fun ls hl => ?_)
  refine lv_goto (tgt := 49) hx hb dX11_lists_79 (by decide) ?_
  refine lv_iload_n hx hb dX11_lists_49 rfl (lv_at hl 0 rfl) ?_
  refine lv_bipush (v := 6) hx hb dX11_lists_50 (by decide) ?_
  refine lv_icmp_ge (tgt := 82) hx hb dX11_lists_52 (by decide) (fun q => absurd q (by decide)) (fun _ => ?_)
  refine lv_aload_n hx hb dX11_lists_55 rfl (lv_at hl 2 rfl) ?_
  refine qf_get hx hb hts inX11 hown hK hP (q0 := 0) (by decide) (hgM_0 ca o) rfl 39 (by decide) wq_1031 (v := .ref (o + 26)) rfl dX11_lists_56 ?_
  refine lv_bipush (v := 6) hx hb dX11_lists_59 (by decide) ?_
  refine lv_aload_n hx hb dX11_lists_61 rfl (lv_at hl 2 rfl) ?_
  refine qf_get hx hb hts inX11 hown hK hP (q0 := 0) (by decide) (hgM_0 ca o) rfl 41 (by decide) wq_1033 (v := .int (z16 0 41)) rfl dX11_lists_62 ?_
  refine qtop (x' := 0) f16_0_41 ?_
  refine lv_imul hx hb dX11_lists_65 ?_
  refine qtop (x' := 0) (by decide) ?_
  refine lv_iload_n hx hb dX11_lists_66 rfl (lv_at hl 0 rfl) ?_
  refine lv_iadd hx hb dX11_lists_67 ?_
  refine qtop (x' := 4) (by decide) ?_
  refine lv_aload_n hx hb dX11_lists_68 rfl (lv_at hl 2 rfl) ?_
  refine qf_get hx hb hts inX11 hown hK hP (q0 := 0) (by decide) (hgM_0 ca o) rfl 36 (by decide) wq_1028 (v := .ref (o + 23)) rfl dX11_lists_69 ?_
  refine lv_iload_n hx hb dX11_lists_72 rfl (lv_at hl 0 rfl) ?_
  refine qa_iald hx hb hK hP (q0 := 23) (by decide) 0 (N := 6) (hgM_23 ca o) rfl (gi_in (by decide) (by decide)) dX11_lists_73 ?_
  refine lv_topi (fun x17 e17 => ?_)
  refine lv_i2b hx hb dX11_lists_74 rfl ?_
  refine lv_topi (fun x18 e18 => ?_)
  refine qa_bast hx hb hK hP hS qw_Ai (q0 := 26) (by decide) 3 (N := 12000) (hgM_26 ca o) rfl (gi_in (by decide) (by decide)) dX11_lists_75 (fun H locs hP hS => ?_)
  obtain ⟨z19, hz19⟩ : ∃ t : Nat → Nat → Int32, t = (qu z16 26 ((4 : Int32).toNatClampNeg) (vp_nar .byte x18)) := ⟨_, rfl⟩
  rw [← hz19] at hP
  have g19 : ∀ k : Nat, (k ≠ 0) → (k ≠ 23) → (k ≠ 26) → z19 k = z k := by rw [hz19]; exact (fun (k : Nat) (h0 : k ≠ 0) (h1 : k ≠ 23) (h2 : k ≠ 26) => by simp only [qu_ne h2]; exact g16 k h0 h1 h2)
  have f19_0_4 : z19 0 4 = 0 := by rw [hz19]; exact f16_0_4
  have f19_0_41 : z19 0 41 = 0 := by rw [hz19]; exact f16_0_41
  refine lv_iinc (v := 5) (lv' := [(3, .int 5), (2, .int 1), (0, .ref (o + 0)), (1, .int 0)]) hx hb dX11_lists_76 hl (k := 0) rfl (by decide) (by decide) rfl (fun ls hl => ?_)
  refine lv_goto (tgt := 49) hx hb dX11_lists_79 (by decide) ?_
  refine lv_iload_n hx hb dX11_lists_49 rfl (lv_at hl 0 rfl) ?_
  refine lv_bipush (v := 6) hx hb dX11_lists_50 (by decide) ?_
  refine lv_icmp_ge (tgt := 82) hx hb dX11_lists_52 (by decide) (fun q => absurd q (by decide)) (fun _ => ?_)
  refine lv_aload_n hx hb dX11_lists_55 rfl (lv_at hl 2 rfl) ?_
  refine qf_get hx hb hts inX11 hown hK hP (q0 := 0) (by decide) (hgM_0 ca o) rfl 39 (by decide) wq_1031 (v := .ref (o + 26)) rfl dX11_lists_56 ?_
  refine lv_bipush (v := 6) hx hb dX11_lists_59 (by decide) ?_
  refine lv_aload_n hx hb dX11_lists_61 rfl (lv_at hl 2 rfl) ?_
  refine qf_get hx hb hts inX11 hown hK hP (q0 := 0) (by decide) (hgM_0 ca o) rfl 41 (by decide) wq_1033 (v := .int (z19 0 41)) rfl dX11_lists_62 ?_
  refine qtop (x' := 0) f19_0_41 ?_
  refine lv_imul hx hb dX11_lists_65 ?_
  refine qtop (x' := 0) (by decide) ?_
  refine lv_iload_n hx hb dX11_lists_66 rfl (lv_at hl 0 rfl) ?_
  refine lv_iadd hx hb dX11_lists_67 ?_
  refine qtop (x' := 5) (by decide) ?_
  refine lv_aload_n hx hb dX11_lists_68 rfl (lv_at hl 2 rfl) ?_
  refine qf_get hx hb hts inX11 hown hK hP (q0 := 0) (by decide) (hgM_0 ca o) rfl 36 (by decide) wq_1028 (v := .ref (o + 23)) rfl dX11_lists_69 ?_
  refine lv_iload_n hx hb dX11_lists_72 rfl (lv_at hl 0 rfl) ?_
  refine qa_iald hx hb hK hP (q0 := 23) (by decide) 0 (N := 6) (hgM_23 ca o) rfl (gi_in (by decide) (by decide)) dX11_lists_73 ?_
  refine lv_topi (fun x20 e20 => ?_)
  refine lv_i2b hx hb dX11_lists_74 rfl ?_
  refine lv_topi (fun x21 e21 => ?_)
  refine qa_bast hx hb hK hP hS qw_Ai (q0 := 26) (by decide) 3 (N := 12000) (hgM_26 ca o) rfl (gi_in (by decide) (by decide)) dX11_lists_75 (fun H locs hP hS => ?_)
  obtain ⟨z22, hz22⟩ : ∃ t : Nat → Nat → Int32, t = (qu z19 26 ((5 : Int32).toNatClampNeg) (vp_nar .byte x21)) := ⟨_, rfl⟩
  rw [← hz22] at hP
  have g22 : ∀ k : Nat, (k ≠ 0) → (k ≠ 23) → (k ≠ 26) → z22 k = z k := by rw [hz22]; exact (fun (k : Nat) (h0 : k ≠ 0) (h1 : k ≠ 23) (h2 : k ≠ 26) => by simp only [qu_ne h2]; exact g19 k h0 h1 h2)
  have f22_0_4 : z22 0 4 = 0 := by rw [hz22]; exact f19_0_4
  have f22_0_41 : z22 0 41 = 0 := by rw [hz22]; exact f19_0_41
  refine lv_iinc (v := 6) (lv' := [(3, .int 6), (2, .int 1), (0, .ref (o + 0)), (1, .int 0)]) hx hb dX11_lists_76 hl (k := 0) rfl (by decide) (by decide) rfl (fun ls hl => ?_)
  refine lv_goto (tgt := 49) hx hb dX11_lists_79 (by decide) ?_
  refine lv_iload_n hx hb dX11_lists_49 rfl (lv_at hl 0 rfl) ?_
  refine lv_bipush (v := 6) hx hb dX11_lists_50 (by decide) ?_
  refine lv_icmp_ge (tgt := 82) hx hb dX11_lists_52 (by decide) (fun _ => ?_) (fun q => absurd (by decide) q)
  refine lv_aload_n hx hb dX11_lists_82 rfl (lv_at hl 2 rfl) ?_
  refine lv_aload_n hx hb dX11_lists_83 rfl (lv_at hl 2 rfl) ?_
  refine qf_get hx hb hts inX11 hown hK hP (q0 := 0) (by decide) (hgM_0 ca o) rfl 41 (by decide) wq_1033 (v := .int (z22 0 41)) rfl dX11_lists_84 ?_
  refine qtop (x' := 0) f22_0_41 ?_
  refine lv_iconst (v := 1) hx hb dX11_lists_87 (by decide) ?_
  refine lv_iadd hx hb dX11_lists_88 ?_
  refine qtop (x' := 1) (by decide) ?_
  refine qf_put hx hb hts inX11 tyX11 tyX11_ok nmX11 hown hK hP hS qw_Ai (q0 := 0) (by decide) (hgM_0 ca o) rfl 41 (by decide) wq_1033 rfl (x := 1) 41 rfl rfl rfl (Nat.le_of_ble_eq_true rfl) dX11_lists_89 (fun H locs hP hS => ?_)
  obtain ⟨z23, hz23⟩ : ∃ t : Nat → Nat → Int32, t = (qu z22 0 41 1) := ⟨_, rfl⟩
  rw [← hz23] at hP
  have g23 : ∀ k : Nat, (k ≠ 0) → (k ≠ 23) → (k ≠ 26) → z23 k = z k := by rw [hz23]; exact (fun (k : Nat) (h0 : k ≠ 0) (h1 : k ≠ 23) (h2 : k ≠ 26) => by simp only [qu_ne h0]; exact g22 k h0 h1 h2)
  have f23_0_4 : z23 0 4 = 0 := by rw [hz23]; exact f22_0_4
  have f23_0_41 : z23 0 41 = 1 := by rw [hz23]; exact rfl
  refine lv_aload_n hx hb dX11_lists_92 rfl (lv_at hl 2 rfl) ?_
  refine qc_Vi (As := []) (rest := []) (k0 := 0) (m1_nextRow l D ca o z23 y (f23_0_4)) kc_yX11_nextRow ⟨hx, hb, hml, hown, hts⟩ wq_1352 rfl rfl ⟨Nat.le_of_ble_eq_true rfl, Nat.le_of_ble_eq_true rfl⟩ wq_all hP hK hS qw_Ai (q0 := 0) (by decide) (hgM_0 ca o _ _) rfl rfl hl.1 rfl (Nat.le_of_ble_eq_true rfl) dX11_lists_93 ⟨Nat.zero_le _, Nat.zero_le _⟩ (fun r24 u24 H locs h24 hP hS _ _ => ?_)
  subst h24
  refine lv_istore_n (lv' := [(2, .int 0), (3, .int 6), (0, .ref (o + 0)), (1, .int 0)]) hx hb dX11_lists_96 rfl hl (by decide) rfl (fun ls hl => ?_)
  refine lv_goto (tgt := 23) hx hb dX11_lists_97 (by decide) ?_
  refine lv_iload_n hx hb dX11_lists_23 rfl (lv_at hl 0 rfl) ?_
  refine lv_if_eq (tgt := 100) hx hb dX11_lists_24 (by decide) (fun _ => ?_) (fun q => absurd (by decide) q)
  refine lv_iconst (v := 1) hx hb dX11_lists_100 (by decide) ?_
  exact W.zret (v := 1) (ty := .boolean) hx hb hr rfl (fun t ht hW => ⟨⟨1, (z23, y), rfl, ⟨rfl, (fun (k : Nat) (h0 : k ≠ 0) (h1 : k ≠ 23) (h2 : k ≠ 26) => g23 k h0 h1 h2), rfl, (f23_0_41), (f23_0_4)⟩, by rw [ht]; exact hP, va_K.moved hW.alike hK⟩, hS.F ht⟩) hS.2.2 dX11_lists_101

set_option maxRecDepth 100000 in
set_option maxHeartbeats 4000000 in
theorem m1_types0 (l : Launch) (D : va_G) (ca : Nat → ClassId) (o : Nat) (z : Nat → Nat → Int32) (y : Nat → Nat → Int64) (a1 : Int32) (h0_15 : z 0 15 = 0) : qM l yX11_types cX11_types 3 none 1 60 (qPre D vwCl (qT6 ca) o 41 (qG (GM ca o) z y) [.ref (o + 0), .int a1]) (va_Qv (fun u => (∀ k : Nat, (k ≠ 0) → (k ≠ 12) → u.1 k = z k) ∧ u.2 = y ∧ u.1 0 15 = 4) (qB D vwCl (qT6 ca) o 41 (fun u : qZ => qG (GM ca o) u.1 u.2)) (qw_A o 41)) (qw_A o 41) := by
  refine Met.ofW (cc := cX11_types) (maxL := 3) (ret := none) (by decide) rfl ?_
  intro p e s m args below meth c s₁ B hml hv
  obtain ⟨rfl, hP, hK⟩ := hv
  have hx := B.exec
  have hb := B.bytes
  have hr := B.returns
  have hts0 := atoms_spec (ws := Cond.code yX11_types cX11_types 3 none :: qtbl) B.pre
  have hts : ∀ w ∈ qtbl, w.before _ s = true := fun w h => hts0 w (List.mem_cons_of_mem _ h)
  have hown : s.vm.findClass RX11 = some m.cls := findClass_of_methodNamed B.named
  have hlocks := B.notSynchronized
  have hz0 : (0 : Int32).toInt = 0 := rfl
  have hS : va_S (qw_A o 41) s.heap s.heap [] := va_S.rf
  have hl := lv_entry ([.ref (o + 0), .int a1]) (n := 3) (Nat.le_of_ble_eq_true rfl)
  rw [lg_entry_eq]
  generalize (lg_sl ([.ref (o + 0), .int a1]) ++ List.replicate (3 - (lg_sl ([.ref (o + 0), .int a1])).length) Slot.unset).toArray = ls at hl ⊢
  have hl : lv_has ls 3 [(0, .ref (o + 0)), (1, .int a1)] := hl
  refine lv_iconst (v := 3) hx hb dX11_types_0 (by decide) ?_
  refine lv_istore_n (lv' := [(2, .int 3), (0, .ref (o + 0)), (1, .int a1)]) hx hb dX11_types_1 rfl hl (by decide) rfl (fun ls hl => ?_)
  refine lv_iload_n hx hb dX11_types_2 rfl (lv_at hl 0 rfl) ?_
  refine lv_if_lt (tgt := 38) hx hb dX11_types_3 (by decide) (fun q => absurd q (by decide)) (fun _ => ?_)
  refine lv_aload_n hx hb dX11_types_6 rfl (lv_at hl 1 rfl) ?_
  refine qf_get hx hb hts inX11 hown hK hP (q0 := 0) (by decide) (hgM_0 ca o) rfl 14 (by decide) wq_1007 (v := .ref (o + 12)) rfl dX11_types_7 ?_
  refine lv_aload_n hx hb dX11_types_10 rfl (lv_at hl 1 rfl) ?_
  refine qf_get hx hb hts inX11 hown hK hP (q0 := 0) (by decide) (hgM_0 ca o) rfl 15 (by decide) wq_1008 (v := .int (z 0 15)) rfl dX11_types_11 ?_
  refine qtop (x' := 0) h0_15 ?_
  refine lv_iload_n hx hb dX11_types_14 rfl (lv_at hl 2 rfl) ?_
  refine lv_bipush (v := 8) hx hb dX11_types_15 (by decide) ?_
  refine lv_iload_n hx hb dX11_types_17 rfl (lv_at hl 0 rfl) ?_
  refine lv_imul hx hb dX11_types_18 ?_
  refine qtop (x' := 24) (by decide) ?_
  refine lv_ishr hx hb dX11_types_19 ?_
  refine lv_topi (fun x1 e1 => ?_)
  refine lv_i2b hx hb dX11_types_20 rfl ?_
  refine lv_topi (fun x2 e2 => ?_)
  refine qa_bast hx hb hK hP hS qw_Ai (q0 := 12) (by decide) 3 (N := 260) (hgM_12 ca o) rfl (gi_in (by decide) (by decide)) dX11_types_21 (fun H locs hP hS => ?_)
  obtain ⟨z3, hz3⟩ : ∃ t : Nat → Nat → Int32, t = (qu z 12 ((0 : Int32).toNatClampNeg) (vp_nar .byte x2)) := ⟨_, rfl⟩
  rw [← hz3] at hP
  have g3 : ∀ k : Nat, (k ≠ 0) → (k ≠ 12) → z3 k = z k := by rw [hz3]; exact (fun (k : Nat) (h0 : k ≠ 0) (h1 : k ≠ 12) => by simp only [qu_ne h1])
  have f3_0_15 : z3 0 15 = 0 := by rw [hz3]; exact h0_15
  refine lv_aload_n hx hb dX11_types_22 rfl (lv_at hl 1 rfl) ?_
  refine lv_aload_n hx hb dX11_types_23 rfl (lv_at hl 1 rfl) ?_
  refine qf_get hx hb hts inX11 hown hK hP (q0 := 0) (by decide) (hgM_0 ca o) rfl 15 (by decide) wq_1008 (v := .int (z3 0 15)) rfl dX11_types_24 ?_
  refine qtop (x' := 0) f3_0_15 ?_
  refine lv_iconst (v := 1) hx hb dX11_types_27 (by decide) ?_
  refine lv_iadd hx hb dX11_types_28 ?_
  refine qtop (x' := 1) (by decide) ?_
  refine qf_put hx hb hts inX11 tyX11 tyX11_ok nmX11 hown hK hP hS qw_Ai (q0 := 0) (by decide) (hgM_0 ca o) rfl 15 (by decide) wq_1008 rfl (x := 1) 15 rfl rfl rfl (Nat.le_of_ble_eq_true rfl) dX11_types_29 (fun H locs hP hS => ?_)
  obtain ⟨z4, hz4⟩ : ∃ t : Nat → Nat → Int32, t = (qu z3 0 15 1) := ⟨_, rfl⟩
  rw [← hz4] at hP
  have g4 : ∀ k : Nat, (k ≠ 0) → (k ≠ 12) → z4 k = z k := by rw [hz4]; exact (fun (k : Nat) (h0 : k ≠ 0) (h1 : k ≠ 12) => by simp only [qu_ne h0]; exact g3 k h0 h1)
  have f4_0_15 : z4 0 15 = 1 := by rw [hz4]; exact rfl
  refine lv_iinc (v := 2) (lv' := [(2, .int 2), (0, .ref (o + 0)), (1, .int a1)]) hx hb dX11_types_32 hl (k := 0) rfl (by decide) (by decide) rfl (fun ls hl => ?_)
  refine lv_goto (tgt := 2) hx hb dX11_types_35 (by decide) ?_
  refine lv_iload_n hx hb dX11_types_2 rfl (lv_at hl 0 rfl) ?_
  refine lv_if_lt (tgt := 38) hx hb dX11_types_3 (by decide) (fun q => absurd q (by decide)) (fun _ => ?_)
  refine lv_aload_n hx hb dX11_types_6 rfl (lv_at hl 1 rfl) ?_
  refine qf_get hx hb hts inX11 hown hK hP (q0 := 0) (by decide) (hgM_0 ca o) rfl 14 (by decide) wq_1007 (v := .ref (o + 12)) rfl dX11_types_7 ?_
  refine lv_aload_n hx hb dX11_types_10 rfl (lv_at hl 1 rfl) ?_
  refine qf_get hx hb hts inX11 hown hK hP (q0 := 0) (by decide) (hgM_0 ca o) rfl 15 (by decide) wq_1008 (v := .int (z4 0 15)) rfl dX11_types_11 ?_
  refine qtop (x' := 1) f4_0_15 ?_
  refine lv_iload_n hx hb dX11_types_14 rfl (lv_at hl 2 rfl) ?_
  refine lv_bipush (v := 8) hx hb dX11_types_15 (by decide) ?_
  refine lv_iload_n hx hb dX11_types_17 rfl (lv_at hl 0 rfl) ?_
  refine lv_imul hx hb dX11_types_18 ?_
  refine qtop (x' := 16) (by decide) ?_
  refine lv_ishr hx hb dX11_types_19 ?_
  refine lv_topi (fun x5 e5 => ?_)
  refine lv_i2b hx hb dX11_types_20 rfl ?_
  refine lv_topi (fun x6 e6 => ?_)
  refine qa_bast hx hb hK hP hS qw_Ai (q0 := 12) (by decide) 3 (N := 260) (hgM_12 ca o) rfl (gi_in (by decide) (by decide)) dX11_types_21 (fun H locs hP hS => ?_)
  obtain ⟨z7, hz7⟩ : ∃ t : Nat → Nat → Int32, t = (qu z4 12 ((1 : Int32).toNatClampNeg) (vp_nar .byte x6)) := ⟨_, rfl⟩
  rw [← hz7] at hP
  have g7 : ∀ k : Nat, (k ≠ 0) → (k ≠ 12) → z7 k = z k := by rw [hz7]; exact (fun (k : Nat) (h0 : k ≠ 0) (h1 : k ≠ 12) => by simp only [qu_ne h1]; exact g4 k h0 h1)
  have f7_0_15 : z7 0 15 = 1 := by rw [hz7]; exact f4_0_15
  refine lv_aload_n hx hb dX11_types_22 rfl (lv_at hl 1 rfl) ?_
  refine lv_aload_n hx hb dX11_types_23 rfl (lv_at hl 1 rfl) ?_
  refine qf_get hx hb hts inX11 hown hK hP (q0 := 0) (by decide) (hgM_0 ca o) rfl 15 (by decide) wq_1008 (v := .int (z7 0 15)) rfl dX11_types_24 ?_
  refine qtop (x' := 1) f7_0_15 ?_
  refine lv_iconst (v := 1) hx hb dX11_types_27 (by decide) ?_
  refine lv_iadd hx hb dX11_types_28 ?_
  refine qtop (x' := 2) (by decide) ?_
  refine qf_put hx hb hts inX11 tyX11 tyX11_ok nmX11 hown hK hP hS qw_Ai (q0 := 0) (by decide) (hgM_0 ca o) rfl 15 (by decide) wq_1008 rfl (x := 2) 15 rfl rfl rfl (Nat.le_of_ble_eq_true rfl) dX11_types_29 (fun H locs hP hS => ?_)
  obtain ⟨z8, hz8⟩ : ∃ t : Nat → Nat → Int32, t = (qu z7 0 15 2) := ⟨_, rfl⟩
  rw [← hz8] at hP
  have g8 : ∀ k : Nat, (k ≠ 0) → (k ≠ 12) → z8 k = z k := by rw [hz8]; exact (fun (k : Nat) (h0 : k ≠ 0) (h1 : k ≠ 12) => by simp only [qu_ne h0]; exact g7 k h0 h1)
  have f8_0_15 : z8 0 15 = 2 := by rw [hz8]; exact rfl
  refine lv_iinc (v := 1) (lv' := [(2, .int 1), (0, .ref (o + 0)), (1, .int a1)]) hx hb dX11_types_32 hl (k := 0) rfl (by decide) (by decide) rfl (fun ls hl => ?_)
  refine lv_goto (tgt := 2) hx hb dX11_types_35 (by decide) ?_
  refine lv_iload_n hx hb dX11_types_2 rfl (lv_at hl 0 rfl) ?_
  refine lv_if_lt (tgt := 38) hx hb dX11_types_3 (by decide) (fun q => absurd q (by decide)) (fun _ => ?_)
  refine lv_aload_n hx hb dX11_types_6 rfl (lv_at hl 1 rfl) ?_
  refine qf_get hx hb hts inX11 hown hK hP (q0 := 0) (by decide) (hgM_0 ca o) rfl 14 (by decide) wq_1007 (v := .ref (o + 12)) rfl dX11_types_7 ?_
  refine lv_aload_n hx hb dX11_types_10 rfl (lv_at hl 1 rfl) ?_
  refine qf_get hx hb hts inX11 hown hK hP (q0 := 0) (by decide) (hgM_0 ca o) rfl 15 (by decide) wq_1008 (v := .int (z8 0 15)) rfl dX11_types_11 ?_
  refine qtop (x' := 2) f8_0_15 ?_
  refine lv_iload_n hx hb dX11_types_14 rfl (lv_at hl 2 rfl) ?_
  refine lv_bipush (v := 8) hx hb dX11_types_15 (by decide) ?_
  refine lv_iload_n hx hb dX11_types_17 rfl (lv_at hl 0 rfl) ?_
  refine lv_imul hx hb dX11_types_18 ?_
  refine qtop (x' := 8) (by decide) ?_
  refine lv_ishr hx hb dX11_types_19 ?_
  refine lv_topi (fun x9 e9 => ?_)
  refine lv_i2b hx hb dX11_types_20 rfl ?_
  refine lv_topi (fun x10 e10 => ?_)
  refine qa_bast hx hb hK hP hS qw_Ai (q0 := 12) (by decide) 3 (N := 260) (hgM_12 ca o) rfl (gi_in (by decide) (by decide)) dX11_types_21 (fun H locs hP hS => ?_)
  obtain ⟨z11, hz11⟩ : ∃ t : Nat → Nat → Int32, t = (qu z8 12 ((2 : Int32).toNatClampNeg) (vp_nar .byte x10)) := ⟨_, rfl⟩
  rw [← hz11] at hP
  have g11 : ∀ k : Nat, (k ≠ 0) → (k ≠ 12) → z11 k = z k := by rw [hz11]; exact (fun (k : Nat) (h0 : k ≠ 0) (h1 : k ≠ 12) => by simp only [qu_ne h1]; exact g8 k h0 h1)
  have f11_0_15 : z11 0 15 = 2 := by rw [hz11]; exact f8_0_15
  refine lv_aload_n hx hb dX11_types_22 rfl (lv_at hl 1 rfl) ?_
  refine lv_aload_n hx hb dX11_types_23 rfl (lv_at hl 1 rfl) ?_
  refine qf_get hx hb hts inX11 hown hK hP (q0 := 0) (by decide) (hgM_0 ca o) rfl 15 (by decide) wq_1008 (v := .int (z11 0 15)) rfl dX11_types_24 ?_
  refine qtop (x' := 2) f11_0_15 ?_
  refine lv_iconst (v := 1) hx hb dX11_types_27 (by decide) ?_
  refine lv_iadd hx hb dX11_types_28 ?_
  refine qtop (x' := 3) (by decide) ?_
  refine qf_put hx hb hts inX11 tyX11 tyX11_ok nmX11 hown hK hP hS qw_Ai (q0 := 0) (by decide) (hgM_0 ca o) rfl 15 (by decide) wq_1008 rfl (x := 3) 15 rfl rfl rfl (Nat.le_of_ble_eq_true rfl) dX11_types_29 (fun H locs hP hS => ?_)
  obtain ⟨z12, hz12⟩ : ∃ t : Nat → Nat → Int32, t = (qu z11 0 15 3) := ⟨_, rfl⟩
  rw [← hz12] at hP
  have g12 : ∀ k : Nat, (k ≠ 0) → (k ≠ 12) → z12 k = z k := by rw [hz12]; exact (fun (k : Nat) (h0 : k ≠ 0) (h1 : k ≠ 12) => by simp only [qu_ne h0]; exact g11 k h0 h1)
  have f12_0_15 : z12 0 15 = 3 := by rw [hz12]; exact rfl
  refine lv_iinc (v := 0) (lv' := [(2, .int 0), (0, .ref (o + 0)), (1, .int a1)]) hx hb dX11_types_32 hl (k := 0) rfl (by decide) (by decide) rfl (fun ls hl => ?_)
  refine lv_goto (tgt := 2) hx hb dX11_types_35 (by decide) ?_
  refine lv_iload_n hx hb dX11_types_2 rfl (lv_at hl 0 rfl) ?_
  refine lv_if_lt (tgt := 38) hx hb dX11_types_3 (by decide) (fun q => absurd q (by decide)) (fun _ => ?_)
  refine lv_aload_n hx hb dX11_types_6 rfl (lv_at hl 1 rfl) ?_
  refine qf_get hx hb hts inX11 hown hK hP (q0 := 0) (by decide) (hgM_0 ca o) rfl 14 (by decide) wq_1007 (v := .ref (o + 12)) rfl dX11_types_7 ?_
  refine lv_aload_n hx hb dX11_types_10 rfl (lv_at hl 1 rfl) ?_
  refine qf_get hx hb hts inX11 hown hK hP (q0 := 0) (by decide) (hgM_0 ca o) rfl 15 (by decide) wq_1008 (v := .int (z12 0 15)) rfl dX11_types_11 ?_
  refine qtop (x' := 3) f12_0_15 ?_
  refine lv_iload_n hx hb dX11_types_14 rfl (lv_at hl 2 rfl) ?_
  refine lv_bipush (v := 8) hx hb dX11_types_15 (by decide) ?_
  refine lv_iload_n hx hb dX11_types_17 rfl (lv_at hl 0 rfl) ?_
  refine lv_imul hx hb dX11_types_18 ?_
  refine qtop (x' := 0) (by decide) ?_
  refine lv_ishr hx hb dX11_types_19 ?_
  refine lv_topi (fun x13 e13 => ?_)
  refine lv_i2b hx hb dX11_types_20 rfl ?_
  refine lv_topi (fun x14 e14 => ?_)
  refine qa_bast hx hb hK hP hS qw_Ai (q0 := 12) (by decide) 3 (N := 260) (hgM_12 ca o) rfl (gi_in (by decide) (by decide)) dX11_types_21 (fun H locs hP hS => ?_)
  obtain ⟨z15, hz15⟩ : ∃ t : Nat → Nat → Int32, t = (qu z12 12 ((3 : Int32).toNatClampNeg) (vp_nar .byte x14)) := ⟨_, rfl⟩
  rw [← hz15] at hP
  have g15 : ∀ k : Nat, (k ≠ 0) → (k ≠ 12) → z15 k = z k := by rw [hz15]; exact (fun (k : Nat) (h0 : k ≠ 0) (h1 : k ≠ 12) => by simp only [qu_ne h1]; exact g12 k h0 h1)
  have f15_0_15 : z15 0 15 = 3 := by rw [hz15]; exact f12_0_15
  refine lv_aload_n hx hb dX11_types_22 rfl (lv_at hl 1 rfl) ?_
  refine lv_aload_n hx hb dX11_types_23 rfl (lv_at hl 1 rfl) ?_
  refine qf_get hx hb hts inX11 hown hK hP (q0 := 0) (by decide) (hgM_0 ca o) rfl 15 (by decide) wq_1008 (v := .int (z15 0 15)) rfl dX11_types_24 ?_
  refine qtop (x' := 3) f15_0_15 ?_
  refine lv_iconst (v := 1) hx hb dX11_types_27 (by decide) ?_
  refine lv_iadd hx hb dX11_types_28 ?_
  refine qtop (x' := 4) (by decide) ?_
  refine qf_put hx hb hts inX11 tyX11 tyX11_ok nmX11 hown hK hP hS qw_Ai (q0 := 0) (by decide) (hgM_0 ca o) rfl 15 (by decide) wq_1008 rfl (x := 4) 15 rfl rfl rfl (Nat.le_of_ble_eq_true rfl) dX11_types_29 (fun H locs hP hS => ?_)
  obtain ⟨z16, hz16⟩ : ∃ t : Nat → Nat → Int32, t = (qu z15 0 15 4) := ⟨_, rfl⟩
  rw [← hz16] at hP
  have g16 : ∀ k : Nat, (k ≠ 0) → (k ≠ 12) → z16 k = z k := by rw [hz16]; exact (fun (k : Nat) (h0 : k ≠ 0) (h1 : k ≠ 12) => by simp only [qu_ne h0]; exact g15 k h0 h1)
  have f16_0_15 : z16 0 15 = 4 := by rw [hz16]; exact rfl
  refine lv_iinc (v := (-1)) (lv' := [(2, .int ((-1))), (0, .ref (o + 0)), (1, .int a1)]) hx hb dX11_types_32 hl (k := 0) rfl (by decide) (by decide) rfl (fun ls hl => ?_)
  refine lv_goto (tgt := 2) hx hb dX11_types_35 (by decide) ?_
  refine lv_iload_n hx hb dX11_types_2 rfl (lv_at hl 0 rfl) ?_
  refine lv_if_lt (tgt := 38) hx hb dX11_types_3 (by decide) (fun _ => ?_) (fun q => absurd (by decide) q)
  exact W.vret hx hb hr (fun t ht hW => ⟨⟨(z16, y), rfl, ⟨(fun (k : Nat) (h0 : k ≠ 0) (h1 : k ≠ 12) => g16 k h0 h1), rfl, (f16_0_15)⟩, by rw [ht]; exact hP, va_K.moved hW.alike hK⟩, hS.F ht⟩) hS.2.2 dX11_types_38

set_option maxRecDepth 100000 in
set_option maxHeartbeats 4000000 in
theorem m1_types4 (l : Launch) (D : va_G) (ca : Nat → ClassId) (o : Nat) (z : Nat → Nat → Int32) (y : Nat → Nat → Int64) (a1 : Int32) (h0_15 : z 0 15 = 4) : qM l yX11_types cX11_types 3 none 1 60 (qPre D vwCl (qT6 ca) o 41 (qG (GM ca o) z y) [.ref (o + 0), .int a1]) (va_Qv (fun u => (∀ k : Nat, (k ≠ 0) → (k ≠ 12) → u.1 k = z k) ∧ u.2 = y ∧ u.1 0 15 = 8) (qB D vwCl (qT6 ca) o 41 (fun u : qZ => qG (GM ca o) u.1 u.2)) (qw_A o 41)) (qw_A o 41) := by
  refine Met.ofW (cc := cX11_types) (maxL := 3) (ret := none) (by decide) rfl ?_
  intro p e s m args below meth c s₁ B hml hv
  obtain ⟨rfl, hP, hK⟩ := hv
  have hx := B.exec
  have hb := B.bytes
  have hr := B.returns
  have hts0 := atoms_spec (ws := Cond.code yX11_types cX11_types 3 none :: qtbl) B.pre
  have hts : ∀ w ∈ qtbl, w.before _ s = true := fun w h => hts0 w (List.mem_cons_of_mem _ h)
  have hown : s.vm.findClass RX11 = some m.cls := findClass_of_methodNamed B.named
  have hlocks := B.notSynchronized
  have hz0 : (0 : Int32).toInt = 0 := rfl
  have hS : va_S (qw_A o 41) s.heap s.heap [] := va_S.rf
  have hl := lv_entry ([.ref (o + 0), .int a1]) (n := 3) (Nat.le_of_ble_eq_true rfl)
  rw [lg_entry_eq]
  generalize (lg_sl ([.ref (o + 0), .int a1]) ++ List.replicate (3 - (lg_sl ([.ref (o + 0), .int a1])).length) Slot.unset).toArray = ls at hl ⊢
  have hl : lv_has ls 3 [(0, .ref (o + 0)), (1, .int a1)] := hl
  refine lv_iconst (v := 3) hx hb dX11_types_0 (by decide) ?_
  refine lv_istore_n (lv' := [(2, .int 3), (0, .ref (o + 0)), (1, .int a1)]) hx hb dX11_types_1 rfl hl (by decide) rfl (fun ls hl => ?_)
  refine lv_iload_n hx hb dX11_types_2 rfl (lv_at hl 0 rfl) ?_
  refine lv_if_lt (tgt := 38) hx hb dX11_types_3 (by decide) (fun q => absurd q (by decide)) (fun _ => ?_)
  refine lv_aload_n hx hb dX11_types_6 rfl (lv_at hl 1 rfl) ?_
  refine qf_get hx hb hts inX11 hown hK hP (q0 := 0) (by decide) (hgM_0 ca o) rfl 14 (by decide) wq_1007 (v := .ref (o + 12)) rfl dX11_types_7 ?_
  refine lv_aload_n hx hb dX11_types_10 rfl (lv_at hl 1 rfl) ?_
  refine qf_get hx hb hts inX11 hown hK hP (q0 := 0) (by decide) (hgM_0 ca o) rfl 15 (by decide) wq_1008 (v := .int (z 0 15)) rfl dX11_types_11 ?_
  refine qtop (x' := 4) h0_15 ?_
  refine lv_iload_n hx hb dX11_types_14 rfl (lv_at hl 2 rfl) ?_
  refine lv_bipush (v := 8) hx hb dX11_types_15 (by decide) ?_
  refine lv_iload_n hx hb dX11_types_17 rfl (lv_at hl 0 rfl) ?_
  refine lv_imul hx hb dX11_types_18 ?_
  refine qtop (x' := 24) (by decide) ?_
  refine lv_ishr hx hb dX11_types_19 ?_
  refine lv_topi (fun x1 e1 => ?_)
  refine lv_i2b hx hb dX11_types_20 rfl ?_
  refine lv_topi (fun x2 e2 => ?_)
  refine qa_bast hx hb hK hP hS qw_Ai (q0 := 12) (by decide) 3 (N := 260) (hgM_12 ca o) rfl (gi_in (by decide) (by decide)) dX11_types_21 (fun H locs hP hS => ?_)
  obtain ⟨z3, hz3⟩ : ∃ t : Nat → Nat → Int32, t = (qu z 12 ((4 : Int32).toNatClampNeg) (vp_nar .byte x2)) := ⟨_, rfl⟩
  rw [← hz3] at hP
  have g3 : ∀ k : Nat, (k ≠ 0) → (k ≠ 12) → z3 k = z k := by rw [hz3]; exact (fun (k : Nat) (h0 : k ≠ 0) (h1 : k ≠ 12) => by simp only [qu_ne h1])
  have f3_0_15 : z3 0 15 = 4 := by rw [hz3]; exact h0_15
  refine lv_aload_n hx hb dX11_types_22 rfl (lv_at hl 1 rfl) ?_
  refine lv_aload_n hx hb dX11_types_23 rfl (lv_at hl 1 rfl) ?_
  refine qf_get hx hb hts inX11 hown hK hP (q0 := 0) (by decide) (hgM_0 ca o) rfl 15 (by decide) wq_1008 (v := .int (z3 0 15)) rfl dX11_types_24 ?_
  refine qtop (x' := 4) f3_0_15 ?_
  refine lv_iconst (v := 1) hx hb dX11_types_27 (by decide) ?_
  refine lv_iadd hx hb dX11_types_28 ?_
  refine qtop (x' := 5) (by decide) ?_
  refine qf_put hx hb hts inX11 tyX11 tyX11_ok nmX11 hown hK hP hS qw_Ai (q0 := 0) (by decide) (hgM_0 ca o) rfl 15 (by decide) wq_1008 rfl (x := 5) 15 rfl rfl rfl (Nat.le_of_ble_eq_true rfl) dX11_types_29 (fun H locs hP hS => ?_)
  obtain ⟨z4, hz4⟩ : ∃ t : Nat → Nat → Int32, t = (qu z3 0 15 5) := ⟨_, rfl⟩
  rw [← hz4] at hP
  have g4 : ∀ k : Nat, (k ≠ 0) → (k ≠ 12) → z4 k = z k := by rw [hz4]; exact (fun (k : Nat) (h0 : k ≠ 0) (h1 : k ≠ 12) => by simp only [qu_ne h0]; exact g3 k h0 h1)
  have f4_0_15 : z4 0 15 = 5 := by rw [hz4]; exact rfl
  refine lv_iinc (v := 2) (lv' := [(2, .int 2), (0, .ref (o + 0)), (1, .int a1)]) hx hb dX11_types_32 hl (k := 0) rfl (by decide) (by decide) rfl (fun ls hl => ?_)
  refine lv_goto (tgt := 2) hx hb dX11_types_35 (by decide) ?_
  refine lv_iload_n hx hb dX11_types_2 rfl (lv_at hl 0 rfl) ?_
  refine lv_if_lt (tgt := 38) hx hb dX11_types_3 (by decide) (fun q => absurd q (by decide)) (fun _ => ?_)
  refine lv_aload_n hx hb dX11_types_6 rfl (lv_at hl 1 rfl) ?_
  refine qf_get hx hb hts inX11 hown hK hP (q0 := 0) (by decide) (hgM_0 ca o) rfl 14 (by decide) wq_1007 (v := .ref (o + 12)) rfl dX11_types_7 ?_
  refine lv_aload_n hx hb dX11_types_10 rfl (lv_at hl 1 rfl) ?_
  refine qf_get hx hb hts inX11 hown hK hP (q0 := 0) (by decide) (hgM_0 ca o) rfl 15 (by decide) wq_1008 (v := .int (z4 0 15)) rfl dX11_types_11 ?_
  refine qtop (x' := 5) f4_0_15 ?_
  refine lv_iload_n hx hb dX11_types_14 rfl (lv_at hl 2 rfl) ?_
  refine lv_bipush (v := 8) hx hb dX11_types_15 (by decide) ?_
  refine lv_iload_n hx hb dX11_types_17 rfl (lv_at hl 0 rfl) ?_
  refine lv_imul hx hb dX11_types_18 ?_
  refine qtop (x' := 16) (by decide) ?_
  refine lv_ishr hx hb dX11_types_19 ?_
  refine lv_topi (fun x5 e5 => ?_)
  refine lv_i2b hx hb dX11_types_20 rfl ?_
  refine lv_topi (fun x6 e6 => ?_)
  refine qa_bast hx hb hK hP hS qw_Ai (q0 := 12) (by decide) 3 (N := 260) (hgM_12 ca o) rfl (gi_in (by decide) (by decide)) dX11_types_21 (fun H locs hP hS => ?_)
  obtain ⟨z7, hz7⟩ : ∃ t : Nat → Nat → Int32, t = (qu z4 12 ((5 : Int32).toNatClampNeg) (vp_nar .byte x6)) := ⟨_, rfl⟩
  rw [← hz7] at hP
  have g7 : ∀ k : Nat, (k ≠ 0) → (k ≠ 12) → z7 k = z k := by rw [hz7]; exact (fun (k : Nat) (h0 : k ≠ 0) (h1 : k ≠ 12) => by simp only [qu_ne h1]; exact g4 k h0 h1)
  have f7_0_15 : z7 0 15 = 5 := by rw [hz7]; exact f4_0_15
  refine lv_aload_n hx hb dX11_types_22 rfl (lv_at hl 1 rfl) ?_
  refine lv_aload_n hx hb dX11_types_23 rfl (lv_at hl 1 rfl) ?_
  refine qf_get hx hb hts inX11 hown hK hP (q0 := 0) (by decide) (hgM_0 ca o) rfl 15 (by decide) wq_1008 (v := .int (z7 0 15)) rfl dX11_types_24 ?_
  refine qtop (x' := 5) f7_0_15 ?_
  refine lv_iconst (v := 1) hx hb dX11_types_27 (by decide) ?_
  refine lv_iadd hx hb dX11_types_28 ?_
  refine qtop (x' := 6) (by decide) ?_
  refine qf_put hx hb hts inX11 tyX11 tyX11_ok nmX11 hown hK hP hS qw_Ai (q0 := 0) (by decide) (hgM_0 ca o) rfl 15 (by decide) wq_1008 rfl (x := 6) 15 rfl rfl rfl (Nat.le_of_ble_eq_true rfl) dX11_types_29 (fun H locs hP hS => ?_)
  obtain ⟨z8, hz8⟩ : ∃ t : Nat → Nat → Int32, t = (qu z7 0 15 6) := ⟨_, rfl⟩
  rw [← hz8] at hP
  have g8 : ∀ k : Nat, (k ≠ 0) → (k ≠ 12) → z8 k = z k := by rw [hz8]; exact (fun (k : Nat) (h0 : k ≠ 0) (h1 : k ≠ 12) => by simp only [qu_ne h0]; exact g7 k h0 h1)
  have f8_0_15 : z8 0 15 = 6 := by rw [hz8]; exact rfl
  refine lv_iinc (v := 1) (lv' := [(2, .int 1), (0, .ref (o + 0)), (1, .int a1)]) hx hb dX11_types_32 hl (k := 0) rfl (by decide) (by decide) rfl (fun ls hl => ?_)
  refine lv_goto (tgt := 2) hx hb dX11_types_35 (by decide) ?_
  refine lv_iload_n hx hb dX11_types_2 rfl (lv_at hl 0 rfl) ?_
  refine lv_if_lt (tgt := 38) hx hb dX11_types_3 (by decide) (fun q => absurd q (by decide)) (fun _ => ?_)
  refine lv_aload_n hx hb dX11_types_6 rfl (lv_at hl 1 rfl) ?_
  refine qf_get hx hb hts inX11 hown hK hP (q0 := 0) (by decide) (hgM_0 ca o) rfl 14 (by decide) wq_1007 (v := .ref (o + 12)) rfl dX11_types_7 ?_
  refine lv_aload_n hx hb dX11_types_10 rfl (lv_at hl 1 rfl) ?_
  refine qf_get hx hb hts inX11 hown hK hP (q0 := 0) (by decide) (hgM_0 ca o) rfl 15 (by decide) wq_1008 (v := .int (z8 0 15)) rfl dX11_types_11 ?_
  refine qtop (x' := 6) f8_0_15 ?_
  refine lv_iload_n hx hb dX11_types_14 rfl (lv_at hl 2 rfl) ?_
  refine lv_bipush (v := 8) hx hb dX11_types_15 (by decide) ?_
  refine lv_iload_n hx hb dX11_types_17 rfl (lv_at hl 0 rfl) ?_
  refine lv_imul hx hb dX11_types_18 ?_
  refine qtop (x' := 8) (by decide) ?_
  refine lv_ishr hx hb dX11_types_19 ?_
  refine lv_topi (fun x9 e9 => ?_)
  refine lv_i2b hx hb dX11_types_20 rfl ?_
  refine lv_topi (fun x10 e10 => ?_)
  refine qa_bast hx hb hK hP hS qw_Ai (q0 := 12) (by decide) 3 (N := 260) (hgM_12 ca o) rfl (gi_in (by decide) (by decide)) dX11_types_21 (fun H locs hP hS => ?_)
  obtain ⟨z11, hz11⟩ : ∃ t : Nat → Nat → Int32, t = (qu z8 12 ((6 : Int32).toNatClampNeg) (vp_nar .byte x10)) := ⟨_, rfl⟩
  rw [← hz11] at hP
  have g11 : ∀ k : Nat, (k ≠ 0) → (k ≠ 12) → z11 k = z k := by rw [hz11]; exact (fun (k : Nat) (h0 : k ≠ 0) (h1 : k ≠ 12) => by simp only [qu_ne h1]; exact g8 k h0 h1)
  have f11_0_15 : z11 0 15 = 6 := by rw [hz11]; exact f8_0_15
  refine lv_aload_n hx hb dX11_types_22 rfl (lv_at hl 1 rfl) ?_
  refine lv_aload_n hx hb dX11_types_23 rfl (lv_at hl 1 rfl) ?_
  refine qf_get hx hb hts inX11 hown hK hP (q0 := 0) (by decide) (hgM_0 ca o) rfl 15 (by decide) wq_1008 (v := .int (z11 0 15)) rfl dX11_types_24 ?_
  refine qtop (x' := 6) f11_0_15 ?_
  refine lv_iconst (v := 1) hx hb dX11_types_27 (by decide) ?_
  refine lv_iadd hx hb dX11_types_28 ?_
  refine qtop (x' := 7) (by decide) ?_
  refine qf_put hx hb hts inX11 tyX11 tyX11_ok nmX11 hown hK hP hS qw_Ai (q0 := 0) (by decide) (hgM_0 ca o) rfl 15 (by decide) wq_1008 rfl (x := 7) 15 rfl rfl rfl (Nat.le_of_ble_eq_true rfl) dX11_types_29 (fun H locs hP hS => ?_)
  obtain ⟨z12, hz12⟩ : ∃ t : Nat → Nat → Int32, t = (qu z11 0 15 7) := ⟨_, rfl⟩
  rw [← hz12] at hP
  have g12 : ∀ k : Nat, (k ≠ 0) → (k ≠ 12) → z12 k = z k := by rw [hz12]; exact (fun (k : Nat) (h0 : k ≠ 0) (h1 : k ≠ 12) => by simp only [qu_ne h0]; exact g11 k h0 h1)
  have f12_0_15 : z12 0 15 = 7 := by rw [hz12]; exact rfl
  refine lv_iinc (v := 0) (lv' := [(2, .int 0), (0, .ref (o + 0)), (1, .int a1)]) hx hb dX11_types_32 hl (k := 0) rfl (by decide) (by decide) rfl (fun ls hl => ?_)
  refine lv_goto (tgt := 2) hx hb dX11_types_35 (by decide) ?_
  refine lv_iload_n hx hb dX11_types_2 rfl (lv_at hl 0 rfl) ?_
  refine lv_if_lt (tgt := 38) hx hb dX11_types_3 (by decide) (fun q => absurd q (by decide)) (fun _ => ?_)
  refine lv_aload_n hx hb dX11_types_6 rfl (lv_at hl 1 rfl) ?_
  refine qf_get hx hb hts inX11 hown hK hP (q0 := 0) (by decide) (hgM_0 ca o) rfl 14 (by decide) wq_1007 (v := .ref (o + 12)) rfl dX11_types_7 ?_
  refine lv_aload_n hx hb dX11_types_10 rfl (lv_at hl 1 rfl) ?_
  refine qf_get hx hb hts inX11 hown hK hP (q0 := 0) (by decide) (hgM_0 ca o) rfl 15 (by decide) wq_1008 (v := .int (z12 0 15)) rfl dX11_types_11 ?_
  refine qtop (x' := 7) f12_0_15 ?_
  refine lv_iload_n hx hb dX11_types_14 rfl (lv_at hl 2 rfl) ?_
  refine lv_bipush (v := 8) hx hb dX11_types_15 (by decide) ?_
  refine lv_iload_n hx hb dX11_types_17 rfl (lv_at hl 0 rfl) ?_
  refine lv_imul hx hb dX11_types_18 ?_
  refine qtop (x' := 0) (by decide) ?_
  refine lv_ishr hx hb dX11_types_19 ?_
  refine lv_topi (fun x13 e13 => ?_)
  refine lv_i2b hx hb dX11_types_20 rfl ?_
  refine lv_topi (fun x14 e14 => ?_)
  refine qa_bast hx hb hK hP hS qw_Ai (q0 := 12) (by decide) 3 (N := 260) (hgM_12 ca o) rfl (gi_in (by decide) (by decide)) dX11_types_21 (fun H locs hP hS => ?_)
  obtain ⟨z15, hz15⟩ : ∃ t : Nat → Nat → Int32, t = (qu z12 12 ((7 : Int32).toNatClampNeg) (vp_nar .byte x14)) := ⟨_, rfl⟩
  rw [← hz15] at hP
  have g15 : ∀ k : Nat, (k ≠ 0) → (k ≠ 12) → z15 k = z k := by rw [hz15]; exact (fun (k : Nat) (h0 : k ≠ 0) (h1 : k ≠ 12) => by simp only [qu_ne h1]; exact g12 k h0 h1)
  have f15_0_15 : z15 0 15 = 7 := by rw [hz15]; exact f12_0_15
  refine lv_aload_n hx hb dX11_types_22 rfl (lv_at hl 1 rfl) ?_
  refine lv_aload_n hx hb dX11_types_23 rfl (lv_at hl 1 rfl) ?_
  refine qf_get hx hb hts inX11 hown hK hP (q0 := 0) (by decide) (hgM_0 ca o) rfl 15 (by decide) wq_1008 (v := .int (z15 0 15)) rfl dX11_types_24 ?_
  refine qtop (x' := 7) f15_0_15 ?_
  refine lv_iconst (v := 1) hx hb dX11_types_27 (by decide) ?_
  refine lv_iadd hx hb dX11_types_28 ?_
  refine qtop (x' := 8) (by decide) ?_
  refine qf_put hx hb hts inX11 tyX11 tyX11_ok nmX11 hown hK hP hS qw_Ai (q0 := 0) (by decide) (hgM_0 ca o) rfl 15 (by decide) wq_1008 rfl (x := 8) 15 rfl rfl rfl (Nat.le_of_ble_eq_true rfl) dX11_types_29 (fun H locs hP hS => ?_)
  obtain ⟨z16, hz16⟩ : ∃ t : Nat → Nat → Int32, t = (qu z15 0 15 8) := ⟨_, rfl⟩
  rw [← hz16] at hP
  have g16 : ∀ k : Nat, (k ≠ 0) → (k ≠ 12) → z16 k = z k := by rw [hz16]; exact (fun (k : Nat) (h0 : k ≠ 0) (h1 : k ≠ 12) => by simp only [qu_ne h0]; exact g15 k h0 h1)
  have f16_0_15 : z16 0 15 = 8 := by rw [hz16]; exact rfl
  refine lv_iinc (v := (-1)) (lv' := [(2, .int ((-1))), (0, .ref (o + 0)), (1, .int a1)]) hx hb dX11_types_32 hl (k := 0) rfl (by decide) (by decide) rfl (fun ls hl => ?_)
  refine lv_goto (tgt := 2) hx hb dX11_types_35 (by decide) ?_
  refine lv_iload_n hx hb dX11_types_2 rfl (lv_at hl 0 rfl) ?_
  refine lv_if_lt (tgt := 38) hx hb dX11_types_3 (by decide) (fun _ => ?_) (fun q => absurd (by decide) q)
  exact W.vret hx hb hr (fun t ht hW => ⟨⟨(z16, y), rfl, ⟨(fun (k : Nat) (h0 : k ≠ 0) (h1 : k ≠ 12) => g16 k h0 h1), rfl, (f16_0_15)⟩, by rw [ht]; exact hP, va_K.moved hW.alike hK⟩, hS.F ht⟩) hS.2.2 dX11_types_38

set_option maxRecDepth 100000 in
set_option maxHeartbeats 4000000 in
theorem m1_types8 (l : Launch) (D : va_G) (ca : Nat → ClassId) (o : Nat) (z : Nat → Nat → Int32) (y : Nat → Nat → Int64) (a1 : Int32) (h0_15 : z 0 15 = 8) : qM l yX11_types cX11_types 3 none 1 60 (qPre D vwCl (qT6 ca) o 41 (qG (GM ca o) z y) [.ref (o + 0), .int a1]) (va_Qv (fun u => (∀ k : Nat, (k ≠ 0) → (k ≠ 12) → u.1 k = z k) ∧ u.2 = y ∧ u.1 0 15 = 12) (qB D vwCl (qT6 ca) o 41 (fun u : qZ => qG (GM ca o) u.1 u.2)) (qw_A o 41)) (qw_A o 41) := by
  refine Met.ofW (cc := cX11_types) (maxL := 3) (ret := none) (by decide) rfl ?_
  intro p e s m args below meth c s₁ B hml hv
  obtain ⟨rfl, hP, hK⟩ := hv
  have hx := B.exec
  have hb := B.bytes
  have hr := B.returns
  have hts0 := atoms_spec (ws := Cond.code yX11_types cX11_types 3 none :: qtbl) B.pre
  have hts : ∀ w ∈ qtbl, w.before _ s = true := fun w h => hts0 w (List.mem_cons_of_mem _ h)
  have hown : s.vm.findClass RX11 = some m.cls := findClass_of_methodNamed B.named
  have hlocks := B.notSynchronized
  have hz0 : (0 : Int32).toInt = 0 := rfl
  have hS : va_S (qw_A o 41) s.heap s.heap [] := va_S.rf
  have hl := lv_entry ([.ref (o + 0), .int a1]) (n := 3) (Nat.le_of_ble_eq_true rfl)
  rw [lg_entry_eq]
  generalize (lg_sl ([.ref (o + 0), .int a1]) ++ List.replicate (3 - (lg_sl ([.ref (o + 0), .int a1])).length) Slot.unset).toArray = ls at hl ⊢
  have hl : lv_has ls 3 [(0, .ref (o + 0)), (1, .int a1)] := hl
  refine lv_iconst (v := 3) hx hb dX11_types_0 (by decide) ?_
  refine lv_istore_n (lv' := [(2, .int 3), (0, .ref (o + 0)), (1, .int a1)]) hx hb dX11_types_1 rfl hl (by decide) rfl (fun ls hl => ?_)
  refine lv_iload_n hx hb dX11_types_2 rfl (lv_at hl 0 rfl) ?_
  refine lv_if_lt (tgt := 38) hx hb dX11_types_3 (by decide) (fun q => absurd q (by decide)) (fun _ => ?_)
  refine lv_aload_n hx hb dX11_types_6 rfl (lv_at hl 1 rfl) ?_
  refine qf_get hx hb hts inX11 hown hK hP (q0 := 0) (by decide) (hgM_0 ca o) rfl 14 (by decide) wq_1007 (v := .ref (o + 12)) rfl dX11_types_7 ?_
  refine lv_aload_n hx hb dX11_types_10 rfl (lv_at hl 1 rfl) ?_
  refine qf_get hx hb hts inX11 hown hK hP (q0 := 0) (by decide) (hgM_0 ca o) rfl 15 (by decide) wq_1008 (v := .int (z 0 15)) rfl dX11_types_11 ?_
  refine qtop (x' := 8) h0_15 ?_
  refine lv_iload_n hx hb dX11_types_14 rfl (lv_at hl 2 rfl) ?_
  refine lv_bipush (v := 8) hx hb dX11_types_15 (by decide) ?_
  refine lv_iload_n hx hb dX11_types_17 rfl (lv_at hl 0 rfl) ?_
  refine lv_imul hx hb dX11_types_18 ?_
  refine qtop (x' := 24) (by decide) ?_
  refine lv_ishr hx hb dX11_types_19 ?_
  refine lv_topi (fun x1 e1 => ?_)
  refine lv_i2b hx hb dX11_types_20 rfl ?_
  refine lv_topi (fun x2 e2 => ?_)
  refine qa_bast hx hb hK hP hS qw_Ai (q0 := 12) (by decide) 3 (N := 260) (hgM_12 ca o) rfl (gi_in (by decide) (by decide)) dX11_types_21 (fun H locs hP hS => ?_)
  obtain ⟨z3, hz3⟩ : ∃ t : Nat → Nat → Int32, t = (qu z 12 ((8 : Int32).toNatClampNeg) (vp_nar .byte x2)) := ⟨_, rfl⟩
  rw [← hz3] at hP
  have g3 : ∀ k : Nat, (k ≠ 0) → (k ≠ 12) → z3 k = z k := by rw [hz3]; exact (fun (k : Nat) (h0 : k ≠ 0) (h1 : k ≠ 12) => by simp only [qu_ne h1])
  have f3_0_15 : z3 0 15 = 8 := by rw [hz3]; exact h0_15
  refine lv_aload_n hx hb dX11_types_22 rfl (lv_at hl 1 rfl) ?_
  refine lv_aload_n hx hb dX11_types_23 rfl (lv_at hl 1 rfl) ?_
  refine qf_get hx hb hts inX11 hown hK hP (q0 := 0) (by decide) (hgM_0 ca o) rfl 15 (by decide) wq_1008 (v := .int (z3 0 15)) rfl dX11_types_24 ?_
  refine qtop (x' := 8) f3_0_15 ?_
  refine lv_iconst (v := 1) hx hb dX11_types_27 (by decide) ?_
  refine lv_iadd hx hb dX11_types_28 ?_
  refine qtop (x' := 9) (by decide) ?_
  refine qf_put hx hb hts inX11 tyX11 tyX11_ok nmX11 hown hK hP hS qw_Ai (q0 := 0) (by decide) (hgM_0 ca o) rfl 15 (by decide) wq_1008 rfl (x := 9) 15 rfl rfl rfl (Nat.le_of_ble_eq_true rfl) dX11_types_29 (fun H locs hP hS => ?_)
  obtain ⟨z4, hz4⟩ : ∃ t : Nat → Nat → Int32, t = (qu z3 0 15 9) := ⟨_, rfl⟩
  rw [← hz4] at hP
  have g4 : ∀ k : Nat, (k ≠ 0) → (k ≠ 12) → z4 k = z k := by rw [hz4]; exact (fun (k : Nat) (h0 : k ≠ 0) (h1 : k ≠ 12) => by simp only [qu_ne h0]; exact g3 k h0 h1)
  have f4_0_15 : z4 0 15 = 9 := by rw [hz4]; exact rfl
  refine lv_iinc (v := 2) (lv' := [(2, .int 2), (0, .ref (o + 0)), (1, .int a1)]) hx hb dX11_types_32 hl (k := 0) rfl (by decide) (by decide) rfl (fun ls hl => ?_)
  refine lv_goto (tgt := 2) hx hb dX11_types_35 (by decide) ?_
  refine lv_iload_n hx hb dX11_types_2 rfl (lv_at hl 0 rfl) ?_
  refine lv_if_lt (tgt := 38) hx hb dX11_types_3 (by decide) (fun q => absurd q (by decide)) (fun _ => ?_)
  refine lv_aload_n hx hb dX11_types_6 rfl (lv_at hl 1 rfl) ?_
  refine qf_get hx hb hts inX11 hown hK hP (q0 := 0) (by decide) (hgM_0 ca o) rfl 14 (by decide) wq_1007 (v := .ref (o + 12)) rfl dX11_types_7 ?_
  refine lv_aload_n hx hb dX11_types_10 rfl (lv_at hl 1 rfl) ?_
  refine qf_get hx hb hts inX11 hown hK hP (q0 := 0) (by decide) (hgM_0 ca o) rfl 15 (by decide) wq_1008 (v := .int (z4 0 15)) rfl dX11_types_11 ?_
  refine qtop (x' := 9) f4_0_15 ?_
  refine lv_iload_n hx hb dX11_types_14 rfl (lv_at hl 2 rfl) ?_
  refine lv_bipush (v := 8) hx hb dX11_types_15 (by decide) ?_
  refine lv_iload_n hx hb dX11_types_17 rfl (lv_at hl 0 rfl) ?_
  refine lv_imul hx hb dX11_types_18 ?_
  refine qtop (x' := 16) (by decide) ?_
  refine lv_ishr hx hb dX11_types_19 ?_
  refine lv_topi (fun x5 e5 => ?_)
  refine lv_i2b hx hb dX11_types_20 rfl ?_
  refine lv_topi (fun x6 e6 => ?_)
  refine qa_bast hx hb hK hP hS qw_Ai (q0 := 12) (by decide) 3 (N := 260) (hgM_12 ca o) rfl (gi_in (by decide) (by decide)) dX11_types_21 (fun H locs hP hS => ?_)
  obtain ⟨z7, hz7⟩ : ∃ t : Nat → Nat → Int32, t = (qu z4 12 ((9 : Int32).toNatClampNeg) (vp_nar .byte x6)) := ⟨_, rfl⟩
  rw [← hz7] at hP
  have g7 : ∀ k : Nat, (k ≠ 0) → (k ≠ 12) → z7 k = z k := by rw [hz7]; exact (fun (k : Nat) (h0 : k ≠ 0) (h1 : k ≠ 12) => by simp only [qu_ne h1]; exact g4 k h0 h1)
  have f7_0_15 : z7 0 15 = 9 := by rw [hz7]; exact f4_0_15
  refine lv_aload_n hx hb dX11_types_22 rfl (lv_at hl 1 rfl) ?_
  refine lv_aload_n hx hb dX11_types_23 rfl (lv_at hl 1 rfl) ?_
  refine qf_get hx hb hts inX11 hown hK hP (q0 := 0) (by decide) (hgM_0 ca o) rfl 15 (by decide) wq_1008 (v := .int (z7 0 15)) rfl dX11_types_24 ?_
  refine qtop (x' := 9) f7_0_15 ?_
  refine lv_iconst (v := 1) hx hb dX11_types_27 (by decide) ?_
  refine lv_iadd hx hb dX11_types_28 ?_
  refine qtop (x' := 10) (by decide) ?_
  refine qf_put hx hb hts inX11 tyX11 tyX11_ok nmX11 hown hK hP hS qw_Ai (q0 := 0) (by decide) (hgM_0 ca o) rfl 15 (by decide) wq_1008 rfl (x := 10) 15 rfl rfl rfl (Nat.le_of_ble_eq_true rfl) dX11_types_29 (fun H locs hP hS => ?_)
  obtain ⟨z8, hz8⟩ : ∃ t : Nat → Nat → Int32, t = (qu z7 0 15 10) := ⟨_, rfl⟩
  rw [← hz8] at hP
  have g8 : ∀ k : Nat, (k ≠ 0) → (k ≠ 12) → z8 k = z k := by rw [hz8]; exact (fun (k : Nat) (h0 : k ≠ 0) (h1 : k ≠ 12) => by simp only [qu_ne h0]; exact g7 k h0 h1)
  have f8_0_15 : z8 0 15 = 10 := by rw [hz8]; exact rfl
  refine lv_iinc (v := 1) (lv' := [(2, .int 1), (0, .ref (o + 0)), (1, .int a1)]) hx hb dX11_types_32 hl (k := 0) rfl (by decide) (by decide) rfl (fun ls hl => ?_)
  refine lv_goto (tgt := 2) hx hb dX11_types_35 (by decide) ?_
  refine lv_iload_n hx hb dX11_types_2 rfl (lv_at hl 0 rfl) ?_
  refine lv_if_lt (tgt := 38) hx hb dX11_types_3 (by decide) (fun q => absurd q (by decide)) (fun _ => ?_)
  refine lv_aload_n hx hb dX11_types_6 rfl (lv_at hl 1 rfl) ?_
  refine qf_get hx hb hts inX11 hown hK hP (q0 := 0) (by decide) (hgM_0 ca o) rfl 14 (by decide) wq_1007 (v := .ref (o + 12)) rfl dX11_types_7 ?_
  refine lv_aload_n hx hb dX11_types_10 rfl (lv_at hl 1 rfl) ?_
  refine qf_get hx hb hts inX11 hown hK hP (q0 := 0) (by decide) (hgM_0 ca o) rfl 15 (by decide) wq_1008 (v := .int (z8 0 15)) rfl dX11_types_11 ?_
  refine qtop (x' := 10) f8_0_15 ?_
  refine lv_iload_n hx hb dX11_types_14 rfl (lv_at hl 2 rfl) ?_
  refine lv_bipush (v := 8) hx hb dX11_types_15 (by decide) ?_
  refine lv_iload_n hx hb dX11_types_17 rfl (lv_at hl 0 rfl) ?_
  refine lv_imul hx hb dX11_types_18 ?_
  refine qtop (x' := 8) (by decide) ?_
  refine lv_ishr hx hb dX11_types_19 ?_
  refine lv_topi (fun x9 e9 => ?_)
  refine lv_i2b hx hb dX11_types_20 rfl ?_
  refine lv_topi (fun x10 e10 => ?_)
  refine qa_bast hx hb hK hP hS qw_Ai (q0 := 12) (by decide) 3 (N := 260) (hgM_12 ca o) rfl (gi_in (by decide) (by decide)) dX11_types_21 (fun H locs hP hS => ?_)
  obtain ⟨z11, hz11⟩ : ∃ t : Nat → Nat → Int32, t = (qu z8 12 ((10 : Int32).toNatClampNeg) (vp_nar .byte x10)) := ⟨_, rfl⟩
  rw [← hz11] at hP
  have g11 : ∀ k : Nat, (k ≠ 0) → (k ≠ 12) → z11 k = z k := by rw [hz11]; exact (fun (k : Nat) (h0 : k ≠ 0) (h1 : k ≠ 12) => by simp only [qu_ne h1]; exact g8 k h0 h1)
  have f11_0_15 : z11 0 15 = 10 := by rw [hz11]; exact f8_0_15
  refine lv_aload_n hx hb dX11_types_22 rfl (lv_at hl 1 rfl) ?_
  refine lv_aload_n hx hb dX11_types_23 rfl (lv_at hl 1 rfl) ?_
  refine qf_get hx hb hts inX11 hown hK hP (q0 := 0) (by decide) (hgM_0 ca o) rfl 15 (by decide) wq_1008 (v := .int (z11 0 15)) rfl dX11_types_24 ?_
  refine qtop (x' := 10) f11_0_15 ?_
  refine lv_iconst (v := 1) hx hb dX11_types_27 (by decide) ?_
  refine lv_iadd hx hb dX11_types_28 ?_
  refine qtop (x' := 11) (by decide) ?_
  refine qf_put hx hb hts inX11 tyX11 tyX11_ok nmX11 hown hK hP hS qw_Ai (q0 := 0) (by decide) (hgM_0 ca o) rfl 15 (by decide) wq_1008 rfl (x := 11) 15 rfl rfl rfl (Nat.le_of_ble_eq_true rfl) dX11_types_29 (fun H locs hP hS => ?_)
  obtain ⟨z12, hz12⟩ : ∃ t : Nat → Nat → Int32, t = (qu z11 0 15 11) := ⟨_, rfl⟩
  rw [← hz12] at hP
  have g12 : ∀ k : Nat, (k ≠ 0) → (k ≠ 12) → z12 k = z k := by rw [hz12]; exact (fun (k : Nat) (h0 : k ≠ 0) (h1 : k ≠ 12) => by simp only [qu_ne h0]; exact g11 k h0 h1)
  have f12_0_15 : z12 0 15 = 11 := by rw [hz12]; exact rfl
  refine lv_iinc (v := 0) (lv' := [(2, .int 0), (0, .ref (o + 0)), (1, .int a1)]) hx hb dX11_types_32 hl (k := 0) rfl (by decide) (by decide) rfl (fun ls hl => ?_)
  refine lv_goto (tgt := 2) hx hb dX11_types_35 (by decide) ?_
  refine lv_iload_n hx hb dX11_types_2 rfl (lv_at hl 0 rfl) ?_
  refine lv_if_lt (tgt := 38) hx hb dX11_types_3 (by decide) (fun q => absurd q (by decide)) (fun _ => ?_)
  refine lv_aload_n hx hb dX11_types_6 rfl (lv_at hl 1 rfl) ?_
  refine qf_get hx hb hts inX11 hown hK hP (q0 := 0) (by decide) (hgM_0 ca o) rfl 14 (by decide) wq_1007 (v := .ref (o + 12)) rfl dX11_types_7 ?_
  refine lv_aload_n hx hb dX11_types_10 rfl (lv_at hl 1 rfl) ?_
  refine qf_get hx hb hts inX11 hown hK hP (q0 := 0) (by decide) (hgM_0 ca o) rfl 15 (by decide) wq_1008 (v := .int (z12 0 15)) rfl dX11_types_11 ?_
  refine qtop (x' := 11) f12_0_15 ?_
  refine lv_iload_n hx hb dX11_types_14 rfl (lv_at hl 2 rfl) ?_
  refine lv_bipush (v := 8) hx hb dX11_types_15 (by decide) ?_
  refine lv_iload_n hx hb dX11_types_17 rfl (lv_at hl 0 rfl) ?_
  refine lv_imul hx hb dX11_types_18 ?_
  refine qtop (x' := 0) (by decide) ?_
  refine lv_ishr hx hb dX11_types_19 ?_
  refine lv_topi (fun x13 e13 => ?_)
  refine lv_i2b hx hb dX11_types_20 rfl ?_
  refine lv_topi (fun x14 e14 => ?_)
  refine qa_bast hx hb hK hP hS qw_Ai (q0 := 12) (by decide) 3 (N := 260) (hgM_12 ca o) rfl (gi_in (by decide) (by decide)) dX11_types_21 (fun H locs hP hS => ?_)
  obtain ⟨z15, hz15⟩ : ∃ t : Nat → Nat → Int32, t = (qu z12 12 ((11 : Int32).toNatClampNeg) (vp_nar .byte x14)) := ⟨_, rfl⟩
  rw [← hz15] at hP
  have g15 : ∀ k : Nat, (k ≠ 0) → (k ≠ 12) → z15 k = z k := by rw [hz15]; exact (fun (k : Nat) (h0 : k ≠ 0) (h1 : k ≠ 12) => by simp only [qu_ne h1]; exact g12 k h0 h1)
  have f15_0_15 : z15 0 15 = 11 := by rw [hz15]; exact f12_0_15
  refine lv_aload_n hx hb dX11_types_22 rfl (lv_at hl 1 rfl) ?_
  refine lv_aload_n hx hb dX11_types_23 rfl (lv_at hl 1 rfl) ?_
  refine qf_get hx hb hts inX11 hown hK hP (q0 := 0) (by decide) (hgM_0 ca o) rfl 15 (by decide) wq_1008 (v := .int (z15 0 15)) rfl dX11_types_24 ?_
  refine qtop (x' := 11) f15_0_15 ?_
  refine lv_iconst (v := 1) hx hb dX11_types_27 (by decide) ?_
  refine lv_iadd hx hb dX11_types_28 ?_
  refine qtop (x' := 12) (by decide) ?_
  refine qf_put hx hb hts inX11 tyX11 tyX11_ok nmX11 hown hK hP hS qw_Ai (q0 := 0) (by decide) (hgM_0 ca o) rfl 15 (by decide) wq_1008 rfl (x := 12) 15 rfl rfl rfl (Nat.le_of_ble_eq_true rfl) dX11_types_29 (fun H locs hP hS => ?_)
  obtain ⟨z16, hz16⟩ : ∃ t : Nat → Nat → Int32, t = (qu z15 0 15 12) := ⟨_, rfl⟩
  rw [← hz16] at hP
  have g16 : ∀ k : Nat, (k ≠ 0) → (k ≠ 12) → z16 k = z k := by rw [hz16]; exact (fun (k : Nat) (h0 : k ≠ 0) (h1 : k ≠ 12) => by simp only [qu_ne h0]; exact g15 k h0 h1)
  have f16_0_15 : z16 0 15 = 12 := by rw [hz16]; exact rfl
  refine lv_iinc (v := (-1)) (lv' := [(2, .int ((-1))), (0, .ref (o + 0)), (1, .int a1)]) hx hb dX11_types_32 hl (k := 0) rfl (by decide) (by decide) rfl (fun ls hl => ?_)
  refine lv_goto (tgt := 2) hx hb dX11_types_35 (by decide) ?_
  refine lv_iload_n hx hb dX11_types_2 rfl (lv_at hl 0 rfl) ?_
  refine lv_if_lt (tgt := 38) hx hb dX11_types_3 (by decide) (fun _ => ?_) (fun q => absurd (by decide) q)
  exact W.vret hx hb hr (fun t ht hW => ⟨⟨(z16, y), rfl, ⟨(fun (k : Nat) (h0 : k ≠ 0) (h1 : k ≠ 12) => g16 k h0 h1), rfl, (f16_0_15)⟩, by rw [ht]; exact hP, va_K.moved hW.alike hK⟩, hS.F ht⟩) hS.2.2 dX11_types_38

set_option maxRecDepth 100000 in
set_option maxHeartbeats 4000000 in
theorem m1_types12 (l : Launch) (D : va_G) (ca : Nat → ClassId) (o : Nat) (z : Nat → Nat → Int32) (y : Nat → Nat → Int64) (a1 : Int32) (h0_15 : z 0 15 = 12) : qM l yX11_types cX11_types 3 none 1 60 (qPre D vwCl (qT6 ca) o 41 (qG (GM ca o) z y) [.ref (o + 0), .int a1]) (va_Qv (fun u => (∀ k : Nat, (k ≠ 0) → (k ≠ 12) → u.1 k = z k) ∧ u.2 = y ∧ u.1 0 15 = 16) (qB D vwCl (qT6 ca) o 41 (fun u : qZ => qG (GM ca o) u.1 u.2)) (qw_A o 41)) (qw_A o 41) := by
  refine Met.ofW (cc := cX11_types) (maxL := 3) (ret := none) (by decide) rfl ?_
  intro p e s m args below meth c s₁ B hml hv
  obtain ⟨rfl, hP, hK⟩ := hv
  have hx := B.exec
  have hb := B.bytes
  have hr := B.returns
  have hts0 := atoms_spec (ws := Cond.code yX11_types cX11_types 3 none :: qtbl) B.pre
  have hts : ∀ w ∈ qtbl, w.before _ s = true := fun w h => hts0 w (List.mem_cons_of_mem _ h)
  have hown : s.vm.findClass RX11 = some m.cls := findClass_of_methodNamed B.named
  have hlocks := B.notSynchronized
  have hz0 : (0 : Int32).toInt = 0 := rfl
  have hS : va_S (qw_A o 41) s.heap s.heap [] := va_S.rf
  have hl := lv_entry ([.ref (o + 0), .int a1]) (n := 3) (Nat.le_of_ble_eq_true rfl)
  rw [lg_entry_eq]
  generalize (lg_sl ([.ref (o + 0), .int a1]) ++ List.replicate (3 - (lg_sl ([.ref (o + 0), .int a1])).length) Slot.unset).toArray = ls at hl ⊢
  have hl : lv_has ls 3 [(0, .ref (o + 0)), (1, .int a1)] := hl
  refine lv_iconst (v := 3) hx hb dX11_types_0 (by decide) ?_
  refine lv_istore_n (lv' := [(2, .int 3), (0, .ref (o + 0)), (1, .int a1)]) hx hb dX11_types_1 rfl hl (by decide) rfl (fun ls hl => ?_)
  refine lv_iload_n hx hb dX11_types_2 rfl (lv_at hl 0 rfl) ?_
  refine lv_if_lt (tgt := 38) hx hb dX11_types_3 (by decide) (fun q => absurd q (by decide)) (fun _ => ?_)
  refine lv_aload_n hx hb dX11_types_6 rfl (lv_at hl 1 rfl) ?_
  refine qf_get hx hb hts inX11 hown hK hP (q0 := 0) (by decide) (hgM_0 ca o) rfl 14 (by decide) wq_1007 (v := .ref (o + 12)) rfl dX11_types_7 ?_
  refine lv_aload_n hx hb dX11_types_10 rfl (lv_at hl 1 rfl) ?_
  refine qf_get hx hb hts inX11 hown hK hP (q0 := 0) (by decide) (hgM_0 ca o) rfl 15 (by decide) wq_1008 (v := .int (z 0 15)) rfl dX11_types_11 ?_
  refine qtop (x' := 12) h0_15 ?_
  refine lv_iload_n hx hb dX11_types_14 rfl (lv_at hl 2 rfl) ?_
  refine lv_bipush (v := 8) hx hb dX11_types_15 (by decide) ?_
  refine lv_iload_n hx hb dX11_types_17 rfl (lv_at hl 0 rfl) ?_
  refine lv_imul hx hb dX11_types_18 ?_
  refine qtop (x' := 24) (by decide) ?_
  refine lv_ishr hx hb dX11_types_19 ?_
  refine lv_topi (fun x1 e1 => ?_)
  refine lv_i2b hx hb dX11_types_20 rfl ?_
  refine lv_topi (fun x2 e2 => ?_)
  refine qa_bast hx hb hK hP hS qw_Ai (q0 := 12) (by decide) 3 (N := 260) (hgM_12 ca o) rfl (gi_in (by decide) (by decide)) dX11_types_21 (fun H locs hP hS => ?_)
  obtain ⟨z3, hz3⟩ : ∃ t : Nat → Nat → Int32, t = (qu z 12 ((12 : Int32).toNatClampNeg) (vp_nar .byte x2)) := ⟨_, rfl⟩
  rw [← hz3] at hP
  have g3 : ∀ k : Nat, (k ≠ 0) → (k ≠ 12) → z3 k = z k := by rw [hz3]; exact (fun (k : Nat) (h0 : k ≠ 0) (h1 : k ≠ 12) => by simp only [qu_ne h1])
  have f3_0_15 : z3 0 15 = 12 := by rw [hz3]; exact h0_15
  refine lv_aload_n hx hb dX11_types_22 rfl (lv_at hl 1 rfl) ?_
  refine lv_aload_n hx hb dX11_types_23 rfl (lv_at hl 1 rfl) ?_
  refine qf_get hx hb hts inX11 hown hK hP (q0 := 0) (by decide) (hgM_0 ca o) rfl 15 (by decide) wq_1008 (v := .int (z3 0 15)) rfl dX11_types_24 ?_
  refine qtop (x' := 12) f3_0_15 ?_
  refine lv_iconst (v := 1) hx hb dX11_types_27 (by decide) ?_
  refine lv_iadd hx hb dX11_types_28 ?_
  refine qtop (x' := 13) (by decide) ?_
  refine qf_put hx hb hts inX11 tyX11 tyX11_ok nmX11 hown hK hP hS qw_Ai (q0 := 0) (by decide) (hgM_0 ca o) rfl 15 (by decide) wq_1008 rfl (x := 13) 15 rfl rfl rfl (Nat.le_of_ble_eq_true rfl) dX11_types_29 (fun H locs hP hS => ?_)
  obtain ⟨z4, hz4⟩ : ∃ t : Nat → Nat → Int32, t = (qu z3 0 15 13) := ⟨_, rfl⟩
  rw [← hz4] at hP
  have g4 : ∀ k : Nat, (k ≠ 0) → (k ≠ 12) → z4 k = z k := by rw [hz4]; exact (fun (k : Nat) (h0 : k ≠ 0) (h1 : k ≠ 12) => by simp only [qu_ne h0]; exact g3 k h0 h1)
  have f4_0_15 : z4 0 15 = 13 := by rw [hz4]; exact rfl
  refine lv_iinc (v := 2) (lv' := [(2, .int 2), (0, .ref (o + 0)), (1, .int a1)]) hx hb dX11_types_32 hl (k := 0) rfl (by decide) (by decide) rfl (fun ls hl => ?_)
  refine lv_goto (tgt := 2) hx hb dX11_types_35 (by decide) ?_
  refine lv_iload_n hx hb dX11_types_2 rfl (lv_at hl 0 rfl) ?_
  refine lv_if_lt (tgt := 38) hx hb dX11_types_3 (by decide) (fun q => absurd q (by decide)) (fun _ => ?_)
  refine lv_aload_n hx hb dX11_types_6 rfl (lv_at hl 1 rfl) ?_
  refine qf_get hx hb hts inX11 hown hK hP (q0 := 0) (by decide) (hgM_0 ca o) rfl 14 (by decide) wq_1007 (v := .ref (o + 12)) rfl dX11_types_7 ?_
  refine lv_aload_n hx hb dX11_types_10 rfl (lv_at hl 1 rfl) ?_
  refine qf_get hx hb hts inX11 hown hK hP (q0 := 0) (by decide) (hgM_0 ca o) rfl 15 (by decide) wq_1008 (v := .int (z4 0 15)) rfl dX11_types_11 ?_
  refine qtop (x' := 13) f4_0_15 ?_
  refine lv_iload_n hx hb dX11_types_14 rfl (lv_at hl 2 rfl) ?_
  refine lv_bipush (v := 8) hx hb dX11_types_15 (by decide) ?_
  refine lv_iload_n hx hb dX11_types_17 rfl (lv_at hl 0 rfl) ?_
  refine lv_imul hx hb dX11_types_18 ?_
  refine qtop (x' := 16) (by decide) ?_
  refine lv_ishr hx hb dX11_types_19 ?_
  refine lv_topi (fun x5 e5 => ?_)
  refine lv_i2b hx hb dX11_types_20 rfl ?_
  refine lv_topi (fun x6 e6 => ?_)
  refine qa_bast hx hb hK hP hS qw_Ai (q0 := 12) (by decide) 3 (N := 260) (hgM_12 ca o) rfl (gi_in (by decide) (by decide)) dX11_types_21 (fun H locs hP hS => ?_)
  obtain ⟨z7, hz7⟩ : ∃ t : Nat → Nat → Int32, t = (qu z4 12 ((13 : Int32).toNatClampNeg) (vp_nar .byte x6)) := ⟨_, rfl⟩
  rw [← hz7] at hP
  have g7 : ∀ k : Nat, (k ≠ 0) → (k ≠ 12) → z7 k = z k := by rw [hz7]; exact (fun (k : Nat) (h0 : k ≠ 0) (h1 : k ≠ 12) => by simp only [qu_ne h1]; exact g4 k h0 h1)
  have f7_0_15 : z7 0 15 = 13 := by rw [hz7]; exact f4_0_15
  refine lv_aload_n hx hb dX11_types_22 rfl (lv_at hl 1 rfl) ?_
  refine lv_aload_n hx hb dX11_types_23 rfl (lv_at hl 1 rfl) ?_
  refine qf_get hx hb hts inX11 hown hK hP (q0 := 0) (by decide) (hgM_0 ca o) rfl 15 (by decide) wq_1008 (v := .int (z7 0 15)) rfl dX11_types_24 ?_
  refine qtop (x' := 13) f7_0_15 ?_
  refine lv_iconst (v := 1) hx hb dX11_types_27 (by decide) ?_
  refine lv_iadd hx hb dX11_types_28 ?_
  refine qtop (x' := 14) (by decide) ?_
  refine qf_put hx hb hts inX11 tyX11 tyX11_ok nmX11 hown hK hP hS qw_Ai (q0 := 0) (by decide) (hgM_0 ca o) rfl 15 (by decide) wq_1008 rfl (x := 14) 15 rfl rfl rfl (Nat.le_of_ble_eq_true rfl) dX11_types_29 (fun H locs hP hS => ?_)
  obtain ⟨z8, hz8⟩ : ∃ t : Nat → Nat → Int32, t = (qu z7 0 15 14) := ⟨_, rfl⟩
  rw [← hz8] at hP
  have g8 : ∀ k : Nat, (k ≠ 0) → (k ≠ 12) → z8 k = z k := by rw [hz8]; exact (fun (k : Nat) (h0 : k ≠ 0) (h1 : k ≠ 12) => by simp only [qu_ne h0]; exact g7 k h0 h1)
  have f8_0_15 : z8 0 15 = 14 := by rw [hz8]; exact rfl
  refine lv_iinc (v := 1) (lv' := [(2, .int 1), (0, .ref (o + 0)), (1, .int a1)]) hx hb dX11_types_32 hl (k := 0) rfl (by decide) (by decide) rfl (fun ls hl => ?_)
  refine lv_goto (tgt := 2) hx hb dX11_types_35 (by decide) ?_
  refine lv_iload_n hx hb dX11_types_2 rfl (lv_at hl 0 rfl) ?_
  refine lv_if_lt (tgt := 38) hx hb dX11_types_3 (by decide) (fun q => absurd q (by decide)) (fun _ => ?_)
  refine lv_aload_n hx hb dX11_types_6 rfl (lv_at hl 1 rfl) ?_
  refine qf_get hx hb hts inX11 hown hK hP (q0 := 0) (by decide) (hgM_0 ca o) rfl 14 (by decide) wq_1007 (v := .ref (o + 12)) rfl dX11_types_7 ?_
  refine lv_aload_n hx hb dX11_types_10 rfl (lv_at hl 1 rfl) ?_
  refine qf_get hx hb hts inX11 hown hK hP (q0 := 0) (by decide) (hgM_0 ca o) rfl 15 (by decide) wq_1008 (v := .int (z8 0 15)) rfl dX11_types_11 ?_
  refine qtop (x' := 14) f8_0_15 ?_
  refine lv_iload_n hx hb dX11_types_14 rfl (lv_at hl 2 rfl) ?_
  refine lv_bipush (v := 8) hx hb dX11_types_15 (by decide) ?_
  refine lv_iload_n hx hb dX11_types_17 rfl (lv_at hl 0 rfl) ?_
  refine lv_imul hx hb dX11_types_18 ?_
  refine qtop (x' := 8) (by decide) ?_
  refine lv_ishr hx hb dX11_types_19 ?_
  refine lv_topi (fun x9 e9 => ?_)
  refine lv_i2b hx hb dX11_types_20 rfl ?_
  refine lv_topi (fun x10 e10 => ?_)
  refine qa_bast hx hb hK hP hS qw_Ai (q0 := 12) (by decide) 3 (N := 260) (hgM_12 ca o) rfl (gi_in (by decide) (by decide)) dX11_types_21 (fun H locs hP hS => ?_)
  obtain ⟨z11, hz11⟩ : ∃ t : Nat → Nat → Int32, t = (qu z8 12 ((14 : Int32).toNatClampNeg) (vp_nar .byte x10)) := ⟨_, rfl⟩
  rw [← hz11] at hP
  have g11 : ∀ k : Nat, (k ≠ 0) → (k ≠ 12) → z11 k = z k := by rw [hz11]; exact (fun (k : Nat) (h0 : k ≠ 0) (h1 : k ≠ 12) => by simp only [qu_ne h1]; exact g8 k h0 h1)
  have f11_0_15 : z11 0 15 = 14 := by rw [hz11]; exact f8_0_15
  refine lv_aload_n hx hb dX11_types_22 rfl (lv_at hl 1 rfl) ?_
  refine lv_aload_n hx hb dX11_types_23 rfl (lv_at hl 1 rfl) ?_
  refine qf_get hx hb hts inX11 hown hK hP (q0 := 0) (by decide) (hgM_0 ca o) rfl 15 (by decide) wq_1008 (v := .int (z11 0 15)) rfl dX11_types_24 ?_
  refine qtop (x' := 14) f11_0_15 ?_
  refine lv_iconst (v := 1) hx hb dX11_types_27 (by decide) ?_
  refine lv_iadd hx hb dX11_types_28 ?_
  refine qtop (x' := 15) (by decide) ?_
  refine qf_put hx hb hts inX11 tyX11 tyX11_ok nmX11 hown hK hP hS qw_Ai (q0 := 0) (by decide) (hgM_0 ca o) rfl 15 (by decide) wq_1008 rfl (x := 15) 15 rfl rfl rfl (Nat.le_of_ble_eq_true rfl) dX11_types_29 (fun H locs hP hS => ?_)
  obtain ⟨z12, hz12⟩ : ∃ t : Nat → Nat → Int32, t = (qu z11 0 15 15) := ⟨_, rfl⟩
  rw [← hz12] at hP
  have g12 : ∀ k : Nat, (k ≠ 0) → (k ≠ 12) → z12 k = z k := by rw [hz12]; exact (fun (k : Nat) (h0 : k ≠ 0) (h1 : k ≠ 12) => by simp only [qu_ne h0]; exact g11 k h0 h1)
  have f12_0_15 : z12 0 15 = 15 := by rw [hz12]; exact rfl
  refine lv_iinc (v := 0) (lv' := [(2, .int 0), (0, .ref (o + 0)), (1, .int a1)]) hx hb dX11_types_32 hl (k := 0) rfl (by decide) (by decide) rfl (fun ls hl => ?_)
  refine lv_goto (tgt := 2) hx hb dX11_types_35 (by decide) ?_
  refine lv_iload_n hx hb dX11_types_2 rfl (lv_at hl 0 rfl) ?_
  refine lv_if_lt (tgt := 38) hx hb dX11_types_3 (by decide) (fun q => absurd q (by decide)) (fun _ => ?_)
  refine lv_aload_n hx hb dX11_types_6 rfl (lv_at hl 1 rfl) ?_
  refine qf_get hx hb hts inX11 hown hK hP (q0 := 0) (by decide) (hgM_0 ca o) rfl 14 (by decide) wq_1007 (v := .ref (o + 12)) rfl dX11_types_7 ?_
  refine lv_aload_n hx hb dX11_types_10 rfl (lv_at hl 1 rfl) ?_
  refine qf_get hx hb hts inX11 hown hK hP (q0 := 0) (by decide) (hgM_0 ca o) rfl 15 (by decide) wq_1008 (v := .int (z12 0 15)) rfl dX11_types_11 ?_
  refine qtop (x' := 15) f12_0_15 ?_
  refine lv_iload_n hx hb dX11_types_14 rfl (lv_at hl 2 rfl) ?_
  refine lv_bipush (v := 8) hx hb dX11_types_15 (by decide) ?_
  refine lv_iload_n hx hb dX11_types_17 rfl (lv_at hl 0 rfl) ?_
  refine lv_imul hx hb dX11_types_18 ?_
  refine qtop (x' := 0) (by decide) ?_
  refine lv_ishr hx hb dX11_types_19 ?_
  refine lv_topi (fun x13 e13 => ?_)
  refine lv_i2b hx hb dX11_types_20 rfl ?_
  refine lv_topi (fun x14 e14 => ?_)
  refine qa_bast hx hb hK hP hS qw_Ai (q0 := 12) (by decide) 3 (N := 260) (hgM_12 ca o) rfl (gi_in (by decide) (by decide)) dX11_types_21 (fun H locs hP hS => ?_)
  obtain ⟨z15, hz15⟩ : ∃ t : Nat → Nat → Int32, t = (qu z12 12 ((15 : Int32).toNatClampNeg) (vp_nar .byte x14)) := ⟨_, rfl⟩
  rw [← hz15] at hP
  have g15 : ∀ k : Nat, (k ≠ 0) → (k ≠ 12) → z15 k = z k := by rw [hz15]; exact (fun (k : Nat) (h0 : k ≠ 0) (h1 : k ≠ 12) => by simp only [qu_ne h1]; exact g12 k h0 h1)
  have f15_0_15 : z15 0 15 = 15 := by rw [hz15]; exact f12_0_15
  refine lv_aload_n hx hb dX11_types_22 rfl (lv_at hl 1 rfl) ?_
  refine lv_aload_n hx hb dX11_types_23 rfl (lv_at hl 1 rfl) ?_
  refine qf_get hx hb hts inX11 hown hK hP (q0 := 0) (by decide) (hgM_0 ca o) rfl 15 (by decide) wq_1008 (v := .int (z15 0 15)) rfl dX11_types_24 ?_
  refine qtop (x' := 15) f15_0_15 ?_
  refine lv_iconst (v := 1) hx hb dX11_types_27 (by decide) ?_
  refine lv_iadd hx hb dX11_types_28 ?_
  refine qtop (x' := 16) (by decide) ?_
  refine qf_put hx hb hts inX11 tyX11 tyX11_ok nmX11 hown hK hP hS qw_Ai (q0 := 0) (by decide) (hgM_0 ca o) rfl 15 (by decide) wq_1008 rfl (x := 16) 15 rfl rfl rfl (Nat.le_of_ble_eq_true rfl) dX11_types_29 (fun H locs hP hS => ?_)
  obtain ⟨z16, hz16⟩ : ∃ t : Nat → Nat → Int32, t = (qu z15 0 15 16) := ⟨_, rfl⟩
  rw [← hz16] at hP
  have g16 : ∀ k : Nat, (k ≠ 0) → (k ≠ 12) → z16 k = z k := by rw [hz16]; exact (fun (k : Nat) (h0 : k ≠ 0) (h1 : k ≠ 12) => by simp only [qu_ne h0]; exact g15 k h0 h1)
  have f16_0_15 : z16 0 15 = 16 := by rw [hz16]; exact rfl
  refine lv_iinc (v := (-1)) (lv' := [(2, .int ((-1))), (0, .ref (o + 0)), (1, .int a1)]) hx hb dX11_types_32 hl (k := 0) rfl (by decide) (by decide) rfl (fun ls hl => ?_)
  refine lv_goto (tgt := 2) hx hb dX11_types_35 (by decide) ?_
  refine lv_iload_n hx hb dX11_types_2 rfl (lv_at hl 0 rfl) ?_
  refine lv_if_lt (tgt := 38) hx hb dX11_types_3 (by decide) (fun _ => ?_) (fun q => absurd (by decide) q)
  exact W.vret hx hb hr (fun t ht hW => ⟨⟨(z16, y), rfl, ⟨(fun (k : Nat) (h0 : k ≠ 0) (h1 : k ≠ 12) => g16 k h0 h1), rfl, (f16_0_15)⟩, by rw [ht]; exact hP, va_K.moved hW.alike hK⟩, hS.F ht⟩) hS.2.2 dX11_types_38

set_option maxRecDepth 100000 in
set_option maxHeartbeats 4000000 in
theorem m1_types16 (l : Launch) (D : va_G) (ca : Nat → ClassId) (o : Nat) (z : Nat → Nat → Int32) (y : Nat → Nat → Int64) (a1 : Int32) (h0_15 : z 0 15 = 16) : qM l yX11_types cX11_types 3 none 1 60 (qPre D vwCl (qT6 ca) o 41 (qG (GM ca o) z y) [.ref (o + 0), .int a1]) (va_Qv (fun u => (∀ k : Nat, (k ≠ 0) → (k ≠ 12) → u.1 k = z k) ∧ u.2 = y ∧ u.1 0 15 = 20) (qB D vwCl (qT6 ca) o 41 (fun u : qZ => qG (GM ca o) u.1 u.2)) (qw_A o 41)) (qw_A o 41) := by
  refine Met.ofW (cc := cX11_types) (maxL := 3) (ret := none) (by decide) rfl ?_
  intro p e s m args below meth c s₁ B hml hv
  obtain ⟨rfl, hP, hK⟩ := hv
  have hx := B.exec
  have hb := B.bytes
  have hr := B.returns
  have hts0 := atoms_spec (ws := Cond.code yX11_types cX11_types 3 none :: qtbl) B.pre
  have hts : ∀ w ∈ qtbl, w.before _ s = true := fun w h => hts0 w (List.mem_cons_of_mem _ h)
  have hown : s.vm.findClass RX11 = some m.cls := findClass_of_methodNamed B.named
  have hlocks := B.notSynchronized
  have hz0 : (0 : Int32).toInt = 0 := rfl
  have hS : va_S (qw_A o 41) s.heap s.heap [] := va_S.rf
  have hl := lv_entry ([.ref (o + 0), .int a1]) (n := 3) (Nat.le_of_ble_eq_true rfl)
  rw [lg_entry_eq]
  generalize (lg_sl ([.ref (o + 0), .int a1]) ++ List.replicate (3 - (lg_sl ([.ref (o + 0), .int a1])).length) Slot.unset).toArray = ls at hl ⊢
  have hl : lv_has ls 3 [(0, .ref (o + 0)), (1, .int a1)] := hl
  refine lv_iconst (v := 3) hx hb dX11_types_0 (by decide) ?_
  refine lv_istore_n (lv' := [(2, .int 3), (0, .ref (o + 0)), (1, .int a1)]) hx hb dX11_types_1 rfl hl (by decide) rfl (fun ls hl => ?_)
  refine lv_iload_n hx hb dX11_types_2 rfl (lv_at hl 0 rfl) ?_
  refine lv_if_lt (tgt := 38) hx hb dX11_types_3 (by decide) (fun q => absurd q (by decide)) (fun _ => ?_)
  refine lv_aload_n hx hb dX11_types_6 rfl (lv_at hl 1 rfl) ?_
  refine qf_get hx hb hts inX11 hown hK hP (q0 := 0) (by decide) (hgM_0 ca o) rfl 14 (by decide) wq_1007 (v := .ref (o + 12)) rfl dX11_types_7 ?_
  refine lv_aload_n hx hb dX11_types_10 rfl (lv_at hl 1 rfl) ?_
  refine qf_get hx hb hts inX11 hown hK hP (q0 := 0) (by decide) (hgM_0 ca o) rfl 15 (by decide) wq_1008 (v := .int (z 0 15)) rfl dX11_types_11 ?_
  refine qtop (x' := 16) h0_15 ?_
  refine lv_iload_n hx hb dX11_types_14 rfl (lv_at hl 2 rfl) ?_
  refine lv_bipush (v := 8) hx hb dX11_types_15 (by decide) ?_
  refine lv_iload_n hx hb dX11_types_17 rfl (lv_at hl 0 rfl) ?_
  refine lv_imul hx hb dX11_types_18 ?_
  refine qtop (x' := 24) (by decide) ?_
  refine lv_ishr hx hb dX11_types_19 ?_
  refine lv_topi (fun x1 e1 => ?_)
  refine lv_i2b hx hb dX11_types_20 rfl ?_
  refine lv_topi (fun x2 e2 => ?_)
  refine qa_bast hx hb hK hP hS qw_Ai (q0 := 12) (by decide) 3 (N := 260) (hgM_12 ca o) rfl (gi_in (by decide) (by decide)) dX11_types_21 (fun H locs hP hS => ?_)
  obtain ⟨z3, hz3⟩ : ∃ t : Nat → Nat → Int32, t = (qu z 12 ((16 : Int32).toNatClampNeg) (vp_nar .byte x2)) := ⟨_, rfl⟩
  rw [← hz3] at hP
  have g3 : ∀ k : Nat, (k ≠ 0) → (k ≠ 12) → z3 k = z k := by rw [hz3]; exact (fun (k : Nat) (h0 : k ≠ 0) (h1 : k ≠ 12) => by simp only [qu_ne h1])
  have f3_0_15 : z3 0 15 = 16 := by rw [hz3]; exact h0_15
  refine lv_aload_n hx hb dX11_types_22 rfl (lv_at hl 1 rfl) ?_
  refine lv_aload_n hx hb dX11_types_23 rfl (lv_at hl 1 rfl) ?_
  refine qf_get hx hb hts inX11 hown hK hP (q0 := 0) (by decide) (hgM_0 ca o) rfl 15 (by decide) wq_1008 (v := .int (z3 0 15)) rfl dX11_types_24 ?_
  refine qtop (x' := 16) f3_0_15 ?_
  refine lv_iconst (v := 1) hx hb dX11_types_27 (by decide) ?_
  refine lv_iadd hx hb dX11_types_28 ?_
  refine qtop (x' := 17) (by decide) ?_
  refine qf_put hx hb hts inX11 tyX11 tyX11_ok nmX11 hown hK hP hS qw_Ai (q0 := 0) (by decide) (hgM_0 ca o) rfl 15 (by decide) wq_1008 rfl (x := 17) 15 rfl rfl rfl (Nat.le_of_ble_eq_true rfl) dX11_types_29 (fun H locs hP hS => ?_)
  obtain ⟨z4, hz4⟩ : ∃ t : Nat → Nat → Int32, t = (qu z3 0 15 17) := ⟨_, rfl⟩
  rw [← hz4] at hP
  have g4 : ∀ k : Nat, (k ≠ 0) → (k ≠ 12) → z4 k = z k := by rw [hz4]; exact (fun (k : Nat) (h0 : k ≠ 0) (h1 : k ≠ 12) => by simp only [qu_ne h0]; exact g3 k h0 h1)
  have f4_0_15 : z4 0 15 = 17 := by rw [hz4]; exact rfl
  refine lv_iinc (v := 2) (lv' := [(2, .int 2), (0, .ref (o + 0)), (1, .int a1)]) hx hb dX11_types_32 hl (k := 0) rfl (by decide) (by decide) rfl (fun ls hl => ?_)
  refine lv_goto (tgt := 2) hx hb dX11_types_35 (by decide) ?_
  refine lv_iload_n hx hb dX11_types_2 rfl (lv_at hl 0 rfl) ?_
  refine lv_if_lt (tgt := 38) hx hb dX11_types_3 (by decide) (fun q => absurd q (by decide)) (fun _ => ?_)
  refine lv_aload_n hx hb dX11_types_6 rfl (lv_at hl 1 rfl) ?_
  refine qf_get hx hb hts inX11 hown hK hP (q0 := 0) (by decide) (hgM_0 ca o) rfl 14 (by decide) wq_1007 (v := .ref (o + 12)) rfl dX11_types_7 ?_
  refine lv_aload_n hx hb dX11_types_10 rfl (lv_at hl 1 rfl) ?_
  refine qf_get hx hb hts inX11 hown hK hP (q0 := 0) (by decide) (hgM_0 ca o) rfl 15 (by decide) wq_1008 (v := .int (z4 0 15)) rfl dX11_types_11 ?_
  refine qtop (x' := 17) f4_0_15 ?_
  refine lv_iload_n hx hb dX11_types_14 rfl (lv_at hl 2 rfl) ?_
  refine lv_bipush (v := 8) hx hb dX11_types_15 (by decide) ?_
  refine lv_iload_n hx hb dX11_types_17 rfl (lv_at hl 0 rfl) ?_
  refine lv_imul hx hb dX11_types_18 ?_
  refine qtop (x' := 16) (by decide) ?_
  refine lv_ishr hx hb dX11_types_19 ?_
  refine lv_topi (fun x5 e5 => ?_)
  refine lv_i2b hx hb dX11_types_20 rfl ?_
  refine lv_topi (fun x6 e6 => ?_)
  refine qa_bast hx hb hK hP hS qw_Ai (q0 := 12) (by decide) 3 (N := 260) (hgM_12 ca o) rfl (gi_in (by decide) (by decide)) dX11_types_21 (fun H locs hP hS => ?_)
  obtain ⟨z7, hz7⟩ : ∃ t : Nat → Nat → Int32, t = (qu z4 12 ((17 : Int32).toNatClampNeg) (vp_nar .byte x6)) := ⟨_, rfl⟩
  rw [← hz7] at hP
  have g7 : ∀ k : Nat, (k ≠ 0) → (k ≠ 12) → z7 k = z k := by rw [hz7]; exact (fun (k : Nat) (h0 : k ≠ 0) (h1 : k ≠ 12) => by simp only [qu_ne h1]; exact g4 k h0 h1)
  have f7_0_15 : z7 0 15 = 17 := by rw [hz7]; exact f4_0_15
  refine lv_aload_n hx hb dX11_types_22 rfl (lv_at hl 1 rfl) ?_
  refine lv_aload_n hx hb dX11_types_23 rfl (lv_at hl 1 rfl) ?_
  refine qf_get hx hb hts inX11 hown hK hP (q0 := 0) (by decide) (hgM_0 ca o) rfl 15 (by decide) wq_1008 (v := .int (z7 0 15)) rfl dX11_types_24 ?_
  refine qtop (x' := 17) f7_0_15 ?_
  refine lv_iconst (v := 1) hx hb dX11_types_27 (by decide) ?_
  refine lv_iadd hx hb dX11_types_28 ?_
  refine qtop (x' := 18) (by decide) ?_
  refine qf_put hx hb hts inX11 tyX11 tyX11_ok nmX11 hown hK hP hS qw_Ai (q0 := 0) (by decide) (hgM_0 ca o) rfl 15 (by decide) wq_1008 rfl (x := 18) 15 rfl rfl rfl (Nat.le_of_ble_eq_true rfl) dX11_types_29 (fun H locs hP hS => ?_)
  obtain ⟨z8, hz8⟩ : ∃ t : Nat → Nat → Int32, t = (qu z7 0 15 18) := ⟨_, rfl⟩
  rw [← hz8] at hP
  have g8 : ∀ k : Nat, (k ≠ 0) → (k ≠ 12) → z8 k = z k := by rw [hz8]; exact (fun (k : Nat) (h0 : k ≠ 0) (h1 : k ≠ 12) => by simp only [qu_ne h0]; exact g7 k h0 h1)
  have f8_0_15 : z8 0 15 = 18 := by rw [hz8]; exact rfl
  refine lv_iinc (v := 1) (lv' := [(2, .int 1), (0, .ref (o + 0)), (1, .int a1)]) hx hb dX11_types_32 hl (k := 0) rfl (by decide) (by decide) rfl (fun ls hl => ?_)
  refine lv_goto (tgt := 2) hx hb dX11_types_35 (by decide) ?_
  refine lv_iload_n hx hb dX11_types_2 rfl (lv_at hl 0 rfl) ?_
  refine lv_if_lt (tgt := 38) hx hb dX11_types_3 (by decide) (fun q => absurd q (by decide)) (fun _ => ?_)
  refine lv_aload_n hx hb dX11_types_6 rfl (lv_at hl 1 rfl) ?_
  refine qf_get hx hb hts inX11 hown hK hP (q0 := 0) (by decide) (hgM_0 ca o) rfl 14 (by decide) wq_1007 (v := .ref (o + 12)) rfl dX11_types_7 ?_
  refine lv_aload_n hx hb dX11_types_10 rfl (lv_at hl 1 rfl) ?_
  refine qf_get hx hb hts inX11 hown hK hP (q0 := 0) (by decide) (hgM_0 ca o) rfl 15 (by decide) wq_1008 (v := .int (z8 0 15)) rfl dX11_types_11 ?_
  refine qtop (x' := 18) f8_0_15 ?_
  refine lv_iload_n hx hb dX11_types_14 rfl (lv_at hl 2 rfl) ?_
  refine lv_bipush (v := 8) hx hb dX11_types_15 (by decide) ?_
  refine lv_iload_n hx hb dX11_types_17 rfl (lv_at hl 0 rfl) ?_
  refine lv_imul hx hb dX11_types_18 ?_
  refine qtop (x' := 8) (by decide) ?_
  refine lv_ishr hx hb dX11_types_19 ?_
  refine lv_topi (fun x9 e9 => ?_)
  refine lv_i2b hx hb dX11_types_20 rfl ?_
  refine lv_topi (fun x10 e10 => ?_)
  refine qa_bast hx hb hK hP hS qw_Ai (q0 := 12) (by decide) 3 (N := 260) (hgM_12 ca o) rfl (gi_in (by decide) (by decide)) dX11_types_21 (fun H locs hP hS => ?_)
  obtain ⟨z11, hz11⟩ : ∃ t : Nat → Nat → Int32, t = (qu z8 12 ((18 : Int32).toNatClampNeg) (vp_nar .byte x10)) := ⟨_, rfl⟩
  rw [← hz11] at hP
  have g11 : ∀ k : Nat, (k ≠ 0) → (k ≠ 12) → z11 k = z k := by rw [hz11]; exact (fun (k : Nat) (h0 : k ≠ 0) (h1 : k ≠ 12) => by simp only [qu_ne h1]; exact g8 k h0 h1)
  have f11_0_15 : z11 0 15 = 18 := by rw [hz11]; exact f8_0_15
  refine lv_aload_n hx hb dX11_types_22 rfl (lv_at hl 1 rfl) ?_
  refine lv_aload_n hx hb dX11_types_23 rfl (lv_at hl 1 rfl) ?_
  refine qf_get hx hb hts inX11 hown hK hP (q0 := 0) (by decide) (hgM_0 ca o) rfl 15 (by decide) wq_1008 (v := .int (z11 0 15)) rfl dX11_types_24 ?_
  refine qtop (x' := 18) f11_0_15 ?_
  refine lv_iconst (v := 1) hx hb dX11_types_27 (by decide) ?_
  refine lv_iadd hx hb dX11_types_28 ?_
  refine qtop (x' := 19) (by decide) ?_
  refine qf_put hx hb hts inX11 tyX11 tyX11_ok nmX11 hown hK hP hS qw_Ai (q0 := 0) (by decide) (hgM_0 ca o) rfl 15 (by decide) wq_1008 rfl (x := 19) 15 rfl rfl rfl (Nat.le_of_ble_eq_true rfl) dX11_types_29 (fun H locs hP hS => ?_)
  obtain ⟨z12, hz12⟩ : ∃ t : Nat → Nat → Int32, t = (qu z11 0 15 19) := ⟨_, rfl⟩
  rw [← hz12] at hP
  have g12 : ∀ k : Nat, (k ≠ 0) → (k ≠ 12) → z12 k = z k := by rw [hz12]; exact (fun (k : Nat) (h0 : k ≠ 0) (h1 : k ≠ 12) => by simp only [qu_ne h0]; exact g11 k h0 h1)
  have f12_0_15 : z12 0 15 = 19 := by rw [hz12]; exact rfl
  refine lv_iinc (v := 0) (lv' := [(2, .int 0), (0, .ref (o + 0)), (1, .int a1)]) hx hb dX11_types_32 hl (k := 0) rfl (by decide) (by decide) rfl (fun ls hl => ?_)
  refine lv_goto (tgt := 2) hx hb dX11_types_35 (by decide) ?_
  refine lv_iload_n hx hb dX11_types_2 rfl (lv_at hl 0 rfl) ?_
  refine lv_if_lt (tgt := 38) hx hb dX11_types_3 (by decide) (fun q => absurd q (by decide)) (fun _ => ?_)
  refine lv_aload_n hx hb dX11_types_6 rfl (lv_at hl 1 rfl) ?_
  refine qf_get hx hb hts inX11 hown hK hP (q0 := 0) (by decide) (hgM_0 ca o) rfl 14 (by decide) wq_1007 (v := .ref (o + 12)) rfl dX11_types_7 ?_
  refine lv_aload_n hx hb dX11_types_10 rfl (lv_at hl 1 rfl) ?_
  refine qf_get hx hb hts inX11 hown hK hP (q0 := 0) (by decide) (hgM_0 ca o) rfl 15 (by decide) wq_1008 (v := .int (z12 0 15)) rfl dX11_types_11 ?_
  refine qtop (x' := 19) f12_0_15 ?_
  refine lv_iload_n hx hb dX11_types_14 rfl (lv_at hl 2 rfl) ?_
  refine lv_bipush (v := 8) hx hb dX11_types_15 (by decide) ?_
  refine lv_iload_n hx hb dX11_types_17 rfl (lv_at hl 0 rfl) ?_
  refine lv_imul hx hb dX11_types_18 ?_
  refine qtop (x' := 0) (by decide) ?_
  refine lv_ishr hx hb dX11_types_19 ?_
  refine lv_topi (fun x13 e13 => ?_)
  refine lv_i2b hx hb dX11_types_20 rfl ?_
  refine lv_topi (fun x14 e14 => ?_)
  refine qa_bast hx hb hK hP hS qw_Ai (q0 := 12) (by decide) 3 (N := 260) (hgM_12 ca o) rfl (gi_in (by decide) (by decide)) dX11_types_21 (fun H locs hP hS => ?_)
  obtain ⟨z15, hz15⟩ : ∃ t : Nat → Nat → Int32, t = (qu z12 12 ((19 : Int32).toNatClampNeg) (vp_nar .byte x14)) := ⟨_, rfl⟩
  rw [← hz15] at hP
  have g15 : ∀ k : Nat, (k ≠ 0) → (k ≠ 12) → z15 k = z k := by rw [hz15]; exact (fun (k : Nat) (h0 : k ≠ 0) (h1 : k ≠ 12) => by simp only [qu_ne h1]; exact g12 k h0 h1)
  have f15_0_15 : z15 0 15 = 19 := by rw [hz15]; exact f12_0_15
  refine lv_aload_n hx hb dX11_types_22 rfl (lv_at hl 1 rfl) ?_
  refine lv_aload_n hx hb dX11_types_23 rfl (lv_at hl 1 rfl) ?_
  refine qf_get hx hb hts inX11 hown hK hP (q0 := 0) (by decide) (hgM_0 ca o) rfl 15 (by decide) wq_1008 (v := .int (z15 0 15)) rfl dX11_types_24 ?_
  refine qtop (x' := 19) f15_0_15 ?_
  refine lv_iconst (v := 1) hx hb dX11_types_27 (by decide) ?_
  refine lv_iadd hx hb dX11_types_28 ?_
  refine qtop (x' := 20) (by decide) ?_
  refine qf_put hx hb hts inX11 tyX11 tyX11_ok nmX11 hown hK hP hS qw_Ai (q0 := 0) (by decide) (hgM_0 ca o) rfl 15 (by decide) wq_1008 rfl (x := 20) 15 rfl rfl rfl (Nat.le_of_ble_eq_true rfl) dX11_types_29 (fun H locs hP hS => ?_)
  obtain ⟨z16, hz16⟩ : ∃ t : Nat → Nat → Int32, t = (qu z15 0 15 20) := ⟨_, rfl⟩
  rw [← hz16] at hP
  have g16 : ∀ k : Nat, (k ≠ 0) → (k ≠ 12) → z16 k = z k := by rw [hz16]; exact (fun (k : Nat) (h0 : k ≠ 0) (h1 : k ≠ 12) => by simp only [qu_ne h0]; exact g15 k h0 h1)
  have f16_0_15 : z16 0 15 = 20 := by rw [hz16]; exact rfl
  refine lv_iinc (v := (-1)) (lv' := [(2, .int ((-1))), (0, .ref (o + 0)), (1, .int a1)]) hx hb dX11_types_32 hl (k := 0) rfl (by decide) (by decide) rfl (fun ls hl => ?_)
  refine lv_goto (tgt := 2) hx hb dX11_types_35 (by decide) ?_
  refine lv_iload_n hx hb dX11_types_2 rfl (lv_at hl 0 rfl) ?_
  refine lv_if_lt (tgt := 38) hx hb dX11_types_3 (by decide) (fun _ => ?_) (fun q => absurd (by decide) q)
  exact W.vret hx hb hr (fun t ht hW => ⟨⟨(z16, y), rfl, ⟨(fun (k : Nat) (h0 : k ≠ 0) (h1 : k ≠ 12) => g16 k h0 h1), rfl, (f16_0_15)⟩, by rw [ht]; exact hP, va_K.moved hW.alike hK⟩, hS.F ht⟩) hS.2.2 dX11_types_38

set_option maxRecDepth 100000 in
set_option maxHeartbeats 4000000 in
theorem m1_moved (l : Launch) (D : va_G) (ca : Nat → ClassId) (o : Nat) (z : Nat → Nat → Int32) (y : Nat → Nat → Int64) (a1 : Int32) (b0 : 0 ≤ (z 0 62).toInt) (b1 : (z 0 62).toInt < 249)  : qM l yX11_moved cX11_moved 4 (some .int) 1 60 (qPre D vwCl (qT6 ca) o 41 (qG (GM ca o) z y) [.ref (o + 0), .int a1, .int 0]) (va_Qi (fun r u => r = a1 ∧ (∀ k : Nat, (k ≠ 0) → (k ≠ 40) → u.1 k = z k) ∧ u.2 = y ∧ (u.1 0 62).toInt = (z 0 62).toInt + 1 ∧ (∀ j : Nat, j ≠ 62 → u.1 0 j = z 0 j)) (qB D vwCl (qT6 ca) o 41 (fun u : qZ => qG (GM ca o) u.1 u.2)) (qw_A o 41)) (qw_A o 41) := by
  refine Met.ofW (cc := cX11_moved) (maxL := 4) (ret := (some .int)) (by decide) rfl ?_
  intro p e s m args below meth c s₁ B hml hv
  obtain ⟨rfl, hP, hK⟩ := hv
  have hx := B.exec
  have hb := B.bytes
  have hr := B.returns
  have hts0 := atoms_spec (ws := Cond.code yX11_moved cX11_moved 4 (some .int) :: qtbl) B.pre
  have hts : ∀ w ∈ qtbl, w.before _ s = true := fun w h => hts0 w (List.mem_cons_of_mem _ h)
  have hown : s.vm.findClass RX11 = some m.cls := findClass_of_methodNamed B.named
  have hlocks := B.notSynchronized
  have hz0 : (0 : Int32).toInt = 0 := rfl
  have hS : va_S (qw_A o 41) s.heap s.heap [] := va_S.rf
  have hl := lv_entry ([.ref (o + 0), .int a1, .int 0]) (n := 4) (Nat.le_of_ble_eq_true rfl)
  rw [lg_entry_eq]
  generalize (lg_sl ([.ref (o + 0), .int a1, .int 0]) ++ List.replicate (4 - (lg_sl ([.ref (o + 0), .int a1, .int 0])).length) Slot.unset).toArray = ls at hl ⊢
  have hl : lv_has ls 4 [(0, .ref (o + 0)), (1, .int a1), (2, .int 0)] := hl
  refine lv_aload_n hx hb dX11_moved_0 rfl (lv_at hl 0 rfl) ?_
  refine qf_get hx hb hts inX11 hown hK hP (q0 := 0) (by decide) (hgM_0 ca o) rfl 62 (by decide) wq_1054 (v := .int (z 0 62)) rfl dX11_moved_1 ?_
  refine lv_topi (fun x1 e1 => ?_)
  rw [← e1] at b0 b1
  refine lv_istore_n (lv' := [(3, .int x1), (0, .ref (o + 0)), (1, .int a1), (2, .int 0)]) hx hb dX11_moved_4 rfl hl (by decide) rfl (fun ls hl => ?_)
  refine lv_aload_n hx hb dX11_moved_5 rfl (lv_at hl 1 rfl) ?_
  refine lv_aload_n hx hb dX11_moved_6 rfl (lv_at hl 1 rfl) ?_
  refine qf_get hx hb hts inX11 hown hK hP (q0 := 0) (by decide) (hgM_0 ca o) rfl 62 (by decide) wq_1054 (v := .int (z 0 62)) rfl dX11_moved_7 ?_
  refine qtop (x' := x1) e1.symm ?_
  refine lv_iconst (v := 1) hx hb dX11_moved_10 (by decide) ?_
  refine lv_iadd hx hb dX11_moved_11 ?_
  refine lv_topi (fun x2 e2 => ?_)
  have t2 : x2.toInt = x1.toInt + 1 := by rw [e2]; exact gi_add (by show _ ≤ _ + (1 : Int); omega) (by show _ + (1 : Int) ≤ _; omega)
  refine qf_put hx hb hts inX11 tyX11 tyX11_ok nmX11 hown hK hP hS qw_Ai (q0 := 0) (by decide) (hgM_0 ca o) rfl 62 (by decide) wq_1054 rfl (x := x2) 62 rfl rfl rfl (Nat.le_of_ble_eq_true rfl) dX11_moved_12 (fun H locs hP hS => ?_)
  refine lv_iload_n hx hb dX11_moved_15 rfl (lv_at hl 3 rfl) ?_
  refine lv_if_ne (tgt := 26) hx hb dX11_moved_16 (by decide) (fun q => absurd q (by decide)) (fun _ => ?_)
  refine lv_aload_n hx hb dX11_moved_19 rfl (lv_at hl 1 rfl) ?_
  refine qf_get hx hb hts inX11 hown hK hP (q0 := 0) (by decide) (hgM_0 ca o) rfl 60 (by decide) wq_1052 (v := .ref (o + 40)) rfl dX11_moved_20 ?_
  refine lv_iload_n hx hb dX11_moved_23 rfl (lv_at hl 0 rfl) ?_
  refine lv_iload_n hx hb dX11_moved_24 rfl (lv_at hl 2 rfl) ?_
  refine qa_iast hx hb hK hP hS qw_Ai (q0 := 40) (by decide) 0 (N := 249) (hgM_40 ca o) rfl (gi_in (by omega) (by omega)) dX11_moved_25 (fun H locs hP hS => ?_)
  refine lv_aload_n hx hb dX11_moved_26 rfl (lv_at hl 1 rfl) ?_
  refine qf_get hx hb hts inX11 hown hK hP (q0 := 0) (by decide) (hgM_0 ca o) rfl 60 (by decide) wq_1052 (v := .ref (o + 40)) rfl dX11_moved_27 ?_
  refine lv_iload_n hx hb dX11_moved_30 rfl (lv_at hl 0 rfl) ?_
  refine qa_iald hx hb hK hP (q0 := 40) (by decide) 0 (N := 249) (hgM_40 ca o) rfl (gi_in (by omega) (by omega)) dX11_moved_31 ?_
  refine qtop (x' := a1) qu_at ?_
  exact W.iret (v := a1) hx hb hr (fun t ht hW => ⟨⟨a1, ((qu (qu z 0 62 x2) 40 (x1.toNatClampNeg) a1), y), rfl, ⟨rfl, (fun (k : Nat) (h0 : k ≠ 0) (h1 : k ≠ 40) => by simp only [qu_ne h0, qu_ne h1]), rfl, by show x2.toInt = _; rw [t2, e1], fun j hj => by simp only [qu_ne (show (0 : Nat) ≠ 40 from by decide)]; exact qu_off hj⟩, by rw [ht]; exact hP, va_K.moved hW.alike hK⟩, hS.F ht⟩) hS.2.2 dX11_moved_32

set_option maxRecDepth 100000 in
set_option maxHeartbeats 4000000 in
theorem m1_movesAll1 (l : Launch) (D : va_G) (ca : Nat → ClassId) (o : Nat) (z : Nat → Nat → Int32) (y : Nat → Nat → Int64) (b0 : 0 ≤ (z 0 62).toInt) (b1 : (z 0 62).toInt + 6 ≤ 249)  : qM l yX11_movesAll cX11_movesAll 4 none 2 83 (qPre D vwCl (qT6 ca) o 41 (qG (GM ca o) z y) [.ref (o + 0), .ref (o + 1), .int 0]) (va_Qv (fun u => (∀ k : Nat, (k ≠ 0) → (k ≠ 40) → (k ≠ 1) → u.1 k = z k) ∧ u.2 = y ∧ (u.1 0 62).toInt = (z 0 62).toInt + 6 ∧ (∀ j : Nat, j ≠ 62 → u.1 0 j = z 0 j)) (qB D vwCl (qT6 ca) o 41 (fun u : qZ => qG (GM ca o) u.1 u.2)) (qw_A o 41)) (qw_A o 41) := by
  refine Met.ofW (cc := cX11_movesAll) (maxL := 4) (ret := none) (by decide) rfl ?_
  intro p e s m args below meth c s₁ B hml hv
  obtain ⟨rfl, hP, hK⟩ := hv
  have hx := B.exec
  have hb := B.bytes
  have hr := B.returns
  have hts0 := atoms_spec (ws := Cond.code yX11_movesAll cX11_movesAll 4 none :: qtbl) B.pre
  have hts : ∀ w ∈ qtbl, w.before _ s = true := fun w h => hts0 w (List.mem_cons_of_mem _ h)
  have hown : s.vm.findClass RX11 = some m.cls := findClass_of_methodNamed B.named
  have hlocks := B.notSynchronized
  have hz0 : (0 : Int32).toInt = 0 := rfl
  have hS : va_S (qw_A o 41) s.heap s.heap [] := va_S.rf
  have hl := lv_entry ([.ref (o + 0), .ref (o + 1), .int 0]) (n := 4) (Nat.le_of_ble_eq_true rfl)
  rw [lg_entry_eq]
  generalize (lg_sl ([.ref (o + 0), .ref (o + 1), .int 0]) ++ List.replicate (4 - (lg_sl ([.ref (o + 0), .ref (o + 1), .int 0])).length) Slot.unset).toArray = ls at hl ⊢
  have hl : lv_has ls 4 [(0, .ref (o + 0)), (1, .ref (o + 1)), (2, .int 0)] := hl
  refine lv_iconst (v := 0) hx hb dX11_movesAll_0 (by decide) ?_
  refine lv_istore_n (lv' := [(3, .int 0), (0, .ref (o + 0)), (1, .ref (o + 1)), (2, .int 0)]) hx hb dX11_movesAll_1 rfl hl (by decide) rfl (fun ls hl => ?_)
  have loop1 : ∀ (n i1 : Nat) (x1 : Int32) (z1 : Nat → Nat → Int32), 6 < i1 + n → i1 ≤ 6 → 0 ≤ i1 → x1.toInt = (i1 : Int) → (∀ k : Nat, (k ≠ 0) → (k ≠ 40) → (k ≠ 1) → z1 k = z k) → ((z1 0 62).toInt = (z 0 62).toInt + i1) → (∀ j : Nat, j ≠ 62 → z1 0 j = z 0 j) → ∀ (H : Heap) (locs : List Loc), qw_P D vwCl o 41 (qG (GM ca o) z1 y) H → va_S (qw_A o 41) s.heap H locs → ∀ (ls : Array Slot), lv_has ls 4 [(3, .int x1), (0, .ref (o + 0)), (1, .ref (o + 1)), (2, .int 0)] → W p l e (headSpec (Cond.code yX11_movesAll cX11_movesAll 4 none :: qtbl) ({ frames := 2, cells := 0, slots := 0, locals := 83 })).room s m (([.ref (o + 0), .ref (o + 1), .int 0] : List Value).toArray) below meth c H locs 0 0 (MQ below (va_Qv (fun u => (∀ k : Nat, (k ≠ 0) → (k ≠ 40) → (k ≠ 1) → u.1 k = z k) ∧ u.2 = y ∧ (u.1 0 62).toInt = (z 0 62).toInt + 6 ∧ (∀ j : Nat, j ≠ 62 → u.1 0 j = z 0 j)) (qB D vwCl (qT6 ca) o 41 (fun u : qZ => qG (GM ca o) u.1 u.2)) (qw_A o 41)) (([.ref (o + 0), .ref (o + 1), .int 0] : List Value).toArray) s 0 0 (qw_A o 41)) (F0 m 2 ls []) := by
    intro n
    induction n with
    | zero => intro i1 x1 z1 hb1 hi1; exact absurd hb1 (by omega)
    | succ n ih =>
      intro i1 x1 z1 hb1 hi1 ho1 hx1 g1 k1 c1 H locs hP hS ls hl
      refine lv_iload_n hx hb dX11_movesAll_2 rfl (lv_at hl 0 rfl) ?_
      refine lv_aload_n hx hb dX11_movesAll_3 rfl (lv_at hl 2 rfl) ?_
      refine qa_len hx hb hK hP (q0 := 1) (by decide) 0 (hgM_1 ca o) rfl (v := 6) rfl dX11_movesAll_4 ?_
      refine lv_icmp_ge (tgt := 25) hx hb dX11_movesAll_5 (by decide) (fun c2 => ?_) (fun c2 => ?_)
      · have t2 : x1.toInt ≥ (6 : Int) := gl_le c2
        exact W.vret hx hb hr (fun t ht hW => ⟨⟨(z1, y), rfl, ⟨(fun (k : Nat) (h0 : k ≠ 0) (h1 : k ≠ 40) (h2 : k ≠ 1) => g1 k h0 h1 h2), rfl, by have := k1; show (z1 0 62).toInt = _; omega, c1⟩, by rw [ht]; exact hP, va_K.moved hW.alike hK⟩, hS.F ht⟩) hS.2.2 dX11_movesAll_25
      · have t2 : x1.toInt < (6 : Int) := gl_nle c2
        refine lv_aload_n hx hb dX11_movesAll_8 rfl (lv_at hl 2 rfl) ?_
        refine lv_iload_n hx hb dX11_movesAll_9 rfl (lv_at hl 0 rfl) ?_
        refine lv_aload_n hx hb dX11_movesAll_10 rfl (lv_at hl 1 rfl) ?_
        refine lv_aload_n hx hb dX11_movesAll_11 rfl (lv_at hl 2 rfl) ?_
        refine lv_iload_n hx hb dX11_movesAll_12 rfl (lv_at hl 0 rfl) ?_
        refine qa_iald hx hb hK hP (q0 := 1) (by decide) 0 (N := 6) (hgM_1 ca o) rfl (gi_in (by omega) (by omega)) dX11_movesAll_13 ?_
        refine lv_topi (fun x3 e3 => ?_)
        refine lv_iload_n hx hb dX11_movesAll_14 rfl (lv_at hl 3 rfl) ?_
        refine qc_Vi (As := [.int x3, .int 0]) (rest := [.int x1, .ref (o + 1)]) (k0 := 2) (m1_moved l D ca o z1 y x3 (by have := k1; omega) (by have := k1; omega)) kc_yX11_moved ⟨hx, hb, hml, hown, hts⟩ wq_1599 rfl rfl ⟨Nat.le_of_ble_eq_true rfl, Nat.le_of_ble_eq_true rfl⟩ wq_all hP hK hS qw_Ai (q0 := 0) (by decide) (hgM_0 ca o _ _) rfl rfl hl.1 rfl (Nat.le_of_ble_eq_true rfl) dX11_movesAll_15 ⟨Nat.zero_le _, Nat.zero_le _⟩ (fun r4 u4 H locs h4 hP hS _ _ => ?_)
        obtain ⟨z4, y4⟩ := u4
        obtain ⟨h4r, h4f, h4y, h4k, h4c⟩ := h4
        dsimp only at h4f h4y h4k h4c hP
        rw [h4y] at hP
        have g4 : ∀ k : Nat, (k ≠ 0) → (k ≠ 40) → (k ≠ 1) → z4 k = z k := fun k h0 h1 h2 => (h4f k h0 h1).trans ((show ∀ k : Nat, (k ≠ 0) → (k ≠ 40) → (k ≠ 1) → z1 k = z k from (fun (k : Nat) (h0 : k ≠ 0) (h1 : k ≠ 40) (h2 : k ≠ 1) => g1 k h0 h1 h2)) k h0 h1 h2)
        refine qa_iast hx hb hK hP hS qw_Ai (q0 := 1) (by decide) 0 (N := 6) (hgM_1 ca o) rfl (gi_in (by omega) (by omega)) dX11_movesAll_18 (fun H locs hP hS => ?_)
        obtain ⟨x5, e5⟩ : ∃ t : Int32, t = x1 + 1 := ⟨_, rfl⟩
        refine lv_iinc (v := x5) (lv' := [(3, .int x5), (0, .ref (o + 0)), (1, .ref (o + 1)), (2, .int 0)]) hx hb dX11_movesAll_19 hl (k := 0) rfl (by rw [e5]; rfl) (by decide) rfl (fun ls hl => ?_)
        refine lv_goto (tgt := 2) hx hb dX11_movesAll_22 (by decide) ?_
        exact ih (i1 + 1) x5 (qu z4 1 (x1.toNatClampNeg) r4) (by omega) (by omega) (by omega) (by rw [e5]; rw [gi_add (by rw [hx1]; show _ ≤ _ + (1 : Int); omega) (by rw [hx1]; show _ + (1 : Int) ≤ _; omega), hx1]; rfl) (fun (k : Nat) (h0 : k ≠ 0) (h1 : k ≠ 40) (h2 : k ≠ 1) => by simp only [qu_ne h2]; exact g4 k h0 h1 h2) (by show (z4 0 62).toInt = _; rw [h4k, k1]; omega) (fun j hj => (h4c j hj).trans (c1 j hj)) _ _ hP hS _ (lv_sub hl [0, 1, 2, 3] rfl)
  exact loop1 7 0 0 z (by omega) (by omega) (by omega) rfl (fun _ _ _ _ => rfl) (by omega) (fun j _ => rfl) _ _ hP hS _ (lv_sub hl [0, 1, 2, 3] rfl)

set_option maxRecDepth 100000 in
set_option maxHeartbeats 4000000 in
theorem m1_movesAll2 (l : Launch) (D : va_G) (ca : Nat → ClassId) (o : Nat) (z : Nat → Nat → Int32) (y : Nat → Nat → Int64) (b0 : 0 ≤ (z 0 62).toInt) (b1 : (z 0 62).toInt + 6 ≤ 249)  : qM l yX11_movesAll cX11_movesAll 4 none 2 83 (qPre D vwCl (qT6 ca) o 41 (qG (GM ca o) z y) [.ref (o + 0), .ref (o + 2), .int 0]) (va_Qv (fun u => (∀ k : Nat, (k ≠ 0) → (k ≠ 40) → (k ≠ 2) → u.1 k = z k) ∧ u.2 = y ∧ (u.1 0 62).toInt = (z 0 62).toInt + 6 ∧ (∀ j : Nat, j ≠ 62 → u.1 0 j = z 0 j)) (qB D vwCl (qT6 ca) o 41 (fun u : qZ => qG (GM ca o) u.1 u.2)) (qw_A o 41)) (qw_A o 41) := by
  refine Met.ofW (cc := cX11_movesAll) (maxL := 4) (ret := none) (by decide) rfl ?_
  intro p e s m args below meth c s₁ B hml hv
  obtain ⟨rfl, hP, hK⟩ := hv
  have hx := B.exec
  have hb := B.bytes
  have hr := B.returns
  have hts0 := atoms_spec (ws := Cond.code yX11_movesAll cX11_movesAll 4 none :: qtbl) B.pre
  have hts : ∀ w ∈ qtbl, w.before _ s = true := fun w h => hts0 w (List.mem_cons_of_mem _ h)
  have hown : s.vm.findClass RX11 = some m.cls := findClass_of_methodNamed B.named
  have hlocks := B.notSynchronized
  have hz0 : (0 : Int32).toInt = 0 := rfl
  have hS : va_S (qw_A o 41) s.heap s.heap [] := va_S.rf
  have hl := lv_entry ([.ref (o + 0), .ref (o + 2), .int 0]) (n := 4) (Nat.le_of_ble_eq_true rfl)
  rw [lg_entry_eq]
  generalize (lg_sl ([.ref (o + 0), .ref (o + 2), .int 0]) ++ List.replicate (4 - (lg_sl ([.ref (o + 0), .ref (o + 2), .int 0])).length) Slot.unset).toArray = ls at hl ⊢
  have hl : lv_has ls 4 [(0, .ref (o + 0)), (1, .ref (o + 2)), (2, .int 0)] := hl
  refine lv_iconst (v := 0) hx hb dX11_movesAll_0 (by decide) ?_
  refine lv_istore_n (lv' := [(3, .int 0), (0, .ref (o + 0)), (1, .ref (o + 2)), (2, .int 0)]) hx hb dX11_movesAll_1 rfl hl (by decide) rfl (fun ls hl => ?_)
  have loop1 : ∀ (n i1 : Nat) (x1 : Int32) (z1 : Nat → Nat → Int32), 6 < i1 + n → i1 ≤ 6 → 0 ≤ i1 → x1.toInt = (i1 : Int) → (∀ k : Nat, (k ≠ 0) → (k ≠ 40) → (k ≠ 2) → z1 k = z k) → ((z1 0 62).toInt = (z 0 62).toInt + i1) → (∀ j : Nat, j ≠ 62 → z1 0 j = z 0 j) → ∀ (H : Heap) (locs : List Loc), qw_P D vwCl o 41 (qG (GM ca o) z1 y) H → va_S (qw_A o 41) s.heap H locs → ∀ (ls : Array Slot), lv_has ls 4 [(3, .int x1), (0, .ref (o + 0)), (1, .ref (o + 2)), (2, .int 0)] → W p l e (headSpec (Cond.code yX11_movesAll cX11_movesAll 4 none :: qtbl) ({ frames := 2, cells := 0, slots := 0, locals := 83 })).room s m (([.ref (o + 0), .ref (o + 2), .int 0] : List Value).toArray) below meth c H locs 0 0 (MQ below (va_Qv (fun u => (∀ k : Nat, (k ≠ 0) → (k ≠ 40) → (k ≠ 2) → u.1 k = z k) ∧ u.2 = y ∧ (u.1 0 62).toInt = (z 0 62).toInt + 6 ∧ (∀ j : Nat, j ≠ 62 → u.1 0 j = z 0 j)) (qB D vwCl (qT6 ca) o 41 (fun u : qZ => qG (GM ca o) u.1 u.2)) (qw_A o 41)) (([.ref (o + 0), .ref (o + 2), .int 0] : List Value).toArray) s 0 0 (qw_A o 41)) (F0 m 2 ls []) := by
    intro n
    induction n with
    | zero => intro i1 x1 z1 hb1 hi1; exact absurd hb1 (by omega)
    | succ n ih =>
      intro i1 x1 z1 hb1 hi1 ho1 hx1 g1 k1 c1 H locs hP hS ls hl
      refine lv_iload_n hx hb dX11_movesAll_2 rfl (lv_at hl 0 rfl) ?_
      refine lv_aload_n hx hb dX11_movesAll_3 rfl (lv_at hl 2 rfl) ?_
      refine qa_len hx hb hK hP (q0 := 2) (by decide) 0 (hgM_2 ca o) rfl (v := 6) rfl dX11_movesAll_4 ?_
      refine lv_icmp_ge (tgt := 25) hx hb dX11_movesAll_5 (by decide) (fun c2 => ?_) (fun c2 => ?_)
      · have t2 : x1.toInt ≥ (6 : Int) := gl_le c2
        exact W.vret hx hb hr (fun t ht hW => ⟨⟨(z1, y), rfl, ⟨(fun (k : Nat) (h0 : k ≠ 0) (h1 : k ≠ 40) (h2 : k ≠ 2) => g1 k h0 h1 h2), rfl, by have := k1; show (z1 0 62).toInt = _; omega, c1⟩, by rw [ht]; exact hP, va_K.moved hW.alike hK⟩, hS.F ht⟩) hS.2.2 dX11_movesAll_25
      · have t2 : x1.toInt < (6 : Int) := gl_nle c2
        refine lv_aload_n hx hb dX11_movesAll_8 rfl (lv_at hl 2 rfl) ?_
        refine lv_iload_n hx hb dX11_movesAll_9 rfl (lv_at hl 0 rfl) ?_
        refine lv_aload_n hx hb dX11_movesAll_10 rfl (lv_at hl 1 rfl) ?_
        refine lv_aload_n hx hb dX11_movesAll_11 rfl (lv_at hl 2 rfl) ?_
        refine lv_iload_n hx hb dX11_movesAll_12 rfl (lv_at hl 0 rfl) ?_
        refine qa_iald hx hb hK hP (q0 := 2) (by decide) 0 (N := 6) (hgM_2 ca o) rfl (gi_in (by omega) (by omega)) dX11_movesAll_13 ?_
        refine lv_topi (fun x3 e3 => ?_)
        refine lv_iload_n hx hb dX11_movesAll_14 rfl (lv_at hl 3 rfl) ?_
        refine qc_Vi (As := [.int x3, .int 0]) (rest := [.int x1, .ref (o + 2)]) (k0 := 2) (m1_moved l D ca o z1 y x3 (by have := k1; omega) (by have := k1; omega)) kc_yX11_moved ⟨hx, hb, hml, hown, hts⟩ wq_1599 rfl rfl ⟨Nat.le_of_ble_eq_true rfl, Nat.le_of_ble_eq_true rfl⟩ wq_all hP hK hS qw_Ai (q0 := 0) (by decide) (hgM_0 ca o _ _) rfl rfl hl.1 rfl (Nat.le_of_ble_eq_true rfl) dX11_movesAll_15 ⟨Nat.zero_le _, Nat.zero_le _⟩ (fun r4 u4 H locs h4 hP hS _ _ => ?_)
        obtain ⟨z4, y4⟩ := u4
        obtain ⟨h4r, h4f, h4y, h4k, h4c⟩ := h4
        dsimp only at h4f h4y h4k h4c hP
        rw [h4y] at hP
        have g4 : ∀ k : Nat, (k ≠ 0) → (k ≠ 40) → (k ≠ 2) → z4 k = z k := fun k h0 h1 h2 => (h4f k h0 h1).trans ((show ∀ k : Nat, (k ≠ 0) → (k ≠ 40) → (k ≠ 2) → z1 k = z k from (fun (k : Nat) (h0 : k ≠ 0) (h1 : k ≠ 40) (h2 : k ≠ 2) => g1 k h0 h1 h2)) k h0 h1 h2)
        refine qa_iast hx hb hK hP hS qw_Ai (q0 := 2) (by decide) 0 (N := 6) (hgM_2 ca o) rfl (gi_in (by omega) (by omega)) dX11_movesAll_18 (fun H locs hP hS => ?_)
        obtain ⟨x5, e5⟩ : ∃ t : Int32, t = x1 + 1 := ⟨_, rfl⟩
        refine lv_iinc (v := x5) (lv' := [(3, .int x5), (0, .ref (o + 0)), (1, .ref (o + 2)), (2, .int 0)]) hx hb dX11_movesAll_19 hl (k := 0) rfl (by rw [e5]; rfl) (by decide) rfl (fun ls hl => ?_)
        refine lv_goto (tgt := 2) hx hb dX11_movesAll_22 (by decide) ?_
        exact ih (i1 + 1) x5 (qu z4 2 (x1.toNatClampNeg) r4) (by omega) (by omega) (by omega) (by rw [e5]; rw [gi_add (by rw [hx1]; show _ ≤ _ + (1 : Int); omega) (by rw [hx1]; show _ + (1 : Int) ≤ _; omega), hx1]; rfl) (fun (k : Nat) (h0 : k ≠ 0) (h1 : k ≠ 40) (h2 : k ≠ 2) => by simp only [qu_ne h2]; exact g4 k h0 h1 h2) (by show (z4 0 62).toInt = _; rw [h4k, k1]; omega) (fun j hj => (h4c j hj).trans (c1 j hj)) _ _ hP hS _ (lv_sub hl [0, 1, 2, 3] rfl)
  exact loop1 7 0 0 z (by omega) (by omega) (by omega) rfl (fun _ _ _ _ => rfl) (by omega) (fun j _ => rfl) _ _ hP hS _ (lv_sub hl [0, 1, 2, 3] rfl)

set_option maxRecDepth 100000 in
set_option maxHeartbeats 4000000 in
theorem m1_movesAll3 (l : Launch) (D : va_G) (ca : Nat → ClassId) (o : Nat) (z : Nat → Nat → Int32) (y : Nat → Nat → Int64) (b0 : 0 ≤ (z 0 62).toInt) (b1 : (z 0 62).toInt + 6 ≤ 249)  : qM l yX11_movesAll cX11_movesAll 4 none 2 83 (qPre D vwCl (qT6 ca) o 41 (qG (GM ca o) z y) [.ref (o + 0), .ref (o + 3), .int 0]) (va_Qv (fun u => (∀ k : Nat, (k ≠ 0) → (k ≠ 40) → (k ≠ 3) → u.1 k = z k) ∧ u.2 = y ∧ (u.1 0 62).toInt = (z 0 62).toInt + 6 ∧ (∀ j : Nat, j ≠ 62 → u.1 0 j = z 0 j)) (qB D vwCl (qT6 ca) o 41 (fun u : qZ => qG (GM ca o) u.1 u.2)) (qw_A o 41)) (qw_A o 41) := by
  refine Met.ofW (cc := cX11_movesAll) (maxL := 4) (ret := none) (by decide) rfl ?_
  intro p e s m args below meth c s₁ B hml hv
  obtain ⟨rfl, hP, hK⟩ := hv
  have hx := B.exec
  have hb := B.bytes
  have hr := B.returns
  have hts0 := atoms_spec (ws := Cond.code yX11_movesAll cX11_movesAll 4 none :: qtbl) B.pre
  have hts : ∀ w ∈ qtbl, w.before _ s = true := fun w h => hts0 w (List.mem_cons_of_mem _ h)
  have hown : s.vm.findClass RX11 = some m.cls := findClass_of_methodNamed B.named
  have hlocks := B.notSynchronized
  have hz0 : (0 : Int32).toInt = 0 := rfl
  have hS : va_S (qw_A o 41) s.heap s.heap [] := va_S.rf
  have hl := lv_entry ([.ref (o + 0), .ref (o + 3), .int 0]) (n := 4) (Nat.le_of_ble_eq_true rfl)
  rw [lg_entry_eq]
  generalize (lg_sl ([.ref (o + 0), .ref (o + 3), .int 0]) ++ List.replicate (4 - (lg_sl ([.ref (o + 0), .ref (o + 3), .int 0])).length) Slot.unset).toArray = ls at hl ⊢
  have hl : lv_has ls 4 [(0, .ref (o + 0)), (1, .ref (o + 3)), (2, .int 0)] := hl
  refine lv_iconst (v := 0) hx hb dX11_movesAll_0 (by decide) ?_
  refine lv_istore_n (lv' := [(3, .int 0), (0, .ref (o + 0)), (1, .ref (o + 3)), (2, .int 0)]) hx hb dX11_movesAll_1 rfl hl (by decide) rfl (fun ls hl => ?_)
  have loop1 : ∀ (n i1 : Nat) (x1 : Int32) (z1 : Nat → Nat → Int32), 6 < i1 + n → i1 ≤ 6 → 0 ≤ i1 → x1.toInt = (i1 : Int) → (∀ k : Nat, (k ≠ 0) → (k ≠ 40) → (k ≠ 3) → z1 k = z k) → ((z1 0 62).toInt = (z 0 62).toInt + i1) → (∀ j : Nat, j ≠ 62 → z1 0 j = z 0 j) → ∀ (H : Heap) (locs : List Loc), qw_P D vwCl o 41 (qG (GM ca o) z1 y) H → va_S (qw_A o 41) s.heap H locs → ∀ (ls : Array Slot), lv_has ls 4 [(3, .int x1), (0, .ref (o + 0)), (1, .ref (o + 3)), (2, .int 0)] → W p l e (headSpec (Cond.code yX11_movesAll cX11_movesAll 4 none :: qtbl) ({ frames := 2, cells := 0, slots := 0, locals := 83 })).room s m (([.ref (o + 0), .ref (o + 3), .int 0] : List Value).toArray) below meth c H locs 0 0 (MQ below (va_Qv (fun u => (∀ k : Nat, (k ≠ 0) → (k ≠ 40) → (k ≠ 3) → u.1 k = z k) ∧ u.2 = y ∧ (u.1 0 62).toInt = (z 0 62).toInt + 6 ∧ (∀ j : Nat, j ≠ 62 → u.1 0 j = z 0 j)) (qB D vwCl (qT6 ca) o 41 (fun u : qZ => qG (GM ca o) u.1 u.2)) (qw_A o 41)) (([.ref (o + 0), .ref (o + 3), .int 0] : List Value).toArray) s 0 0 (qw_A o 41)) (F0 m 2 ls []) := by
    intro n
    induction n with
    | zero => intro i1 x1 z1 hb1 hi1; exact absurd hb1 (by omega)
    | succ n ih =>
      intro i1 x1 z1 hb1 hi1 ho1 hx1 g1 k1 c1 H locs hP hS ls hl
      refine lv_iload_n hx hb dX11_movesAll_2 rfl (lv_at hl 0 rfl) ?_
      refine lv_aload_n hx hb dX11_movesAll_3 rfl (lv_at hl 2 rfl) ?_
      refine qa_len hx hb hK hP (q0 := 3) (by decide) 0 (hgM_3 ca o) rfl (v := 6) rfl dX11_movesAll_4 ?_
      refine lv_icmp_ge (tgt := 25) hx hb dX11_movesAll_5 (by decide) (fun c2 => ?_) (fun c2 => ?_)
      · have t2 : x1.toInt ≥ (6 : Int) := gl_le c2
        exact W.vret hx hb hr (fun t ht hW => ⟨⟨(z1, y), rfl, ⟨(fun (k : Nat) (h0 : k ≠ 0) (h1 : k ≠ 40) (h2 : k ≠ 3) => g1 k h0 h1 h2), rfl, by have := k1; show (z1 0 62).toInt = _; omega, c1⟩, by rw [ht]; exact hP, va_K.moved hW.alike hK⟩, hS.F ht⟩) hS.2.2 dX11_movesAll_25
      · have t2 : x1.toInt < (6 : Int) := gl_nle c2
        refine lv_aload_n hx hb dX11_movesAll_8 rfl (lv_at hl 2 rfl) ?_
        refine lv_iload_n hx hb dX11_movesAll_9 rfl (lv_at hl 0 rfl) ?_
        refine lv_aload_n hx hb dX11_movesAll_10 rfl (lv_at hl 1 rfl) ?_
        refine lv_aload_n hx hb dX11_movesAll_11 rfl (lv_at hl 2 rfl) ?_
        refine lv_iload_n hx hb dX11_movesAll_12 rfl (lv_at hl 0 rfl) ?_
        refine qa_iald hx hb hK hP (q0 := 3) (by decide) 0 (N := 6) (hgM_3 ca o) rfl (gi_in (by omega) (by omega)) dX11_movesAll_13 ?_
        refine lv_topi (fun x3 e3 => ?_)
        refine lv_iload_n hx hb dX11_movesAll_14 rfl (lv_at hl 3 rfl) ?_
        refine qc_Vi (As := [.int x3, .int 0]) (rest := [.int x1, .ref (o + 3)]) (k0 := 2) (m1_moved l D ca o z1 y x3 (by have := k1; omega) (by have := k1; omega)) kc_yX11_moved ⟨hx, hb, hml, hown, hts⟩ wq_1599 rfl rfl ⟨Nat.le_of_ble_eq_true rfl, Nat.le_of_ble_eq_true rfl⟩ wq_all hP hK hS qw_Ai (q0 := 0) (by decide) (hgM_0 ca o _ _) rfl rfl hl.1 rfl (Nat.le_of_ble_eq_true rfl) dX11_movesAll_15 ⟨Nat.zero_le _, Nat.zero_le _⟩ (fun r4 u4 H locs h4 hP hS _ _ => ?_)
        obtain ⟨z4, y4⟩ := u4
        obtain ⟨h4r, h4f, h4y, h4k, h4c⟩ := h4
        dsimp only at h4f h4y h4k h4c hP
        rw [h4y] at hP
        have g4 : ∀ k : Nat, (k ≠ 0) → (k ≠ 40) → (k ≠ 3) → z4 k = z k := fun k h0 h1 h2 => (h4f k h0 h1).trans ((show ∀ k : Nat, (k ≠ 0) → (k ≠ 40) → (k ≠ 3) → z1 k = z k from (fun (k : Nat) (h0 : k ≠ 0) (h1 : k ≠ 40) (h2 : k ≠ 3) => g1 k h0 h1 h2)) k h0 h1 h2)
        refine qa_iast hx hb hK hP hS qw_Ai (q0 := 3) (by decide) 0 (N := 6) (hgM_3 ca o) rfl (gi_in (by omega) (by omega)) dX11_movesAll_18 (fun H locs hP hS => ?_)
        obtain ⟨x5, e5⟩ : ∃ t : Int32, t = x1 + 1 := ⟨_, rfl⟩
        refine lv_iinc (v := x5) (lv' := [(3, .int x5), (0, .ref (o + 0)), (1, .ref (o + 3)), (2, .int 0)]) hx hb dX11_movesAll_19 hl (k := 0) rfl (by rw [e5]; rfl) (by decide) rfl (fun ls hl => ?_)
        refine lv_goto (tgt := 2) hx hb dX11_movesAll_22 (by decide) ?_
        exact ih (i1 + 1) x5 (qu z4 3 (x1.toNatClampNeg) r4) (by omega) (by omega) (by omega) (by rw [e5]; rw [gi_add (by rw [hx1]; show _ ≤ _ + (1 : Int); omega) (by rw [hx1]; show _ + (1 : Int) ≤ _; omega), hx1]; rfl) (fun (k : Nat) (h0 : k ≠ 0) (h1 : k ≠ 40) (h2 : k ≠ 3) => by simp only [qu_ne h2]; exact g4 k h0 h1 h2) (by show (z4 0 62).toInt = _; rw [h4k, k1]; omega) (fun j hj => (h4c j hj).trans (c1 j hj)) _ _ hP hS _ (lv_sub hl [0, 1, 2, 3] rfl)
  exact loop1 7 0 0 z (by omega) (by omega) (by omega) rfl (fun _ _ _ _ => rfl) (by omega) (fun j _ => rfl) _ _ hP hS _ (lv_sub hl [0, 1, 2, 3] rfl)

set_option maxRecDepth 100000 in
set_option maxHeartbeats 4000000 in
theorem m1_movesAll4 (l : Launch) (D : va_G) (ca : Nat → ClassId) (o : Nat) (z : Nat → Nat → Int32) (y : Nat → Nat → Int64) (b0 : 0 ≤ (z 0 62).toInt) (b1 : (z 0 62).toInt + 36 ≤ 249)  : qM l yX11_movesAll cX11_movesAll 4 none 2 83 (qPre D vwCl (qT6 ca) o 41 (qG (GM ca o) z y) [.ref (o + 0), .ref (o + 4), .int 0]) (va_Qv (fun u => (∀ k : Nat, (k ≠ 0) → (k ≠ 40) → (k ≠ 4) → u.1 k = z k) ∧ u.2 = y ∧ (u.1 0 62).toInt = (z 0 62).toInt + 36 ∧ (∀ j : Nat, j ≠ 62 → u.1 0 j = z 0 j)) (qB D vwCl (qT6 ca) o 41 (fun u : qZ => qG (GM ca o) u.1 u.2)) (qw_A o 41)) (qw_A o 41) := by
  refine Met.ofW (cc := cX11_movesAll) (maxL := 4) (ret := none) (by decide) rfl ?_
  intro p e s m args below meth c s₁ B hml hv
  obtain ⟨rfl, hP, hK⟩ := hv
  have hx := B.exec
  have hb := B.bytes
  have hr := B.returns
  have hts0 := atoms_spec (ws := Cond.code yX11_movesAll cX11_movesAll 4 none :: qtbl) B.pre
  have hts : ∀ w ∈ qtbl, w.before _ s = true := fun w h => hts0 w (List.mem_cons_of_mem _ h)
  have hown : s.vm.findClass RX11 = some m.cls := findClass_of_methodNamed B.named
  have hlocks := B.notSynchronized
  have hz0 : (0 : Int32).toInt = 0 := rfl
  have hS : va_S (qw_A o 41) s.heap s.heap [] := va_S.rf
  have hl := lv_entry ([.ref (o + 0), .ref (o + 4), .int 0]) (n := 4) (Nat.le_of_ble_eq_true rfl)
  rw [lg_entry_eq]
  generalize (lg_sl ([.ref (o + 0), .ref (o + 4), .int 0]) ++ List.replicate (4 - (lg_sl ([.ref (o + 0), .ref (o + 4), .int 0])).length) Slot.unset).toArray = ls at hl ⊢
  have hl : lv_has ls 4 [(0, .ref (o + 0)), (1, .ref (o + 4)), (2, .int 0)] := hl
  refine lv_iconst (v := 0) hx hb dX11_movesAll_0 (by decide) ?_
  refine lv_istore_n (lv' := [(3, .int 0), (0, .ref (o + 0)), (1, .ref (o + 4)), (2, .int 0)]) hx hb dX11_movesAll_1 rfl hl (by decide) rfl (fun ls hl => ?_)
  have loop1 : ∀ (n i1 : Nat) (x1 : Int32) (z1 : Nat → Nat → Int32), 36 < i1 + n → i1 ≤ 36 → 0 ≤ i1 → x1.toInt = (i1 : Int) → (∀ k : Nat, (k ≠ 0) → (k ≠ 40) → (k ≠ 4) → z1 k = z k) → ((z1 0 62).toInt = (z 0 62).toInt + i1) → (∀ j : Nat, j ≠ 62 → z1 0 j = z 0 j) → ∀ (H : Heap) (locs : List Loc), qw_P D vwCl o 41 (qG (GM ca o) z1 y) H → va_S (qw_A o 41) s.heap H locs → ∀ (ls : Array Slot), lv_has ls 4 [(3, .int x1), (0, .ref (o + 0)), (1, .ref (o + 4)), (2, .int 0)] → W p l e (headSpec (Cond.code yX11_movesAll cX11_movesAll 4 none :: qtbl) ({ frames := 2, cells := 0, slots := 0, locals := 83 })).room s m (([.ref (o + 0), .ref (o + 4), .int 0] : List Value).toArray) below meth c H locs 0 0 (MQ below (va_Qv (fun u => (∀ k : Nat, (k ≠ 0) → (k ≠ 40) → (k ≠ 4) → u.1 k = z k) ∧ u.2 = y ∧ (u.1 0 62).toInt = (z 0 62).toInt + 36 ∧ (∀ j : Nat, j ≠ 62 → u.1 0 j = z 0 j)) (qB D vwCl (qT6 ca) o 41 (fun u : qZ => qG (GM ca o) u.1 u.2)) (qw_A o 41)) (([.ref (o + 0), .ref (o + 4), .int 0] : List Value).toArray) s 0 0 (qw_A o 41)) (F0 m 2 ls []) := by
    intro n
    induction n with
    | zero => intro i1 x1 z1 hb1 hi1; exact absurd hb1 (by omega)
    | succ n ih =>
      intro i1 x1 z1 hb1 hi1 ho1 hx1 g1 k1 c1 H locs hP hS ls hl
      refine lv_iload_n hx hb dX11_movesAll_2 rfl (lv_at hl 0 rfl) ?_
      refine lv_aload_n hx hb dX11_movesAll_3 rfl (lv_at hl 2 rfl) ?_
      refine qa_len hx hb hK hP (q0 := 4) (by decide) 0 (hgM_4 ca o) rfl (v := 36) rfl dX11_movesAll_4 ?_
      refine lv_icmp_ge (tgt := 25) hx hb dX11_movesAll_5 (by decide) (fun c2 => ?_) (fun c2 => ?_)
      · have t2 : x1.toInt ≥ (36 : Int) := gl_le c2
        exact W.vret hx hb hr (fun t ht hW => ⟨⟨(z1, y), rfl, ⟨(fun (k : Nat) (h0 : k ≠ 0) (h1 : k ≠ 40) (h2 : k ≠ 4) => g1 k h0 h1 h2), rfl, by have := k1; show (z1 0 62).toInt = _; omega, c1⟩, by rw [ht]; exact hP, va_K.moved hW.alike hK⟩, hS.F ht⟩) hS.2.2 dX11_movesAll_25
      · have t2 : x1.toInt < (36 : Int) := gl_nle c2
        refine lv_aload_n hx hb dX11_movesAll_8 rfl (lv_at hl 2 rfl) ?_
        refine lv_iload_n hx hb dX11_movesAll_9 rfl (lv_at hl 0 rfl) ?_
        refine lv_aload_n hx hb dX11_movesAll_10 rfl (lv_at hl 1 rfl) ?_
        refine lv_aload_n hx hb dX11_movesAll_11 rfl (lv_at hl 2 rfl) ?_
        refine lv_iload_n hx hb dX11_movesAll_12 rfl (lv_at hl 0 rfl) ?_
        refine qa_iald hx hb hK hP (q0 := 4) (by decide) 0 (N := 36) (hgM_4 ca o) rfl (gi_in (by omega) (by omega)) dX11_movesAll_13 ?_
        refine lv_topi (fun x3 e3 => ?_)
        refine lv_iload_n hx hb dX11_movesAll_14 rfl (lv_at hl 3 rfl) ?_
        refine qc_Vi (As := [.int x3, .int 0]) (rest := [.int x1, .ref (o + 4)]) (k0 := 2) (m1_moved l D ca o z1 y x3 (by have := k1; omega) (by have := k1; omega)) kc_yX11_moved ⟨hx, hb, hml, hown, hts⟩ wq_1599 rfl rfl ⟨Nat.le_of_ble_eq_true rfl, Nat.le_of_ble_eq_true rfl⟩ wq_all hP hK hS qw_Ai (q0 := 0) (by decide) (hgM_0 ca o _ _) rfl rfl hl.1 rfl (Nat.le_of_ble_eq_true rfl) dX11_movesAll_15 ⟨Nat.zero_le _, Nat.zero_le _⟩ (fun r4 u4 H locs h4 hP hS _ _ => ?_)
        obtain ⟨z4, y4⟩ := u4
        obtain ⟨h4r, h4f, h4y, h4k, h4c⟩ := h4
        dsimp only at h4f h4y h4k h4c hP
        rw [h4y] at hP
        have g4 : ∀ k : Nat, (k ≠ 0) → (k ≠ 40) → (k ≠ 4) → z4 k = z k := fun k h0 h1 h2 => (h4f k h0 h1).trans ((show ∀ k : Nat, (k ≠ 0) → (k ≠ 40) → (k ≠ 4) → z1 k = z k from (fun (k : Nat) (h0 : k ≠ 0) (h1 : k ≠ 40) (h2 : k ≠ 4) => g1 k h0 h1 h2)) k h0 h1 h2)
        refine qa_iast hx hb hK hP hS qw_Ai (q0 := 4) (by decide) 0 (N := 36) (hgM_4 ca o) rfl (gi_in (by omega) (by omega)) dX11_movesAll_18 (fun H locs hP hS => ?_)
        obtain ⟨x5, e5⟩ : ∃ t : Int32, t = x1 + 1 := ⟨_, rfl⟩
        refine lv_iinc (v := x5) (lv' := [(3, .int x5), (0, .ref (o + 0)), (1, .ref (o + 4)), (2, .int 0)]) hx hb dX11_movesAll_19 hl (k := 0) rfl (by rw [e5]; rfl) (by decide) rfl (fun ls hl => ?_)
        refine lv_goto (tgt := 2) hx hb dX11_movesAll_22 (by decide) ?_
        exact ih (i1 + 1) x5 (qu z4 4 (x1.toNatClampNeg) r4) (by omega) (by omega) (by omega) (by rw [e5]; rw [gi_add (by rw [hx1]; show _ ≤ _ + (1 : Int); omega) (by rw [hx1]; show _ + (1 : Int) ≤ _; omega), hx1]; rfl) (fun (k : Nat) (h0 : k ≠ 0) (h1 : k ≠ 40) (h2 : k ≠ 4) => by simp only [qu_ne h2]; exact g4 k h0 h1 h2) (by show (z4 0 62).toInt = _; rw [h4k, k1]; omega) (fun j hj => (h4c j hj).trans (c1 j hj)) _ _ hP hS _ (lv_sub hl [0, 1, 2, 3] rfl)
  exact loop1 37 0 0 z (by omega) (by omega) (by omega) rfl (fun _ _ _ _ => rfl) (by omega) (fun j _ => rfl) _ _ hP hS _ (lv_sub hl [0, 1, 2, 3] rfl)

set_option maxRecDepth 100000 in
set_option maxHeartbeats 4000000 in
theorem m1_movesAll5 (l : Launch) (D : va_G) (ca : Nat → ClassId) (o : Nat) (z : Nat → Nat → Int32) (y : Nat → Nat → Int64) (b0 : 0 ≤ (z 0 62).toInt) (b1 : (z 0 62).toInt + 96 ≤ 249)  : qM l yX11_movesAll cX11_movesAll 4 none 2 83 (qPre D vwCl (qT6 ca) o 41 (qG (GM ca o) z y) [.ref (o + 0), .ref (o + 5), .int 0]) (va_Qv (fun u => (∀ k : Nat, (k ≠ 0) → (k ≠ 40) → (k ≠ 5) → u.1 k = z k) ∧ u.2 = y ∧ (u.1 0 62).toInt = (z 0 62).toInt + 96 ∧ (∀ j : Nat, j ≠ 62 → u.1 0 j = z 0 j)) (qB D vwCl (qT6 ca) o 41 (fun u : qZ => qG (GM ca o) u.1 u.2)) (qw_A o 41)) (qw_A o 41) := by
  refine Met.ofW (cc := cX11_movesAll) (maxL := 4) (ret := none) (by decide) rfl ?_
  intro p e s m args below meth c s₁ B hml hv
  obtain ⟨rfl, hP, hK⟩ := hv
  have hx := B.exec
  have hb := B.bytes
  have hr := B.returns
  have hts0 := atoms_spec (ws := Cond.code yX11_movesAll cX11_movesAll 4 none :: qtbl) B.pre
  have hts : ∀ w ∈ qtbl, w.before _ s = true := fun w h => hts0 w (List.mem_cons_of_mem _ h)
  have hown : s.vm.findClass RX11 = some m.cls := findClass_of_methodNamed B.named
  have hlocks := B.notSynchronized
  have hz0 : (0 : Int32).toInt = 0 := rfl
  have hS : va_S (qw_A o 41) s.heap s.heap [] := va_S.rf
  have hl := lv_entry ([.ref (o + 0), .ref (o + 5), .int 0]) (n := 4) (Nat.le_of_ble_eq_true rfl)
  rw [lg_entry_eq]
  generalize (lg_sl ([.ref (o + 0), .ref (o + 5), .int 0]) ++ List.replicate (4 - (lg_sl ([.ref (o + 0), .ref (o + 5), .int 0])).length) Slot.unset).toArray = ls at hl ⊢
  have hl : lv_has ls 4 [(0, .ref (o + 0)), (1, .ref (o + 5)), (2, .int 0)] := hl
  refine lv_iconst (v := 0) hx hb dX11_movesAll_0 (by decide) ?_
  refine lv_istore_n (lv' := [(3, .int 0), (0, .ref (o + 0)), (1, .ref (o + 5)), (2, .int 0)]) hx hb dX11_movesAll_1 rfl hl (by decide) rfl (fun ls hl => ?_)
  have loop1 : ∀ (n i1 : Nat) (x1 : Int32) (z1 : Nat → Nat → Int32), 96 < i1 + n → i1 ≤ 96 → 0 ≤ i1 → x1.toInt = (i1 : Int) → (∀ k : Nat, (k ≠ 0) → (k ≠ 40) → (k ≠ 5) → z1 k = z k) → ((z1 0 62).toInt = (z 0 62).toInt + i1) → (∀ j : Nat, j ≠ 62 → z1 0 j = z 0 j) → ∀ (H : Heap) (locs : List Loc), qw_P D vwCl o 41 (qG (GM ca o) z1 y) H → va_S (qw_A o 41) s.heap H locs → ∀ (ls : Array Slot), lv_has ls 4 [(3, .int x1), (0, .ref (o + 0)), (1, .ref (o + 5)), (2, .int 0)] → W p l e (headSpec (Cond.code yX11_movesAll cX11_movesAll 4 none :: qtbl) ({ frames := 2, cells := 0, slots := 0, locals := 83 })).room s m (([.ref (o + 0), .ref (o + 5), .int 0] : List Value).toArray) below meth c H locs 0 0 (MQ below (va_Qv (fun u => (∀ k : Nat, (k ≠ 0) → (k ≠ 40) → (k ≠ 5) → u.1 k = z k) ∧ u.2 = y ∧ (u.1 0 62).toInt = (z 0 62).toInt + 96 ∧ (∀ j : Nat, j ≠ 62 → u.1 0 j = z 0 j)) (qB D vwCl (qT6 ca) o 41 (fun u : qZ => qG (GM ca o) u.1 u.2)) (qw_A o 41)) (([.ref (o + 0), .ref (o + 5), .int 0] : List Value).toArray) s 0 0 (qw_A o 41)) (F0 m 2 ls []) := by
    intro n
    induction n with
    | zero => intro i1 x1 z1 hb1 hi1; exact absurd hb1 (by omega)
    | succ n ih =>
      intro i1 x1 z1 hb1 hi1 ho1 hx1 g1 k1 c1 H locs hP hS ls hl
      refine lv_iload_n hx hb dX11_movesAll_2 rfl (lv_at hl 0 rfl) ?_
      refine lv_aload_n hx hb dX11_movesAll_3 rfl (lv_at hl 2 rfl) ?_
      refine qa_len hx hb hK hP (q0 := 5) (by decide) 0 (hgM_5 ca o) rfl (v := 96) rfl dX11_movesAll_4 ?_
      refine lv_icmp_ge (tgt := 25) hx hb dX11_movesAll_5 (by decide) (fun c2 => ?_) (fun c2 => ?_)
      · have t2 : x1.toInt ≥ (96 : Int) := gl_le c2
        exact W.vret hx hb hr (fun t ht hW => ⟨⟨(z1, y), rfl, ⟨(fun (k : Nat) (h0 : k ≠ 0) (h1 : k ≠ 40) (h2 : k ≠ 5) => g1 k h0 h1 h2), rfl, by have := k1; show (z1 0 62).toInt = _; omega, c1⟩, by rw [ht]; exact hP, va_K.moved hW.alike hK⟩, hS.F ht⟩) hS.2.2 dX11_movesAll_25
      · have t2 : x1.toInt < (96 : Int) := gl_nle c2
        refine lv_aload_n hx hb dX11_movesAll_8 rfl (lv_at hl 2 rfl) ?_
        refine lv_iload_n hx hb dX11_movesAll_9 rfl (lv_at hl 0 rfl) ?_
        refine lv_aload_n hx hb dX11_movesAll_10 rfl (lv_at hl 1 rfl) ?_
        refine lv_aload_n hx hb dX11_movesAll_11 rfl (lv_at hl 2 rfl) ?_
        refine lv_iload_n hx hb dX11_movesAll_12 rfl (lv_at hl 0 rfl) ?_
        refine qa_iald hx hb hK hP (q0 := 5) (by decide) 0 (N := 96) (hgM_5 ca o) rfl (gi_in (by omega) (by omega)) dX11_movesAll_13 ?_
        refine lv_topi (fun x3 e3 => ?_)
        refine lv_iload_n hx hb dX11_movesAll_14 rfl (lv_at hl 3 rfl) ?_
        refine qc_Vi (As := [.int x3, .int 0]) (rest := [.int x1, .ref (o + 5)]) (k0 := 2) (m1_moved l D ca o z1 y x3 (by have := k1; omega) (by have := k1; omega)) kc_yX11_moved ⟨hx, hb, hml, hown, hts⟩ wq_1599 rfl rfl ⟨Nat.le_of_ble_eq_true rfl, Nat.le_of_ble_eq_true rfl⟩ wq_all hP hK hS qw_Ai (q0 := 0) (by decide) (hgM_0 ca o _ _) rfl rfl hl.1 rfl (Nat.le_of_ble_eq_true rfl) dX11_movesAll_15 ⟨Nat.zero_le _, Nat.zero_le _⟩ (fun r4 u4 H locs h4 hP hS _ _ => ?_)
        obtain ⟨z4, y4⟩ := u4
        obtain ⟨h4r, h4f, h4y, h4k, h4c⟩ := h4
        dsimp only at h4f h4y h4k h4c hP
        rw [h4y] at hP
        have g4 : ∀ k : Nat, (k ≠ 0) → (k ≠ 40) → (k ≠ 5) → z4 k = z k := fun k h0 h1 h2 => (h4f k h0 h1).trans ((show ∀ k : Nat, (k ≠ 0) → (k ≠ 40) → (k ≠ 5) → z1 k = z k from (fun (k : Nat) (h0 : k ≠ 0) (h1 : k ≠ 40) (h2 : k ≠ 5) => g1 k h0 h1 h2)) k h0 h1 h2)
        refine qa_iast hx hb hK hP hS qw_Ai (q0 := 5) (by decide) 0 (N := 96) (hgM_5 ca o) rfl (gi_in (by omega) (by omega)) dX11_movesAll_18 (fun H locs hP hS => ?_)
        obtain ⟨x5, e5⟩ : ∃ t : Int32, t = x1 + 1 := ⟨_, rfl⟩
        refine lv_iinc (v := x5) (lv' := [(3, .int x5), (0, .ref (o + 0)), (1, .ref (o + 5)), (2, .int 0)]) hx hb dX11_movesAll_19 hl (k := 0) rfl (by rw [e5]; rfl) (by decide) rfl (fun ls hl => ?_)
        refine lv_goto (tgt := 2) hx hb dX11_movesAll_22 (by decide) ?_
        exact ih (i1 + 1) x5 (qu z4 5 (x1.toNatClampNeg) r4) (by omega) (by omega) (by omega) (by rw [e5]; rw [gi_add (by rw [hx1]; show _ ≤ _ + (1 : Int); omega) (by rw [hx1]; show _ + (1 : Int) ≤ _; omega), hx1]; rfl) (fun (k : Nat) (h0 : k ≠ 0) (h1 : k ≠ 40) (h2 : k ≠ 5) => by simp only [qu_ne h2]; exact g4 k h0 h1 h2) (by show (z4 0 62).toInt = _; rw [h4k, k1]; omega) (fun j hj => (h4c j hj).trans (c1 j hj)) _ _ hP hS _ (lv_sub hl [0, 1, 2, 3] rfl)
  exact loop1 97 0 0 z (by omega) (by omega) (by omega) rfl (fun _ _ _ _ => rfl) (by omega) (fun j _ => rfl) _ _ hP hS _ (lv_sub hl [0, 1, 2, 3] rfl)

set_option maxRecDepth 100000 in
set_option maxHeartbeats 4000000 in
theorem m1_movesAll6 (l : Launch) (D : va_G) (ca : Nat → ClassId) (o : Nat) (z : Nat → Nat → Int32) (y : Nat → Nat → Int64) (b0 : 0 ≤ (z 0 62).toInt) (b1 : (z 0 62).toInt + 16 ≤ 249)  : qM l yX11_movesAll cX11_movesAll 4 none 2 83 (qPre D vwCl (qT6 ca) o 41 (qG (GM ca o) z y) [.ref (o + 0), .ref (o + 6), .int 0]) (va_Qv (fun u => (∀ k : Nat, (k ≠ 0) → (k ≠ 40) → (k ≠ 6) → u.1 k = z k) ∧ u.2 = y ∧ (u.1 0 62).toInt = (z 0 62).toInt + 16 ∧ (∀ j : Nat, j ≠ 62 → u.1 0 j = z 0 j)) (qB D vwCl (qT6 ca) o 41 (fun u : qZ => qG (GM ca o) u.1 u.2)) (qw_A o 41)) (qw_A o 41) := by
  refine Met.ofW (cc := cX11_movesAll) (maxL := 4) (ret := none) (by decide) rfl ?_
  intro p e s m args below meth c s₁ B hml hv
  obtain ⟨rfl, hP, hK⟩ := hv
  have hx := B.exec
  have hb := B.bytes
  have hr := B.returns
  have hts0 := atoms_spec (ws := Cond.code yX11_movesAll cX11_movesAll 4 none :: qtbl) B.pre
  have hts : ∀ w ∈ qtbl, w.before _ s = true := fun w h => hts0 w (List.mem_cons_of_mem _ h)
  have hown : s.vm.findClass RX11 = some m.cls := findClass_of_methodNamed B.named
  have hlocks := B.notSynchronized
  have hz0 : (0 : Int32).toInt = 0 := rfl
  have hS : va_S (qw_A o 41) s.heap s.heap [] := va_S.rf
  have hl := lv_entry ([.ref (o + 0), .ref (o + 6), .int 0]) (n := 4) (Nat.le_of_ble_eq_true rfl)
  rw [lg_entry_eq]
  generalize (lg_sl ([.ref (o + 0), .ref (o + 6), .int 0]) ++ List.replicate (4 - (lg_sl ([.ref (o + 0), .ref (o + 6), .int 0])).length) Slot.unset).toArray = ls at hl ⊢
  have hl : lv_has ls 4 [(0, .ref (o + 0)), (1, .ref (o + 6)), (2, .int 0)] := hl
  refine lv_iconst (v := 0) hx hb dX11_movesAll_0 (by decide) ?_
  refine lv_istore_n (lv' := [(3, .int 0), (0, .ref (o + 0)), (1, .ref (o + 6)), (2, .int 0)]) hx hb dX11_movesAll_1 rfl hl (by decide) rfl (fun ls hl => ?_)
  have loop1 : ∀ (n i1 : Nat) (x1 : Int32) (z1 : Nat → Nat → Int32), 16 < i1 + n → i1 ≤ 16 → 0 ≤ i1 → x1.toInt = (i1 : Int) → (∀ k : Nat, (k ≠ 0) → (k ≠ 40) → (k ≠ 6) → z1 k = z k) → ((z1 0 62).toInt = (z 0 62).toInt + i1) → (∀ j : Nat, j ≠ 62 → z1 0 j = z 0 j) → ∀ (H : Heap) (locs : List Loc), qw_P D vwCl o 41 (qG (GM ca o) z1 y) H → va_S (qw_A o 41) s.heap H locs → ∀ (ls : Array Slot), lv_has ls 4 [(3, .int x1), (0, .ref (o + 0)), (1, .ref (o + 6)), (2, .int 0)] → W p l e (headSpec (Cond.code yX11_movesAll cX11_movesAll 4 none :: qtbl) ({ frames := 2, cells := 0, slots := 0, locals := 83 })).room s m (([.ref (o + 0), .ref (o + 6), .int 0] : List Value).toArray) below meth c H locs 0 0 (MQ below (va_Qv (fun u => (∀ k : Nat, (k ≠ 0) → (k ≠ 40) → (k ≠ 6) → u.1 k = z k) ∧ u.2 = y ∧ (u.1 0 62).toInt = (z 0 62).toInt + 16 ∧ (∀ j : Nat, j ≠ 62 → u.1 0 j = z 0 j)) (qB D vwCl (qT6 ca) o 41 (fun u : qZ => qG (GM ca o) u.1 u.2)) (qw_A o 41)) (([.ref (o + 0), .ref (o + 6), .int 0] : List Value).toArray) s 0 0 (qw_A o 41)) (F0 m 2 ls []) := by
    intro n
    induction n with
    | zero => intro i1 x1 z1 hb1 hi1; exact absurd hb1 (by omega)
    | succ n ih =>
      intro i1 x1 z1 hb1 hi1 ho1 hx1 g1 k1 c1 H locs hP hS ls hl
      refine lv_iload_n hx hb dX11_movesAll_2 rfl (lv_at hl 0 rfl) ?_
      refine lv_aload_n hx hb dX11_movesAll_3 rfl (lv_at hl 2 rfl) ?_
      refine qa_len hx hb hK hP (q0 := 6) (by decide) 0 (hgM_6 ca o) rfl (v := 16) rfl dX11_movesAll_4 ?_
      refine lv_icmp_ge (tgt := 25) hx hb dX11_movesAll_5 (by decide) (fun c2 => ?_) (fun c2 => ?_)
      · have t2 : x1.toInt ≥ (16 : Int) := gl_le c2
        exact W.vret hx hb hr (fun t ht hW => ⟨⟨(z1, y), rfl, ⟨(fun (k : Nat) (h0 : k ≠ 0) (h1 : k ≠ 40) (h2 : k ≠ 6) => g1 k h0 h1 h2), rfl, by have := k1; show (z1 0 62).toInt = _; omega, c1⟩, by rw [ht]; exact hP, va_K.moved hW.alike hK⟩, hS.F ht⟩) hS.2.2 dX11_movesAll_25
      · have t2 : x1.toInt < (16 : Int) := gl_nle c2
        refine lv_aload_n hx hb dX11_movesAll_8 rfl (lv_at hl 2 rfl) ?_
        refine lv_iload_n hx hb dX11_movesAll_9 rfl (lv_at hl 0 rfl) ?_
        refine lv_aload_n hx hb dX11_movesAll_10 rfl (lv_at hl 1 rfl) ?_
        refine lv_aload_n hx hb dX11_movesAll_11 rfl (lv_at hl 2 rfl) ?_
        refine lv_iload_n hx hb dX11_movesAll_12 rfl (lv_at hl 0 rfl) ?_
        refine qa_iald hx hb hK hP (q0 := 6) (by decide) 0 (N := 16) (hgM_6 ca o) rfl (gi_in (by omega) (by omega)) dX11_movesAll_13 ?_
        refine lv_topi (fun x3 e3 => ?_)
        refine lv_iload_n hx hb dX11_movesAll_14 rfl (lv_at hl 3 rfl) ?_
        refine qc_Vi (As := [.int x3, .int 0]) (rest := [.int x1, .ref (o + 6)]) (k0 := 2) (m1_moved l D ca o z1 y x3 (by have := k1; omega) (by have := k1; omega)) kc_yX11_moved ⟨hx, hb, hml, hown, hts⟩ wq_1599 rfl rfl ⟨Nat.le_of_ble_eq_true rfl, Nat.le_of_ble_eq_true rfl⟩ wq_all hP hK hS qw_Ai (q0 := 0) (by decide) (hgM_0 ca o _ _) rfl rfl hl.1 rfl (Nat.le_of_ble_eq_true rfl) dX11_movesAll_15 ⟨Nat.zero_le _, Nat.zero_le _⟩ (fun r4 u4 H locs h4 hP hS _ _ => ?_)
        obtain ⟨z4, y4⟩ := u4
        obtain ⟨h4r, h4f, h4y, h4k, h4c⟩ := h4
        dsimp only at h4f h4y h4k h4c hP
        rw [h4y] at hP
        have g4 : ∀ k : Nat, (k ≠ 0) → (k ≠ 40) → (k ≠ 6) → z4 k = z k := fun k h0 h1 h2 => (h4f k h0 h1).trans ((show ∀ k : Nat, (k ≠ 0) → (k ≠ 40) → (k ≠ 6) → z1 k = z k from (fun (k : Nat) (h0 : k ≠ 0) (h1 : k ≠ 40) (h2 : k ≠ 6) => g1 k h0 h1 h2)) k h0 h1 h2)
        refine qa_iast hx hb hK hP hS qw_Ai (q0 := 6) (by decide) 0 (N := 16) (hgM_6 ca o) rfl (gi_in (by omega) (by omega)) dX11_movesAll_18 (fun H locs hP hS => ?_)
        obtain ⟨x5, e5⟩ : ∃ t : Int32, t = x1 + 1 := ⟨_, rfl⟩
        refine lv_iinc (v := x5) (lv' := [(3, .int x5), (0, .ref (o + 0)), (1, .ref (o + 6)), (2, .int 0)]) hx hb dX11_movesAll_19 hl (k := 0) rfl (by rw [e5]; rfl) (by decide) rfl (fun ls hl => ?_)
        refine lv_goto (tgt := 2) hx hb dX11_movesAll_22 (by decide) ?_
        exact ih (i1 + 1) x5 (qu z4 6 (x1.toNatClampNeg) r4) (by omega) (by omega) (by omega) (by rw [e5]; rw [gi_add (by rw [hx1]; show _ ≤ _ + (1 : Int); omega) (by rw [hx1]; show _ + (1 : Int) ≤ _; omega), hx1]; rfl) (fun (k : Nat) (h0 : k ≠ 0) (h1 : k ≠ 40) (h2 : k ≠ 6) => by simp only [qu_ne h2]; exact g4 k h0 h1 h2) (by show (z4 0 62).toInt = _; rw [h4k, k1]; omega) (fun j hj => (h4c j hj).trans (c1 j hj)) _ _ hP hS _ (lv_sub hl [0, 1, 2, 3] rfl)
  exact loop1 17 0 0 z (by omega) (by omega) (by omega) rfl (fun _ _ _ _ => rfl) (by omega) (fun j _ => rfl) _ _ hP hS _ (lv_sub hl [0, 1, 2, 3] rfl)

set_option maxRecDepth 100000 in
set_option maxHeartbeats 4000000 in
theorem m1_movesAll7 (l : Launch) (D : va_G) (ca : Nat → ClassId) (o : Nat) (z : Nat → Nat → Int32) (y : Nat → Nat → Int64) (b0 : 0 ≤ (z 0 62).toInt) (b1 : (z 0 62).toInt + 16 ≤ 249)  : qM l yX11_movesAll cX11_movesAll 4 none 2 83 (qPre D vwCl (qT6 ca) o 41 (qG (GM ca o) z y) [.ref (o + 0), .ref (o + 7), .int 0]) (va_Qv (fun u => (∀ k : Nat, (k ≠ 0) → (k ≠ 40) → (k ≠ 7) → u.1 k = z k) ∧ u.2 = y ∧ (u.1 0 62).toInt = (z 0 62).toInt + 16 ∧ (∀ j : Nat, j ≠ 62 → u.1 0 j = z 0 j)) (qB D vwCl (qT6 ca) o 41 (fun u : qZ => qG (GM ca o) u.1 u.2)) (qw_A o 41)) (qw_A o 41) := by
  refine Met.ofW (cc := cX11_movesAll) (maxL := 4) (ret := none) (by decide) rfl ?_
  intro p e s m args below meth c s₁ B hml hv
  obtain ⟨rfl, hP, hK⟩ := hv
  have hx := B.exec
  have hb := B.bytes
  have hr := B.returns
  have hts0 := atoms_spec (ws := Cond.code yX11_movesAll cX11_movesAll 4 none :: qtbl) B.pre
  have hts : ∀ w ∈ qtbl, w.before _ s = true := fun w h => hts0 w (List.mem_cons_of_mem _ h)
  have hown : s.vm.findClass RX11 = some m.cls := findClass_of_methodNamed B.named
  have hlocks := B.notSynchronized
  have hz0 : (0 : Int32).toInt = 0 := rfl
  have hS : va_S (qw_A o 41) s.heap s.heap [] := va_S.rf
  have hl := lv_entry ([.ref (o + 0), .ref (o + 7), .int 0]) (n := 4) (Nat.le_of_ble_eq_true rfl)
  rw [lg_entry_eq]
  generalize (lg_sl ([.ref (o + 0), .ref (o + 7), .int 0]) ++ List.replicate (4 - (lg_sl ([.ref (o + 0), .ref (o + 7), .int 0])).length) Slot.unset).toArray = ls at hl ⊢
  have hl : lv_has ls 4 [(0, .ref (o + 0)), (1, .ref (o + 7)), (2, .int 0)] := hl
  refine lv_iconst (v := 0) hx hb dX11_movesAll_0 (by decide) ?_
  refine lv_istore_n (lv' := [(3, .int 0), (0, .ref (o + 0)), (1, .ref (o + 7)), (2, .int 0)]) hx hb dX11_movesAll_1 rfl hl (by decide) rfl (fun ls hl => ?_)
  have loop1 : ∀ (n i1 : Nat) (x1 : Int32) (z1 : Nat → Nat → Int32), 16 < i1 + n → i1 ≤ 16 → 0 ≤ i1 → x1.toInt = (i1 : Int) → (∀ k : Nat, (k ≠ 0) → (k ≠ 40) → (k ≠ 7) → z1 k = z k) → ((z1 0 62).toInt = (z 0 62).toInt + i1) → (∀ j : Nat, j ≠ 62 → z1 0 j = z 0 j) → ∀ (H : Heap) (locs : List Loc), qw_P D vwCl o 41 (qG (GM ca o) z1 y) H → va_S (qw_A o 41) s.heap H locs → ∀ (ls : Array Slot), lv_has ls 4 [(3, .int x1), (0, .ref (o + 0)), (1, .ref (o + 7)), (2, .int 0)] → W p l e (headSpec (Cond.code yX11_movesAll cX11_movesAll 4 none :: qtbl) ({ frames := 2, cells := 0, slots := 0, locals := 83 })).room s m (([.ref (o + 0), .ref (o + 7), .int 0] : List Value).toArray) below meth c H locs 0 0 (MQ below (va_Qv (fun u => (∀ k : Nat, (k ≠ 0) → (k ≠ 40) → (k ≠ 7) → u.1 k = z k) ∧ u.2 = y ∧ (u.1 0 62).toInt = (z 0 62).toInt + 16 ∧ (∀ j : Nat, j ≠ 62 → u.1 0 j = z 0 j)) (qB D vwCl (qT6 ca) o 41 (fun u : qZ => qG (GM ca o) u.1 u.2)) (qw_A o 41)) (([.ref (o + 0), .ref (o + 7), .int 0] : List Value).toArray) s 0 0 (qw_A o 41)) (F0 m 2 ls []) := by
    intro n
    induction n with
    | zero => intro i1 x1 z1 hb1 hi1; exact absurd hb1 (by omega)
    | succ n ih =>
      intro i1 x1 z1 hb1 hi1 ho1 hx1 g1 k1 c1 H locs hP hS ls hl
      refine lv_iload_n hx hb dX11_movesAll_2 rfl (lv_at hl 0 rfl) ?_
      refine lv_aload_n hx hb dX11_movesAll_3 rfl (lv_at hl 2 rfl) ?_
      refine qa_len hx hb hK hP (q0 := 7) (by decide) 0 (hgM_7 ca o) rfl (v := 16) rfl dX11_movesAll_4 ?_
      refine lv_icmp_ge (tgt := 25) hx hb dX11_movesAll_5 (by decide) (fun c2 => ?_) (fun c2 => ?_)
      · have t2 : x1.toInt ≥ (16 : Int) := gl_le c2
        exact W.vret hx hb hr (fun t ht hW => ⟨⟨(z1, y), rfl, ⟨(fun (k : Nat) (h0 : k ≠ 0) (h1 : k ≠ 40) (h2 : k ≠ 7) => g1 k h0 h1 h2), rfl, by have := k1; show (z1 0 62).toInt = _; omega, c1⟩, by rw [ht]; exact hP, va_K.moved hW.alike hK⟩, hS.F ht⟩) hS.2.2 dX11_movesAll_25
      · have t2 : x1.toInt < (16 : Int) := gl_nle c2
        refine lv_aload_n hx hb dX11_movesAll_8 rfl (lv_at hl 2 rfl) ?_
        refine lv_iload_n hx hb dX11_movesAll_9 rfl (lv_at hl 0 rfl) ?_
        refine lv_aload_n hx hb dX11_movesAll_10 rfl (lv_at hl 1 rfl) ?_
        refine lv_aload_n hx hb dX11_movesAll_11 rfl (lv_at hl 2 rfl) ?_
        refine lv_iload_n hx hb dX11_movesAll_12 rfl (lv_at hl 0 rfl) ?_
        refine qa_iald hx hb hK hP (q0 := 7) (by decide) 0 (N := 16) (hgM_7 ca o) rfl (gi_in (by omega) (by omega)) dX11_movesAll_13 ?_
        refine lv_topi (fun x3 e3 => ?_)
        refine lv_iload_n hx hb dX11_movesAll_14 rfl (lv_at hl 3 rfl) ?_
        refine qc_Vi (As := [.int x3, .int 0]) (rest := [.int x1, .ref (o + 7)]) (k0 := 2) (m1_moved l D ca o z1 y x3 (by have := k1; omega) (by have := k1; omega)) kc_yX11_moved ⟨hx, hb, hml, hown, hts⟩ wq_1599 rfl rfl ⟨Nat.le_of_ble_eq_true rfl, Nat.le_of_ble_eq_true rfl⟩ wq_all hP hK hS qw_Ai (q0 := 0) (by decide) (hgM_0 ca o _ _) rfl rfl hl.1 rfl (Nat.le_of_ble_eq_true rfl) dX11_movesAll_15 ⟨Nat.zero_le _, Nat.zero_le _⟩ (fun r4 u4 H locs h4 hP hS _ _ => ?_)
        obtain ⟨z4, y4⟩ := u4
        obtain ⟨h4r, h4f, h4y, h4k, h4c⟩ := h4
        dsimp only at h4f h4y h4k h4c hP
        rw [h4y] at hP
        have g4 : ∀ k : Nat, (k ≠ 0) → (k ≠ 40) → (k ≠ 7) → z4 k = z k := fun k h0 h1 h2 => (h4f k h0 h1).trans ((show ∀ k : Nat, (k ≠ 0) → (k ≠ 40) → (k ≠ 7) → z1 k = z k from (fun (k : Nat) (h0 : k ≠ 0) (h1 : k ≠ 40) (h2 : k ≠ 7) => g1 k h0 h1 h2)) k h0 h1 h2)
        refine qa_iast hx hb hK hP hS qw_Ai (q0 := 7) (by decide) 0 (N := 16) (hgM_7 ca o) rfl (gi_in (by omega) (by omega)) dX11_movesAll_18 (fun H locs hP hS => ?_)
        obtain ⟨x5, e5⟩ : ∃ t : Int32, t = x1 + 1 := ⟨_, rfl⟩
        refine lv_iinc (v := x5) (lv' := [(3, .int x5), (0, .ref (o + 0)), (1, .ref (o + 7)), (2, .int 0)]) hx hb dX11_movesAll_19 hl (k := 0) rfl (by rw [e5]; rfl) (by decide) rfl (fun ls hl => ?_)
        refine lv_goto (tgt := 2) hx hb dX11_movesAll_22 (by decide) ?_
        exact ih (i1 + 1) x5 (qu z4 7 (x1.toNatClampNeg) r4) (by omega) (by omega) (by omega) (by rw [e5]; rw [gi_add (by rw [hx1]; show _ ≤ _ + (1 : Int); omega) (by rw [hx1]; show _ + (1 : Int) ≤ _; omega), hx1]; rfl) (fun (k : Nat) (h0 : k ≠ 0) (h1 : k ≠ 40) (h2 : k ≠ 7) => by simp only [qu_ne h2]; exact g4 k h0 h1 h2) (by show (z4 0 62).toInt = _; rw [h4k, k1]; omega) (fun j hj => (h4c j hj).trans (c1 j hj)) _ _ hP hS _ (lv_sub hl [0, 1, 2, 3] rfl)
  exact loop1 17 0 0 z (by omega) (by omega) (by omega) rfl (fun _ _ _ _ => rfl) (by omega) (fun j _ => rfl) _ _ hP hS _ (lv_sub hl [0, 1, 2, 3] rfl)

set_option maxRecDepth 100000 in
set_option maxHeartbeats 4000000 in
theorem m1_movesAll8 (l : Launch) (D : va_G) (ca : Nat → ClassId) (o : Nat) (z : Nat → Nat → Int32) (y : Nat → Nat → Int64) (b0 : 0 ≤ (z 0 62).toInt) (b1 : (z 0 62).toInt + 16 ≤ 249)  : qM l yX11_movesAll cX11_movesAll 4 none 2 83 (qPre D vwCl (qT6 ca) o 41 (qG (GM ca o) z y) [.ref (o + 0), .ref (o + 8), .int 0]) (va_Qv (fun u => (∀ k : Nat, (k ≠ 0) → (k ≠ 40) → (k ≠ 8) → u.1 k = z k) ∧ u.2 = y ∧ (u.1 0 62).toInt = (z 0 62).toInt + 16 ∧ (∀ j : Nat, j ≠ 62 → u.1 0 j = z 0 j)) (qB D vwCl (qT6 ca) o 41 (fun u : qZ => qG (GM ca o) u.1 u.2)) (qw_A o 41)) (qw_A o 41) := by
  refine Met.ofW (cc := cX11_movesAll) (maxL := 4) (ret := none) (by decide) rfl ?_
  intro p e s m args below meth c s₁ B hml hv
  obtain ⟨rfl, hP, hK⟩ := hv
  have hx := B.exec
  have hb := B.bytes
  have hr := B.returns
  have hts0 := atoms_spec (ws := Cond.code yX11_movesAll cX11_movesAll 4 none :: qtbl) B.pre
  have hts : ∀ w ∈ qtbl, w.before _ s = true := fun w h => hts0 w (List.mem_cons_of_mem _ h)
  have hown : s.vm.findClass RX11 = some m.cls := findClass_of_methodNamed B.named
  have hlocks := B.notSynchronized
  have hz0 : (0 : Int32).toInt = 0 := rfl
  have hS : va_S (qw_A o 41) s.heap s.heap [] := va_S.rf
  have hl := lv_entry ([.ref (o + 0), .ref (o + 8), .int 0]) (n := 4) (Nat.le_of_ble_eq_true rfl)
  rw [lg_entry_eq]
  generalize (lg_sl ([.ref (o + 0), .ref (o + 8), .int 0]) ++ List.replicate (4 - (lg_sl ([.ref (o + 0), .ref (o + 8), .int 0])).length) Slot.unset).toArray = ls at hl ⊢
  have hl : lv_has ls 4 [(0, .ref (o + 0)), (1, .ref (o + 8)), (2, .int 0)] := hl
  refine lv_iconst (v := 0) hx hb dX11_movesAll_0 (by decide) ?_
  refine lv_istore_n (lv' := [(3, .int 0), (0, .ref (o + 0)), (1, .ref (o + 8)), (2, .int 0)]) hx hb dX11_movesAll_1 rfl hl (by decide) rfl (fun ls hl => ?_)
  have loop1 : ∀ (n i1 : Nat) (x1 : Int32) (z1 : Nat → Nat → Int32), 16 < i1 + n → i1 ≤ 16 → 0 ≤ i1 → x1.toInt = (i1 : Int) → (∀ k : Nat, (k ≠ 0) → (k ≠ 40) → (k ≠ 8) → z1 k = z k) → ((z1 0 62).toInt = (z 0 62).toInt + i1) → (∀ j : Nat, j ≠ 62 → z1 0 j = z 0 j) → ∀ (H : Heap) (locs : List Loc), qw_P D vwCl o 41 (qG (GM ca o) z1 y) H → va_S (qw_A o 41) s.heap H locs → ∀ (ls : Array Slot), lv_has ls 4 [(3, .int x1), (0, .ref (o + 0)), (1, .ref (o + 8)), (2, .int 0)] → W p l e (headSpec (Cond.code yX11_movesAll cX11_movesAll 4 none :: qtbl) ({ frames := 2, cells := 0, slots := 0, locals := 83 })).room s m (([.ref (o + 0), .ref (o + 8), .int 0] : List Value).toArray) below meth c H locs 0 0 (MQ below (va_Qv (fun u => (∀ k : Nat, (k ≠ 0) → (k ≠ 40) → (k ≠ 8) → u.1 k = z k) ∧ u.2 = y ∧ (u.1 0 62).toInt = (z 0 62).toInt + 16 ∧ (∀ j : Nat, j ≠ 62 → u.1 0 j = z 0 j)) (qB D vwCl (qT6 ca) o 41 (fun u : qZ => qG (GM ca o) u.1 u.2)) (qw_A o 41)) (([.ref (o + 0), .ref (o + 8), .int 0] : List Value).toArray) s 0 0 (qw_A o 41)) (F0 m 2 ls []) := by
    intro n
    induction n with
    | zero => intro i1 x1 z1 hb1 hi1; exact absurd hb1 (by omega)
    | succ n ih =>
      intro i1 x1 z1 hb1 hi1 ho1 hx1 g1 k1 c1 H locs hP hS ls hl
      refine lv_iload_n hx hb dX11_movesAll_2 rfl (lv_at hl 0 rfl) ?_
      refine lv_aload_n hx hb dX11_movesAll_3 rfl (lv_at hl 2 rfl) ?_
      refine qa_len hx hb hK hP (q0 := 8) (by decide) 0 (hgM_8 ca o) rfl (v := 16) rfl dX11_movesAll_4 ?_
      refine lv_icmp_ge (tgt := 25) hx hb dX11_movesAll_5 (by decide) (fun c2 => ?_) (fun c2 => ?_)
      · have t2 : x1.toInt ≥ (16 : Int) := gl_le c2
        exact W.vret hx hb hr (fun t ht hW => ⟨⟨(z1, y), rfl, ⟨(fun (k : Nat) (h0 : k ≠ 0) (h1 : k ≠ 40) (h2 : k ≠ 8) => g1 k h0 h1 h2), rfl, by have := k1; show (z1 0 62).toInt = _; omega, c1⟩, by rw [ht]; exact hP, va_K.moved hW.alike hK⟩, hS.F ht⟩) hS.2.2 dX11_movesAll_25
      · have t2 : x1.toInt < (16 : Int) := gl_nle c2
        refine lv_aload_n hx hb dX11_movesAll_8 rfl (lv_at hl 2 rfl) ?_
        refine lv_iload_n hx hb dX11_movesAll_9 rfl (lv_at hl 0 rfl) ?_
        refine lv_aload_n hx hb dX11_movesAll_10 rfl (lv_at hl 1 rfl) ?_
        refine lv_aload_n hx hb dX11_movesAll_11 rfl (lv_at hl 2 rfl) ?_
        refine lv_iload_n hx hb dX11_movesAll_12 rfl (lv_at hl 0 rfl) ?_
        refine qa_iald hx hb hK hP (q0 := 8) (by decide) 0 (N := 16) (hgM_8 ca o) rfl (gi_in (by omega) (by omega)) dX11_movesAll_13 ?_
        refine lv_topi (fun x3 e3 => ?_)
        refine lv_iload_n hx hb dX11_movesAll_14 rfl (lv_at hl 3 rfl) ?_
        refine qc_Vi (As := [.int x3, .int 0]) (rest := [.int x1, .ref (o + 8)]) (k0 := 2) (m1_moved l D ca o z1 y x3 (by have := k1; omega) (by have := k1; omega)) kc_yX11_moved ⟨hx, hb, hml, hown, hts⟩ wq_1599 rfl rfl ⟨Nat.le_of_ble_eq_true rfl, Nat.le_of_ble_eq_true rfl⟩ wq_all hP hK hS qw_Ai (q0 := 0) (by decide) (hgM_0 ca o _ _) rfl rfl hl.1 rfl (Nat.le_of_ble_eq_true rfl) dX11_movesAll_15 ⟨Nat.zero_le _, Nat.zero_le _⟩ (fun r4 u4 H locs h4 hP hS _ _ => ?_)
        obtain ⟨z4, y4⟩ := u4
        obtain ⟨h4r, h4f, h4y, h4k, h4c⟩ := h4
        dsimp only at h4f h4y h4k h4c hP
        rw [h4y] at hP
        have g4 : ∀ k : Nat, (k ≠ 0) → (k ≠ 40) → (k ≠ 8) → z4 k = z k := fun k h0 h1 h2 => (h4f k h0 h1).trans ((show ∀ k : Nat, (k ≠ 0) → (k ≠ 40) → (k ≠ 8) → z1 k = z k from (fun (k : Nat) (h0 : k ≠ 0) (h1 : k ≠ 40) (h2 : k ≠ 8) => g1 k h0 h1 h2)) k h0 h1 h2)
        refine qa_iast hx hb hK hP hS qw_Ai (q0 := 8) (by decide) 0 (N := 16) (hgM_8 ca o) rfl (gi_in (by omega) (by omega)) dX11_movesAll_18 (fun H locs hP hS => ?_)
        obtain ⟨x5, e5⟩ : ∃ t : Int32, t = x1 + 1 := ⟨_, rfl⟩
        refine lv_iinc (v := x5) (lv' := [(3, .int x5), (0, .ref (o + 0)), (1, .ref (o + 8)), (2, .int 0)]) hx hb dX11_movesAll_19 hl (k := 0) rfl (by rw [e5]; rfl) (by decide) rfl (fun ls hl => ?_)
        refine lv_goto (tgt := 2) hx hb dX11_movesAll_22 (by decide) ?_
        exact ih (i1 + 1) x5 (qu z4 8 (x1.toNatClampNeg) r4) (by omega) (by omega) (by omega) (by rw [e5]; rw [gi_add (by rw [hx1]; show _ ≤ _ + (1 : Int); omega) (by rw [hx1]; show _ + (1 : Int) ≤ _; omega), hx1]; rfl) (fun (k : Nat) (h0 : k ≠ 0) (h1 : k ≠ 40) (h2 : k ≠ 8) => by simp only [qu_ne h2]; exact g4 k h0 h1 h2) (by show (z4 0 62).toInt = _; rw [h4k, k1]; omega) (fun j hj => (h4c j hj).trans (c1 j hj)) _ _ hP hS _ (lv_sub hl [0, 1, 2, 3] rfl)
  exact loop1 17 0 0 z (by omega) (by omega) (by omega) rfl (fun _ _ _ _ => rfl) (by omega) (fun j _ => rfl) _ _ hP hS _ (lv_sub hl [0, 1, 2, 3] rfl)

set_option maxRecDepth 100000 in
set_option maxHeartbeats 4000000 in
theorem m1_movesAll9 (l : Launch) (D : va_G) (ca : Nat → ClassId) (o : Nat) (z : Nat → Nat → Int32) (y : Nat → Nat → Int64) (b0 : 0 ≤ (z 0 62).toInt) (b1 : (z 0 62).toInt + 16 ≤ 249)  : qM l yX11_movesAll cX11_movesAll 4 none 2 83 (qPre D vwCl (qT6 ca) o 41 (qG (GM ca o) z y) [.ref (o + 0), .ref (o + 9), .int 0]) (va_Qv (fun u => (∀ k : Nat, (k ≠ 0) → (k ≠ 40) → (k ≠ 9) → u.1 k = z k) ∧ u.2 = y ∧ (u.1 0 62).toInt = (z 0 62).toInt + 16 ∧ (∀ j : Nat, j ≠ 62 → u.1 0 j = z 0 j)) (qB D vwCl (qT6 ca) o 41 (fun u : qZ => qG (GM ca o) u.1 u.2)) (qw_A o 41)) (qw_A o 41) := by
  refine Met.ofW (cc := cX11_movesAll) (maxL := 4) (ret := none) (by decide) rfl ?_
  intro p e s m args below meth c s₁ B hml hv
  obtain ⟨rfl, hP, hK⟩ := hv
  have hx := B.exec
  have hb := B.bytes
  have hr := B.returns
  have hts0 := atoms_spec (ws := Cond.code yX11_movesAll cX11_movesAll 4 none :: qtbl) B.pre
  have hts : ∀ w ∈ qtbl, w.before _ s = true := fun w h => hts0 w (List.mem_cons_of_mem _ h)
  have hown : s.vm.findClass RX11 = some m.cls := findClass_of_methodNamed B.named
  have hlocks := B.notSynchronized
  have hz0 : (0 : Int32).toInt = 0 := rfl
  have hS : va_S (qw_A o 41) s.heap s.heap [] := va_S.rf
  have hl := lv_entry ([.ref (o + 0), .ref (o + 9), .int 0]) (n := 4) (Nat.le_of_ble_eq_true rfl)
  rw [lg_entry_eq]
  generalize (lg_sl ([.ref (o + 0), .ref (o + 9), .int 0]) ++ List.replicate (4 - (lg_sl ([.ref (o + 0), .ref (o + 9), .int 0])).length) Slot.unset).toArray = ls at hl ⊢
  have hl : lv_has ls 4 [(0, .ref (o + 0)), (1, .ref (o + 9)), (2, .int 0)] := hl
  refine lv_iconst (v := 0) hx hb dX11_movesAll_0 (by decide) ?_
  refine lv_istore_n (lv' := [(3, .int 0), (0, .ref (o + 0)), (1, .ref (o + 9)), (2, .int 0)]) hx hb dX11_movesAll_1 rfl hl (by decide) rfl (fun ls hl => ?_)
  have loop1 : ∀ (n i1 : Nat) (x1 : Int32) (z1 : Nat → Nat → Int32), 16 < i1 + n → i1 ≤ 16 → 0 ≤ i1 → x1.toInt = (i1 : Int) → (∀ k : Nat, (k ≠ 0) → (k ≠ 40) → (k ≠ 9) → z1 k = z k) → ((z1 0 62).toInt = (z 0 62).toInt + i1) → (∀ j : Nat, j ≠ 62 → z1 0 j = z 0 j) → ∀ (H : Heap) (locs : List Loc), qw_P D vwCl o 41 (qG (GM ca o) z1 y) H → va_S (qw_A o 41) s.heap H locs → ∀ (ls : Array Slot), lv_has ls 4 [(3, .int x1), (0, .ref (o + 0)), (1, .ref (o + 9)), (2, .int 0)] → W p l e (headSpec (Cond.code yX11_movesAll cX11_movesAll 4 none :: qtbl) ({ frames := 2, cells := 0, slots := 0, locals := 83 })).room s m (([.ref (o + 0), .ref (o + 9), .int 0] : List Value).toArray) below meth c H locs 0 0 (MQ below (va_Qv (fun u => (∀ k : Nat, (k ≠ 0) → (k ≠ 40) → (k ≠ 9) → u.1 k = z k) ∧ u.2 = y ∧ (u.1 0 62).toInt = (z 0 62).toInt + 16 ∧ (∀ j : Nat, j ≠ 62 → u.1 0 j = z 0 j)) (qB D vwCl (qT6 ca) o 41 (fun u : qZ => qG (GM ca o) u.1 u.2)) (qw_A o 41)) (([.ref (o + 0), .ref (o + 9), .int 0] : List Value).toArray) s 0 0 (qw_A o 41)) (F0 m 2 ls []) := by
    intro n
    induction n with
    | zero => intro i1 x1 z1 hb1 hi1; exact absurd hb1 (by omega)
    | succ n ih =>
      intro i1 x1 z1 hb1 hi1 ho1 hx1 g1 k1 c1 H locs hP hS ls hl
      refine lv_iload_n hx hb dX11_movesAll_2 rfl (lv_at hl 0 rfl) ?_
      refine lv_aload_n hx hb dX11_movesAll_3 rfl (lv_at hl 2 rfl) ?_
      refine qa_len hx hb hK hP (q0 := 9) (by decide) 0 (hgM_9 ca o) rfl (v := 16) rfl dX11_movesAll_4 ?_
      refine lv_icmp_ge (tgt := 25) hx hb dX11_movesAll_5 (by decide) (fun c2 => ?_) (fun c2 => ?_)
      · have t2 : x1.toInt ≥ (16 : Int) := gl_le c2
        exact W.vret hx hb hr (fun t ht hW => ⟨⟨(z1, y), rfl, ⟨(fun (k : Nat) (h0 : k ≠ 0) (h1 : k ≠ 40) (h2 : k ≠ 9) => g1 k h0 h1 h2), rfl, by have := k1; show (z1 0 62).toInt = _; omega, c1⟩, by rw [ht]; exact hP, va_K.moved hW.alike hK⟩, hS.F ht⟩) hS.2.2 dX11_movesAll_25
      · have t2 : x1.toInt < (16 : Int) := gl_nle c2
        refine lv_aload_n hx hb dX11_movesAll_8 rfl (lv_at hl 2 rfl) ?_
        refine lv_iload_n hx hb dX11_movesAll_9 rfl (lv_at hl 0 rfl) ?_
        refine lv_aload_n hx hb dX11_movesAll_10 rfl (lv_at hl 1 rfl) ?_
        refine lv_aload_n hx hb dX11_movesAll_11 rfl (lv_at hl 2 rfl) ?_
        refine lv_iload_n hx hb dX11_movesAll_12 rfl (lv_at hl 0 rfl) ?_
        refine qa_iald hx hb hK hP (q0 := 9) (by decide) 0 (N := 16) (hgM_9 ca o) rfl (gi_in (by omega) (by omega)) dX11_movesAll_13 ?_
        refine lv_topi (fun x3 e3 => ?_)
        refine lv_iload_n hx hb dX11_movesAll_14 rfl (lv_at hl 3 rfl) ?_
        refine qc_Vi (As := [.int x3, .int 0]) (rest := [.int x1, .ref (o + 9)]) (k0 := 2) (m1_moved l D ca o z1 y x3 (by have := k1; omega) (by have := k1; omega)) kc_yX11_moved ⟨hx, hb, hml, hown, hts⟩ wq_1599 rfl rfl ⟨Nat.le_of_ble_eq_true rfl, Nat.le_of_ble_eq_true rfl⟩ wq_all hP hK hS qw_Ai (q0 := 0) (by decide) (hgM_0 ca o _ _) rfl rfl hl.1 rfl (Nat.le_of_ble_eq_true rfl) dX11_movesAll_15 ⟨Nat.zero_le _, Nat.zero_le _⟩ (fun r4 u4 H locs h4 hP hS _ _ => ?_)
        obtain ⟨z4, y4⟩ := u4
        obtain ⟨h4r, h4f, h4y, h4k, h4c⟩ := h4
        dsimp only at h4f h4y h4k h4c hP
        rw [h4y] at hP
        have g4 : ∀ k : Nat, (k ≠ 0) → (k ≠ 40) → (k ≠ 9) → z4 k = z k := fun k h0 h1 h2 => (h4f k h0 h1).trans ((show ∀ k : Nat, (k ≠ 0) → (k ≠ 40) → (k ≠ 9) → z1 k = z k from (fun (k : Nat) (h0 : k ≠ 0) (h1 : k ≠ 40) (h2 : k ≠ 9) => g1 k h0 h1 h2)) k h0 h1 h2)
        refine qa_iast hx hb hK hP hS qw_Ai (q0 := 9) (by decide) 0 (N := 16) (hgM_9 ca o) rfl (gi_in (by omega) (by omega)) dX11_movesAll_18 (fun H locs hP hS => ?_)
        obtain ⟨x5, e5⟩ : ∃ t : Int32, t = x1 + 1 := ⟨_, rfl⟩
        refine lv_iinc (v := x5) (lv' := [(3, .int x5), (0, .ref (o + 0)), (1, .ref (o + 9)), (2, .int 0)]) hx hb dX11_movesAll_19 hl (k := 0) rfl (by rw [e5]; rfl) (by decide) rfl (fun ls hl => ?_)
        refine lv_goto (tgt := 2) hx hb dX11_movesAll_22 (by decide) ?_
        exact ih (i1 + 1) x5 (qu z4 9 (x1.toNatClampNeg) r4) (by omega) (by omega) (by omega) (by rw [e5]; rw [gi_add (by rw [hx1]; show _ ≤ _ + (1 : Int); omega) (by rw [hx1]; show _ + (1 : Int) ≤ _; omega), hx1]; rfl) (fun (k : Nat) (h0 : k ≠ 0) (h1 : k ≠ 40) (h2 : k ≠ 9) => by simp only [qu_ne h2]; exact g4 k h0 h1 h2) (by show (z4 0 62).toInt = _; rw [h4k, k1]; omega) (fun j hj => (h4c j hj).trans (c1 j hj)) _ _ hP hS _ (lv_sub hl [0, 1, 2, 3] rfl)
  exact loop1 17 0 0 z (by omega) (by omega) (by omega) rfl (fun _ _ _ _ => rfl) (by omega) (fun j _ => rfl) _ _ hP hS _ (lv_sub hl [0, 1, 2, 3] rfl)

set_option maxRecDepth 100000 in
set_option maxHeartbeats 4000000 in
theorem m1_movesAll10 (l : Launch) (D : va_G) (ca : Nat → ClassId) (o : Nat) (z : Nat → Nat → Int32) (y : Nat → Nat → Int64) (b0 : 0 ≤ (z 0 62).toInt) (b1 : (z 0 62).toInt + 16 ≤ 249)  : qM l yX11_movesAll cX11_movesAll 4 none 2 83 (qPre D vwCl (qT6 ca) o 41 (qG (GM ca o) z y) [.ref (o + 0), .ref (o + 10), .int 0]) (va_Qv (fun u => (∀ k : Nat, (k ≠ 0) → (k ≠ 40) → (k ≠ 10) → u.1 k = z k) ∧ u.2 = y ∧ (u.1 0 62).toInt = (z 0 62).toInt + 16 ∧ (∀ j : Nat, j ≠ 62 → u.1 0 j = z 0 j)) (qB D vwCl (qT6 ca) o 41 (fun u : qZ => qG (GM ca o) u.1 u.2)) (qw_A o 41)) (qw_A o 41) := by
  refine Met.ofW (cc := cX11_movesAll) (maxL := 4) (ret := none) (by decide) rfl ?_
  intro p e s m args below meth c s₁ B hml hv
  obtain ⟨rfl, hP, hK⟩ := hv
  have hx := B.exec
  have hb := B.bytes
  have hr := B.returns
  have hts0 := atoms_spec (ws := Cond.code yX11_movesAll cX11_movesAll 4 none :: qtbl) B.pre
  have hts : ∀ w ∈ qtbl, w.before _ s = true := fun w h => hts0 w (List.mem_cons_of_mem _ h)
  have hown : s.vm.findClass RX11 = some m.cls := findClass_of_methodNamed B.named
  have hlocks := B.notSynchronized
  have hz0 : (0 : Int32).toInt = 0 := rfl
  have hS : va_S (qw_A o 41) s.heap s.heap [] := va_S.rf
  have hl := lv_entry ([.ref (o + 0), .ref (o + 10), .int 0]) (n := 4) (Nat.le_of_ble_eq_true rfl)
  rw [lg_entry_eq]
  generalize (lg_sl ([.ref (o + 0), .ref (o + 10), .int 0]) ++ List.replicate (4 - (lg_sl ([.ref (o + 0), .ref (o + 10), .int 0])).length) Slot.unset).toArray = ls at hl ⊢
  have hl : lv_has ls 4 [(0, .ref (o + 0)), (1, .ref (o + 10)), (2, .int 0)] := hl
  refine lv_iconst (v := 0) hx hb dX11_movesAll_0 (by decide) ?_
  refine lv_istore_n (lv' := [(3, .int 0), (0, .ref (o + 0)), (1, .ref (o + 10)), (2, .int 0)]) hx hb dX11_movesAll_1 rfl hl (by decide) rfl (fun ls hl => ?_)
  have loop1 : ∀ (n i1 : Nat) (x1 : Int32) (z1 : Nat → Nat → Int32), 16 < i1 + n → i1 ≤ 16 → 0 ≤ i1 → x1.toInt = (i1 : Int) → (∀ k : Nat, (k ≠ 0) → (k ≠ 40) → (k ≠ 10) → z1 k = z k) → ((z1 0 62).toInt = (z 0 62).toInt + i1) → (∀ j : Nat, j ≠ 62 → z1 0 j = z 0 j) → ∀ (H : Heap) (locs : List Loc), qw_P D vwCl o 41 (qG (GM ca o) z1 y) H → va_S (qw_A o 41) s.heap H locs → ∀ (ls : Array Slot), lv_has ls 4 [(3, .int x1), (0, .ref (o + 0)), (1, .ref (o + 10)), (2, .int 0)] → W p l e (headSpec (Cond.code yX11_movesAll cX11_movesAll 4 none :: qtbl) ({ frames := 2, cells := 0, slots := 0, locals := 83 })).room s m (([.ref (o + 0), .ref (o + 10), .int 0] : List Value).toArray) below meth c H locs 0 0 (MQ below (va_Qv (fun u => (∀ k : Nat, (k ≠ 0) → (k ≠ 40) → (k ≠ 10) → u.1 k = z k) ∧ u.2 = y ∧ (u.1 0 62).toInt = (z 0 62).toInt + 16 ∧ (∀ j : Nat, j ≠ 62 → u.1 0 j = z 0 j)) (qB D vwCl (qT6 ca) o 41 (fun u : qZ => qG (GM ca o) u.1 u.2)) (qw_A o 41)) (([.ref (o + 0), .ref (o + 10), .int 0] : List Value).toArray) s 0 0 (qw_A o 41)) (F0 m 2 ls []) := by
    intro n
    induction n with
    | zero => intro i1 x1 z1 hb1 hi1; exact absurd hb1 (by omega)
    | succ n ih =>
      intro i1 x1 z1 hb1 hi1 ho1 hx1 g1 k1 c1 H locs hP hS ls hl
      refine lv_iload_n hx hb dX11_movesAll_2 rfl (lv_at hl 0 rfl) ?_
      refine lv_aload_n hx hb dX11_movesAll_3 rfl (lv_at hl 2 rfl) ?_
      refine qa_len hx hb hK hP (q0 := 10) (by decide) 0 (hgM_10 ca o) rfl (v := 16) rfl dX11_movesAll_4 ?_
      refine lv_icmp_ge (tgt := 25) hx hb dX11_movesAll_5 (by decide) (fun c2 => ?_) (fun c2 => ?_)
      · have t2 : x1.toInt ≥ (16 : Int) := gl_le c2
        exact W.vret hx hb hr (fun t ht hW => ⟨⟨(z1, y), rfl, ⟨(fun (k : Nat) (h0 : k ≠ 0) (h1 : k ≠ 40) (h2 : k ≠ 10) => g1 k h0 h1 h2), rfl, by have := k1; show (z1 0 62).toInt = _; omega, c1⟩, by rw [ht]; exact hP, va_K.moved hW.alike hK⟩, hS.F ht⟩) hS.2.2 dX11_movesAll_25
      · have t2 : x1.toInt < (16 : Int) := gl_nle c2
        refine lv_aload_n hx hb dX11_movesAll_8 rfl (lv_at hl 2 rfl) ?_
        refine lv_iload_n hx hb dX11_movesAll_9 rfl (lv_at hl 0 rfl) ?_
        refine lv_aload_n hx hb dX11_movesAll_10 rfl (lv_at hl 1 rfl) ?_
        refine lv_aload_n hx hb dX11_movesAll_11 rfl (lv_at hl 2 rfl) ?_
        refine lv_iload_n hx hb dX11_movesAll_12 rfl (lv_at hl 0 rfl) ?_
        refine qa_iald hx hb hK hP (q0 := 10) (by decide) 0 (N := 16) (hgM_10 ca o) rfl (gi_in (by omega) (by omega)) dX11_movesAll_13 ?_
        refine lv_topi (fun x3 e3 => ?_)
        refine lv_iload_n hx hb dX11_movesAll_14 rfl (lv_at hl 3 rfl) ?_
        refine qc_Vi (As := [.int x3, .int 0]) (rest := [.int x1, .ref (o + 10)]) (k0 := 2) (m1_moved l D ca o z1 y x3 (by have := k1; omega) (by have := k1; omega)) kc_yX11_moved ⟨hx, hb, hml, hown, hts⟩ wq_1599 rfl rfl ⟨Nat.le_of_ble_eq_true rfl, Nat.le_of_ble_eq_true rfl⟩ wq_all hP hK hS qw_Ai (q0 := 0) (by decide) (hgM_0 ca o _ _) rfl rfl hl.1 rfl (Nat.le_of_ble_eq_true rfl) dX11_movesAll_15 ⟨Nat.zero_le _, Nat.zero_le _⟩ (fun r4 u4 H locs h4 hP hS _ _ => ?_)
        obtain ⟨z4, y4⟩ := u4
        obtain ⟨h4r, h4f, h4y, h4k, h4c⟩ := h4
        dsimp only at h4f h4y h4k h4c hP
        rw [h4y] at hP
        have g4 : ∀ k : Nat, (k ≠ 0) → (k ≠ 40) → (k ≠ 10) → z4 k = z k := fun k h0 h1 h2 => (h4f k h0 h1).trans ((show ∀ k : Nat, (k ≠ 0) → (k ≠ 40) → (k ≠ 10) → z1 k = z k from (fun (k : Nat) (h0 : k ≠ 0) (h1 : k ≠ 40) (h2 : k ≠ 10) => g1 k h0 h1 h2)) k h0 h1 h2)
        refine qa_iast hx hb hK hP hS qw_Ai (q0 := 10) (by decide) 0 (N := 16) (hgM_10 ca o) rfl (gi_in (by omega) (by omega)) dX11_movesAll_18 (fun H locs hP hS => ?_)
        obtain ⟨x5, e5⟩ : ∃ t : Int32, t = x1 + 1 := ⟨_, rfl⟩
        refine lv_iinc (v := x5) (lv' := [(3, .int x5), (0, .ref (o + 0)), (1, .ref (o + 10)), (2, .int 0)]) hx hb dX11_movesAll_19 hl (k := 0) rfl (by rw [e5]; rfl) (by decide) rfl (fun ls hl => ?_)
        refine lv_goto (tgt := 2) hx hb dX11_movesAll_22 (by decide) ?_
        exact ih (i1 + 1) x5 (qu z4 10 (x1.toNatClampNeg) r4) (by omega) (by omega) (by omega) (by rw [e5]; rw [gi_add (by rw [hx1]; show _ ≤ _ + (1 : Int); omega) (by rw [hx1]; show _ + (1 : Int) ≤ _; omega), hx1]; rfl) (fun (k : Nat) (h0 : k ≠ 0) (h1 : k ≠ 40) (h2 : k ≠ 10) => by simp only [qu_ne h2]; exact g4 k h0 h1 h2) (by show (z4 0 62).toInt = _; rw [h4k, k1]; omega) (fun j hj => (h4c j hj).trans (c1 j hj)) _ _ hP hS _ (lv_sub hl [0, 1, 2, 3] rfl)
  exact loop1 17 0 0 z (by omega) (by omega) (by omega) rfl (fun _ _ _ _ => rfl) (by omega) (fun j _ => rfl) _ _ hP hS _ (lv_sub hl [0, 1, 2, 3] rfl)

set_option maxRecDepth 100000 in
set_option maxHeartbeats 4000000 in
theorem m1_movesAll11 (l : Launch) (D : va_G) (ca : Nat → ClassId) (o : Nat) (z : Nat → Nat → Int32) (y : Nat → Nat → Int64) (b0 : 0 ≤ (z 0 62).toInt) (b1 : (z 0 62).toInt + 16 ≤ 249)  : qM l yX11_movesAll cX11_movesAll 4 none 2 83 (qPre D vwCl (qT6 ca) o 41 (qG (GM ca o) z y) [.ref (o + 0), .ref (o + 11), .int 0]) (va_Qv (fun u => (∀ k : Nat, (k ≠ 0) → (k ≠ 40) → (k ≠ 11) → u.1 k = z k) ∧ u.2 = y ∧ (u.1 0 62).toInt = (z 0 62).toInt + 16 ∧ (∀ j : Nat, j ≠ 62 → u.1 0 j = z 0 j)) (qB D vwCl (qT6 ca) o 41 (fun u : qZ => qG (GM ca o) u.1 u.2)) (qw_A o 41)) (qw_A o 41) := by
  refine Met.ofW (cc := cX11_movesAll) (maxL := 4) (ret := none) (by decide) rfl ?_
  intro p e s m args below meth c s₁ B hml hv
  obtain ⟨rfl, hP, hK⟩ := hv
  have hx := B.exec
  have hb := B.bytes
  have hr := B.returns
  have hts0 := atoms_spec (ws := Cond.code yX11_movesAll cX11_movesAll 4 none :: qtbl) B.pre
  have hts : ∀ w ∈ qtbl, w.before _ s = true := fun w h => hts0 w (List.mem_cons_of_mem _ h)
  have hown : s.vm.findClass RX11 = some m.cls := findClass_of_methodNamed B.named
  have hlocks := B.notSynchronized
  have hz0 : (0 : Int32).toInt = 0 := rfl
  have hS : va_S (qw_A o 41) s.heap s.heap [] := va_S.rf
  have hl := lv_entry ([.ref (o + 0), .ref (o + 11), .int 0]) (n := 4) (Nat.le_of_ble_eq_true rfl)
  rw [lg_entry_eq]
  generalize (lg_sl ([.ref (o + 0), .ref (o + 11), .int 0]) ++ List.replicate (4 - (lg_sl ([.ref (o + 0), .ref (o + 11), .int 0])).length) Slot.unset).toArray = ls at hl ⊢
  have hl : lv_has ls 4 [(0, .ref (o + 0)), (1, .ref (o + 11)), (2, .int 0)] := hl
  refine lv_iconst (v := 0) hx hb dX11_movesAll_0 (by decide) ?_
  refine lv_istore_n (lv' := [(3, .int 0), (0, .ref (o + 0)), (1, .ref (o + 11)), (2, .int 0)]) hx hb dX11_movesAll_1 rfl hl (by decide) rfl (fun ls hl => ?_)
  have loop1 : ∀ (n i1 : Nat) (x1 : Int32) (z1 : Nat → Nat → Int32), 16 < i1 + n → i1 ≤ 16 → 0 ≤ i1 → x1.toInt = (i1 : Int) → (∀ k : Nat, (k ≠ 0) → (k ≠ 40) → (k ≠ 11) → z1 k = z k) → ((z1 0 62).toInt = (z 0 62).toInt + i1) → (∀ j : Nat, j ≠ 62 → z1 0 j = z 0 j) → ∀ (H : Heap) (locs : List Loc), qw_P D vwCl o 41 (qG (GM ca o) z1 y) H → va_S (qw_A o 41) s.heap H locs → ∀ (ls : Array Slot), lv_has ls 4 [(3, .int x1), (0, .ref (o + 0)), (1, .ref (o + 11)), (2, .int 0)] → W p l e (headSpec (Cond.code yX11_movesAll cX11_movesAll 4 none :: qtbl) ({ frames := 2, cells := 0, slots := 0, locals := 83 })).room s m (([.ref (o + 0), .ref (o + 11), .int 0] : List Value).toArray) below meth c H locs 0 0 (MQ below (va_Qv (fun u => (∀ k : Nat, (k ≠ 0) → (k ≠ 40) → (k ≠ 11) → u.1 k = z k) ∧ u.2 = y ∧ (u.1 0 62).toInt = (z 0 62).toInt + 16 ∧ (∀ j : Nat, j ≠ 62 → u.1 0 j = z 0 j)) (qB D vwCl (qT6 ca) o 41 (fun u : qZ => qG (GM ca o) u.1 u.2)) (qw_A o 41)) (([.ref (o + 0), .ref (o + 11), .int 0] : List Value).toArray) s 0 0 (qw_A o 41)) (F0 m 2 ls []) := by
    intro n
    induction n with
    | zero => intro i1 x1 z1 hb1 hi1; exact absurd hb1 (by omega)
    | succ n ih =>
      intro i1 x1 z1 hb1 hi1 ho1 hx1 g1 k1 c1 H locs hP hS ls hl
      refine lv_iload_n hx hb dX11_movesAll_2 rfl (lv_at hl 0 rfl) ?_
      refine lv_aload_n hx hb dX11_movesAll_3 rfl (lv_at hl 2 rfl) ?_
      refine qa_len hx hb hK hP (q0 := 11) (by decide) 0 (hgM_11 ca o) rfl (v := 16) rfl dX11_movesAll_4 ?_
      refine lv_icmp_ge (tgt := 25) hx hb dX11_movesAll_5 (by decide) (fun c2 => ?_) (fun c2 => ?_)
      · have t2 : x1.toInt ≥ (16 : Int) := gl_le c2
        exact W.vret hx hb hr (fun t ht hW => ⟨⟨(z1, y), rfl, ⟨(fun (k : Nat) (h0 : k ≠ 0) (h1 : k ≠ 40) (h2 : k ≠ 11) => g1 k h0 h1 h2), rfl, by have := k1; show (z1 0 62).toInt = _; omega, c1⟩, by rw [ht]; exact hP, va_K.moved hW.alike hK⟩, hS.F ht⟩) hS.2.2 dX11_movesAll_25
      · have t2 : x1.toInt < (16 : Int) := gl_nle c2
        refine lv_aload_n hx hb dX11_movesAll_8 rfl (lv_at hl 2 rfl) ?_
        refine lv_iload_n hx hb dX11_movesAll_9 rfl (lv_at hl 0 rfl) ?_
        refine lv_aload_n hx hb dX11_movesAll_10 rfl (lv_at hl 1 rfl) ?_
        refine lv_aload_n hx hb dX11_movesAll_11 rfl (lv_at hl 2 rfl) ?_
        refine lv_iload_n hx hb dX11_movesAll_12 rfl (lv_at hl 0 rfl) ?_
        refine qa_iald hx hb hK hP (q0 := 11) (by decide) 0 (N := 16) (hgM_11 ca o) rfl (gi_in (by omega) (by omega)) dX11_movesAll_13 ?_
        refine lv_topi (fun x3 e3 => ?_)
        refine lv_iload_n hx hb dX11_movesAll_14 rfl (lv_at hl 3 rfl) ?_
        refine qc_Vi (As := [.int x3, .int 0]) (rest := [.int x1, .ref (o + 11)]) (k0 := 2) (m1_moved l D ca o z1 y x3 (by have := k1; omega) (by have := k1; omega)) kc_yX11_moved ⟨hx, hb, hml, hown, hts⟩ wq_1599 rfl rfl ⟨Nat.le_of_ble_eq_true rfl, Nat.le_of_ble_eq_true rfl⟩ wq_all hP hK hS qw_Ai (q0 := 0) (by decide) (hgM_0 ca o _ _) rfl rfl hl.1 rfl (Nat.le_of_ble_eq_true rfl) dX11_movesAll_15 ⟨Nat.zero_le _, Nat.zero_le _⟩ (fun r4 u4 H locs h4 hP hS _ _ => ?_)
        obtain ⟨z4, y4⟩ := u4
        obtain ⟨h4r, h4f, h4y, h4k, h4c⟩ := h4
        dsimp only at h4f h4y h4k h4c hP
        rw [h4y] at hP
        have g4 : ∀ k : Nat, (k ≠ 0) → (k ≠ 40) → (k ≠ 11) → z4 k = z k := fun k h0 h1 h2 => (h4f k h0 h1).trans ((show ∀ k : Nat, (k ≠ 0) → (k ≠ 40) → (k ≠ 11) → z1 k = z k from (fun (k : Nat) (h0 : k ≠ 0) (h1 : k ≠ 40) (h2 : k ≠ 11) => g1 k h0 h1 h2)) k h0 h1 h2)
        refine qa_iast hx hb hK hP hS qw_Ai (q0 := 11) (by decide) 0 (N := 16) (hgM_11 ca o) rfl (gi_in (by omega) (by omega)) dX11_movesAll_18 (fun H locs hP hS => ?_)
        obtain ⟨x5, e5⟩ : ∃ t : Int32, t = x1 + 1 := ⟨_, rfl⟩
        refine lv_iinc (v := x5) (lv' := [(3, .int x5), (0, .ref (o + 0)), (1, .ref (o + 11)), (2, .int 0)]) hx hb dX11_movesAll_19 hl (k := 0) rfl (by rw [e5]; rfl) (by decide) rfl (fun ls hl => ?_)
        refine lv_goto (tgt := 2) hx hb dX11_movesAll_22 (by decide) ?_
        exact ih (i1 + 1) x5 (qu z4 11 (x1.toNatClampNeg) r4) (by omega) (by omega) (by omega) (by rw [e5]; rw [gi_add (by rw [hx1]; show _ ≤ _ + (1 : Int); omega) (by rw [hx1]; show _ + (1 : Int) ≤ _; omega), hx1]; rfl) (fun (k : Nat) (h0 : k ≠ 0) (h1 : k ≠ 40) (h2 : k ≠ 11) => by simp only [qu_ne h2]; exact g4 k h0 h1 h2) (by show (z4 0 62).toInt = _; rw [h4k, k1]; omega) (fun j hj => (h4c j hj).trans (c1 j hj)) _ _ hP hS _ (lv_sub hl [0, 1, 2, 3] rfl)
  exact loop1 17 0 0 z (by omega) (by omega) (by omega) rfl (fun _ _ _ _ => rfl) (by omega) (fun j _ => rfl) _ _ hP hS _ (lv_sub hl [0, 1, 2, 3] rfl)

set_option maxRecDepth 100000 in
set_option maxHeartbeats 4000000 in
theorem m1_moves (l : Launch) (D : va_G) (ca : Nat → ClassId) (o : Nat) (z : Nat → Nat → Int32) (y : Nat → Nat → Int64)  (h0_6 : z 0 6 = 0) : qM l yX11_moves cX11_moves 2 none 3 106 (qPre D vwCl (qT6 ca) o 41 (qG (GM ca o) z y) [.ref (o + 0), .int 0]) (va_Qv (fun u => u.1 0 6 = 0) (qB D vwCl (qT6 ca) o 41 (fun u : qZ => qG (GM ca o) u.1 u.2)) (qw_A o 41)) (qw_A o 41) := by
  refine Met.ofW (cc := cX11_moves) (maxL := 2) (ret := none) (by decide) rfl ?_
  intro p e s m args below meth c s₁ B hml hv
  obtain ⟨rfl, hP, hK⟩ := hv
  have hx := B.exec
  have hb := B.bytes
  have hr := B.returns
  have hts0 := atoms_spec (ws := Cond.code yX11_moves cX11_moves 2 none :: qtbl) B.pre
  have hts : ∀ w ∈ qtbl, w.before _ s = true := fun w h => hts0 w (List.mem_cons_of_mem _ h)
  have hown : s.vm.findClass RX11 = some m.cls := findClass_of_methodNamed B.named
  have hlocks := B.notSynchronized
  have hz0 : (0 : Int32).toInt = 0 := rfl
  have hS : va_S (qw_A o 41) s.heap s.heap [] := va_S.rf
  have hl := lv_entry ([.ref (o + 0), .int 0]) (n := 2) (Nat.le_of_ble_eq_true rfl)
  rw [lg_entry_eq]
  generalize (lg_sl ([.ref (o + 0), .int 0]) ++ List.replicate (2 - (lg_sl ([.ref (o + 0), .int 0])).length) Slot.unset).toArray = ls at hl ⊢
  have hl : lv_has ls 2 [(0, .ref (o + 0)), (1, .int 0)] := hl
  refine lv_aload_n hx hb dX11_moves_0 rfl (lv_at hl 0 rfl) ?_
  refine lv_iconst (v := 0) hx hb dX11_moves_1 (by decide) ?_
  refine qf_put hx hb hts inX11 tyX11 tyX11_ok nmX11 hown hK hP hS qw_Ai (q0 := 0) (by decide) (hgM_0 ca o) rfl 62 (by decide) wq_1054 rfl (x := 0) 62 rfl rfl rfl (Nat.le_of_ble_eq_true rfl) dX11_moves_2 (fun H locs hP hS => ?_)
  refine lv_aload_n hx hb dX11_moves_5 rfl (lv_at hl 0 rfl) ?_
  refine lv_aload_n hx hb dX11_moves_6 rfl (lv_at hl 0 rfl) ?_
  refine lv_aload_n hx hb dX11_moves_7 rfl (lv_at hl 0 rfl) ?_
  refine qf_get hx hb hts inX11 hown hK hP (q0 := 0) (by decide) (hgM_0 ca o) rfl 4 (by decide) wq_997 (v := .int ((qu z 0 62 0) 0 4)) rfl dX11_moves_8 ?_
  refine lv_topi (fun x1 e1 => ?_)
  refine lv_iload_n hx hb dX11_moves_11 rfl (lv_at hl 1 rfl) ?_
  refine qc_Vi (As := [.int x1, .int 0]) (rest := [.ref (o + 0)]) (k0 := 2) (m1_moved l D ca o (qu z 0 62 0) y x1 (by have := (show ((qu z 0 62 0) 0 62).toInt = 0 from rfl); omega) (by have := (show ((qu z 0 62 0) 0 62).toInt = 0 from rfl); omega)) kc_yX11_moved ⟨hx, hb, hml, hown, hts⟩ wq_1599 rfl rfl ⟨Nat.le_of_ble_eq_true rfl, Nat.le_of_ble_eq_true rfl⟩ wq_all hP hK hS qw_Ai (q0 := 0) (by decide) (hgM_0 ca o _ _) rfl rfl hl.1 rfl (Nat.le_of_ble_eq_true rfl) dX11_moves_12 ⟨Nat.zero_le _, Nat.zero_le _⟩ (fun r2 u2 H locs h2 hP hS _ _ => ?_)
  obtain ⟨z2, y2⟩ := u2
  obtain ⟨h2r, h2f, h2y, h2k, h2c⟩ := h2
  dsimp only at h2f h2y h2k h2c hP
  rw [h2y] at hP
  have f2_0_6 : z2 0 6 = 0 := (h2c 6 (by decide)).trans (h0_6)
  have ka2 : (z2 0 62).toInt = 1 := by rw [h2k]; have := (show ((qu z 0 62 0) 0 62).toInt = 0 from rfl); omega
  refine qf_put hx hb hts inX11 tyX11 tyX11_ok nmX11 hown hK hP hS qw_Ai (q0 := 0) (by decide) (hgM_0 ca o) rfl 4 (by decide) wq_997 rfl (x := r2) 4 rfl rfl rfl (Nat.le_of_ble_eq_true rfl) dX11_moves_15 (fun H locs hP hS => ?_)
  refine lv_aload_n hx hb dX11_moves_18 rfl (lv_at hl 0 rfl) ?_
  refine lv_aload_n hx hb dX11_moves_19 rfl (lv_at hl 0 rfl) ?_
  refine lv_aload_n hx hb dX11_moves_20 rfl (lv_at hl 0 rfl) ?_
  refine qf_get hx hb hts inX11 hown hK hP (q0 := 0) (by decide) (hgM_0 ca o) rfl 5 (by decide) wq_998 (v := .int ((qu z2 0 4 r2) 0 5)) rfl dX11_moves_21 ?_
  refine lv_topi (fun x3 e3 => ?_)
  refine lv_iload_n hx hb dX11_moves_24 rfl (lv_at hl 1 rfl) ?_
  refine qc_Vi (As := [.int x3, .int 0]) (rest := [.ref (o + 0)]) (k0 := 2) (m1_moved l D ca o (qu z2 0 4 r2) y x3 (by have := (show ((qu z2 0 4 r2) 0 62).toInt = 1 from ka2); omega) (by have := (show ((qu z2 0 4 r2) 0 62).toInt = 1 from ka2); omega)) kc_yX11_moved ⟨hx, hb, hml, hown, hts⟩ wq_1599 rfl rfl ⟨Nat.le_of_ble_eq_true rfl, Nat.le_of_ble_eq_true rfl⟩ wq_all hP hK hS qw_Ai (q0 := 0) (by decide) (hgM_0 ca o _ _) rfl rfl hl.1 rfl (Nat.le_of_ble_eq_true rfl) dX11_moves_25 ⟨Nat.zero_le _, Nat.zero_le _⟩ (fun r4 u4 H locs h4 hP hS _ _ => ?_)
  obtain ⟨z4, y4⟩ := u4
  obtain ⟨h4r, h4f, h4y, h4k, h4c⟩ := h4
  dsimp only at h4f h4y h4k h4c hP
  rw [h4y] at hP
  have f4_0_6 : z4 0 6 = 0 := (h4c 6 (by decide)).trans (f2_0_6)
  have ka4 : (z4 0 62).toInt = 2 := by rw [h4k]; have := (show ((qu z2 0 4 r2) 0 62).toInt = 1 from ka2); omega
  refine qf_put hx hb hts inX11 tyX11 tyX11_ok nmX11 hown hK hP hS qw_Ai (q0 := 0) (by decide) (hgM_0 ca o) rfl 5 (by decide) wq_998 rfl (x := r4) 5 rfl rfl rfl (Nat.le_of_ble_eq_true rfl) dX11_moves_28 (fun H locs hP hS => ?_)
  refine lv_aload_n hx hb dX11_moves_31 rfl (lv_at hl 0 rfl) ?_
  refine lv_aload_n hx hb dX11_moves_32 rfl (lv_at hl 0 rfl) ?_
  refine lv_aload_n hx hb dX11_moves_33 rfl (lv_at hl 0 rfl) ?_
  refine qf_get hx hb hts inX11 hown hK hP (q0 := 0) (by decide) (hgM_0 ca o) rfl 6 (by decide) wq_999 (v := .int ((qu z4 0 5 r4) 0 6)) rfl dX11_moves_34 ?_
  refine qtop (x' := 0) f4_0_6 ?_
  refine lv_iload_n hx hb dX11_moves_37 rfl (lv_at hl 1 rfl) ?_
  refine qc_Vi (As := [.int 0, .int 0]) (rest := [.ref (o + 0)]) (k0 := 2) (m1_moved l D ca o (qu z4 0 5 r4) y 0 (by have := (show ((qu z4 0 5 r4) 0 62).toInt = 2 from ka4); omega) (by have := (show ((qu z4 0 5 r4) 0 62).toInt = 2 from ka4); omega)) kc_yX11_moved ⟨hx, hb, hml, hown, hts⟩ wq_1599 rfl rfl ⟨Nat.le_of_ble_eq_true rfl, Nat.le_of_ble_eq_true rfl⟩ wq_all hP hK hS qw_Ai (q0 := 0) (by decide) (hgM_0 ca o _ _) rfl rfl hl.1 rfl (Nat.le_of_ble_eq_true rfl) dX11_moves_38 ⟨Nat.zero_le _, Nat.zero_le _⟩ (fun r5 u5 H locs h5 hP hS _ _ => ?_)
  obtain ⟨z5, y5⟩ := u5
  obtain ⟨h5r, h5f, h5y, h5k, h5c⟩ := h5
  dsimp only at h5f h5y h5k h5c hP
  rw [h5y] at hP
  subst h5r
  have f5_0_6 : z5 0 6 = 0 := (h5c 6 (by decide)).trans (f4_0_6)
  have ka5 : (z5 0 62).toInt = 3 := by rw [h5k]; have := (show ((qu z4 0 5 r4) 0 62).toInt = 2 from ka4); omega
  refine qf_put hx hb hts inX11 tyX11 tyX11_ok nmX11 hown hK hP hS qw_Ai (q0 := 0) (by decide) (hgM_0 ca o) rfl 6 (by decide) wq_999 rfl (x := 0) 6 rfl rfl rfl (Nat.le_of_ble_eq_true rfl) dX11_moves_41 (fun H locs hP hS => ?_)
  refine lv_aload_n hx hb dX11_moves_44 rfl (lv_at hl 0 rfl) ?_
  refine lv_aload_n hx hb dX11_moves_45 rfl (lv_at hl 0 rfl) ?_
  refine qf_get hx hb hts inX11 hown hK hP (q0 := 0) (by decide) (hgM_0 ca o) rfl 0 (by decide) wq_993 (v := .ref (o + 1)) rfl dX11_moves_46 ?_
  refine lv_iload_n hx hb dX11_moves_49 rfl (lv_at hl 1 rfl) ?_
  refine qc_Vv (As := [.ref (o + 1), .int 0]) (rest := []) (k0 := 2) (m1_movesAll1 l D ca o (qu z5 0 6 0) y (by have := (show ((qu z5 0 6 0) 0 62).toInt = 3 from ka5); omega) (by have := (show ((qu z5 0 6 0) 0 62).toInt = 3 from ka5); omega)) kc_yX11_movesAll ⟨hx, hb, hml, hown, hts⟩ wq_1603 rfl rfl ⟨Nat.le_of_ble_eq_true rfl, Nat.le_of_ble_eq_true rfl⟩ wq_all hP hK hS qw_Ai (q0 := 0) (by decide) (hgM_0 ca o _ _) rfl rfl hl.1 rfl (Nat.le_of_ble_eq_true rfl) dX11_moves_50 ⟨Nat.zero_le _, Nat.zero_le _⟩ (fun u6 H locs h6 hP hS _ _ => ?_)
  obtain ⟨z6, y6⟩ := u6
  obtain ⟨h6f, h6y, h6k, h6c⟩ := h6
  dsimp only at h6f h6y h6k h6c hP
  rw [h6y] at hP
  have f6_0_6 : z6 0 6 = 0 := (h6c 6 (by decide)).trans rfl
  have ka6 : (z6 0 62).toInt = 9 := by rw [h6k]; have := (show ((qu z5 0 6 0) 0 62).toInt = 3 from ka5); omega
  refine lv_aload_n hx hb dX11_moves_53 rfl (lv_at hl 0 rfl) ?_
  refine lv_aload_n hx hb dX11_moves_54 rfl (lv_at hl 0 rfl) ?_
  refine qf_get hx hb hts inX11 hown hK hP (q0 := 0) (by decide) (hgM_0 ca o) rfl 1 (by decide) wq_994 (v := .ref (o + 2)) rfl dX11_moves_55 ?_
  refine lv_iload_n hx hb dX11_moves_58 rfl (lv_at hl 1 rfl) ?_
  refine qc_Vv (As := [.ref (o + 2), .int 0]) (rest := []) (k0 := 2) (m1_movesAll2 l D ca o z6 y (by have := (show (z6 0 62).toInt = 9 from ka6); omega) (by have := (show (z6 0 62).toInt = 9 from ka6); omega)) kc_yX11_movesAll ⟨hx, hb, hml, hown, hts⟩ wq_1603 rfl rfl ⟨Nat.le_of_ble_eq_true rfl, Nat.le_of_ble_eq_true rfl⟩ wq_all hP hK hS qw_Ai (q0 := 0) (by decide) (hgM_0 ca o _ _) rfl rfl hl.1 rfl (Nat.le_of_ble_eq_true rfl) dX11_moves_59 ⟨Nat.zero_le _, Nat.zero_le _⟩ (fun u7 H locs h7 hP hS _ _ => ?_)
  obtain ⟨z7, y7⟩ := u7
  obtain ⟨h7f, h7y, h7k, h7c⟩ := h7
  dsimp only at h7f h7y h7k h7c hP
  rw [h7y] at hP
  have f7_0_6 : z7 0 6 = 0 := (h7c 6 (by decide)).trans (f6_0_6)
  have ka7 : (z7 0 62).toInt = 15 := by rw [h7k]; have := (show (z6 0 62).toInt = 9 from ka6); omega
  refine lv_aload_n hx hb dX11_moves_62 rfl (lv_at hl 0 rfl) ?_
  refine lv_aload_n hx hb dX11_moves_63 rfl (lv_at hl 0 rfl) ?_
  refine qf_get hx hb hts inX11 hown hK hP (q0 := 0) (by decide) (hgM_0 ca o) rfl 2 (by decide) wq_995 (v := .ref (o + 3)) rfl dX11_moves_64 ?_
  refine lv_iload_n hx hb dX11_moves_67 rfl (lv_at hl 1 rfl) ?_
  refine qc_Vv (As := [.ref (o + 3), .int 0]) (rest := []) (k0 := 2) (m1_movesAll3 l D ca o z7 y (by have := (show (z7 0 62).toInt = 15 from ka7); omega) (by have := (show (z7 0 62).toInt = 15 from ka7); omega)) kc_yX11_movesAll ⟨hx, hb, hml, hown, hts⟩ wq_1603 rfl rfl ⟨Nat.le_of_ble_eq_true rfl, Nat.le_of_ble_eq_true rfl⟩ wq_all hP hK hS qw_Ai (q0 := 0) (by decide) (hgM_0 ca o _ _) rfl rfl hl.1 rfl (Nat.le_of_ble_eq_true rfl) dX11_moves_68 ⟨Nat.zero_le _, Nat.zero_le _⟩ (fun u8 H locs h8 hP hS _ _ => ?_)
  obtain ⟨z8, y8⟩ := u8
  obtain ⟨h8f, h8y, h8k, h8c⟩ := h8
  dsimp only at h8f h8y h8k h8c hP
  rw [h8y] at hP
  have f8_0_6 : z8 0 6 = 0 := (h8c 6 (by decide)).trans (f7_0_6)
  have ka8 : (z8 0 62).toInt = 21 := by rw [h8k]; have := (show (z7 0 62).toInt = 15 from ka7); omega
  refine lv_aload_n hx hb dX11_moves_71 rfl (lv_at hl 0 rfl) ?_
  refine lv_aload_n hx hb dX11_moves_72 rfl (lv_at hl 0 rfl) ?_
  refine qf_get hx hb hts inX11 hown hK hP (q0 := 0) (by decide) (hgM_0 ca o) rfl 3 (by decide) wq_996 (v := .ref (o + 4)) rfl dX11_moves_73 ?_
  refine lv_iload_n hx hb dX11_moves_76 rfl (lv_at hl 1 rfl) ?_
  refine qc_Vv (As := [.ref (o + 4), .int 0]) (rest := []) (k0 := 2) (m1_movesAll4 l D ca o z8 y (by have := (show (z8 0 62).toInt = 21 from ka8); omega) (by have := (show (z8 0 62).toInt = 21 from ka8); omega)) kc_yX11_movesAll ⟨hx, hb, hml, hown, hts⟩ wq_1603 rfl rfl ⟨Nat.le_of_ble_eq_true rfl, Nat.le_of_ble_eq_true rfl⟩ wq_all hP hK hS qw_Ai (q0 := 0) (by decide) (hgM_0 ca o _ _) rfl rfl hl.1 rfl (Nat.le_of_ble_eq_true rfl) dX11_moves_77 ⟨Nat.zero_le _, Nat.zero_le _⟩ (fun u9 H locs h9 hP hS _ _ => ?_)
  obtain ⟨z9, y9⟩ := u9
  obtain ⟨h9f, h9y, h9k, h9c⟩ := h9
  dsimp only at h9f h9y h9k h9c hP
  rw [h9y] at hP
  have f9_0_6 : z9 0 6 = 0 := (h9c 6 (by decide)).trans (f8_0_6)
  have ka9 : (z9 0 62).toInt = 57 := by rw [h9k]; have := (show (z8 0 62).toInt = 21 from ka8); omega
  refine lv_aload_n hx hb dX11_moves_80 rfl (lv_at hl 0 rfl) ?_
  refine lv_aload_n hx hb dX11_moves_81 rfl (lv_at hl 0 rfl) ?_
  refine qf_get hx hb hts inX11 hown hK hP (q0 := 0) (by decide) (hgM_0 ca o) rfl 7 (by decide) wq_1000 (v := .ref (o + 5)) rfl dX11_moves_82 ?_
  refine lv_iload_n hx hb dX11_moves_85 rfl (lv_at hl 1 rfl) ?_
  refine qc_Vv (As := [.ref (o + 5), .int 0]) (rest := []) (k0 := 2) (m1_movesAll5 l D ca o z9 y (by have := (show (z9 0 62).toInt = 57 from ka9); omega) (by have := (show (z9 0 62).toInt = 57 from ka9); omega)) kc_yX11_movesAll ⟨hx, hb, hml, hown, hts⟩ wq_1603 rfl rfl ⟨Nat.le_of_ble_eq_true rfl, Nat.le_of_ble_eq_true rfl⟩ wq_all hP hK hS qw_Ai (q0 := 0) (by decide) (hgM_0 ca o _ _) rfl rfl hl.1 rfl (Nat.le_of_ble_eq_true rfl) dX11_moves_86 ⟨Nat.zero_le _, Nat.zero_le _⟩ (fun u10 H locs h10 hP hS _ _ => ?_)
  obtain ⟨z10, y10⟩ := u10
  obtain ⟨h10f, h10y, h10k, h10c⟩ := h10
  dsimp only at h10f h10y h10k h10c hP
  rw [h10y] at hP
  have f10_0_6 : z10 0 6 = 0 := (h10c 6 (by decide)).trans (f9_0_6)
  have ka10 : (z10 0 62).toInt = 153 := by rw [h10k]; have := (show (z9 0 62).toInt = 57 from ka9); omega
  refine lv_aload_n hx hb dX11_moves_89 rfl (lv_at hl 0 rfl) ?_
  refine lv_aload_n hx hb dX11_moves_90 rfl (lv_at hl 0 rfl) ?_
  refine qf_get hx hb hts inX11 hown hK hP (q0 := 0) (by decide) (hgM_0 ca o) rfl 8 (by decide) wq_1001 (v := .ref (o + 6)) rfl dX11_moves_91 ?_
  refine lv_iload_n hx hb dX11_moves_94 rfl (lv_at hl 1 rfl) ?_
  refine qc_Vv (As := [.ref (o + 6), .int 0]) (rest := []) (k0 := 2) (m1_movesAll6 l D ca o z10 y (by have := (show (z10 0 62).toInt = 153 from ka10); omega) (by have := (show (z10 0 62).toInt = 153 from ka10); omega)) kc_yX11_movesAll ⟨hx, hb, hml, hown, hts⟩ wq_1603 rfl rfl ⟨Nat.le_of_ble_eq_true rfl, Nat.le_of_ble_eq_true rfl⟩ wq_all hP hK hS qw_Ai (q0 := 0) (by decide) (hgM_0 ca o _ _) rfl rfl hl.1 rfl (Nat.le_of_ble_eq_true rfl) dX11_moves_95 ⟨Nat.zero_le _, Nat.zero_le _⟩ (fun u11 H locs h11 hP hS _ _ => ?_)
  obtain ⟨z11, y11⟩ := u11
  obtain ⟨h11f, h11y, h11k, h11c⟩ := h11
  dsimp only at h11f h11y h11k h11c hP
  rw [h11y] at hP
  have f11_0_6 : z11 0 6 = 0 := (h11c 6 (by decide)).trans (f10_0_6)
  have ka11 : (z11 0 62).toInt = 169 := by rw [h11k]; have := (show (z10 0 62).toInt = 153 from ka10); omega
  refine lv_aload_n hx hb dX11_moves_98 rfl (lv_at hl 0 rfl) ?_
  refine lv_aload_n hx hb dX11_moves_99 rfl (lv_at hl 0 rfl) ?_
  refine qf_get hx hb hts inX11 hown hK hP (q0 := 0) (by decide) (hgM_0 ca o) rfl 9 (by decide) wq_1002 (v := .ref (o + 7)) rfl dX11_moves_100 ?_
  refine lv_iload_n hx hb dX11_moves_103 rfl (lv_at hl 1 rfl) ?_
  refine qc_Vv (As := [.ref (o + 7), .int 0]) (rest := []) (k0 := 2) (m1_movesAll7 l D ca o z11 y (by have := (show (z11 0 62).toInt = 169 from ka11); omega) (by have := (show (z11 0 62).toInt = 169 from ka11); omega)) kc_yX11_movesAll ⟨hx, hb, hml, hown, hts⟩ wq_1603 rfl rfl ⟨Nat.le_of_ble_eq_true rfl, Nat.le_of_ble_eq_true rfl⟩ wq_all hP hK hS qw_Ai (q0 := 0) (by decide) (hgM_0 ca o _ _) rfl rfl hl.1 rfl (Nat.le_of_ble_eq_true rfl) dX11_moves_104 ⟨Nat.zero_le _, Nat.zero_le _⟩ (fun u12 H locs h12 hP hS _ _ => ?_)
  obtain ⟨z12, y12⟩ := u12
  obtain ⟨h12f, h12y, h12k, h12c⟩ := h12
  dsimp only at h12f h12y h12k h12c hP
  rw [h12y] at hP
  have f12_0_6 : z12 0 6 = 0 := (h12c 6 (by decide)).trans (f11_0_6)
  have ka12 : (z12 0 62).toInt = 185 := by rw [h12k]; have := (show (z11 0 62).toInt = 169 from ka11); omega
  refine lv_aload_n hx hb dX11_moves_107 rfl (lv_at hl 0 rfl) ?_
  refine lv_aload_n hx hb dX11_moves_108 rfl (lv_at hl 0 rfl) ?_
  refine qf_get hx hb hts inX11 hown hK hP (q0 := 0) (by decide) (hgM_0 ca o) rfl 10 (by decide) wq_1003 (v := .ref (o + 8)) rfl dX11_moves_109 ?_
  refine lv_iload_n hx hb dX11_moves_112 rfl (lv_at hl 1 rfl) ?_
  refine qc_Vv (As := [.ref (o + 8), .int 0]) (rest := []) (k0 := 2) (m1_movesAll8 l D ca o z12 y (by have := (show (z12 0 62).toInt = 185 from ka12); omega) (by have := (show (z12 0 62).toInt = 185 from ka12); omega)) kc_yX11_movesAll ⟨hx, hb, hml, hown, hts⟩ wq_1603 rfl rfl ⟨Nat.le_of_ble_eq_true rfl, Nat.le_of_ble_eq_true rfl⟩ wq_all hP hK hS qw_Ai (q0 := 0) (by decide) (hgM_0 ca o _ _) rfl rfl hl.1 rfl (Nat.le_of_ble_eq_true rfl) dX11_moves_113 ⟨Nat.zero_le _, Nat.zero_le _⟩ (fun u13 H locs h13 hP hS _ _ => ?_)
  obtain ⟨z13, y13⟩ := u13
  obtain ⟨h13f, h13y, h13k, h13c⟩ := h13
  dsimp only at h13f h13y h13k h13c hP
  rw [h13y] at hP
  have f13_0_6 : z13 0 6 = 0 := (h13c 6 (by decide)).trans (f12_0_6)
  have ka13 : (z13 0 62).toInt = 201 := by rw [h13k]; have := (show (z12 0 62).toInt = 185 from ka12); omega
  refine lv_aload_n hx hb dX11_moves_116 rfl (lv_at hl 0 rfl) ?_
  refine lv_aload_n hx hb dX11_moves_117 rfl (lv_at hl 0 rfl) ?_
  refine qf_get hx hb hts inX11 hown hK hP (q0 := 0) (by decide) (hgM_0 ca o) rfl 11 (by decide) wq_1004 (v := .ref (o + 9)) rfl dX11_moves_118 ?_
  refine lv_iload_n hx hb dX11_moves_121 rfl (lv_at hl 1 rfl) ?_
  refine qc_Vv (As := [.ref (o + 9), .int 0]) (rest := []) (k0 := 2) (m1_movesAll9 l D ca o z13 y (by have := (show (z13 0 62).toInt = 201 from ka13); omega) (by have := (show (z13 0 62).toInt = 201 from ka13); omega)) kc_yX11_movesAll ⟨hx, hb, hml, hown, hts⟩ wq_1603 rfl rfl ⟨Nat.le_of_ble_eq_true rfl, Nat.le_of_ble_eq_true rfl⟩ wq_all hP hK hS qw_Ai (q0 := 0) (by decide) (hgM_0 ca o _ _) rfl rfl hl.1 rfl (Nat.le_of_ble_eq_true rfl) dX11_moves_122 ⟨Nat.zero_le _, Nat.zero_le _⟩ (fun u14 H locs h14 hP hS _ _ => ?_)
  obtain ⟨z14, y14⟩ := u14
  obtain ⟨h14f, h14y, h14k, h14c⟩ := h14
  dsimp only at h14f h14y h14k h14c hP
  rw [h14y] at hP
  have f14_0_6 : z14 0 6 = 0 := (h14c 6 (by decide)).trans (f13_0_6)
  have ka14 : (z14 0 62).toInt = 217 := by rw [h14k]; have := (show (z13 0 62).toInt = 201 from ka13); omega
  refine lv_aload_n hx hb dX11_moves_125 rfl (lv_at hl 0 rfl) ?_
  refine lv_aload_n hx hb dX11_moves_126 rfl (lv_at hl 0 rfl) ?_
  refine qf_get hx hb hts inX11 hown hK hP (q0 := 0) (by decide) (hgM_0 ca o) rfl 12 (by decide) wq_1005 (v := .ref (o + 10)) rfl dX11_moves_127 ?_
  refine lv_iload_n hx hb dX11_moves_130 rfl (lv_at hl 1 rfl) ?_
  refine qc_Vv (As := [.ref (o + 10), .int 0]) (rest := []) (k0 := 2) (m1_movesAll10 l D ca o z14 y (by have := (show (z14 0 62).toInt = 217 from ka14); omega) (by have := (show (z14 0 62).toInt = 217 from ka14); omega)) kc_yX11_movesAll ⟨hx, hb, hml, hown, hts⟩ wq_1603 rfl rfl ⟨Nat.le_of_ble_eq_true rfl, Nat.le_of_ble_eq_true rfl⟩ wq_all hP hK hS qw_Ai (q0 := 0) (by decide) (hgM_0 ca o _ _) rfl rfl hl.1 rfl (Nat.le_of_ble_eq_true rfl) dX11_moves_131 ⟨Nat.zero_le _, Nat.zero_le _⟩ (fun u15 H locs h15 hP hS _ _ => ?_)
  obtain ⟨z15, y15⟩ := u15
  obtain ⟨h15f, h15y, h15k, h15c⟩ := h15
  dsimp only at h15f h15y h15k h15c hP
  rw [h15y] at hP
  have f15_0_6 : z15 0 6 = 0 := (h15c 6 (by decide)).trans (f14_0_6)
  have ka15 : (z15 0 62).toInt = 233 := by rw [h15k]; have := (show (z14 0 62).toInt = 217 from ka14); omega
  refine lv_aload_n hx hb dX11_moves_134 rfl (lv_at hl 0 rfl) ?_
  refine lv_aload_n hx hb dX11_moves_135 rfl (lv_at hl 0 rfl) ?_
  refine qf_get hx hb hts inX11 hown hK hP (q0 := 0) (by decide) (hgM_0 ca o) rfl 13 (by decide) wq_1006 (v := .ref (o + 11)) rfl dX11_moves_136 ?_
  refine lv_iload_n hx hb dX11_moves_139 rfl (lv_at hl 1 rfl) ?_
  refine qc_Vv (As := [.ref (o + 11), .int 0]) (rest := []) (k0 := 2) (m1_movesAll11 l D ca o z15 y (by have := (show (z15 0 62).toInt = 233 from ka15); omega) (by have := (show (z15 0 62).toInt = 233 from ka15); omega)) kc_yX11_movesAll ⟨hx, hb, hml, hown, hts⟩ wq_1603 rfl rfl ⟨Nat.le_of_ble_eq_true rfl, Nat.le_of_ble_eq_true rfl⟩ wq_all hP hK hS qw_Ai (q0 := 0) (by decide) (hgM_0 ca o _ _) rfl rfl hl.1 rfl (Nat.le_of_ble_eq_true rfl) dX11_moves_140 ⟨Nat.zero_le _, Nat.zero_le _⟩ (fun u16 H locs h16 hP hS _ _ => ?_)
  obtain ⟨z16, y16⟩ := u16
  obtain ⟨h16f, h16y, h16k, h16c⟩ := h16
  dsimp only at h16f h16y h16k h16c hP
  rw [h16y] at hP
  have f16_0_6 : z16 0 6 = 0 := (h16c 6 (by decide)).trans (f15_0_6)
  have ka16 : (z16 0 62).toInt = 249 := by rw [h16k]; have := (show (z15 0 62).toInt = 233 from ka15); omega
  exact W.vret hx hb hr (fun t ht hW => ⟨⟨(z16, y), rfl, (f16_0_6), by rw [ht]; exact hP, va_K.moved hW.alike hK⟩, hS.F ht⟩) hS.2.2 dX11_moves_143

set_option maxRecDepth 100000 in
set_option maxHeartbeats 4000000 in
theorem mP_person (l : Launch) (D : va_G) (ca : Nat → ClassId) (o : Nat) (z : Nat → Nat → Int32) (y : Nat → Nat → Int64) (a1 : Int32) (a2 : Int32) (a3 : Int32) (h0_4 : z 0 4 = 0) (h0_5 : z 0 5 = 0) (h0_6 : z 0 6 = 0) (h0_15 : z 0 15 = 0) (h0_61 : z 0 61 = 0) : qM l yX11_person cX11_person 4 (some .boolean) 2 82 (qPre D vwCl (qT6 ca) o 41 (qG (GM ca o) z y) [.ref (o + 0), .int a1, .int a2, .int a3]) (va_Qi (fun r _ => r = A_person a1 a2 a3) (qB D vwCl (qT6 ca) o 41 (fun u : qZ => qG (GM ca o) u.1 u.2)) (qw_A o 41)) (qw_A o 41) := by
  refine Met.ofW (cc := cX11_person) (maxL := 4) (ret := (some .boolean)) (by decide) rfl ?_
  intro p e s m args below meth c s₁ B hml hv
  obtain ⟨rfl, hP, hK⟩ := hv
  have hx := B.exec
  have hb := B.bytes
  have hr := B.returns
  have hts0 := atoms_spec (ws := Cond.code yX11_person cX11_person 4 (some .boolean) :: qtbl) B.pre
  have hts : ∀ w ∈ qtbl, w.before _ s = true := fun w h => hts0 w (List.mem_cons_of_mem _ h)
  have hown : s.vm.findClass RX11 = some m.cls := findClass_of_methodNamed B.named
  have hlocks := B.notSynchronized
  have hz0 : (0 : Int32).toInt = 0 := rfl
  have hS : va_S (qw_A o 41) s.heap s.heap [] := va_S.rf
  have hl := lv_entry ([.ref (o + 0), .int a1, .int a2, .int a3]) (n := 4) (Nat.le_of_ble_eq_true rfl)
  rw [lg_entry_eq]
  generalize (lg_sl ([.ref (o + 0), .int a1, .int a2, .int a3]) ++ List.replicate (4 - (lg_sl ([.ref (o + 0), .int a1, .int a2, .int a3])).length) Slot.unset).toArray = ls at hl ⊢
  have hl : lv_has ls 4 [(0, .ref (o + 0)), (1, .int a1), (2, .int a2), (3, .int a3)] := hl
  refine lv_iload_n hx hb dX11_person_0 rfl (lv_at hl 1 rfl) ?_
  refine lv_iconst (v := 0) hx hb dX11_person_1 (by decide) ?_
  refine lv_iconst (v := 5) hx hb dX11_person_2 (by decide) ?_
  refine qc_Si (As := [.int a1, .int 0, .int 5]) (rest := []) (k0 := 3) (m1_in l D ca o z y a1 0 5) kc_yX11_in ⟨hx, hb, hml, hown, hts⟩ wq_1187 rfl rfl ⟨Nat.le_of_ble_eq_true rfl, Nat.le_of_ble_eq_true rfl⟩ wq_all hP hK hS qw_Ai rfl hl.1 rfl (Nat.le_of_ble_eq_true rfl) dX11_person_3 ⟨Nat.zero_le _, Nat.zero_le _⟩ (fun r1 u1 H locs h1 hP hS _ _ => ?_)
  rcases h1 with ⟨h1r, h1a, h1b⟩ | ⟨h1r, h1a⟩
  · subst h1r
    have t1a : a1.toInt ≥ (0 : Int) := h1a
    have t1b : a1.toInt ≤ (5 : Int) := h1b
    refine lv_if_eq (tgt := 29) hx hb dX11_person_6 (by decide) (fun q => absurd q (by decide)) (fun _ => ?_)
    refine lv_iload_n hx hb dX11_person_9 rfl (lv_at hl 2 rfl) ?_
    refine lv_iconst (v := 0) hx hb dX11_person_10 (by decide) ?_
    refine lv_bipush (v := 99) hx hb dX11_person_11 (by decide) ?_
    refine qc_Si (As := [.int a2, .int 0, .int 99]) (rest := []) (k0 := 3) (m1_in l D ca o z y a2 0 99) kc_yX11_in ⟨hx, hb, hml, hown, hts⟩ wq_1187 rfl rfl ⟨Nat.le_of_ble_eq_true rfl, Nat.le_of_ble_eq_true rfl⟩ wq_all hP hK hS qw_Ai rfl hl.1 rfl (Nat.le_of_ble_eq_true rfl) dX11_person_13 ⟨Nat.zero_le _, Nat.zero_le _⟩ (fun r2 u2 H locs h2 hP hS _ _ => ?_)
    rcases h2 with ⟨h2r, h2a, h2b⟩ | ⟨h2r, h2a⟩
    · subst h2r
      have t2a : a2.toInt ≥ (0 : Int) := h2a
      have t2b : a2.toInt ≤ (99 : Int) := h2b
      refine lv_if_eq (tgt := 29) hx hb dX11_person_16 (by decide) (fun q => absurd q (by decide)) (fun _ => ?_)
      refine lv_iload_n hx hb dX11_person_19 rfl (lv_at hl 3 rfl) ?_
      refine lv_iload_n hx hb dX11_person_20 rfl (lv_at hl 2 rfl) ?_
      refine lv_bipush (v := 99) hx hb dX11_person_21 (by decide) ?_
      refine qc_Si (As := [.int a3, .int a2, .int 99]) (rest := []) (k0 := 3) (m1_in l D ca o z y a3 a2 99) kc_yX11_in ⟨hx, hb, hml, hown, hts⟩ wq_1187 rfl rfl ⟨Nat.le_of_ble_eq_true rfl, Nat.le_of_ble_eq_true rfl⟩ wq_all hP hK hS qw_Ai rfl hl.1 rfl (Nat.le_of_ble_eq_true rfl) dX11_person_23 ⟨Nat.zero_le _, Nat.zero_le _⟩ (fun r3 u3 H locs h3 hP hS _ _ => ?_)
      rcases h3 with ⟨h3r, h3a, h3b⟩ | ⟨h3r, h3a⟩
      · subst h3r
        have t3a : a3.toInt ≥ a2.toInt := h3a
        have t3b : a3.toInt ≤ (99 : Int) := h3b
        refine lv_if_ne (tgt := 31) hx hb dX11_person_26 (by decide) (fun _ => ?_) (fun q => absurd q (by decide))
        refine lv_aload_n hx hb dX11_person_31 rfl (lv_at hl 0 rfl) ?_
        refine lv_aload_n hx hb dX11_person_32 rfl (lv_at hl 0 rfl) ?_
        refine qf_get hx hb hts inX11 hown hK hP (q0 := 0) (by decide) (hgM_0 ca o) rfl 4 (by decide) wq_997 (v := .int (z 0 4)) rfl dX11_person_33 ?_
        refine qtop (x' := 0) h0_4 ?_
        refine lv_iconst (v := 1) hx hb dX11_person_36 (by decide) ?_
        refine lv_iload_n hx hb dX11_person_37 rfl (lv_at hl 1 rfl) ?_
        refine lv_ishl hx hb dX11_person_38 ?_
        refine lv_topi (fun x4 e4 => ?_)
        refine lv_ior hx hb dX11_person_39 ?_
        refine lv_topi (fun x5 e5 => ?_)
        refine qf_put hx hb hts inX11 tyX11 tyX11_ok nmX11 hown hK hP hS qw_Ai (q0 := 0) (by decide) (hgM_0 ca o) rfl 4 (by decide) wq_997 rfl (x := x5) 4 rfl rfl rfl (Nat.le_of_ble_eq_true rfl) dX11_person_40 (fun H locs hP hS => ?_)
        refine lv_aload_n hx hb dX11_person_43 rfl (lv_at hl 0 rfl) ?_
        refine qf_get hx hb hts inX11 hown hK hP (q0 := 0) (by decide) (hgM_0 ca o) rfl 0 (by decide) wq_993 (v := .ref (o + 1)) rfl dX11_person_44 ?_
        refine lv_iload_n hx hb dX11_person_47 rfl (lv_at hl 1 rfl) ?_
        refine lv_iload_n hx hb dX11_person_48 rfl (lv_at hl 2 rfl) ?_
        refine qa_iast hx hb hK hP hS qw_Ai (q0 := 1) (by decide) 0 (N := 6) (hgM_1 ca o) rfl (gi_in (by omega) (by omega)) dX11_person_49 (fun H locs hP hS => ?_)
        refine lv_aload_n hx hb dX11_person_50 rfl (lv_at hl 0 rfl) ?_
        refine qf_get hx hb hts inX11 hown hK hP (q0 := 0) (by decide) (hgM_0 ca o) rfl 1 (by decide) wq_994 (v := .ref (o + 2)) rfl dX11_person_51 ?_
        refine lv_iload_n hx hb dX11_person_54 rfl (lv_at hl 1 rfl) ?_
        refine lv_iload_n hx hb dX11_person_55 rfl (lv_at hl 3 rfl) ?_
        refine qa_iast hx hb hK hP hS qw_Ai (q0 := 2) (by decide) 0 (N := 6) (hgM_2 ca o) rfl (gi_in (by omega) (by omega)) dX11_person_56 (fun H locs hP hS => ?_)
        refine lv_aload_n hx hb dX11_person_57 rfl (lv_at hl 0 rfl) ?_
        refine qf_get hx hb hts inX11 hown hK hP (q0 := 0) (by decide) (hgM_0 ca o) rfl 2 (by decide) wq_995 (v := .ref (o + 3)) rfl dX11_person_58 ?_
        refine lv_iload_n hx hb dX11_person_61 rfl (lv_at hl 1 rfl) ?_
        refine lv_bipush (v := 100) hx hb dX11_person_62 (by decide) ?_
        refine qa_iast hx hb hK hP hS qw_Ai (q0 := 3) (by decide) 0 (N := 6) (hgM_3 ca o) rfl (gi_in (by omega) (by omega)) dX11_person_64 (fun H locs hP hS => ?_)
        refine lv_iconst (v := 1) hx hb dX11_person_65 (by decide) ?_
        exact W.zret (v := 1) (ty := .boolean) hx hb hr rfl (fun t ht hW => ⟨⟨1, ((qu (qu (qu (qu z 0 4 x5) 1 (a1.toNatClampNeg) a2) 2 (a1.toNatClampNeg) a3) 3 (a1.toNatClampNeg) 100), y), rfl, (ga_p (by omega)), by rw [ht]; exact hP, va_K.moved hW.alike hK⟩, hS.F ht⟩) hS.2.2 dX11_person_66
      · subst h3r
        have t3a : a3.toInt < a2.toInt ∨ (99 : Int) < a3.toInt := h3a
        refine lv_if_ne (tgt := 31) hx hb dX11_person_26 (by decide) (fun q => absurd q (by decide)) (fun _ => ?_)
        refine lv_iconst (v := 0) hx hb dX11_person_29 (by decide) ?_
        exact W.zret (v := 0) (ty := .boolean) hx hb hr rfl (fun t ht hW => ⟨⟨0, (z, y), rfl, (ga_n (by omega)), by rw [ht]; exact hP, va_K.moved hW.alike hK⟩, hS.F ht⟩) hS.2.2 dX11_person_30
    · subst h2r
      have t2a : a2.toInt < (0 : Int) ∨ (99 : Int) < a2.toInt := h2a
      refine lv_if_eq (tgt := 29) hx hb dX11_person_16 (by decide) (fun _ => ?_) (fun q => absurd (by decide) q)
      refine lv_iconst (v := 0) hx hb dX11_person_29 (by decide) ?_
      exact W.zret (v := 0) (ty := .boolean) hx hb hr rfl (fun t ht hW => ⟨⟨0, (z, y), rfl, (ga_n (by omega)), by rw [ht]; exact hP, va_K.moved hW.alike hK⟩, hS.F ht⟩) hS.2.2 dX11_person_30
  · subst h1r
    have t1a : a1.toInt < (0 : Int) ∨ (5 : Int) < a1.toInt := h1a
    refine lv_if_eq (tgt := 29) hx hb dX11_person_6 (by decide) (fun _ => ?_) (fun q => absurd (by decide) q)
    refine lv_iconst (v := 0) hx hb dX11_person_29 (by decide) ?_
    exact W.zret (v := 0) (ty := .boolean) hx hb hr rfl (fun t ht hW => ⟨⟨0, (z, y), rfl, (ga_n (by omega)), by rw [ht]; exact hP, va_K.moved hW.alike hK⟩, hS.F ht⟩) hS.2.2 dX11_person_30

set_option maxRecDepth 100000 in
set_option maxHeartbeats 4000000 in
theorem mP_dies (l : Launch) (D : va_G) (ca : Nat → ClassId) (o : Nat) (z : Nat → Nat → Int32) (y : Nat → Nat → Int64) (a1 : Int32) (a2 : Int32) (h0_4 : z 0 4 = 0) (h0_5 : z 0 5 = 0) (h0_6 : z 0 6 = 0) (h0_15 : z 0 15 = 0) (h0_61 : z 0 61 = 0) : qM l yX11_dies cX11_dies 3 (some .boolean) 3 103 (qPre D vwCl (qT6 ca) o 41 (qG (GM ca o) z y) [.ref (o + 0), .int a1, .int a2]) (va_Qi (fun r _ => r = A_dies a1 a2) (qB D vwCl (qT6 ca) o 41 (fun u : qZ => qG (GM ca o) u.1 u.2)) (qw_A o 41)) (qw_A o 41) := by
  refine Met.ofW (cc := cX11_dies) (maxL := 3) (ret := (some .boolean)) (by decide) rfl ?_
  intro p e s m args below meth c s₁ B hml hv
  obtain ⟨rfl, hP, hK⟩ := hv
  have hx := B.exec
  have hb := B.bytes
  have hr := B.returns
  have hts0 := atoms_spec (ws := Cond.code yX11_dies cX11_dies 3 (some .boolean) :: qtbl) B.pre
  have hts : ∀ w ∈ qtbl, w.before _ s = true := fun w h => hts0 w (List.mem_cons_of_mem _ h)
  have hown : s.vm.findClass RX11 = some m.cls := findClass_of_methodNamed B.named
  have hlocks := B.notSynchronized
  have hz0 : (0 : Int32).toInt = 0 := rfl
  have hS : va_S (qw_A o 41) s.heap s.heap [] := va_S.rf
  have hl := lv_entry ([.ref (o + 0), .int a1, .int a2]) (n := 3) (Nat.le_of_ble_eq_true rfl)
  rw [lg_entry_eq]
  generalize (lg_sl ([.ref (o + 0), .int a1, .int a2]) ++ List.replicate (3 - (lg_sl ([.ref (o + 0), .int a1, .int a2])).length) Slot.unset).toArray = ls at hl ⊢
  have hl : lv_has ls 3 [(0, .ref (o + 0)), (1, .int a1), (2, .int a2)] := hl
  refine lv_aload_n hx hb dX11_dies_0 rfl (lv_at hl 0 rfl) ?_
  refine lv_iload_n hx hb dX11_dies_1 rfl (lv_at hl 1 rfl) ?_
  refine qc_Vi (As := [.int a1]) (rest := []) (k0 := 1) (m1_isPerson l D ca o z y a1 (h0_4)) kc_yX11_isPerson ⟨hx, hb, hml, hown, hts⟩ wq_1194 rfl rfl ⟨Nat.le_of_ble_eq_true rfl, Nat.le_of_ble_eq_true rfl⟩ wq_all hP hK hS qw_Ai (q0 := 0) (by decide) (hgM_0 ca o _ _) rfl rfl hl.1 rfl (Nat.le_of_ble_eq_true rfl) dX11_dies_2 ⟨Nat.zero_le _, Nat.zero_le _⟩ (fun r1 u1 H locs h1 hP hS _ _ => ?_)
  subst h1
  refine lv_if_eq (tgt := 18) hx hb dX11_dies_5 (by decide) (fun _ => ?_) (fun q => absurd (by decide) q)
  refine lv_iconst (v := 0) hx hb dX11_dies_18 (by decide) ?_
  exact W.zret (v := 0) (ty := .boolean) hx hb hr rfl (fun t ht hW => ⟨⟨0, (z, y), rfl, rfl, by rw [ht]; exact hP, va_K.moved hW.alike hK⟩, hS.F ht⟩) hS.2.2 dX11_dies_19

set_option maxRecDepth 100000 in
set_option maxHeartbeats 4000000 in
theorem mP_years (l : Launch) (D : va_G) (ca : Nat → ClassId) (o : Nat) (z : Nat → Nat → Int32) (y : Nat → Nat → Int64) (a1 : Int32) (h0_4 : z 0 4 = 0) (h0_5 : z 0 5 = 0) (h0_6 : z 0 6 = 0) (h0_15 : z 0 15 = 0) (h0_61 : z 0 61 = 0) : qM l yX11_years cX11_years 2 (some .int) 2 82 (qPre D vwCl (qT6 ca) o 41 (qG (GM ca o) z y) [.ref (o + 0), .int a1]) (va_Qi (fun r _ => r = A_years a1) (qB D vwCl (qT6 ca) o 41 (fun u : qZ => qG (GM ca o) u.1 u.2)) (qw_A o 41)) (qw_A o 41) := by
  refine Met.ofW (cc := cX11_years) (maxL := 2) (ret := (some .int)) (by decide) rfl ?_
  intro p e s m args below meth c s₁ B hml hv
  obtain ⟨rfl, hP, hK⟩ := hv
  have hx := B.exec
  have hb := B.bytes
  have hr := B.returns
  have hts0 := atoms_spec (ws := Cond.code yX11_years cX11_years 2 (some .int) :: qtbl) B.pre
  have hts : ∀ w ∈ qtbl, w.before _ s = true := fun w h => hts0 w (List.mem_cons_of_mem _ h)
  have hown : s.vm.findClass RX11 = some m.cls := findClass_of_methodNamed B.named
  have hlocks := B.notSynchronized
  have hz0 : (0 : Int32).toInt = 0 := rfl
  have hS : va_S (qw_A o 41) s.heap s.heap [] := va_S.rf
  have hl := lv_entry ([.ref (o + 0), .int a1]) (n := 2) (Nat.le_of_ble_eq_true rfl)
  rw [lg_entry_eq]
  generalize (lg_sl ([.ref (o + 0), .int a1]) ++ List.replicate (2 - (lg_sl ([.ref (o + 0), .int a1])).length) Slot.unset).toArray = ls at hl ⊢
  have hl : lv_has ls 2 [(0, .ref (o + 0)), (1, .int a1)] := hl
  refine lv_iload_n hx hb dX11_years_0 rfl (lv_at hl 1 rfl) ?_
  refine lv_iconst (v := 1) hx hb dX11_years_1 (by decide) ?_
  refine lv_bipush (v := 99) hx hb dX11_years_2 (by decide) ?_
  refine qc_Si (As := [.int a1, .int 1, .int 99]) (rest := []) (k0 := 3) (m1_in l D ca o z y a1 1 99) kc_yX11_in ⟨hx, hb, hml, hown, hts⟩ wq_1187 rfl rfl ⟨Nat.le_of_ble_eq_true rfl, Nat.le_of_ble_eq_true rfl⟩ wq_all hP hK hS qw_Ai rfl hl.1 rfl (Nat.le_of_ble_eq_true rfl) dX11_years_4 ⟨Nat.zero_le _, Nat.zero_le _⟩ (fun r1 u1 H locs h1 hP hS _ _ => ?_)
  rcases h1 with ⟨h1r, h1a, h1b⟩ | ⟨h1r, h1a⟩
  · subst h1r
    have t1a : a1.toInt ≥ (1 : Int) := h1a
    have t1b : a1.toInt ≤ (99 : Int) := h1b
    refine lv_if_eq (tgt := 21) hx hb dX11_years_7 (by decide) (fun q => absurd q (by decide)) (fun _ => ?_)
    refine lv_aload_n hx hb dX11_years_10 rfl (lv_at hl 0 rfl) ?_
    refine qf_get hx hb hts inX11 hown hK hP (q0 := 0) (by decide) (hgM_0 ca o) rfl 5 (by decide) wq_998 (v := .int (z 0 5)) rfl dX11_years_11 ?_
    refine qtop (x' := 0) h0_5 ?_
    refine lv_iload_n hx hb dX11_years_14 rfl (lv_at hl 1 rfl) ?_
    refine lv_iadd hx hb dX11_years_15 ?_
    refine lv_topi (fun x2 e2 => ?_)
    have t2 : x2.toInt = 0 + a1.toInt := by rw [e2]; exact gi_add (by show _ ≤ (0 : Int) + _; omega) (by show (0 : Int) + _ ≤ _; omega)
    refine lv_bipush (v := 99) hx hb dX11_years_16 (by decide) ?_
    refine lv_icmp_le (tgt := 23) hx hb dX11_years_18 (by decide) (fun c3 => ?_) (fun c3 => ?_)
    · have t3 : x2.toInt ≤ (99 : Int) := gl_le c3
      refine lv_aload_n hx hb dX11_years_23 rfl (lv_at hl 0 rfl) ?_
      refine lv_aload_n hx hb dX11_years_24 rfl (lv_at hl 0 rfl) ?_
      refine qf_get hx hb hts inX11 hown hK hP (q0 := 0) (by decide) (hgM_0 ca o) rfl 5 (by decide) wq_998 (v := .int (z 0 5)) rfl dX11_years_25 ?_
      refine qtop (x' := 0) h0_5 ?_
      refine lv_iload_n hx hb dX11_years_28 rfl (lv_at hl 1 rfl) ?_
      refine lv_iadd hx hb dX11_years_29 ?_
      refine lv_topi (fun x4 e4 => ?_)
      have t4 : x4.toInt = 0 + a1.toInt := by rw [e4]; exact gi_add (by show _ ≤ (0 : Int) + _; omega) (by show (0 : Int) + _ ≤ _; omega)
      refine qf_put hx hb hts inX11 tyX11 tyX11_ok nmX11 hown hK hP hS qw_Ai (q0 := 0) (by decide) (hgM_0 ca o) rfl 5 (by decide) wq_998 rfl (x := x4) 5 rfl rfl rfl (Nat.le_of_ble_eq_true rfl) dX11_years_30 (fun H locs hP hS => ?_)
      refine lv_aload_n hx hb dX11_years_33 rfl (lv_at hl 0 rfl) ?_
      refine qf_get hx hb hts inX11 hown hK hP (q0 := 0) (by decide) (hgM_0 ca o) rfl 5 (by decide) wq_998 (v := .int ((qu z 0 5 x4) 0 5)) rfl dX11_years_34 ?_
      refine qtop (x' := x4) rfl ?_
      exact W.iret (v := x4) hx hb hr (fun t ht hW => ⟨⟨x4, ((qu z 0 5 x4), y), rfl, (by rw [e4]; exact ga_p (by omega)), by rw [ht]; exact hP, va_K.moved hW.alike hK⟩, hS.F ht⟩) hS.2.2 dX11_years_37
    · have t3 : x2.toInt > (99 : Int) := gl_nle c3
      refine lv_iconst (v := (-1)) hx hb dX11_years_21 (by decide) ?_
      exact W.iret (v := (-1)) hx hb hr (fun t ht hW => ⟨⟨(-1), (z, y), rfl, (ga_n (by omega)), by rw [ht]; exact hP, va_K.moved hW.alike hK⟩, hS.F ht⟩) hS.2.2 dX11_years_22
  · subst h1r
    have t1a : a1.toInt < (1 : Int) ∨ (99 : Int) < a1.toInt := h1a
    refine lv_if_eq (tgt := 21) hx hb dX11_years_7 (by decide) (fun _ => ?_) (fun q => absurd (by decide) q)
    refine lv_iconst (v := (-1)) hx hb dX11_years_21 (by decide) ?_
    exact W.iret (v := (-1)) hx hb hr (fun t ht hW => ⟨⟨(-1), (z, y), rfl, (ga_n (by omega)), by rw [ht]; exact hP, va_K.moved hW.alike hK⟩, hS.F ht⟩) hS.2.2 dX11_years_22

set_option maxRecDepth 100000 in
set_option maxHeartbeats 4000000 in
theorem mP_feed (l : Launch) (D : va_G) (ca : Nat → ClassId) (o : Nat) (z : Nat → Nat → Int32) (y : Nat → Nat → Int64) (a1 : Int32) (a2 : Int32) (a3 : Int32) (a4 : Int32) (a5 : Int32) (h0_4 : z 0 4 = 0) (h0_5 : z 0 5 = 0) (h0_6 : z 0 6 = 0) (h0_15 : z 0 15 = 0) (h0_61 : z 0 61 = 0) : qM l yX11_feed cX11_feed 6 (some .int) 2 82 (qPre D vwCl (qT6 ca) o 41 (qG (GM ca o) z y) [.ref (o + 0), .int a1, .int a2, .int a3, .int a4, .int a5]) (va_Qi (fun r _ => r = A_feed a1 a2 a3 a4 a5) (qB D vwCl (qT6 ca) o 41 (fun u : qZ => qG (GM ca o) u.1 u.2)) (qw_A o 41)) (qw_A o 41) := by
  refine Met.ofW (cc := cX11_feed) (maxL := 6) (ret := (some .int)) (by decide) rfl ?_
  intro p e s m args below meth c s₁ B hml hv
  obtain ⟨rfl, hP, hK⟩ := hv
  have hx := B.exec
  have hb := B.bytes
  have hr := B.returns
  have hts0 := atoms_spec (ws := Cond.code yX11_feed cX11_feed 6 (some .int) :: qtbl) B.pre
  have hts : ∀ w ∈ qtbl, w.before _ s = true := fun w h => hts0 w (List.mem_cons_of_mem _ h)
  have hown : s.vm.findClass RX11 = some m.cls := findClass_of_methodNamed B.named
  have hlocks := B.notSynchronized
  have hz0 : (0 : Int32).toInt = 0 := rfl
  have hS : va_S (qw_A o 41) s.heap s.heap [] := va_S.rf
  have hl := lv_entry ([.ref (o + 0), .int a1, .int a2, .int a3, .int a4, .int a5]) (n := 6) (Nat.le_of_ble_eq_true rfl)
  rw [lg_entry_eq]
  generalize (lg_sl ([.ref (o + 0), .int a1, .int a2, .int a3, .int a4, .int a5]) ++ List.replicate (6 - (lg_sl ([.ref (o + 0), .int a1, .int a2, .int a3, .int a4, .int a5])).length) Slot.unset).toArray = ls at hl ⊢
  have hl : lv_has ls 6 [(0, .ref (o + 0)), (1, .int a1), (2, .int a2), (3, .int a3), (4, .int a4), (5, .int a5)] := hl
  refine lv_aload_n hx hb dX11_feed_0 rfl (lv_at hl 0 rfl) ?_
  refine qf_get hx hb hts inX11 hown hK hP (q0 := 0) (by decide) (hgM_0 ca o) rfl 15 (by decide) wq_1008 (v := .int (z 0 15)) rfl dX11_feed_1 ?_
  refine qtop (x' := 0) h0_15 ?_
  refine lv_bipush (v := 20) hx hb dX11_feed_4 (by decide) ?_
  refine lv_iadd hx hb dX11_feed_6 ?_
  refine qtop (x' := 20) (by decide) ?_
  refine lv_sipush (v := 260) hx hb dX11_feed_7 (by decide) ?_
  refine lv_icmp_le (tgt := 15) hx hb dX11_feed_10 (by decide) (fun _ => ?_) (fun q => absurd (by decide) q)
  refine lv_aload_n hx hb dX11_feed_15 rfl (lv_at hl 0 rfl) ?_
  refine lv_iload_n hx hb dX11_feed_16 rfl (lv_at hl 1 rfl) ?_
  refine qc_Vv (As := [.int a1]) (rest := []) (k0 := 1) (m1_types0 l D ca o z y a1 (h0_15)) kc_yX11_types ⟨hx, hb, hml, hown, hts⟩ wq_1209 rfl rfl ⟨Nat.le_of_ble_eq_true rfl, Nat.le_of_ble_eq_true rfl⟩ wq_all hP hK hS qw_Ai (q0 := 0) (by decide) (hgM_0 ca o _ _) rfl rfl hl.1 rfl (Nat.le_of_ble_eq_true rfl) dX11_feed_17 ⟨Nat.zero_le _, Nat.zero_le _⟩ (fun u1 H locs h1 hP hS _ _ => ?_)
  obtain ⟨z1, y1⟩ := u1
  obtain ⟨h1f, h1y, h1t⟩ := h1
  dsimp only at h1f h1y h1t hP
  rw [h1y] at hP
  refine lv_aload_n hx hb dX11_feed_20 rfl (lv_at hl 0 rfl) ?_
  refine lv_iload_n hx hb dX11_feed_21 rfl (lv_at hl 2 rfl) ?_
  refine qc_Vv (As := [.int a2]) (rest := []) (k0 := 1) (m1_types4 l D ca o z1 y a2 (h1t)) kc_yX11_types ⟨hx, hb, hml, hown, hts⟩ wq_1209 rfl rfl ⟨Nat.le_of_ble_eq_true rfl, Nat.le_of_ble_eq_true rfl⟩ wq_all hP hK hS qw_Ai (q0 := 0) (by decide) (hgM_0 ca o _ _) rfl rfl hl.1 rfl (Nat.le_of_ble_eq_true rfl) dX11_feed_22 ⟨Nat.zero_le _, Nat.zero_le _⟩ (fun u2 H locs h2 hP hS _ _ => ?_)
  obtain ⟨z2, y2⟩ := u2
  obtain ⟨h2f, h2y, h2t⟩ := h2
  dsimp only at h2f h2y h2t hP
  rw [h2y] at hP
  refine lv_aload_n hx hb dX11_feed_25 rfl (lv_at hl 0 rfl) ?_
  refine lv_iload_n hx hb dX11_feed_26 rfl (lv_at hl 3 rfl) ?_
  refine qc_Vv (As := [.int a3]) (rest := []) (k0 := 1) (m1_types8 l D ca o z2 y a3 (h2t)) kc_yX11_types ⟨hx, hb, hml, hown, hts⟩ wq_1209 rfl rfl ⟨Nat.le_of_ble_eq_true rfl, Nat.le_of_ble_eq_true rfl⟩ wq_all hP hK hS qw_Ai (q0 := 0) (by decide) (hgM_0 ca o _ _) rfl rfl hl.1 rfl (Nat.le_of_ble_eq_true rfl) dX11_feed_27 ⟨Nat.zero_le _, Nat.zero_le _⟩ (fun u3 H locs h3 hP hS _ _ => ?_)
  obtain ⟨z3, y3⟩ := u3
  obtain ⟨h3f, h3y, h3t⟩ := h3
  dsimp only at h3f h3y h3t hP
  rw [h3y] at hP
  refine lv_aload_n hx hb dX11_feed_30 rfl (lv_at hl 0 rfl) ?_
  refine lv_iload hx hb dX11_feed_31 (lv_at hl 4 rfl) ?_
  refine qc_Vv (As := [.int a4]) (rest := []) (k0 := 1) (m1_types12 l D ca o z3 y a4 (h3t)) kc_yX11_types ⟨hx, hb, hml, hown, hts⟩ wq_1209 rfl rfl ⟨Nat.le_of_ble_eq_true rfl, Nat.le_of_ble_eq_true rfl⟩ wq_all hP hK hS qw_Ai (q0 := 0) (by decide) (hgM_0 ca o _ _) rfl rfl hl.1 rfl (Nat.le_of_ble_eq_true rfl) dX11_feed_33 ⟨Nat.zero_le _, Nat.zero_le _⟩ (fun u4 H locs h4 hP hS _ _ => ?_)
  obtain ⟨z4, y4⟩ := u4
  obtain ⟨h4f, h4y, h4t⟩ := h4
  dsimp only at h4f h4y h4t hP
  rw [h4y] at hP
  refine lv_aload_n hx hb dX11_feed_36 rfl (lv_at hl 0 rfl) ?_
  refine lv_iload hx hb dX11_feed_37 (lv_at hl 5 rfl) ?_
  refine qc_Vv (As := [.int a5]) (rest := []) (k0 := 1) (m1_types16 l D ca o z4 y a5 (h4t)) kc_yX11_types ⟨hx, hb, hml, hown, hts⟩ wq_1209 rfl rfl ⟨Nat.le_of_ble_eq_true rfl, Nat.le_of_ble_eq_true rfl⟩ wq_all hP hK hS qw_Ai (q0 := 0) (by decide) (hgM_0 ca o _ _) rfl rfl hl.1 rfl (Nat.le_of_ble_eq_true rfl) dX11_feed_39 ⟨Nat.zero_le _, Nat.zero_le _⟩ (fun u5 H locs h5 hP hS _ _ => ?_)
  obtain ⟨z5, y5⟩ := u5
  obtain ⟨h5f, h5y, h5t⟩ := h5
  dsimp only at h5f h5y h5t hP
  rw [h5y] at hP
  refine lv_aload_n hx hb dX11_feed_42 rfl (lv_at hl 0 rfl) ?_
  refine qf_get hx hb hts inX11 hown hK hP (q0 := 0) (by decide) (hgM_0 ca o) rfl 15 (by decide) wq_1008 (v := .int (z5 0 15)) rfl dX11_feed_43 ?_
  refine qtop (x' := 20) h5t ?_
  exact W.iret (v := 20) hx hb hr (fun t ht hW => ⟨⟨20, (z5, y), rfl, rfl, by rw [ht]; exact hP, va_K.moved hW.alike hK⟩, hS.F ht⟩) hS.2.2 dX11_feed_46

set_option maxRecDepth 100000 in
set_option maxHeartbeats 4000000 in
theorem mP_remark (l : Launch) (D : va_G) (ca : Nat → ClassId) (o : Nat) (z : Nat → Nat → Int32) (y : Nat → Nat → Int64) (a1 : Int32) (a2 : Int32) (h0_4 : z 0 4 = 0) (h0_5 : z 0 5 = 0) (h0_6 : z 0 6 = 0) (h0_15 : z 0 15 = 0) (h0_61 : z 0 61 = 0) : qM l yX11_remark cX11_remark 3 (some .int) 3 108 (qPre D vwCl (qT6 ca) o 41 (qG (GM ca o) z y) [.ref (o + 0), .int a1, .int a2]) (va_Qi (fun r _ => r = A_remark a1 a2) (qB D vwCl (qT6 ca) o 41 (fun u : qZ => qG (GM ca o) u.1 u.2)) (qw_A o 41)) (qw_A o 41) := by
  refine Met.ofW (cc := cX11_remark) (maxL := 3) (ret := (some .int)) (by decide) rfl ?_
  intro p e s m args below meth c s₁ B hml hv
  obtain ⟨rfl, hP, hK⟩ := hv
  have hx := B.exec
  have hb := B.bytes
  have hr := B.returns
  have hts0 := atoms_spec (ws := Cond.code yX11_remark cX11_remark 3 (some .int) :: qtbl) B.pre
  have hts : ∀ w ∈ qtbl, w.before _ s = true := fun w h => hts0 w (List.mem_cons_of_mem _ h)
  have hown : s.vm.findClass RX11 = some m.cls := findClass_of_methodNamed B.named
  have hlocks := B.notSynchronized
  have hz0 : (0 : Int32).toInt = 0 := rfl
  have hS : va_S (qw_A o 41) s.heap s.heap [] := va_S.rf
  have hl := lv_entry ([.ref (o + 0), .int a1, .int a2]) (n := 3) (Nat.le_of_ble_eq_true rfl)
  rw [lg_entry_eq]
  generalize (lg_sl ([.ref (o + 0), .int a1, .int a2]) ++ List.replicate (3 - (lg_sl ([.ref (o + 0), .int a1, .int a2])).length) Slot.unset).toArray = ls at hl ⊢
  have hl : lv_has ls 3 [(0, .ref (o + 0)), (1, .int a1), (2, .int a2)] := hl
  refine lv_iload_n hx hb dX11_remark_0 rfl (lv_at hl 1 rfl) ?_
  refine lv_iconst (v := 0) hx hb dX11_remark_1 (by decide) ?_
  refine lv_bipush (v := 9) hx hb dX11_remark_2 (by decide) ?_
  refine qc_Si (As := [.int a1, .int 0, .int 9]) (rest := []) (k0 := 3) (m1_in l D ca o z y a1 0 9) kc_yX11_in ⟨hx, hb, hml, hown, hts⟩ wq_1187 rfl rfl ⟨Nat.le_of_ble_eq_true rfl, Nat.le_of_ble_eq_true rfl⟩ wq_all hP hK hS qw_Ai rfl hl.1 rfl (Nat.le_of_ble_eq_true rfl) dX11_remark_4 ⟨Nat.zero_le _, Nat.zero_le _⟩ (fun r1 u1 H locs h1 hP hS _ _ => ?_)
  rcases h1 with ⟨h1r, h1a, h1b⟩ | ⟨h1r, h1a⟩
  · subst h1r
    have t1a : a1.toInt ≥ (0 : Int) := h1a
    have t1b : a1.toInt ≤ (9 : Int) := h1b
    refine lv_if_eq (tgt := 20) hx hb dX11_remark_7 (by decide) (fun q => absurd q (by decide)) (fun _ => ?_)
    refine lv_aload_n hx hb dX11_remark_10 rfl (lv_at hl 0 rfl) ?_
    refine lv_iload_n hx hb dX11_remark_11 rfl (lv_at hl 1 rfl) ?_
    refine lv_iload_n hx hb dX11_remark_12 rfl (lv_at hl 2 rfl) ?_
    refine lv_iconst (v := 1) hx hb dX11_remark_13 (by decide) ?_
    refine qc_Vi (As := [.int a1, .int a2, .int 1]) (rest := []) (k0 := 3) (m1_textOf l D ca o z y a1 a2 1 (h0_15)) kc_yX11_textOf ⟨hx, hb, hml, hown, hts⟩ wq_1217 rfl rfl ⟨Nat.le_of_ble_eq_true rfl, Nat.le_of_ble_eq_true rfl⟩ wq_all hP hK hS qw_Ai (q0 := 0) (by decide) (hgM_0 ca o _ _) rfl rfl hl.1 rfl (Nat.le_of_ble_eq_true rfl) dX11_remark_14 ⟨Nat.zero_le _, Nat.zero_le _⟩ (fun r2 u2 H locs h2 hP hS _ _ => ?_)
    subst h2
    refine lv_goto (tgt := 21) hx hb dX11_remark_17 (by decide) ?_
    exact W.iret (v := (-1)) hx hb hr (fun t ht hW => ⟨⟨(-1), (z, y), rfl, rfl, by rw [ht]; exact hP, va_K.moved hW.alike hK⟩, hS.F ht⟩) hS.2.2 dX11_remark_21
  · subst h1r
    have t1a : a1.toInt < (0 : Int) ∨ (9 : Int) < a1.toInt := h1a
    refine lv_if_eq (tgt := 20) hx hb dX11_remark_7 (by decide) (fun _ => ?_) (fun q => absurd (by decide) q)
    refine lv_iconst (v := (-1)) hx hb dX11_remark_20 (by decide) ?_
    exact W.iret (v := (-1)) hx hb hr (fun t ht hW => ⟨⟨(-1), (z, y), rfl, rfl, by rw [ht]; exact hP, va_K.moved hW.alike hK⟩, hS.F ht⟩) hS.2.2 dX11_remark_21

set_option maxRecDepth 100000 in
set_option maxHeartbeats 4000000 in
theorem mP_form (l : Launch) (D : va_G) (ca : Nat → ClassId) (o : Nat) (z : Nat → Nat → Int32) (y : Nat → Nat → Int64) (a1 : Int32) (a2 : Int32) (h0_4 : z 0 4 = 0) (h0_5 : z 0 5 = 0) (h0_6 : z 0 6 = 0) (h0_15 : z 0 15 = 0) (h0_61 : z 0 61 = 0) : qM l yX11_form cX11_form 3 (some .int) 3 108 (qPre D vwCl (qT6 ca) o 41 (qG (GM ca o) z y) [.ref (o + 0), .int a1, .int a2]) (va_Qi (fun r _ => r = A_form a1 a2) (qB D vwCl (qT6 ca) o 41 (fun u : qZ => qG (GM ca o) u.1 u.2)) (qw_A o 41)) (qw_A o 41) := by
  refine Met.ofW (cc := cX11_form) (maxL := 3) (ret := (some .int)) (by decide) rfl ?_
  intro p e s m args below meth c s₁ B hml hv
  obtain ⟨rfl, hP, hK⟩ := hv
  have hx := B.exec
  have hb := B.bytes
  have hr := B.returns
  have hts0 := atoms_spec (ws := Cond.code yX11_form cX11_form 3 (some .int) :: qtbl) B.pre
  have hts : ∀ w ∈ qtbl, w.before _ s = true := fun w h => hts0 w (List.mem_cons_of_mem _ h)
  have hown : s.vm.findClass RX11 = some m.cls := findClass_of_methodNamed B.named
  have hlocks := B.notSynchronized
  have hz0 : (0 : Int32).toInt = 0 := rfl
  have hS : va_S (qw_A o 41) s.heap s.heap [] := va_S.rf
  have hl := lv_entry ([.ref (o + 0), .int a1, .int a2]) (n := 3) (Nat.le_of_ble_eq_true rfl)
  rw [lg_entry_eq]
  generalize (lg_sl ([.ref (o + 0), .int a1, .int a2]) ++ List.replicate (3 - (lg_sl ([.ref (o + 0), .int a1, .int a2])).length) Slot.unset).toArray = ls at hl ⊢
  have hl : lv_has ls 3 [(0, .ref (o + 0)), (1, .int a1), (2, .int a2)] := hl
  refine lv_iload_n hx hb dX11_form_0 rfl (lv_at hl 1 rfl) ?_
  refine lv_iconst (v := 0) hx hb dX11_form_1 (by decide) ?_
  refine lv_iconst (v := 5) hx hb dX11_form_2 (by decide) ?_
  refine qc_Si (As := [.int a1, .int 0, .int 5]) (rest := []) (k0 := 3) (m1_in l D ca o z y a1 0 5) kc_yX11_in ⟨hx, hb, hml, hown, hts⟩ wq_1187 rfl rfl ⟨Nat.le_of_ble_eq_true rfl, Nat.le_of_ble_eq_true rfl⟩ wq_all hP hK hS qw_Ai rfl hl.1 rfl (Nat.le_of_ble_eq_true rfl) dX11_form_3 ⟨Nat.zero_le _, Nat.zero_le _⟩ (fun r1 u1 H locs h1 hP hS _ _ => ?_)
  rcases h1 with ⟨h1r, h1a, h1b⟩ | ⟨h1r, h1a⟩
  · subst h1r
    have t1a : a1.toInt ≥ (0 : Int) := h1a
    have t1b : a1.toInt ≤ (5 : Int) := h1b
    refine lv_if_eq (tgt := 22) hx hb dX11_form_6 (by decide) (fun q => absurd q (by decide)) (fun _ => ?_)
    refine lv_aload_n hx hb dX11_form_9 rfl (lv_at hl 0 rfl) ?_
    refine lv_bipush (v := 10) hx hb dX11_form_10 (by decide) ?_
    refine lv_iload_n hx hb dX11_form_12 rfl (lv_at hl 1 rfl) ?_
    refine lv_iadd hx hb dX11_form_13 ?_
    refine lv_topi (fun x2 e2 => ?_)
    refine lv_iload_n hx hb dX11_form_14 rfl (lv_at hl 2 rfl) ?_
    refine lv_iconst (v := 0) hx hb dX11_form_15 (by decide) ?_
    refine qc_Vi (As := [.int x2, .int a2, .int 0]) (rest := []) (k0 := 3) (m1_textOf l D ca o z y x2 a2 0 (h0_15)) kc_yX11_textOf ⟨hx, hb, hml, hown, hts⟩ wq_1217 rfl rfl ⟨Nat.le_of_ble_eq_true rfl, Nat.le_of_ble_eq_true rfl⟩ wq_all hP hK hS qw_Ai (q0 := 0) (by decide) (hgM_0 ca o _ _) rfl rfl hl.1 rfl (Nat.le_of_ble_eq_true rfl) dX11_form_16 ⟨Nat.zero_le _, Nat.zero_le _⟩ (fun r3 u3 H locs h3 hP hS _ _ => ?_)
    subst h3
    refine lv_goto (tgt := 23) hx hb dX11_form_19 (by decide) ?_
    exact W.iret (v := (-1)) hx hb hr (fun t ht hW => ⟨⟨(-1), (z, y), rfl, rfl, by rw [ht]; exact hP, va_K.moved hW.alike hK⟩, hS.F ht⟩) hS.2.2 dX11_form_23
  · subst h1r
    have t1a : a1.toInt < (0 : Int) ∨ (5 : Int) < a1.toInt := h1a
    refine lv_if_eq (tgt := 22) hx hb dX11_form_6 (by decide) (fun _ => ?_) (fun q => absurd (by decide) q)
    refine lv_iconst (v := (-1)) hx hb dX11_form_22 (by decide) ?_
    exact W.iret (v := (-1)) hx hb hr (fun t ht hW => ⟨⟨(-1), (z, y), rfl, rfl, by rw [ht]; exact hP, va_K.moved hW.alike hK⟩, hS.F ht⟩) hS.2.2 dX11_form_23

set_option maxRecDepth 100000 in
set_option maxHeartbeats 4000000 in
theorem mP_takeBack (l : Launch) (D : va_G) (ca : Nat → ClassId) (o : Nat) (z : Nat → Nat → Int32) (y : Nat → Nat → Int64) (a1 : Int32) (h0_4 : z 0 4 = 0) (h0_5 : z 0 5 = 0) (h0_6 : z 0 6 = 0) (h0_15 : z 0 15 = 0) (h0_61 : z 0 61 = 0) : qM l yX11_takeBack cX11_takeBack 2 (some .boolean) 3 103 (qPre D vwCl (qT6 ca) o 41 (qG (GM ca o) z y) [.ref (o + 0), .int a1]) (va_Qi (fun r _ => r = A_takeBack a1) (qB D vwCl (qT6 ca) o 41 (fun u : qZ => qG (GM ca o) u.1 u.2)) (qw_A o 41)) (qw_A o 41) := by
  refine Met.ofW (cc := cX11_takeBack) (maxL := 2) (ret := (some .boolean)) (by decide) rfl ?_
  intro p e s m args below meth c s₁ B hml hv
  obtain ⟨rfl, hP, hK⟩ := hv
  have hx := B.exec
  have hb := B.bytes
  have hr := B.returns
  have hts0 := atoms_spec (ws := Cond.code yX11_takeBack cX11_takeBack 2 (some .boolean) :: qtbl) B.pre
  have hts : ∀ w ∈ qtbl, w.before _ s = true := fun w h => hts0 w (List.mem_cons_of_mem _ h)
  have hown : s.vm.findClass RX11 = some m.cls := findClass_of_methodNamed B.named
  have hlocks := B.notSynchronized
  have hz0 : (0 : Int32).toInt = 0 := rfl
  have hS : va_S (qw_A o 41) s.heap s.heap [] := va_S.rf
  have hl := lv_entry ([.ref (o + 0), .int a1]) (n := 2) (Nat.le_of_ble_eq_true rfl)
  rw [lg_entry_eq]
  generalize (lg_sl ([.ref (o + 0), .int a1]) ++ List.replicate (2 - (lg_sl ([.ref (o + 0), .int a1])).length) Slot.unset).toArray = ls at hl ⊢
  have hl : lv_has ls 2 [(0, .ref (o + 0)), (1, .int a1)] := hl
  refine lv_aload_n hx hb dX11_takeBack_0 rfl (lv_at hl 0 rfl) ?_
  refine lv_iload_n hx hb dX11_takeBack_1 rfl (lv_at hl 1 rfl) ?_
  refine qc_Vi (As := [.int a1]) (rest := []) (k0 := 1) (m1_isRemark l D ca o z y a1 (h0_6)) kc_yX11_isRemark ⟨hx, hb, hml, hown, hts⟩ wq_1307 rfl rfl ⟨Nat.le_of_ble_eq_true rfl, Nat.le_of_ble_eq_true rfl⟩ wq_all hP hK hS qw_Ai (q0 := 0) (by decide) (hgM_0 ca o _ _) rfl rfl hl.1 rfl (Nat.le_of_ble_eq_true rfl) dX11_takeBack_2 ⟨Nat.zero_le _, Nat.zero_le _⟩ (fun r1 u1 H locs h1 hP hS _ _ => ?_)
  subst h1
  refine lv_if_ne (tgt := 10) hx hb dX11_takeBack_5 (by decide) (fun q => absurd q (by decide)) (fun _ => ?_)
  refine lv_iconst (v := 0) hx hb dX11_takeBack_8 (by decide) ?_
  exact W.zret (v := 0) (ty := .boolean) hx hb hr rfl (fun t ht hW => ⟨⟨0, (z, y), rfl, rfl, by rw [ht]; exact hP, va_K.moved hW.alike hK⟩, hS.F ht⟩) hS.2.2 dX11_takeBack_9

set_option maxRecDepth 100000 in
set_option maxHeartbeats 4000000 in
theorem mP_rows (l : Launch) (D : va_G) (ca : Nat → ClassId) (o : Nat) (z : Nat → Nat → Int32) (y : Nat → Nat → Int64)  (h0_4 : z 0 4 = 0) (h0_5 : z 0 5 = 0) (h0_6 : z 0 6 = 0) (h0_15 : z 0 15 = 0) (h0_61 : z 0 61 = 0) : qM l yX11_rows cX11_rows 1 (some .int) 4 125 (qPre D vwCl (qT6 ca) o 41 (qG (GM ca o) z y) [.ref (o + 0)]) (va_Qi (fun r _ => r = A_rows ) (qB D vwCl (qT6 ca) o 41 (fun u : qZ => qG (GM ca o) u.1 u.2)) (qw_A o 41)) (qw_A o 41) := by
  refine Met.ofW (cc := cX11_rows) (maxL := 1) (ret := (some .int)) (by decide) rfl ?_
  intro p e s m args below meth c s₁ B hml hv
  obtain ⟨rfl, hP, hK⟩ := hv
  have hx := B.exec
  have hb := B.bytes
  have hr := B.returns
  have hts0 := atoms_spec (ws := Cond.code yX11_rows cX11_rows 1 (some .int) :: qtbl) B.pre
  have hts : ∀ w ∈ qtbl, w.before _ s = true := fun w h => hts0 w (List.mem_cons_of_mem _ h)
  have hown : s.vm.findClass RX11 = some m.cls := findClass_of_methodNamed B.named
  have hlocks := B.notSynchronized
  have hz0 : (0 : Int32).toInt = 0 := rfl
  have hS : va_S (qw_A o 41) s.heap s.heap [] := va_S.rf
  have hl := lv_entry ([.ref (o + 0)]) (n := 1) (Nat.le_of_ble_eq_true rfl)
  rw [lg_entry_eq]
  generalize (lg_sl ([.ref (o + 0)]) ++ List.replicate (1 - (lg_sl ([.ref (o + 0)])).length) Slot.unset).toArray = ls at hl ⊢
  have hl : lv_has ls 1 [(0, .ref (o + 0))] := hl
  refine lv_aload_n hx hb dX11_rows_0 rfl (lv_at hl 0 rfl) ?_
  refine qc_Vi (As := []) (rest := []) (k0 := 0) (m1_rowMany l D ca o z y (h0_4)) kc_yX11_rowMany ⟨hx, hb, hml, hown, hts⟩ wq_1315 rfl rfl ⟨Nat.le_of_ble_eq_true rfl, Nat.le_of_ble_eq_true rfl⟩ wq_all hP hK hS qw_Ai (q0 := 0) (by decide) (hgM_0 ca o _ _) rfl rfl hl.1 rfl (Nat.le_of_ble_eq_true rfl) dX11_rows_1 ⟨Nat.zero_le _, Nat.zero_le _⟩ (fun r1 u1 H locs h1 hP hS _ _ => ?_)
  subst h1
  refine lv_ldcw (v := 200000) hx hb hown (hts _ wq_1319) dX11_rows_4 ?_
  refine lv_icmp_le (tgt := 15) hx hb dX11_rows_7 (by decide) (fun _ => ?_) (fun q => absurd (by decide) q)
  refine lv_aload_n hx hb dX11_rows_15 rfl (lv_at hl 0 rfl) ?_
  refine qc_Vi (As := []) (rest := []) (k0 := 0) (m1_rowMany l D ca o z y (h0_4)) kc_yX11_rowMany ⟨hx, hb, hml, hown, hts⟩ wq_1315 rfl rfl ⟨Nat.le_of_ble_eq_true rfl, Nat.le_of_ble_eq_true rfl⟩ wq_all hP hK hS qw_Ai (q0 := 0) (by decide) (hgM_0 ca o _ _) rfl rfl hl.1 rfl (Nat.le_of_ble_eq_true rfl) dX11_rows_16 ⟨Nat.zero_le _, Nat.zero_le _⟩ (fun r2 u2 H locs h2 hP hS _ _ => ?_)
  subst h2
  exact W.iret (v := 1) hx hb hr (fun t ht hW => ⟨⟨1, (z, y), rfl, rfl, by rw [ht]; exact hP, va_K.moved hW.alike hK⟩, hS.F ht⟩) hS.2.2 dX11_rows_19

set_option maxRecDepth 100000 in
set_option maxHeartbeats 4000000 in
theorem mP_fit (l : Launch) (D : va_G) (ca : Nat → ClassId) (o : Nat) (z : Nat → Nat → Int32) (y : Nat → Nat → Int64) (a1 : Int32) (a2 : Int32) (h0_4 : z 0 4 = 0) (h0_5 : z 0 5 = 0) (h0_6 : z 0 6 = 0) (h0_15 : z 0 15 = 0) (h0_61 : z 0 61 = 0) : qM l yX11_fit cX11_fit 5 (some .int) 5 147 (qPre D vwCl (qT6 ca) o 41 (qG (GM ca o) z y) [.ref (o + 0), .int a1, .int a2]) (va_Qi (fun r _ => r = A_fit a1 a2) (qB D vwCl (qT6 ca) o 41 (fun u : qZ => qG (GM ca o) u.1 u.2)) (qw_A o 41)) (qw_A o 41) := by
  refine Met.ofW (cc := cX11_fit) (maxL := 5) (ret := (some .int)) (by decide) rfl ?_
  intro p e s m args below meth c s₁ B hml hv
  obtain ⟨rfl, hP, hK⟩ := hv
  have hx := B.exec
  have hb := B.bytes
  have hr := B.returns
  have hts0 := atoms_spec (ws := Cond.code yX11_fit cX11_fit 5 (some .int) :: qtbl) B.pre
  have hts : ∀ w ∈ qtbl, w.before _ s = true := fun w h => hts0 w (List.mem_cons_of_mem _ h)
  have hown : s.vm.findClass RX11 = some m.cls := findClass_of_methodNamed B.named
  have hlocks := B.notSynchronized
  have hz0 : (0 : Int32).toInt = 0 := rfl
  have hS : va_S (qw_A o 41) s.heap s.heap [] := va_S.rf
  have hl := lv_entry ([.ref (o + 0), .int a1, .int a2]) (n := 5) (Nat.le_of_ble_eq_true rfl)
  rw [lg_entry_eq]
  generalize (lg_sl ([.ref (o + 0), .int a1, .int a2]) ++ List.replicate (5 - (lg_sl ([.ref (o + 0), .int a1, .int a2])).length) Slot.unset).toArray = ls at hl ⊢
  have hl : lv_has ls 5 [(0, .ref (o + 0)), (1, .int a1), (2, .int a2)] := hl
  refine lv_aload_n hx hb dX11_fit_0 rfl (lv_at hl 0 rfl) ?_
  refine lv_iload_n hx hb dX11_fit_1 rfl (lv_at hl 1 rfl) ?_
  refine qc_Vi (As := [.int a1]) (rest := []) (k0 := 1) (m1_areRemarks l D ca o z y a1 (h0_6)) kc_yX11_areRemarks ⟨hx, hb, hml, hown, hts⟩ wq_1324 rfl rfl ⟨Nat.le_of_ble_eq_true rfl, Nat.le_of_ble_eq_true rfl⟩ wq_all hP hK hS qw_Ai (q0 := 0) (by decide) (hgM_0 ca o _ _) rfl rfl hl.1 rfl (Nat.le_of_ble_eq_true rfl) dX11_fit_2 ⟨Nat.zero_le _, Nat.zero_le _⟩ (fun r1 u1 H locs h1 hP hS _ _ => ?_)
  rcases h1 with ⟨h1r, h1a⟩ | ⟨h1r, h1a⟩
  · subst h1r
    obtain rfl : a1 = 0 := gr_eq (y := 0) h1a
    refine lv_if_eq (tgt := 28) hx hb dX11_fit_5 (by decide) (fun q => absurd q (by decide)) (fun _ => ?_)
    refine lv_iload_n hx hb dX11_fit_8 rfl (lv_at hl 2 rfl) ?_
    refine lv_bipush (v := 100) hx hb dX11_fit_9 (by decide) ?_
    refine lv_icmp_eq (tgt := 30) hx hb dX11_fit_11 (by decide) (fun c2 => ?_) (fun c2 => ?_)
    · have t2 : a2.toInt = (100 : Int) := gl_eq c2
      refine lv_aload_n hx hb dX11_fit_30 rfl (lv_at hl 0 rfl) ?_
      refine qc_Vi (As := []) (rest := []) (k0 := 0) (m1_rowMany l D ca o z y (h0_4)) kc_yX11_rowMany ⟨hx, hb, hml, hown, hts⟩ wq_1315 rfl rfl ⟨Nat.le_of_ble_eq_true rfl, Nat.le_of_ble_eq_true rfl⟩ wq_all hP hK hS qw_Ai (q0 := 0) (by decide) (hgM_0 ca o _ _) rfl rfl hl.1 rfl (Nat.le_of_ble_eq_true rfl) dX11_fit_31 ⟨Nat.zero_le _, Nat.zero_le _⟩ (fun r3 u3 H locs h3 hP hS _ _ => ?_)
      subst h3
      refine lv_ldcw (v := 200000) hx hb hown (hts _ wq_1319) dX11_fit_34 ?_
      refine lv_icmp_le (tgt := 43) hx hb dX11_fit_37 (by decide) (fun _ => ?_) (fun q => absurd (by decide) q)
      refine lv_iload_n hx hb dX11_fit_43 rfl (lv_at hl 2 rfl) ?_
      refine lv_bipush (v := 100) hx hb dX11_fit_44 (by decide) ?_
      refine lv_icmp_ge (tgt := 69) hx hb dX11_fit_46 (by decide) (fun _ => ?_) (fun q => absurd (gr_le (by show (100 : Int) ≤ a2.toInt; omega)) q)
      refine lv_aload_n hx hb dX11_fit_69 rfl (lv_at hl 0 rfl) ?_
      refine qc_Vv (As := []) (rest := []) (k0 := 0) (m1_counts l D ca o z y (h0_4) (h0_6)) kc_yX11_counts ⟨hx, hb, hml, hown, hts⟩ wq_1356 rfl rfl ⟨Nat.le_of_ble_eq_true rfl, Nat.le_of_ble_eq_true rfl⟩ wq_all hP hK hS qw_Ai (q0 := 0) (by decide) (hgM_0 ca o _ _) rfl rfl hl.1 rfl (Nat.le_of_ble_eq_true rfl) dX11_fit_70 ⟨Nat.zero_le _, Nat.zero_le _⟩ (fun u4 H locs h4 hP hS _ _ => ?_)
      obtain ⟨z4, y4⟩ := u4
      obtain ⟨h4f, h4y, h4m⟩ := h4
      dsimp only at h4f h4y h4m hP
      rw [h4y] at hP
      have f4_0_4 : z4 0 4 = 0 := (congrFun (h4f 0 (by decide) (by decide)) 4).trans (h0_4)
      have f4_0_5 : z4 0 5 = 0 := (congrFun (h4f 0 (by decide) (by decide)) 5).trans (h0_5)
      have f4_0_6 : z4 0 6 = 0 := (congrFun (h4f 0 (by decide) (by decide)) 6).trans (h0_6)
      have f4_0_15 : z4 0 15 = 0 := (congrFun (h4f 0 (by decide) (by decide)) 15).trans (h0_15)
      have f4_0_61 : z4 0 61 = 0 := (congrFun (h4f 0 (by decide) (by decide)) 61).trans (h0_61)
      refine lv_iload_n hx hb dX11_fit_73 rfl (lv_at hl 2 rfl) ?_
      refine lv_bipush (v := 100) hx hb dX11_fit_74 (by decide) ?_
      refine lv_icmp_ne (tgt := 85) hx hb dX11_fit_76 (by decide) (fun q => absurd q (not_not_intro (gr_eq (by show a2.toInt = (100 : Int); omega)))) (fun _ => ?_)
      refine lv_aload_n hx hb dX11_fit_79 rfl (lv_at hl 0 rfl) ?_
      refine lv_iload_n hx hb dX11_fit_80 rfl (lv_at hl 1 rfl) ?_
      refine qc_Vi (As := [.int 0]) (rest := []) (k0 := 1) (m1_fitting l D ca o z4 y h4m (h4m.1)) kc_yX11_fitting ⟨hx, hb, hml, hown, hts⟩ wq_1360 rfl rfl ⟨Nat.le_of_ble_eq_true rfl, Nat.le_of_ble_eq_true rfl⟩ wq_all hP hK hS qw_Ai (q0 := 0) (by decide) (hgM_0 ca o _ _) rfl rfl hl.1 rfl (Nat.le_of_ble_eq_true rfl) dX11_fit_81 ⟨Nat.zero_le _, Nat.zero_le _⟩ (fun r5 u5 H locs h5 hP hS _ _ => ?_)
      subst h5
      exact W.iret (v := 1) hx hb hr (fun t ht hW => ⟨⟨1, (z4, y), rfl, (ga_p (by omega)), by rw [ht]; exact hP, va_K.moved hW.alike hK⟩, hS.F ht⟩) hS.2.2 dX11_fit_84
    · have t2 : a2.toInt ≠ (100 : Int) := gl_ne c2
      refine lv_iload_n hx hb dX11_fit_14 rfl (lv_at hl 2 rfl) ?_
      refine lv_bipush (v := 101) hx hb dX11_fit_15 (by decide) ?_
      refine lv_icmp_eq (tgt := 30) hx hb dX11_fit_17 (by decide) (fun c6 => ?_) (fun c6 => ?_)
      · have t6 : a2.toInt = (101 : Int) := gl_eq c6
        refine lv_aload_n hx hb dX11_fit_30 rfl (lv_at hl 0 rfl) ?_
        refine qc_Vi (As := []) (rest := []) (k0 := 0) (m1_rowMany l D ca o z y (h0_4)) kc_yX11_rowMany ⟨hx, hb, hml, hown, hts⟩ wq_1315 rfl rfl ⟨Nat.le_of_ble_eq_true rfl, Nat.le_of_ble_eq_true rfl⟩ wq_all hP hK hS qw_Ai (q0 := 0) (by decide) (hgM_0 ca o _ _) rfl rfl hl.1 rfl (Nat.le_of_ble_eq_true rfl) dX11_fit_31 ⟨Nat.zero_le _, Nat.zero_le _⟩ (fun r7 u7 H locs h7 hP hS _ _ => ?_)
        subst h7
        refine lv_ldcw (v := 200000) hx hb hown (hts _ wq_1319) dX11_fit_34 ?_
        refine lv_icmp_le (tgt := 43) hx hb dX11_fit_37 (by decide) (fun _ => ?_) (fun q => absurd (by decide) q)
        refine lv_iload_n hx hb dX11_fit_43 rfl (lv_at hl 2 rfl) ?_
        refine lv_bipush (v := 100) hx hb dX11_fit_44 (by decide) ?_
        refine lv_icmp_ge (tgt := 69) hx hb dX11_fit_46 (by decide) (fun _ => ?_) (fun q => absurd (gr_le (by show (100 : Int) ≤ a2.toInt; omega)) q)
        refine lv_aload_n hx hb dX11_fit_69 rfl (lv_at hl 0 rfl) ?_
        refine qc_Vv (As := []) (rest := []) (k0 := 0) (m1_counts l D ca o z y (h0_4) (h0_6)) kc_yX11_counts ⟨hx, hb, hml, hown, hts⟩ wq_1356 rfl rfl ⟨Nat.le_of_ble_eq_true rfl, Nat.le_of_ble_eq_true rfl⟩ wq_all hP hK hS qw_Ai (q0 := 0) (by decide) (hgM_0 ca o _ _) rfl rfl hl.1 rfl (Nat.le_of_ble_eq_true rfl) dX11_fit_70 ⟨Nat.zero_le _, Nat.zero_le _⟩ (fun u8 H locs h8 hP hS _ _ => ?_)
        obtain ⟨z8, y8⟩ := u8
        obtain ⟨h8f, h8y, h8m⟩ := h8
        dsimp only at h8f h8y h8m hP
        rw [h8y] at hP
        have f8_0_4 : z8 0 4 = 0 := (congrFun (h8f 0 (by decide) (by decide)) 4).trans (h0_4)
        have f8_0_5 : z8 0 5 = 0 := (congrFun (h8f 0 (by decide) (by decide)) 5).trans (h0_5)
        have f8_0_6 : z8 0 6 = 0 := (congrFun (h8f 0 (by decide) (by decide)) 6).trans (h0_6)
        have f8_0_15 : z8 0 15 = 0 := (congrFun (h8f 0 (by decide) (by decide)) 15).trans (h0_15)
        have f8_0_61 : z8 0 61 = 0 := (congrFun (h8f 0 (by decide) (by decide)) 61).trans (h0_61)
        refine lv_iload_n hx hb dX11_fit_73 rfl (lv_at hl 2 rfl) ?_
        refine lv_bipush (v := 100) hx hb dX11_fit_74 (by decide) ?_
        refine lv_icmp_ne (tgt := 85) hx hb dX11_fit_76 (by decide) (fun _ => ?_) (fun q => absurd q (gr_ne (by show a2.toInt ≠ (100 : Int); omega)))
        refine lv_iconst (v := 0) hx hb dX11_fit_85 (by decide) ?_
        refine lv_istore_n (lv' := [(3, .int 0), (0, .ref (o + 0)), (1, .int 0), (2, .int a2)]) hx hb dX11_fit_86 rfl hl (by decide) rfl (fun ls hl => ?_)
        refine lv_iconst (v := 0) hx hb dX11_fit_87 (by decide) ?_
        refine lv_istore (lv' := [(4, .int 0), (3, .int 0), (0, .ref (o + 0)), (1, .int 0), (2, .int a2)]) hx hb dX11_fit_88 hl (by decide) rfl (fun ls hl => ?_)
        refine lv_iload hx hb dX11_fit_90 (lv_at hl 0 rfl) ?_
        refine lv_sipush (v := 1024) hx hb dX11_fit_92 (by decide) ?_
        refine lv_icmp_ge (tgt := 127) hx hb dX11_fit_95 (by decide) (fun q => absurd q (by decide)) (fun _ => ?_)
        refine lv_iload_n hx hb dX11_fit_98 rfl (lv_at hl 3 rfl) ?_
        refine lv_iload hx hb dX11_fit_99 (lv_at hl 0 rfl) ?_
        refine lv_iconst (v := (-1)) hx hb dX11_fit_101 (by decide) ?_
        refine lv_ixor hx hb dX11_fit_102 ?_
        refine qtop (x' := (-1)) (by decide) ?_
        refine lv_iand hx hb dX11_fit_103 ?_
        refine qtop (x' := 0) (by decide) ?_
        refine qc_Si (As := [.int 0]) (rest := []) (k0 := 1) (m1_bits0 l D ca o z8 y) kc_yX11_bits ⟨hx, hb, hml, hown, hts⟩ wq_1296 rfl rfl ⟨Nat.le_of_ble_eq_true rfl, Nat.le_of_ble_eq_true rfl⟩ wq_all hP hK hS qw_Ai rfl hl.1 rfl (Nat.le_of_ble_eq_true rfl) dX11_fit_104 ⟨Nat.zero_le _, Nat.zero_le _⟩ (fun r9 u9 H locs h9 hP hS _ _ => ?_)
        subst h9
        refine lv_iconst (v := 1) hx hb dX11_fit_107 (by decide) ?_
        refine lv_icmp_gt (tgt := 121) hx hb dX11_fit_108 (by decide) (fun q => absurd q (by decide)) (fun _ => ?_)
        refine lv_iload_n hx hb dX11_fit_111 rfl (lv_at hl 1 rfl) ?_
        refine lv_aload_n hx hb dX11_fit_112 rfl (lv_at hl 2 rfl) ?_
        refine qf_get hx hb hts inX11 hown hK hP (q0 := 0) (by decide) (hgM_0 ca o) rfl 37 (by decide) wq_1029 (v := .ref (o + 24)) rfl dX11_fit_113 ?_
        refine lv_iload hx hb dX11_fit_116 (lv_at hl 0 rfl) ?_
        refine qa_iald hx hb hK hP (q0 := 24) (by decide) 0 (N := 1024) (hgM_24 ca o) rfl (gi_in (by decide) (by decide)) dX11_fit_118 ?_
        refine qtop (x' := 1) h8m.1 ?_
        refine lv_iadd hx hb dX11_fit_119 ?_
        refine qtop (x' := 1) (by decide) ?_
        refine lv_istore_n (lv' := [(3, .int 1), (4, .int 0), (0, .ref (o + 0)), (1, .int 0), (2, .int a2)]) hx hb dX11_fit_120 rfl hl (by decide) rfl (fun ls hl => ?_)
        refine lv_iinc (v := 1) (lv' := [(4, .int 1), (3, .int 1), (0, .ref (o + 0)), (1, .int 0), (2, .int a2)]) hx hb dX11_fit_121 hl (k := 1) rfl (by decide) (by decide) rfl (fun ls hl => ?_)
        refine lv_goto (tgt := 90) hx hb dX11_fit_124 (by decide) ?_
        have loop10 : ∀ (n i10 : Nat) (x10 : Int32), 1024 < i10 + n → i10 ≤ 1024 → 1 ≤ i10 → x10.toInt = (i10 : Int) → ∀ (H : Heap) (locs : List Loc), qw_P D vwCl o 41 (qG (GM ca o) z8 y) H → va_S (qw_A o 41) s.heap H locs → ∀ (ls : Array Slot), lv_has ls 5 [(4, .int x10), (3, .int 1), (0, .ref (o + 0)), (1, .int 0), (2, .int a2)] → W p l e (headSpec (Cond.code yX11_fit cX11_fit 5 (some .int) :: qtbl) ({ frames := 5, cells := 0, slots := 0, locals := 147 })).room s m (([.ref (o + 0), .int 0, .int a2] : List Value).toArray) below meth c H locs 0 0 (MQ below (va_Qi (fun r _ => r = A_fit 0 a2) (qB D vwCl (qT6 ca) o 41 (fun u : qZ => qG (GM ca o) u.1 u.2)) (qw_A o 41)) (([.ref (o + 0), .int 0, .int a2] : List Value).toArray) s 0 0 (qw_A o 41)) (F0 m 90 ls []) := by
          intro n
          induction n with
          | zero => intro i10 x10 hb10 hi10; exact absurd hb10 (by omega)
          | succ n ih =>
            intro i10 x10 hb10 hi10 ho10 hx10 H locs hP hS ls hl
            refine lv_iload hx hb dX11_fit_90 (lv_at hl 0 rfl) ?_
            refine lv_sipush (v := 1024) hx hb dX11_fit_92 (by decide) ?_
            refine lv_icmp_ge (tgt := 127) hx hb dX11_fit_95 (by decide) (fun c11 => ?_) (fun c11 => ?_)
            · have t11 : x10.toInt ≥ (1024 : Int) := gl_le c11
              refine lv_iload_n hx hb dX11_fit_127 rfl (lv_at hl 1 rfl) ?_
              exact W.iret (v := 1) hx hb hr (fun t ht hW => ⟨⟨1, (z8, y), rfl, (ga_p (by omega)), by rw [ht]; exact hP, va_K.moved hW.alike hK⟩, hS.F ht⟩) hS.2.2 dX11_fit_128
            · have t11 : x10.toInt < (1024 : Int) := gl_nle c11
              refine lv_iload_n hx hb dX11_fit_98 rfl (lv_at hl 3 rfl) ?_
              refine lv_iload hx hb dX11_fit_99 (lv_at hl 0 rfl) ?_
              refine lv_iconst (v := (-1)) hx hb dX11_fit_101 (by decide) ?_
              refine lv_ixor hx hb dX11_fit_102 ?_
              refine lv_topi (fun x12 e12 => ?_)
              refine lv_iand hx hb dX11_fit_103 ?_
              refine qtop (gi_0a _) ?_
              refine qc_Si (As := [.int 0]) (rest := []) (k0 := 1) (m1_bits0 l D ca o z8 y) kc_yX11_bits ⟨hx, hb, hml, hown, hts⟩ wq_1296 rfl rfl ⟨Nat.le_of_ble_eq_true rfl, Nat.le_of_ble_eq_true rfl⟩ wq_all hP hK hS qw_Ai rfl hl.1 rfl (Nat.le_of_ble_eq_true rfl) dX11_fit_104 ⟨Nat.zero_le _, Nat.zero_le _⟩ (fun r13 u13 H locs h13 hP hS _ _ => ?_)
              subst h13
              refine lv_iconst (v := 1) hx hb dX11_fit_107 (by decide) ?_
              refine lv_icmp_gt (tgt := 121) hx hb dX11_fit_108 (by decide) (fun q => absurd q (by decide)) (fun _ => ?_)
              refine lv_iload_n hx hb dX11_fit_111 rfl (lv_at hl 1 rfl) ?_
              refine lv_aload_n hx hb dX11_fit_112 rfl (lv_at hl 2 rfl) ?_
              refine qf_get hx hb hts inX11 hown hK hP (q0 := 0) (by decide) (hgM_0 ca o) rfl 37 (by decide) wq_1029 (v := .ref (o + 24)) rfl dX11_fit_113 ?_
              refine lv_iload hx hb dX11_fit_116 (lv_at hl 0 rfl) ?_
              refine qa_iald hx hb hK hP (q0 := 24) (by decide) 0 (N := 1024) (hgM_24 ca o) rfl (gi_in (by omega) (by omega)) dX11_fit_118 ?_
              refine qtop (x' := 0) (gmany_at h8m (by omega) (by omega)) ?_
              refine lv_iadd hx hb dX11_fit_119 ?_
              refine qtop (x' := 1) (by decide) ?_
              refine lv_istore_n (lv' := [(3, .int 1), (4, .int x10), (0, .ref (o + 0)), (1, .int 0), (2, .int a2)]) hx hb dX11_fit_120 rfl hl (by decide) rfl (fun ls hl => ?_)
              obtain ⟨x14, e14⟩ : ∃ t : Int32, t = x10 + 1 := ⟨_, rfl⟩
              refine lv_iinc (v := x14) (lv' := [(4, .int x14), (3, .int 1), (0, .ref (o + 0)), (1, .int 0), (2, .int a2)]) hx hb dX11_fit_121 hl (k := 1) rfl (by rw [e14]; rfl) (by decide) rfl (fun ls hl => ?_)
              refine lv_goto (tgt := 90) hx hb dX11_fit_124 (by decide) ?_
              exact ih (i10 + 1) x14 (by omega) (by omega) (by omega) (by rw [e14]; rw [gi_add (by rw [hx10]; show _ ≤ _ + (1 : Int); omega) (by rw [hx10]; show _ + (1 : Int) ≤ _; omega), hx10]; rfl) _ _ hP hS _ (lv_sub hl [0, 1, 2, 3, 4] rfl)
        exact loop10 1025 1 1 (by omega) (by omega) (by omega) rfl _ _ hP hS _ (lv_sub hl [0, 1, 2, 3, 4] rfl)
      · have t6 : a2.toInt ≠ (101 : Int) := gl_ne c6
        refine lv_aload_n hx hb dX11_fit_20 rfl (lv_at hl 0 rfl) ?_
        refine lv_iload_n hx hb dX11_fit_21 rfl (lv_at hl 2 rfl) ?_
        refine qc_Vi (As := [.int a2]) (rest := []) (k0 := 1) (m1_isPerson l D ca o z y a2 (h0_4)) kc_yX11_isPerson ⟨hx, hb, hml, hown, hts⟩ wq_1194 rfl rfl ⟨Nat.le_of_ble_eq_true rfl, Nat.le_of_ble_eq_true rfl⟩ wq_all hP hK hS qw_Ai (q0 := 0) (by decide) (hgM_0 ca o _ _) rfl rfl hl.1 rfl (Nat.le_of_ble_eq_true rfl) dX11_fit_22 ⟨Nat.zero_le _, Nat.zero_le _⟩ (fun r15 u15 H locs h15 hP hS _ _ => ?_)
        subst h15
        refine lv_if_ne (tgt := 30) hx hb dX11_fit_25 (by decide) (fun q => absurd q (by decide)) (fun _ => ?_)
        refine lv_iconst (v := (-1)) hx hb dX11_fit_28 (by decide) ?_
        exact W.iret (v := (-1)) hx hb hr (fun t ht hW => ⟨⟨(-1), (z, y), rfl, (ga_n (by omega)), by rw [ht]; exact hP, va_K.moved hW.alike hK⟩, hS.F ht⟩) hS.2.2 dX11_fit_29
  · subst h1r
    refine lv_if_eq (tgt := 28) hx hb dX11_fit_5 (by decide) (fun _ => ?_) (fun q => absurd (by decide) q)
    refine lv_iconst (v := (-1)) hx hb dX11_fit_28 (by decide) ?_
    exact W.iret (v := (-1)) hx hb hr (fun t ht hW => ⟨⟨(-1), (z, y), rfl, (ga_n (by omega)), by rw [ht]; exact hP, va_K.moved hW.alike hK⟩, hS.F ht⟩) hS.2.2 dX11_fit_29

set_option maxRecDepth 100000 in
set_option maxHeartbeats 4000000 in
theorem mP_ageIs (l : Launch) (D : va_G) (ca : Nat → ClassId) (o : Nat) (z : Nat → Nat → Int32) (y : Nat → Nat → Int64) (a1 : Int32) (a2 : Int32) (a3 : Int32) (h0_4 : z 0 4 = 0) (h0_5 : z 0 5 = 0) (h0_6 : z 0 6 = 0) (h0_15 : z 0 15 = 0) (h0_61 : z 0 61 = 0) : qM l yX11_ageIs cX11_ageIs 8 (some .int) 3 103 (qPre D vwCl (qT6 ca) o 41 (qG (GM ca o) z y) [.ref (o + 0), .int a1, .int a2, .int a3]) (va_Qi (fun r _ => r = A_ageIs a1 a2 a3) (qB D vwCl (qT6 ca) o 41 (fun u : qZ => qG (GM ca o) u.1 u.2)) (qw_A o 41)) (qw_A o 41) := by
  refine Met.ofW (cc := cX11_ageIs) (maxL := 8) (ret := (some .int)) (by decide) rfl ?_
  intro p e s m args below meth c s₁ B hml hv
  obtain ⟨rfl, hP, hK⟩ := hv
  have hx := B.exec
  have hb := B.bytes
  have hr := B.returns
  have hts0 := atoms_spec (ws := Cond.code yX11_ageIs cX11_ageIs 8 (some .int) :: qtbl) B.pre
  have hts : ∀ w ∈ qtbl, w.before _ s = true := fun w h => hts0 w (List.mem_cons_of_mem _ h)
  have hown : s.vm.findClass RX11 = some m.cls := findClass_of_methodNamed B.named
  have hlocks := B.notSynchronized
  have hz0 : (0 : Int32).toInt = 0 := rfl
  have hS : va_S (qw_A o 41) s.heap s.heap [] := va_S.rf
  have hl := lv_entry ([.ref (o + 0), .int a1, .int a2, .int a3]) (n := 8) (Nat.le_of_ble_eq_true rfl)
  rw [lg_entry_eq]
  generalize (lg_sl ([.ref (o + 0), .int a1, .int a2, .int a3]) ++ List.replicate (8 - (lg_sl ([.ref (o + 0), .int a1, .int a2, .int a3])).length) Slot.unset).toArray = ls at hl ⊢
  have hl : lv_has ls 8 [(0, .ref (o + 0)), (1, .int a1), (2, .int a2), (3, .int a3)] := hl
  refine lv_aload_n hx hb dX11_ageIs_0 rfl (lv_at hl 0 rfl) ?_
  refine lv_iload_n hx hb dX11_ageIs_1 rfl (lv_at hl 1 rfl) ?_
  refine qc_Vi (As := [.int a1]) (rest := []) (k0 := 1) (m1_areRemarks l D ca o z y a1 (h0_6)) kc_yX11_areRemarks ⟨hx, hb, hml, hown, hts⟩ wq_1324 rfl rfl ⟨Nat.le_of_ble_eq_true rfl, Nat.le_of_ble_eq_true rfl⟩ wq_all hP hK hS qw_Ai (q0 := 0) (by decide) (hgM_0 ca o _ _) rfl rfl hl.1 rfl (Nat.le_of_ble_eq_true rfl) dX11_ageIs_2 ⟨Nat.zero_le _, Nat.zero_le _⟩ (fun r1 u1 H locs h1 hP hS _ _ => ?_)
  rcases h1 with ⟨h1r, h1a⟩ | ⟨h1r, h1a⟩
  · subst h1r
    obtain rfl : a1 = 0 := gr_eq (y := 0) h1a
    refine lv_if_eq (tgt := 25) hx hb dX11_ageIs_5 (by decide) (fun q => absurd q (by decide)) (fun _ => ?_)
    refine lv_aload_n hx hb dX11_ageIs_8 rfl (lv_at hl 0 rfl) ?_
    refine lv_iload_n hx hb dX11_ageIs_9 rfl (lv_at hl 2 rfl) ?_
    refine qc_Vi (As := [.int a2]) (rest := []) (k0 := 1) (m1_isPerson l D ca o z y a2 (h0_4)) kc_yX11_isPerson ⟨hx, hb, hml, hown, hts⟩ wq_1194 rfl rfl ⟨Nat.le_of_ble_eq_true rfl, Nat.le_of_ble_eq_true rfl⟩ wq_all hP hK hS qw_Ai (q0 := 0) (by decide) (hgM_0 ca o _ _) rfl rfl hl.1 rfl (Nat.le_of_ble_eq_true rfl) dX11_ageIs_10 ⟨Nat.zero_le _, Nat.zero_le _⟩ (fun r2 u2 H locs h2 hP hS _ _ => ?_)
    subst h2
    refine lv_if_eq (tgt := 25) hx hb dX11_ageIs_13 (by decide) (fun _ => ?_) (fun q => absurd (by decide) q)
    refine lv_iconst (v := (-1)) hx hb dX11_ageIs_25 (by decide) ?_
    exact W.iret (v := (-1)) hx hb hr (fun t ht hW => ⟨⟨(-1), (z, y), rfl, rfl, by rw [ht]; exact hP, va_K.moved hW.alike hK⟩, hS.F ht⟩) hS.2.2 dX11_ageIs_26
  · subst h1r
    refine lv_if_eq (tgt := 25) hx hb dX11_ageIs_5 (by decide) (fun _ => ?_) (fun q => absurd (by decide) q)
    refine lv_iconst (v := (-1)) hx hb dX11_ageIs_25 (by decide) ?_
    exact W.iret (v := (-1)) hx hb hr (fun t ht hW => ⟨⟨(-1), (z, y), rfl, rfl, by rw [ht]; exact hP, va_K.moved hW.alike hK⟩, hS.F ht⟩) hS.2.2 dX11_ageIs_26

set_option maxRecDepth 100000 in
set_option maxHeartbeats 4000000 in
theorem mP_aged (l : Launch) (D : va_G) (ca : Nat → ClassId) (o : Nat) (z : Nat → Nat → Int32) (y : Nat → Nat → Int64) (a1 : Int32) (a2 : Int32) (a3 : Int32) (h0_4 : z 0 4 = 0) (h0_5 : z 0 5 = 0) (h0_6 : z 0 6 = 0) (h0_15 : z 0 15 = 0) (h0_61 : z 0 61 = 0) : qM l yX11_aged cX11_aged 4 (some .int) 3 103 (qPre D vwCl (qT6 ca) o 41 (qG (GM ca o) z y) [.ref (o + 0), .int a1, .int a2, .int a3]) (va_Qi (fun r _ => r = A_aged a1 a2 a3) (qB D vwCl (qT6 ca) o 41 (fun u : qZ => qG (GM ca o) u.1 u.2)) (qw_A o 41)) (qw_A o 41) := by
  refine Met.ofW (cc := cX11_aged) (maxL := 4) (ret := (some .int)) (by decide) rfl ?_
  intro p e s m args below meth c s₁ B hml hv
  obtain ⟨rfl, hP, hK⟩ := hv
  have hx := B.exec
  have hb := B.bytes
  have hr := B.returns
  have hts0 := atoms_spec (ws := Cond.code yX11_aged cX11_aged 4 (some .int) :: qtbl) B.pre
  have hts : ∀ w ∈ qtbl, w.before _ s = true := fun w h => hts0 w (List.mem_cons_of_mem _ h)
  have hown : s.vm.findClass RX11 = some m.cls := findClass_of_methodNamed B.named
  have hlocks := B.notSynchronized
  have hz0 : (0 : Int32).toInt = 0 := rfl
  have hS : va_S (qw_A o 41) s.heap s.heap [] := va_S.rf
  have hl := lv_entry ([.ref (o + 0), .int a1, .int a2, .int a3]) (n := 4) (Nat.le_of_ble_eq_true rfl)
  rw [lg_entry_eq]
  generalize (lg_sl ([.ref (o + 0), .int a1, .int a2, .int a3]) ++ List.replicate (4 - (lg_sl ([.ref (o + 0), .int a1, .int a2, .int a3])).length) Slot.unset).toArray = ls at hl ⊢
  have hl : lv_has ls 4 [(0, .ref (o + 0)), (1, .int a1), (2, .int a2), (3, .int a3)] := hl
  refine lv_aload_n hx hb dX11_aged_0 rfl (lv_at hl 0 rfl) ?_
  refine lv_iload_n hx hb dX11_aged_1 rfl (lv_at hl 1 rfl) ?_
  refine qc_Vi (As := [.int a1]) (rest := []) (k0 := 1) (m1_areRemarks l D ca o z y a1 (h0_6)) kc_yX11_areRemarks ⟨hx, hb, hml, hown, hts⟩ wq_1324 rfl rfl ⟨Nat.le_of_ble_eq_true rfl, Nat.le_of_ble_eq_true rfl⟩ wq_all hP hK hS qw_Ai (q0 := 0) (by decide) (hgM_0 ca o _ _) rfl rfl hl.1 rfl (Nat.le_of_ble_eq_true rfl) dX11_aged_2 ⟨Nat.zero_le _, Nat.zero_le _⟩ (fun r1 u1 H locs h1 hP hS _ _ => ?_)
  rcases h1 with ⟨h1r, h1a⟩ | ⟨h1r, h1a⟩
  · subst h1r
    obtain rfl : a1 = 0 := gr_eq (y := 0) h1a
    refine lv_if_eq (tgt := 26) hx hb dX11_aged_5 (by decide) (fun q => absurd q (by decide)) (fun _ => ?_)
    refine lv_aload_n hx hb dX11_aged_8 rfl (lv_at hl 0 rfl) ?_
    refine lv_iload_n hx hb dX11_aged_9 rfl (lv_at hl 2 rfl) ?_
    refine qc_Vi (As := [.int a2]) (rest := []) (k0 := 1) (m1_isPerson l D ca o z y a2 (h0_4)) kc_yX11_isPerson ⟨hx, hb, hml, hown, hts⟩ wq_1194 rfl rfl ⟨Nat.le_of_ble_eq_true rfl, Nat.le_of_ble_eq_true rfl⟩ wq_all hP hK hS qw_Ai (q0 := 0) (by decide) (hgM_0 ca o _ _) rfl rfl hl.1 rfl (Nat.le_of_ble_eq_true rfl) dX11_aged_10 ⟨Nat.zero_le _, Nat.zero_le _⟩ (fun r2 u2 H locs h2 hP hS _ _ => ?_)
    subst h2
    refine lv_if_eq (tgt := 26) hx hb dX11_aged_13 (by decide) (fun _ => ?_) (fun q => absurd (by decide) q)
    refine lv_iconst (v := (-1)) hx hb dX11_aged_26 (by decide) ?_
    exact W.iret (v := (-1)) hx hb hr (fun t ht hW => ⟨⟨(-1), (z, y), rfl, rfl, by rw [ht]; exact hP, va_K.moved hW.alike hK⟩, hS.F ht⟩) hS.2.2 dX11_aged_27
  · subst h1r
    refine lv_if_eq (tgt := 26) hx hb dX11_aged_5 (by decide) (fun _ => ?_) (fun q => absurd (by decide) q)
    refine lv_iconst (v := (-1)) hx hb dX11_aged_26 (by decide) ?_
    exact W.iret (v := (-1)) hx hb hr (fun t ht hW => ⟨⟨(-1), (z, y), rfl, rfl, by rw [ht]; exact hP, va_K.moved hW.alike hK⟩, hS.F ht⟩) hS.2.2 dX11_aged_27

set_option maxRecDepth 100000 in
set_option maxHeartbeats 4000000 in
theorem mP_follows (l : Launch) (D : va_G) (ca : Nat → ClassId) (o : Nat) (z : Nat → Nat → Int32) (y : Nat → Nat → Int64) (a1 : Int32) (a2 : Int32) (h0_4 : z 0 4 = 0) (h0_5 : z 0 5 = 0) (h0_6 : z 0 6 = 0) (h0_15 : z 0 15 = 0) (h0_61 : z 0 61 = 0) : qM l yX11_follows cX11_follows 7 (some .int) 5 147 (qPre D vwCl (qT6 ca) o 41 (qG (GM ca o) z y) [.ref (o + 0), .int a1, .int a2]) (va_Qi (fun r _ => r = A_follows a1 a2) (qB D vwCl (qT6 ca) o 41 (fun u : qZ => qG (GM ca o) u.1 u.2)) (qw_A o 41)) (qw_A o 41) := by
  refine Met.ofW (cc := cX11_follows) (maxL := 7) (ret := (some .int)) (by decide) rfl ?_
  intro p e s m args below meth c s₁ B hml hv
  obtain ⟨rfl, hP, hK⟩ := hv
  have hx := B.exec
  have hb := B.bytes
  have hr := B.returns
  have hts0 := atoms_spec (ws := Cond.code yX11_follows cX11_follows 7 (some .int) :: qtbl) B.pre
  have hts : ∀ w ∈ qtbl, w.before _ s = true := fun w h => hts0 w (List.mem_cons_of_mem _ h)
  have hown : s.vm.findClass RX11 = some m.cls := findClass_of_methodNamed B.named
  have hlocks := B.notSynchronized
  have hz0 : (0 : Int32).toInt = 0 := rfl
  have hS : va_S (qw_A o 41) s.heap s.heap [] := va_S.rf
  have hl := lv_entry ([.ref (o + 0), .int a1, .int a2]) (n := 7) (Nat.le_of_ble_eq_true rfl)
  rw [lg_entry_eq]
  generalize (lg_sl ([.ref (o + 0), .int a1, .int a2]) ++ List.replicate (7 - (lg_sl ([.ref (o + 0), .int a1, .int a2])).length) Slot.unset).toArray = ls at hl ⊢
  have hl : lv_has ls 7 [(0, .ref (o + 0)), (1, .int a1), (2, .int a2)] := hl
  refine lv_aload_n hx hb dX11_follows_0 rfl (lv_at hl 0 rfl) ?_
  refine lv_iload_n hx hb dX11_follows_1 rfl (lv_at hl 1 rfl) ?_
  refine qc_Vi (As := [.int a1]) (rest := []) (k0 := 1) (m1_areRemarks l D ca o z y a1 (h0_6)) kc_yX11_areRemarks ⟨hx, hb, hml, hown, hts⟩ wq_1324 rfl rfl ⟨Nat.le_of_ble_eq_true rfl, Nat.le_of_ble_eq_true rfl⟩ wq_all hP hK hS qw_Ai (q0 := 0) (by decide) (hgM_0 ca o _ _) rfl rfl hl.1 rfl (Nat.le_of_ble_eq_true rfl) dX11_follows_2 ⟨Nat.zero_le _, Nat.zero_le _⟩ (fun r1 u1 H locs h1 hP hS _ _ => ?_)
  rcases h1 with ⟨h1r, h1a⟩ | ⟨h1r, h1a⟩
  · subst h1r
    obtain rfl : a1 = 0 := gr_eq (y := 0) h1a
    refine lv_if_eq (tgt := 17) hx hb dX11_follows_5 (by decide) (fun q => absurd q (by decide)) (fun _ => ?_)
    refine lv_iload_n hx hb dX11_follows_8 rfl (lv_at hl 2 rfl) ?_
    refine lv_iconst (v := 0) hx hb dX11_follows_9 (by decide) ?_
    refine lv_iconst (v := 1) hx hb dX11_follows_10 (by decide) ?_
    refine qc_Si (As := [.int a2, .int 0, .int 1]) (rest := []) (k0 := 3) (m1_in l D ca o z y a2 0 1) kc_yX11_in ⟨hx, hb, hml, hown, hts⟩ wq_1187 rfl rfl ⟨Nat.le_of_ble_eq_true rfl, Nat.le_of_ble_eq_true rfl⟩ wq_all hP hK hS qw_Ai rfl hl.1 rfl (Nat.le_of_ble_eq_true rfl) dX11_follows_11 ⟨Nat.zero_le _, Nat.zero_le _⟩ (fun r2 u2 H locs h2 hP hS _ _ => ?_)
    rcases h2 with ⟨h2r, h2a, h2b⟩ | ⟨h2r, h2a⟩
    · subst h2r
      have t2a : a2.toInt ≥ (0 : Int) := h2a
      have t2b : a2.toInt ≤ (1 : Int) := h2b
      refine lv_if_ne (tgt := 19) hx hb dX11_follows_14 (by decide) (fun _ => ?_) (fun q => absurd q (by decide))
      refine lv_aload_n hx hb dX11_follows_19 rfl (lv_at hl 0 rfl) ?_
      refine qc_Vi (As := []) (rest := []) (k0 := 0) (m1_rowMany l D ca o z y (h0_4)) kc_yX11_rowMany ⟨hx, hb, hml, hown, hts⟩ wq_1315 rfl rfl ⟨Nat.le_of_ble_eq_true rfl, Nat.le_of_ble_eq_true rfl⟩ wq_all hP hK hS qw_Ai (q0 := 0) (by decide) (hgM_0 ca o _ _) rfl rfl hl.1 rfl (Nat.le_of_ble_eq_true rfl) dX11_follows_20 ⟨Nat.zero_le _, Nat.zero_le _⟩ (fun r3 u3 H locs h3 hP hS _ _ => ?_)
      subst h3
      refine lv_ldcw (v := 200000) hx hb hown (hts _ wq_1319) dX11_follows_23 ?_
      refine lv_icmp_le (tgt := 32) hx hb dX11_follows_26 (by decide) (fun _ => ?_) (fun q => absurd (by decide) q)
      refine lv_aload_n hx hb dX11_follows_32 rfl (lv_at hl 0 rfl) ?_
      refine qc_Vv (As := []) (rest := []) (k0 := 0) (m1_counts l D ca o z y (h0_4) (h0_6)) kc_yX11_counts ⟨hx, hb, hml, hown, hts⟩ wq_1356 rfl rfl ⟨Nat.le_of_ble_eq_true rfl, Nat.le_of_ble_eq_true rfl⟩ wq_all hP hK hS qw_Ai (q0 := 0) (by decide) (hgM_0 ca o _ _) rfl rfl hl.1 rfl (Nat.le_of_ble_eq_true rfl) dX11_follows_33 ⟨Nat.zero_le _, Nat.zero_le _⟩ (fun u4 H locs h4 hP hS _ _ => ?_)
      obtain ⟨z4, y4⟩ := u4
      obtain ⟨h4f, h4y, h4m⟩ := h4
      dsimp only at h4f h4y h4m hP
      rw [h4y] at hP
      have f4_0_4 : z4 0 4 = 0 := (congrFun (h4f 0 (by decide) (by decide)) 4).trans (h0_4)
      have f4_0_5 : z4 0 5 = 0 := (congrFun (h4f 0 (by decide) (by decide)) 5).trans (h0_5)
      have f4_0_6 : z4 0 6 = 0 := (congrFun (h4f 0 (by decide) (by decide)) 6).trans (h0_6)
      have f4_0_15 : z4 0 15 = 0 := (congrFun (h4f 0 (by decide) (by decide)) 15).trans (h0_15)
      have f4_0_61 : z4 0 61 = 0 := (congrFun (h4f 0 (by decide) (by decide)) 61).trans (h0_61)
      refine lv_aload_n hx hb dX11_follows_36 rfl (lv_at hl 0 rfl) ?_
      refine lv_iload_n hx hb dX11_follows_37 rfl (lv_at hl 1 rfl) ?_
      refine qc_Vi (As := [.int 0]) (rest := []) (k0 := 1) (m1_fitting l D ca o z4 y h4m (h4m.1)) kc_yX11_fitting ⟨hx, hb, hml, hown, hts⟩ wq_1360 rfl rfl ⟨Nat.le_of_ble_eq_true rfl, Nat.le_of_ble_eq_true rfl⟩ wq_all hP hK hS qw_Ai (q0 := 0) (by decide) (hgM_0 ca o _ _) rfl rfl hl.1 rfl (Nat.le_of_ble_eq_true rfl) dX11_follows_38 ⟨Nat.zero_le _, Nat.zero_le _⟩ (fun r5 u5 H locs h5 hP hS _ _ => ?_)
      subst h5
      refine lv_istore_n (lv' := [(3, .int 1), (0, .ref (o + 0)), (1, .int 0), (2, .int a2)]) hx hb dX11_follows_41 rfl hl (by decide) rfl (fun ls hl => ?_)
      refine lv_iconst (v := 0) hx hb dX11_follows_42 (by decide) ?_
      refine lv_istore (lv' := [(4, .int 0), (3, .int 1), (0, .ref (o + 0)), (1, .int 0), (2, .int a2)]) hx hb dX11_follows_43 hl (by decide) rfl (fun ls hl => ?_)
      refine lv_iconst (v := 0) hx hb dX11_follows_45 (by decide) ?_
      refine lv_istore (lv' := [(5, .int 0), (4, .int 0), (3, .int 1), (0, .ref (o + 0)), (1, .int 0), (2, .int a2)]) hx hb dX11_follows_46 hl (by decide) rfl (fun ls hl => ?_)
      refine lv_iload hx hb dX11_follows_48 (lv_at hl 0 rfl) ?_
      refine lv_bipush (v := 10) hx hb dX11_follows_50 (by decide) ?_
      refine lv_icmp_ge (tgt := 108) hx hb dX11_follows_52 (by decide) (fun q => absurd q (by decide)) (fun _ => ?_)
      refine lv_aload_n hx hb dX11_follows_55 rfl (lv_at hl 3 rfl) ?_
      refine lv_iload hx hb dX11_follows_56 (lv_at hl 0 rfl) ?_
      refine qc_Vi (As := [.int 0]) (rest := []) (k0 := 1) (m1_isRemark l D ca o z4 y 0 (f4_0_6)) kc_yX11_isRemark ⟨hx, hb, hml, hown, hts⟩ wq_1307 rfl rfl ⟨Nat.le_of_ble_eq_true rfl, Nat.le_of_ble_eq_true rfl⟩ wq_all hP hK hS qw_Ai (q0 := 0) (by decide) (hgM_0 ca o _ _) rfl rfl hl.1 rfl (Nat.le_of_ble_eq_true rfl) dX11_follows_58 ⟨Nat.zero_le _, Nat.zero_le _⟩ (fun r6 u6 H locs h6 hP hS _ _ => ?_)
      subst h6
      refine lv_if_ne (tgt := 67) hx hb dX11_follows_61 (by decide) (fun q => absurd q (by decide)) (fun _ => ?_)
      refine lv_goto (tgt := 102) hx hb dX11_follows_64 (by decide) ?_
      refine lv_iinc (v := 1) (lv' := [(5, .int 1), (4, .int 0), (3, .int 1), (0, .ref (o + 0)), (1, .int 0), (2, .int a2)]) hx hb dX11_follows_102 hl (k := 0) rfl (by decide) (by decide) rfl (fun ls hl => ?_)
      refine lv_goto (tgt := 48) hx hb dX11_follows_105 (by decide) ?_
      refine lv_iload hx hb dX11_follows_48 (lv_at hl 0 rfl) ?_
      refine lv_bipush (v := 10) hx hb dX11_follows_50 (by decide) ?_
      refine lv_icmp_ge (tgt := 108) hx hb dX11_follows_52 (by decide) (fun q => absurd q (by decide)) (fun _ => ?_)
      refine lv_aload_n hx hb dX11_follows_55 rfl (lv_at hl 3 rfl) ?_
      refine lv_iload hx hb dX11_follows_56 (lv_at hl 0 rfl) ?_
      refine qc_Vi (As := [.int 1]) (rest := []) (k0 := 1) (m1_isRemark l D ca o z4 y 1 (f4_0_6)) kc_yX11_isRemark ⟨hx, hb, hml, hown, hts⟩ wq_1307 rfl rfl ⟨Nat.le_of_ble_eq_true rfl, Nat.le_of_ble_eq_true rfl⟩ wq_all hP hK hS qw_Ai (q0 := 0) (by decide) (hgM_0 ca o _ _) rfl rfl hl.1 rfl (Nat.le_of_ble_eq_true rfl) dX11_follows_58 ⟨Nat.zero_le _, Nat.zero_le _⟩ (fun r7 u7 H locs h7 hP hS _ _ => ?_)
      subst h7
      refine lv_if_ne (tgt := 67) hx hb dX11_follows_61 (by decide) (fun q => absurd q (by decide)) (fun _ => ?_)
      refine lv_goto (tgt := 102) hx hb dX11_follows_64 (by decide) ?_
      refine lv_iinc (v := 2) (lv' := [(5, .int 2), (4, .int 0), (3, .int 1), (0, .ref (o + 0)), (1, .int 0), (2, .int a2)]) hx hb dX11_follows_102 hl (k := 0) rfl (by decide) (by decide) rfl (fun ls hl => ?_)
      refine lv_goto (tgt := 48) hx hb dX11_follows_105 (by decide) ?_
      refine lv_iload hx hb dX11_follows_48 (lv_at hl 0 rfl) ?_
      refine lv_bipush (v := 10) hx hb dX11_follows_50 (by decide) ?_
      refine lv_icmp_ge (tgt := 108) hx hb dX11_follows_52 (by decide) (fun q => absurd q (by decide)) (fun _ => ?_)
      refine lv_aload_n hx hb dX11_follows_55 rfl (lv_at hl 3 rfl) ?_
      refine lv_iload hx hb dX11_follows_56 (lv_at hl 0 rfl) ?_
      refine qc_Vi (As := [.int 2]) (rest := []) (k0 := 1) (m1_isRemark l D ca o z4 y 2 (f4_0_6)) kc_yX11_isRemark ⟨hx, hb, hml, hown, hts⟩ wq_1307 rfl rfl ⟨Nat.le_of_ble_eq_true rfl, Nat.le_of_ble_eq_true rfl⟩ wq_all hP hK hS qw_Ai (q0 := 0) (by decide) (hgM_0 ca o _ _) rfl rfl hl.1 rfl (Nat.le_of_ble_eq_true rfl) dX11_follows_58 ⟨Nat.zero_le _, Nat.zero_le _⟩ (fun r8 u8 H locs h8 hP hS _ _ => ?_)
      subst h8
      refine lv_if_ne (tgt := 67) hx hb dX11_follows_61 (by decide) (fun q => absurd q (by decide)) (fun _ => ?_)
      refine lv_goto (tgt := 102) hx hb dX11_follows_64 (by decide) ?_
      refine lv_iinc (v := 3) (lv' := [(5, .int 3), (4, .int 0), (3, .int 1), (0, .ref (o + 0)), (1, .int 0), (2, .int a2)]) hx hb dX11_follows_102 hl (k := 0) rfl (by decide) (by decide) rfl (fun ls hl => ?_)
      refine lv_goto (tgt := 48) hx hb dX11_follows_105 (by decide) ?_
      refine lv_iload hx hb dX11_follows_48 (lv_at hl 0 rfl) ?_
      refine lv_bipush (v := 10) hx hb dX11_follows_50 (by decide) ?_
      refine lv_icmp_ge (tgt := 108) hx hb dX11_follows_52 (by decide) (fun q => absurd q (by decide)) (fun _ => ?_)
      refine lv_aload_n hx hb dX11_follows_55 rfl (lv_at hl 3 rfl) ?_
      refine lv_iload hx hb dX11_follows_56 (lv_at hl 0 rfl) ?_
      refine qc_Vi (As := [.int 3]) (rest := []) (k0 := 1) (m1_isRemark l D ca o z4 y 3 (f4_0_6)) kc_yX11_isRemark ⟨hx, hb, hml, hown, hts⟩ wq_1307 rfl rfl ⟨Nat.le_of_ble_eq_true rfl, Nat.le_of_ble_eq_true rfl⟩ wq_all hP hK hS qw_Ai (q0 := 0) (by decide) (hgM_0 ca o _ _) rfl rfl hl.1 rfl (Nat.le_of_ble_eq_true rfl) dX11_follows_58 ⟨Nat.zero_le _, Nat.zero_le _⟩ (fun r9 u9 H locs h9 hP hS _ _ => ?_)
      subst h9
      refine lv_if_ne (tgt := 67) hx hb dX11_follows_61 (by decide) (fun q => absurd q (by decide)) (fun _ => ?_)
      refine lv_goto (tgt := 102) hx hb dX11_follows_64 (by decide) ?_
      refine lv_iinc (v := 4) (lv' := [(5, .int 4), (4, .int 0), (3, .int 1), (0, .ref (o + 0)), (1, .int 0), (2, .int a2)]) hx hb dX11_follows_102 hl (k := 0) rfl (by decide) (by decide) rfl (fun ls hl => ?_)
      refine lv_goto (tgt := 48) hx hb dX11_follows_105 (by decide) ?_
      refine lv_iload hx hb dX11_follows_48 (lv_at hl 0 rfl) ?_
      refine lv_bipush (v := 10) hx hb dX11_follows_50 (by decide) ?_
      refine lv_icmp_ge (tgt := 108) hx hb dX11_follows_52 (by decide) (fun q => absurd q (by decide)) (fun _ => ?_)
      refine lv_aload_n hx hb dX11_follows_55 rfl (lv_at hl 3 rfl) ?_
      refine lv_iload hx hb dX11_follows_56 (lv_at hl 0 rfl) ?_
      refine qc_Vi (As := [.int 4]) (rest := []) (k0 := 1) (m1_isRemark l D ca o z4 y 4 (f4_0_6)) kc_yX11_isRemark ⟨hx, hb, hml, hown, hts⟩ wq_1307 rfl rfl ⟨Nat.le_of_ble_eq_true rfl, Nat.le_of_ble_eq_true rfl⟩ wq_all hP hK hS qw_Ai (q0 := 0) (by decide) (hgM_0 ca o _ _) rfl rfl hl.1 rfl (Nat.le_of_ble_eq_true rfl) dX11_follows_58 ⟨Nat.zero_le _, Nat.zero_le _⟩ (fun r10 u10 H locs h10 hP hS _ _ => ?_)
      subst h10
      refine lv_if_ne (tgt := 67) hx hb dX11_follows_61 (by decide) (fun q => absurd q (by decide)) (fun _ => ?_)
      refine lv_goto (tgt := 102) hx hb dX11_follows_64 (by decide) ?_
      refine lv_iinc (v := 5) (lv' := [(5, .int 5), (4, .int 0), (3, .int 1), (0, .ref (o + 0)), (1, .int 0), (2, .int a2)]) hx hb dX11_follows_102 hl (k := 0) rfl (by decide) (by decide) rfl (fun ls hl => ?_)
      refine lv_goto (tgt := 48) hx hb dX11_follows_105 (by decide) ?_
      refine lv_iload hx hb dX11_follows_48 (lv_at hl 0 rfl) ?_
      refine lv_bipush (v := 10) hx hb dX11_follows_50 (by decide) ?_
      refine lv_icmp_ge (tgt := 108) hx hb dX11_follows_52 (by decide) (fun q => absurd q (by decide)) (fun _ => ?_)
      refine lv_aload_n hx hb dX11_follows_55 rfl (lv_at hl 3 rfl) ?_
      refine lv_iload hx hb dX11_follows_56 (lv_at hl 0 rfl) ?_
      refine qc_Vi (As := [.int 5]) (rest := []) (k0 := 1) (m1_isRemark l D ca o z4 y 5 (f4_0_6)) kc_yX11_isRemark ⟨hx, hb, hml, hown, hts⟩ wq_1307 rfl rfl ⟨Nat.le_of_ble_eq_true rfl, Nat.le_of_ble_eq_true rfl⟩ wq_all hP hK hS qw_Ai (q0 := 0) (by decide) (hgM_0 ca o _ _) rfl rfl hl.1 rfl (Nat.le_of_ble_eq_true rfl) dX11_follows_58 ⟨Nat.zero_le _, Nat.zero_le _⟩ (fun r11 u11 H locs h11 hP hS _ _ => ?_)
      subst h11
      refine lv_if_ne (tgt := 67) hx hb dX11_follows_61 (by decide) (fun q => absurd q (by decide)) (fun _ => ?_)
      refine lv_goto (tgt := 102) hx hb dX11_follows_64 (by decide) ?_
      refine lv_iinc (v := 6) (lv' := [(5, .int 6), (4, .int 0), (3, .int 1), (0, .ref (o + 0)), (1, .int 0), (2, .int a2)]) hx hb dX11_follows_102 hl (k := 0) rfl (by decide) (by decide) rfl (fun ls hl => ?_)
      refine lv_goto (tgt := 48) hx hb dX11_follows_105 (by decide) ?_
      refine lv_iload hx hb dX11_follows_48 (lv_at hl 0 rfl) ?_
      refine lv_bipush (v := 10) hx hb dX11_follows_50 (by decide) ?_
      refine lv_icmp_ge (tgt := 108) hx hb dX11_follows_52 (by decide) (fun q => absurd q (by decide)) (fun _ => ?_)
      refine lv_aload_n hx hb dX11_follows_55 rfl (lv_at hl 3 rfl) ?_
      refine lv_iload hx hb dX11_follows_56 (lv_at hl 0 rfl) ?_
      refine qc_Vi (As := [.int 6]) (rest := []) (k0 := 1) (m1_isRemark l D ca o z4 y 6 (f4_0_6)) kc_yX11_isRemark ⟨hx, hb, hml, hown, hts⟩ wq_1307 rfl rfl ⟨Nat.le_of_ble_eq_true rfl, Nat.le_of_ble_eq_true rfl⟩ wq_all hP hK hS qw_Ai (q0 := 0) (by decide) (hgM_0 ca o _ _) rfl rfl hl.1 rfl (Nat.le_of_ble_eq_true rfl) dX11_follows_58 ⟨Nat.zero_le _, Nat.zero_le _⟩ (fun r12 u12 H locs h12 hP hS _ _ => ?_)
      subst h12
      refine lv_if_ne (tgt := 67) hx hb dX11_follows_61 (by decide) (fun q => absurd q (by decide)) (fun _ => ?_)
      refine lv_goto (tgt := 102) hx hb dX11_follows_64 (by decide) ?_
      refine lv_iinc (v := 7) (lv' := [(5, .int 7), (4, .int 0), (3, .int 1), (0, .ref (o + 0)), (1, .int 0), (2, .int a2)]) hx hb dX11_follows_102 hl (k := 0) rfl (by decide) (by decide) rfl (fun ls hl => ?_)
      refine lv_goto (tgt := 48) hx hb dX11_follows_105 (by decide) ?_
      refine lv_iload hx hb dX11_follows_48 (lv_at hl 0 rfl) ?_
      refine lv_bipush (v := 10) hx hb dX11_follows_50 (by decide) ?_
      refine lv_icmp_ge (tgt := 108) hx hb dX11_follows_52 (by decide) (fun q => absurd q (by decide)) (fun _ => ?_)
      refine lv_aload_n hx hb dX11_follows_55 rfl (lv_at hl 3 rfl) ?_
      refine lv_iload hx hb dX11_follows_56 (lv_at hl 0 rfl) ?_
      refine qc_Vi (As := [.int 7]) (rest := []) (k0 := 1) (m1_isRemark l D ca o z4 y 7 (f4_0_6)) kc_yX11_isRemark ⟨hx, hb, hml, hown, hts⟩ wq_1307 rfl rfl ⟨Nat.le_of_ble_eq_true rfl, Nat.le_of_ble_eq_true rfl⟩ wq_all hP hK hS qw_Ai (q0 := 0) (by decide) (hgM_0 ca o _ _) rfl rfl hl.1 rfl (Nat.le_of_ble_eq_true rfl) dX11_follows_58 ⟨Nat.zero_le _, Nat.zero_le _⟩ (fun r13 u13 H locs h13 hP hS _ _ => ?_)
      subst h13
      refine lv_if_ne (tgt := 67) hx hb dX11_follows_61 (by decide) (fun q => absurd q (by decide)) (fun _ => ?_)
      refine lv_goto (tgt := 102) hx hb dX11_follows_64 (by decide) ?_
      refine lv_iinc (v := 8) (lv' := [(5, .int 8), (4, .int 0), (3, .int 1), (0, .ref (o + 0)), (1, .int 0), (2, .int a2)]) hx hb dX11_follows_102 hl (k := 0) rfl (by decide) (by decide) rfl (fun ls hl => ?_)
      refine lv_goto (tgt := 48) hx hb dX11_follows_105 (by decide) ?_
      refine lv_iload hx hb dX11_follows_48 (lv_at hl 0 rfl) ?_
      refine lv_bipush (v := 10) hx hb dX11_follows_50 (by decide) ?_
      refine lv_icmp_ge (tgt := 108) hx hb dX11_follows_52 (by decide) (fun q => absurd q (by decide)) (fun _ => ?_)
      refine lv_aload_n hx hb dX11_follows_55 rfl (lv_at hl 3 rfl) ?_
      refine lv_iload hx hb dX11_follows_56 (lv_at hl 0 rfl) ?_
      refine qc_Vi (As := [.int 8]) (rest := []) (k0 := 1) (m1_isRemark l D ca o z4 y 8 (f4_0_6)) kc_yX11_isRemark ⟨hx, hb, hml, hown, hts⟩ wq_1307 rfl rfl ⟨Nat.le_of_ble_eq_true rfl, Nat.le_of_ble_eq_true rfl⟩ wq_all hP hK hS qw_Ai (q0 := 0) (by decide) (hgM_0 ca o _ _) rfl rfl hl.1 rfl (Nat.le_of_ble_eq_true rfl) dX11_follows_58 ⟨Nat.zero_le _, Nat.zero_le _⟩ (fun r14 u14 H locs h14 hP hS _ _ => ?_)
      subst h14
      refine lv_if_ne (tgt := 67) hx hb dX11_follows_61 (by decide) (fun q => absurd q (by decide)) (fun _ => ?_)
      refine lv_goto (tgt := 102) hx hb dX11_follows_64 (by decide) ?_
      refine lv_iinc (v := 9) (lv' := [(5, .int 9), (4, .int 0), (3, .int 1), (0, .ref (o + 0)), (1, .int 0), (2, .int a2)]) hx hb dX11_follows_102 hl (k := 0) rfl (by decide) (by decide) rfl (fun ls hl => ?_)
      refine lv_goto (tgt := 48) hx hb dX11_follows_105 (by decide) ?_
      refine lv_iload hx hb dX11_follows_48 (lv_at hl 0 rfl) ?_
      refine lv_bipush (v := 10) hx hb dX11_follows_50 (by decide) ?_
      refine lv_icmp_ge (tgt := 108) hx hb dX11_follows_52 (by decide) (fun q => absurd q (by decide)) (fun _ => ?_)
      refine lv_aload_n hx hb dX11_follows_55 rfl (lv_at hl 3 rfl) ?_
      refine lv_iload hx hb dX11_follows_56 (lv_at hl 0 rfl) ?_
      refine qc_Vi (As := [.int 9]) (rest := []) (k0 := 1) (m1_isRemark l D ca o z4 y 9 (f4_0_6)) kc_yX11_isRemark ⟨hx, hb, hml, hown, hts⟩ wq_1307 rfl rfl ⟨Nat.le_of_ble_eq_true rfl, Nat.le_of_ble_eq_true rfl⟩ wq_all hP hK hS qw_Ai (q0 := 0) (by decide) (hgM_0 ca o _ _) rfl rfl hl.1 rfl (Nat.le_of_ble_eq_true rfl) dX11_follows_58 ⟨Nat.zero_le _, Nat.zero_le _⟩ (fun r15 u15 H locs h15 hP hS _ _ => ?_)
      subst h15
      refine lv_if_ne (tgt := 67) hx hb dX11_follows_61 (by decide) (fun q => absurd q (by decide)) (fun _ => ?_)
      refine lv_goto (tgt := 102) hx hb dX11_follows_64 (by decide) ?_
      refine lv_iinc (v := 10) (lv' := [(5, .int 10), (4, .int 0), (3, .int 1), (0, .ref (o + 0)), (1, .int 0), (2, .int a2)]) hx hb dX11_follows_102 hl (k := 0) rfl (by decide) (by decide) rfl (fun ls hl => ?_)
      refine lv_goto (tgt := 48) hx hb dX11_follows_105 (by decide) ?_
      refine lv_iload hx hb dX11_follows_48 (lv_at hl 0 rfl) ?_
      refine lv_bipush (v := 10) hx hb dX11_follows_50 (by decide) ?_
      refine lv_icmp_ge (tgt := 108) hx hb dX11_follows_52 (by decide) (fun _ => ?_) (fun q => absurd (by decide) q)
      refine lv_iload hx hb dX11_follows_108 (lv_at hl 1 rfl) ?_
      exact W.iret (v := 0) hx hb hr (fun t ht hW => ⟨⟨0, (z4, y), rfl, (ga_p (by omega)), by rw [ht]; exact hP, va_K.moved hW.alike hK⟩, hS.F ht⟩) hS.2.2 dX11_follows_110
    · subst h2r
      have t2a : a2.toInt < (0 : Int) ∨ (1 : Int) < a2.toInt := h2a
      refine lv_if_ne (tgt := 19) hx hb dX11_follows_14 (by decide) (fun q => absurd q (by decide)) (fun _ => ?_)
      refine lv_iconst (v := (-1)) hx hb dX11_follows_17 (by decide) ?_
      exact W.iret (v := (-1)) hx hb hr (fun t ht hW => ⟨⟨(-1), (z, y), rfl, (ga_n (by omega)), by rw [ht]; exact hP, va_K.moved hW.alike hK⟩, hS.F ht⟩) hS.2.2 dX11_follows_18
  · subst h1r
    refine lv_if_eq (tgt := 17) hx hb dX11_follows_5 (by decide) (fun _ => ?_) (fun q => absurd (by decide) q)
    refine lv_iconst (v := (-1)) hx hb dX11_follows_17 (by decide) ?_
    exact W.iret (v := (-1)) hx hb hr (fun t ht hW => ⟨⟨(-1), (z, y), rfl, (ga_n (by omega)), by rw [ht]; exact hP, va_K.moved hW.alike hK⟩, hS.F ht⟩) hS.2.2 dX11_follows_18

set_option maxRecDepth 100000 in
set_option maxHeartbeats 4000000 in
theorem mP_clash (l : Launch) (D : va_G) (ca : Nat → ClassId) (o : Nat) (z : Nat → Nat → Int32) (y : Nat → Nat → Int64) (a1 : Int32) (a2 : Int32) (h0_4 : z 0 4 = 0) (h0_5 : z 0 5 = 0) (h0_6 : z 0 6 = 0) (h0_15 : z 0 15 = 0) (h0_61 : z 0 61 = 0) : qM l yX11_clash cX11_clash 5 (some .int) 5 147 (qPre D vwCl (qT6 ca) o 41 (qG (GM ca o) z y) [.ref (o + 0), .int a1, .int a2]) (va_Qi (fun r _ => r = A_clash a1 a2) (qB D vwCl (qT6 ca) o 41 (fun u : qZ => qG (GM ca o) u.1 u.2)) (qw_A o 41)) (qw_A o 41) := by
  refine Met.ofW (cc := cX11_clash) (maxL := 5) (ret := (some .int)) (by decide) rfl ?_
  intro p e s m args below meth c s₁ B hml hv
  obtain ⟨rfl, hP, hK⟩ := hv
  have hx := B.exec
  have hb := B.bytes
  have hr := B.returns
  have hts0 := atoms_spec (ws := Cond.code yX11_clash cX11_clash 5 (some .int) :: qtbl) B.pre
  have hts : ∀ w ∈ qtbl, w.before _ s = true := fun w h => hts0 w (List.mem_cons_of_mem _ h)
  have hown : s.vm.findClass RX11 = some m.cls := findClass_of_methodNamed B.named
  have hlocks := B.notSynchronized
  have hz0 : (0 : Int32).toInt = 0 := rfl
  have hS : va_S (qw_A o 41) s.heap s.heap [] := va_S.rf
  have hl := lv_entry ([.ref (o + 0), .int a1, .int a2]) (n := 5) (Nat.le_of_ble_eq_true rfl)
  rw [lg_entry_eq]
  generalize (lg_sl ([.ref (o + 0), .int a1, .int a2]) ++ List.replicate (5 - (lg_sl ([.ref (o + 0), .int a1, .int a2])).length) Slot.unset).toArray = ls at hl ⊢
  have hl : lv_has ls 5 [(0, .ref (o + 0)), (1, .int a1), (2, .int a2)] := hl
  refine lv_aload_n hx hb dX11_clash_0 rfl (lv_at hl 0 rfl) ?_
  refine lv_iload_n hx hb dX11_clash_1 rfl (lv_at hl 1 rfl) ?_
  refine qc_Vi (As := [.int a1]) (rest := []) (k0 := 1) (m1_areRemarks l D ca o z y a1 (h0_6)) kc_yX11_areRemarks ⟨hx, hb, hml, hown, hts⟩ wq_1324 rfl rfl ⟨Nat.le_of_ble_eq_true rfl, Nat.le_of_ble_eq_true rfl⟩ wq_all hP hK hS qw_Ai (q0 := 0) (by decide) (hgM_0 ca o _ _) rfl rfl hl.1 rfl (Nat.le_of_ble_eq_true rfl) dX11_clash_2 ⟨Nat.zero_le _, Nat.zero_le _⟩ (fun r1 u1 H locs h1 hP hS _ _ => ?_)
  rcases h1 with ⟨h1r, h1a⟩ | ⟨h1r, h1a⟩
  · subst h1r
    obtain rfl : a1 = 0 := gr_eq (y := 0) h1a
    refine lv_if_eq (tgt := 17) hx hb dX11_clash_5 (by decide) (fun q => absurd q (by decide)) (fun _ => ?_)
    refine lv_iload_n hx hb dX11_clash_8 rfl (lv_at hl 2 rfl) ?_
    refine lv_iconst (v := 0) hx hb dX11_clash_9 (by decide) ?_
    refine lv_iconst (v := 1) hx hb dX11_clash_10 (by decide) ?_
    refine qc_Si (As := [.int a2, .int 0, .int 1]) (rest := []) (k0 := 3) (m1_in l D ca o z y a2 0 1) kc_yX11_in ⟨hx, hb, hml, hown, hts⟩ wq_1187 rfl rfl ⟨Nat.le_of_ble_eq_true rfl, Nat.le_of_ble_eq_true rfl⟩ wq_all hP hK hS qw_Ai rfl hl.1 rfl (Nat.le_of_ble_eq_true rfl) dX11_clash_11 ⟨Nat.zero_le _, Nat.zero_le _⟩ (fun r2 u2 H locs h2 hP hS _ _ => ?_)
    rcases h2 with ⟨h2r, h2a, h2b⟩ | ⟨h2r, h2a⟩
    · subst h2r
      have t2a : a2.toInt ≥ (0 : Int) := h2a
      have t2b : a2.toInt ≤ (1 : Int) := h2b
      refine lv_if_ne (tgt := 19) hx hb dX11_clash_14 (by decide) (fun _ => ?_) (fun q => absurd q (by decide))
      refine lv_aload_n hx hb dX11_clash_19 rfl (lv_at hl 0 rfl) ?_
      refine qc_Vi (As := []) (rest := []) (k0 := 0) (m1_rowMany l D ca o z y (h0_4)) kc_yX11_rowMany ⟨hx, hb, hml, hown, hts⟩ wq_1315 rfl rfl ⟨Nat.le_of_ble_eq_true rfl, Nat.le_of_ble_eq_true rfl⟩ wq_all hP hK hS qw_Ai (q0 := 0) (by decide) (hgM_0 ca o _ _) rfl rfl hl.1 rfl (Nat.le_of_ble_eq_true rfl) dX11_clash_20 ⟨Nat.zero_le _, Nat.zero_le _⟩ (fun r3 u3 H locs h3 hP hS _ _ => ?_)
      subst h3
      refine lv_ldcw (v := 200000) hx hb hown (hts _ wq_1319) dX11_clash_23 ?_
      refine lv_icmp_le (tgt := 32) hx hb dX11_clash_26 (by decide) (fun _ => ?_) (fun q => absurd (by decide) q)
      refine lv_aload_n hx hb dX11_clash_32 rfl (lv_at hl 0 rfl) ?_
      refine qc_Vv (As := []) (rest := []) (k0 := 0) (m1_counts l D ca o z y (h0_4) (h0_6)) kc_yX11_counts ⟨hx, hb, hml, hown, hts⟩ wq_1356 rfl rfl ⟨Nat.le_of_ble_eq_true rfl, Nat.le_of_ble_eq_true rfl⟩ wq_all hP hK hS qw_Ai (q0 := 0) (by decide) (hgM_0 ca o _ _) rfl rfl hl.1 rfl (Nat.le_of_ble_eq_true rfl) dX11_clash_33 ⟨Nat.zero_le _, Nat.zero_le _⟩ (fun u4 H locs h4 hP hS _ _ => ?_)
      obtain ⟨z4, y4⟩ := u4
      obtain ⟨h4f, h4y, h4m⟩ := h4
      dsimp only at h4f h4y h4m hP
      rw [h4y] at hP
      have f4_0_4 : z4 0 4 = 0 := (congrFun (h4f 0 (by decide) (by decide)) 4).trans (h0_4)
      have f4_0_5 : z4 0 5 = 0 := (congrFun (h4f 0 (by decide) (by decide)) 5).trans (h0_5)
      have f4_0_6 : z4 0 6 = 0 := (congrFun (h4f 0 (by decide) (by decide)) 6).trans (h0_6)
      have f4_0_15 : z4 0 15 = 0 := (congrFun (h4f 0 (by decide) (by decide)) 15).trans (h0_15)
      have f4_0_61 : z4 0 61 = 0 := (congrFun (h4f 0 (by decide) (by decide)) 61).trans (h0_61)
      refine lv_bipush (v := (-2)) hx hb dX11_clash_36 (by decide) ?_
      refine lv_istore_n (lv' := [(3, .int ((-2))), (0, .ref (o + 0)), (1, .int 0), (2, .int a2)]) hx hb dX11_clash_38 rfl hl (by decide) rfl (fun ls hl => ?_)
      refine lv_iconst (v := 0) hx hb dX11_clash_39 (by decide) ?_
      refine lv_istore (lv' := [(4, .int 0), (3, .int ((-2))), (0, .ref (o + 0)), (1, .int 0), (2, .int a2)]) hx hb dX11_clash_40 hl (by decide) rfl (fun ls hl => ?_)
      refine lv_iload hx hb dX11_clash_42 (lv_at hl 0 rfl) ?_
      refine lv_sipush (v := 1024) hx hb dX11_clash_44 (by decide) ?_
      refine lv_icmp_ge (tgt := 98) hx hb dX11_clash_47 (by decide) (fun q => absurd q (by decide)) (fun _ => ?_)
      refine lv_iload hx hb dX11_clash_50 (lv_at hl 0 rfl) ?_
      refine lv_iload_n hx hb dX11_clash_52 rfl (lv_at hl 3 rfl) ?_
      refine lv_iconst (v := (-1)) hx hb dX11_clash_53 (by decide) ?_
      refine lv_ixor hx hb dX11_clash_54 ?_
      refine qtop (x' := (-1)) (by decide) ?_
      refine lv_iand hx hb dX11_clash_55 ?_
      refine qtop (x' := 0) (by decide) ?_
      refine lv_if_ne (tgt := 92) hx hb dX11_clash_56 (by decide) (fun q => absurd q (by decide)) (fun _ => ?_)
      refine lv_iload_n hx hb dX11_clash_59 rfl (lv_at hl 1 rfl) ?_
      refine lv_bipush (v := (-2)) hx hb dX11_clash_60 (by decide) ?_
      refine lv_icmp_eq (tgt := 80) hx hb dX11_clash_62 (by decide) (fun _ => ?_) (fun q => absurd (by decide) q)
      refine lv_aload_n hx hb dX11_clash_80 rfl (lv_at hl 2 rfl) ?_
      refine lv_iload hx hb dX11_clash_81 (lv_at hl 0 rfl) ?_
      refine qc_Vi (As := [.int 0]) (rest := []) (k0 := 1) (m1_fitting l D ca o z4 y h4m (h4m.1)) kc_yX11_fitting ⟨hx, hb, hml, hown, hts⟩ wq_1360 rfl rfl ⟨Nat.le_of_ble_eq_true rfl, Nat.le_of_ble_eq_true rfl⟩ wq_all hP hK hS qw_Ai (q0 := 0) (by decide) (hgM_0 ca o _ _) rfl rfl hl.1 rfl (Nat.le_of_ble_eq_true rfl) dX11_clash_83 ⟨Nat.zero_le _, Nat.zero_le _⟩ (fun r5 u5 H locs h5 hP hS _ _ => ?_)
      subst h5
      refine lv_if_ne (tgt := 92) hx hb dX11_clash_86 (by decide) (fun _ => ?_) (fun q => absurd q (by decide))
      refine lv_iinc (v := 1) (lv' := [(4, .int 1), (3, .int ((-2))), (0, .ref (o + 0)), (1, .int 0), (2, .int a2)]) hx hb dX11_clash_92 hl (k := 0) rfl (by decide) (by decide) rfl (fun ls hl => ?_)
      refine lv_goto (tgt := 42) hx hb dX11_clash_95 (by decide) ?_
      have loop6 : ∀ (n i6 : Nat) (x6 : Int32), 1024 < i6 + n → i6 ≤ 1024 → 1 ≤ i6 → x6.toInt = (i6 : Int) → ∀ (H : Heap) (locs : List Loc), qw_P D vwCl o 41 (qG (GM ca o) z4 y) H → va_S (qw_A o 41) s.heap H locs → ∀ (ls : Array Slot), lv_has ls 5 [(4, .int x6), (3, .int ((-2))), (0, .ref (o + 0)), (1, .int 0), (2, .int a2)] → W p l e (headSpec (Cond.code yX11_clash cX11_clash 5 (some .int) :: qtbl) ({ frames := 5, cells := 0, slots := 0, locals := 147 })).room s m (([.ref (o + 0), .int 0, .int a2] : List Value).toArray) below meth c H locs 0 0 (MQ below (va_Qi (fun r _ => r = A_clash 0 a2) (qB D vwCl (qT6 ca) o 41 (fun u : qZ => qG (GM ca o) u.1 u.2)) (qw_A o 41)) (([.ref (o + 0), .int 0, .int a2] : List Value).toArray) s 0 0 (qw_A o 41)) (F0 m 42 ls []) := by
        intro n
        induction n with
        | zero => intro i6 x6 hb6 hi6; exact absurd hb6 (by omega)
        | succ n ih =>
          intro i6 x6 hb6 hi6 ho6 hx6 H locs hP hS ls hl
          refine lv_iload hx hb dX11_clash_42 (lv_at hl 0 rfl) ?_
          refine lv_sipush (v := 1024) hx hb dX11_clash_44 (by decide) ?_
          refine lv_icmp_ge (tgt := 98) hx hb dX11_clash_47 (by decide) (fun c7 => ?_) (fun c7 => ?_)
          · have t7 : x6.toInt ≥ (1024 : Int) := gl_le c7
            refine lv_iload_n hx hb dX11_clash_98 rfl (lv_at hl 4 rfl) ?_
            refine lv_iconst (v := 1) hx hb dX11_clash_99 (by decide) ?_
            refine lv_icmp_eq (tgt := 109) hx hb dX11_clash_100 (by decide) (fun c8 => ?_) (fun c8 => ?_)
            · have t8 : a2.toInt = (1 : Int) := gl_eq c8
              refine lv_iload_n hx hb dX11_clash_109 rfl (lv_at hl 1 rfl) ?_
              refine lv_goto (tgt := 117) hx hb dX11_clash_110 (by decide) ?_
              exact W.iret (v := (-2)) hx hb hr (fun t ht hW => ⟨⟨(-2), (z4, y), rfl, (ga_p (by omega)), by rw [ht]; exact hP, va_K.moved hW.alike hK⟩, hS.F ht⟩) hS.2.2 dX11_clash_117
            · have t8 : a2.toInt ≠ (1 : Int) := gl_ne c8
              refine lv_iload_n hx hb dX11_clash_103 rfl (lv_at hl 1 rfl) ?_
              refine lv_bipush (v := (-2)) hx hb dX11_clash_104 (by decide) ?_
              refine lv_icmp_ne (tgt := 113) hx hb dX11_clash_106 (by decide) (fun q => absurd q (by decide)) (fun _ => ?_)
              refine lv_iload_n hx hb dX11_clash_109 rfl (lv_at hl 1 rfl) ?_
              refine lv_goto (tgt := 117) hx hb dX11_clash_110 (by decide) ?_
              exact W.iret (v := (-2)) hx hb hr (fun t ht hW => ⟨⟨(-2), (z4, y), rfl, (ga_p (by omega)), by rw [ht]; exact hP, va_K.moved hW.alike hK⟩, hS.F ht⟩) hS.2.2 dX11_clash_117
          · have t7 : x6.toInt < (1024 : Int) := gl_nle c7
            refine lv_iload hx hb dX11_clash_50 (lv_at hl 0 rfl) ?_
            refine lv_iload_n hx hb dX11_clash_52 rfl (lv_at hl 3 rfl) ?_
            refine lv_iconst (v := (-1)) hx hb dX11_clash_53 (by decide) ?_
            refine lv_ixor hx hb dX11_clash_54 ?_
            refine qtop (x' := (-1)) (by decide) ?_
            refine lv_iand hx hb dX11_clash_55 ?_
            refine qtop (gi_m1 _) ?_
            refine lv_if_ne (tgt := 92) hx hb dX11_clash_56 (by decide) (fun _ => ?_) (fun q => absurd q (gr_ne (show x6.toInt ≠ (0 : Int) from by omega)))
            obtain ⟨x9, e9⟩ : ∃ t : Int32, t = x6 + 1 := ⟨_, rfl⟩
            refine lv_iinc (v := x9) (lv' := [(4, .int x9), (3, .int ((-2))), (0, .ref (o + 0)), (1, .int 0), (2, .int a2)]) hx hb dX11_clash_92 hl (k := 0) rfl (by rw [e9]; rfl) (by decide) rfl (fun ls hl => ?_)
            refine lv_goto (tgt := 42) hx hb dX11_clash_95 (by decide) ?_
            exact ih (i6 + 1) x9 (by omega) (by omega) (by omega) (by rw [e9]; rw [gi_add (by rw [hx6]; show _ ≤ _ + (1 : Int); omega) (by rw [hx6]; show _ + (1 : Int) ≤ _; omega), hx6]; rfl) _ _ hP hS _ (lv_sub hl [0, 1, 2, 3, 4] rfl)
      exact loop6 1025 1 1 (by omega) (by omega) (by omega) rfl _ _ hP hS _ (lv_sub hl [0, 1, 2, 3, 4] rfl)
    · subst h2r
      have t2a : a2.toInt < (0 : Int) ∨ (1 : Int) < a2.toInt := h2a
      refine lv_if_ne (tgt := 19) hx hb dX11_clash_14 (by decide) (fun q => absurd q (by decide)) (fun _ => ?_)
      refine lv_iconst (v := (-1)) hx hb dX11_clash_17 (by decide) ?_
      exact W.iret (v := (-1)) hx hb hr (fun t ht hW => ⟨⟨(-1), (z, y), rfl, (ga_n (by omega)), by rw [ht]; exact hP, va_K.moved hW.alike hK⟩, hS.F ht⟩) hS.2.2 dX11_clash_18
  · subst h1r
    refine lv_if_eq (tgt := 17) hx hb dX11_clash_5 (by decide) (fun _ => ?_) (fun q => absurd (by decide) q)
    refine lv_iconst (v := (-1)) hx hb dX11_clash_17 (by decide) ?_
    exact W.iret (v := (-1)) hx hb hr (fun t ht hW => ⟨⟨(-1), (z, y), rfl, (ga_n (by omega)), by rw [ht]; exact hP, va_K.moved hW.alike hK⟩, hS.F ht⟩) hS.2.2 dX11_clash_18

set_option maxRecDepth 100000 in
set_option maxHeartbeats 4000000 in
theorem mP_needless (l : Launch) (D : va_G) (ca : Nat → ClassId) (o : Nat) (z : Nat → Nat → Int32) (y : Nat → Nat → Int64) (a1 : Int32) (h0_4 : z 0 4 = 0) (h0_5 : z 0 5 = 0) (h0_6 : z 0 6 = 0) (h0_15 : z 0 15 = 0) (h0_61 : z 0 61 = 0) : qM l yX11_needless cX11_needless 5 (some .int) 5 147 (qPre D vwCl (qT6 ca) o 41 (qG (GM ca o) z y) [.ref (o + 0), .int a1]) (va_Qi (fun r _ => r = A_needless a1) (qB D vwCl (qT6 ca) o 41 (fun u : qZ => qG (GM ca o) u.1 u.2)) (qw_A o 41)) (qw_A o 41) := by
  refine Met.ofW (cc := cX11_needless) (maxL := 5) (ret := (some .int)) (by decide) rfl ?_
  intro p e s m args below meth c s₁ B hml hv
  obtain ⟨rfl, hP, hK⟩ := hv
  have hx := B.exec
  have hb := B.bytes
  have hr := B.returns
  have hts0 := atoms_spec (ws := Cond.code yX11_needless cX11_needless 5 (some .int) :: qtbl) B.pre
  have hts : ∀ w ∈ qtbl, w.before _ s = true := fun w h => hts0 w (List.mem_cons_of_mem _ h)
  have hown : s.vm.findClass RX11 = some m.cls := findClass_of_methodNamed B.named
  have hlocks := B.notSynchronized
  have hz0 : (0 : Int32).toInt = 0 := rfl
  have hS : va_S (qw_A o 41) s.heap s.heap [] := va_S.rf
  have hl := lv_entry ([.ref (o + 0), .int a1]) (n := 5) (Nat.le_of_ble_eq_true rfl)
  rw [lg_entry_eq]
  generalize (lg_sl ([.ref (o + 0), .int a1]) ++ List.replicate (5 - (lg_sl ([.ref (o + 0), .int a1])).length) Slot.unset).toArray = ls at hl ⊢
  have hl : lv_has ls 5 [(0, .ref (o + 0)), (1, .int a1)] := hl
  refine lv_aload_n hx hb dX11_needless_0 rfl (lv_at hl 0 rfl) ?_
  refine lv_iload_n hx hb dX11_needless_1 rfl (lv_at hl 1 rfl) ?_
  refine qc_Vi (As := [.int a1]) (rest := []) (k0 := 1) (m1_areRemarks l D ca o z y a1 (h0_6)) kc_yX11_areRemarks ⟨hx, hb, hml, hown, hts⟩ wq_1324 rfl rfl ⟨Nat.le_of_ble_eq_true rfl, Nat.le_of_ble_eq_true rfl⟩ wq_all hP hK hS qw_Ai (q0 := 0) (by decide) (hgM_0 ca o _ _) rfl rfl hl.1 rfl (Nat.le_of_ble_eq_true rfl) dX11_needless_2 ⟨Nat.zero_le _, Nat.zero_le _⟩ (fun r1 u1 H locs h1 hP hS _ _ => ?_)
  rcases h1 with ⟨h1r, h1a⟩ | ⟨h1r, h1a⟩
  · subst h1r
    obtain rfl : a1 = 0 := gr_eq (y := 0) h1a
    refine lv_if_ne (tgt := 10) hx hb dX11_needless_5 (by decide) (fun _ => ?_) (fun q => absurd q (by decide))
    refine lv_aload_n hx hb dX11_needless_10 rfl (lv_at hl 0 rfl) ?_
    refine qc_Vi (As := []) (rest := []) (k0 := 0) (m1_rowMany l D ca o z y (h0_4)) kc_yX11_rowMany ⟨hx, hb, hml, hown, hts⟩ wq_1315 rfl rfl ⟨Nat.le_of_ble_eq_true rfl, Nat.le_of_ble_eq_true rfl⟩ wq_all hP hK hS qw_Ai (q0 := 0) (by decide) (hgM_0 ca o _ _) rfl rfl hl.1 rfl (Nat.le_of_ble_eq_true rfl) dX11_needless_11 ⟨Nat.zero_le _, Nat.zero_le _⟩ (fun r2 u2 H locs h2 hP hS _ _ => ?_)
    subst h2
    refine lv_ldcw (v := 200000) hx hb hown (hts _ wq_1319) dX11_needless_14 ?_
    refine lv_icmp_le (tgt := 23) hx hb dX11_needless_17 (by decide) (fun _ => ?_) (fun q => absurd (by decide) q)
    refine lv_aload_n hx hb dX11_needless_23 rfl (lv_at hl 0 rfl) ?_
    refine qc_Vv (As := []) (rest := []) (k0 := 0) (m1_counts l D ca o z y (h0_4) (h0_6)) kc_yX11_counts ⟨hx, hb, hml, hown, hts⟩ wq_1356 rfl rfl ⟨Nat.le_of_ble_eq_true rfl, Nat.le_of_ble_eq_true rfl⟩ wq_all hP hK hS qw_Ai (q0 := 0) (by decide) (hgM_0 ca o _ _) rfl rfl hl.1 rfl (Nat.le_of_ble_eq_true rfl) dX11_needless_24 ⟨Nat.zero_le _, Nat.zero_le _⟩ (fun u3 H locs h3 hP hS _ _ => ?_)
    obtain ⟨z3, y3⟩ := u3
    obtain ⟨h3f, h3y, h3m⟩ := h3
    dsimp only at h3f h3y h3m hP
    rw [h3y] at hP
    have f3_0_4 : z3 0 4 = 0 := (congrFun (h3f 0 (by decide) (by decide)) 4).trans (h0_4)
    have f3_0_5 : z3 0 5 = 0 := (congrFun (h3f 0 (by decide) (by decide)) 5).trans (h0_5)
    have f3_0_6 : z3 0 6 = 0 := (congrFun (h3f 0 (by decide) (by decide)) 6).trans (h0_6)
    have f3_0_15 : z3 0 15 = 0 := (congrFun (h3f 0 (by decide) (by decide)) 15).trans (h0_15)
    have f3_0_61 : z3 0 61 = 0 := (congrFun (h3f 0 (by decide) (by decide)) 61).trans (h0_61)
    refine lv_aload_n hx hb dX11_needless_27 rfl (lv_at hl 0 rfl) ?_
    refine lv_iload_n hx hb dX11_needless_28 rfl (lv_at hl 1 rfl) ?_
    refine qc_Vi (As := [.int 0]) (rest := []) (k0 := 1) (m1_fitting l D ca o z3 y h3m (h3m.1)) kc_yX11_fitting ⟨hx, hb, hml, hown, hts⟩ wq_1360 rfl rfl ⟨Nat.le_of_ble_eq_true rfl, Nat.le_of_ble_eq_true rfl⟩ wq_all hP hK hS qw_Ai (q0 := 0) (by decide) (hgM_0 ca o _ _) rfl rfl hl.1 rfl (Nat.le_of_ble_eq_true rfl) dX11_needless_29 ⟨Nat.zero_le _, Nat.zero_le _⟩ (fun r4 u4 H locs h4 hP hS _ _ => ?_)
    subst h4
    refine lv_istore_n (lv' := [(2, .int 1), (0, .ref (o + 0)), (1, .int 0)]) hx hb dX11_needless_32 rfl hl (by decide) rfl (fun ls hl => ?_)
    refine lv_iconst (v := 0) hx hb dX11_needless_33 (by decide) ?_
    refine lv_istore_n (lv' := [(3, .int 0), (2, .int 1), (0, .ref (o + 0)), (1, .int 0)]) hx hb dX11_needless_34 rfl hl (by decide) rfl (fun ls hl => ?_)
    refine lv_iconst (v := 0) hx hb dX11_needless_35 (by decide) ?_
    refine lv_istore (lv' := [(4, .int 0), (3, .int 0), (2, .int 1), (0, .ref (o + 0)), (1, .int 0)]) hx hb dX11_needless_36 hl (by decide) rfl (fun ls hl => ?_)
    refine lv_iload hx hb dX11_needless_38 (lv_at hl 0 rfl) ?_
    refine lv_bipush (v := 10) hx hb dX11_needless_40 (by decide) ?_
    refine lv_icmp_ge (tgt := 83) hx hb dX11_needless_42 (by decide) (fun q => absurd q (by decide)) (fun _ => ?_)
    refine lv_iload_n hx hb dX11_needless_45 rfl (lv_at hl 4 rfl) ?_
    refine lv_iload hx hb dX11_needless_46 (lv_at hl 0 rfl) ?_
    refine qc_Si (As := [.int 0, .int 0]) (rest := []) (k0 := 2) (m1_has0 l D ca o z3 y 0) kc_yX11_has ⟨hx, hb, hml, hown, hts⟩ wq_1198 rfl rfl ⟨Nat.le_of_ble_eq_true rfl, Nat.le_of_ble_eq_true rfl⟩ wq_all hP hK hS qw_Ai rfl hl.1 rfl (Nat.le_of_ble_eq_true rfl) dX11_needless_48 ⟨Nat.zero_le _, Nat.zero_le _⟩ (fun r5 u5 H locs h5 hP hS _ _ => ?_)
    subst h5
    refine lv_if_eq (tgt := 77) hx hb dX11_needless_51 (by decide) (fun _ => ?_) (fun q => absurd (by decide) q)
    refine lv_iinc (v := 1) (lv' := [(4, .int 1), (3, .int 0), (2, .int 1), (0, .ref (o + 0)), (1, .int 0)]) hx hb dX11_needless_77 hl (k := 0) rfl (by decide) (by decide) rfl (fun ls hl => ?_)
    refine lv_goto (tgt := 38) hx hb dX11_needless_80 (by decide) ?_
    refine lv_iload hx hb dX11_needless_38 (lv_at hl 0 rfl) ?_
    refine lv_bipush (v := 10) hx hb dX11_needless_40 (by decide) ?_
    refine lv_icmp_ge (tgt := 83) hx hb dX11_needless_42 (by decide) (fun q => absurd q (by decide)) (fun _ => ?_)
    refine lv_iload_n hx hb dX11_needless_45 rfl (lv_at hl 4 rfl) ?_
    refine lv_iload hx hb dX11_needless_46 (lv_at hl 0 rfl) ?_
    refine qc_Si (As := [.int 0, .int 1]) (rest := []) (k0 := 2) (m1_has0 l D ca o z3 y 1) kc_yX11_has ⟨hx, hb, hml, hown, hts⟩ wq_1198 rfl rfl ⟨Nat.le_of_ble_eq_true rfl, Nat.le_of_ble_eq_true rfl⟩ wq_all hP hK hS qw_Ai rfl hl.1 rfl (Nat.le_of_ble_eq_true rfl) dX11_needless_48 ⟨Nat.zero_le _, Nat.zero_le _⟩ (fun r6 u6 H locs h6 hP hS _ _ => ?_)
    subst h6
    refine lv_if_eq (tgt := 77) hx hb dX11_needless_51 (by decide) (fun _ => ?_) (fun q => absurd (by decide) q)
    refine lv_iinc (v := 2) (lv' := [(4, .int 2), (3, .int 0), (2, .int 1), (0, .ref (o + 0)), (1, .int 0)]) hx hb dX11_needless_77 hl (k := 0) rfl (by decide) (by decide) rfl (fun ls hl => ?_)
    refine lv_goto (tgt := 38) hx hb dX11_needless_80 (by decide) ?_
    refine lv_iload hx hb dX11_needless_38 (lv_at hl 0 rfl) ?_
    refine lv_bipush (v := 10) hx hb dX11_needless_40 (by decide) ?_
    refine lv_icmp_ge (tgt := 83) hx hb dX11_needless_42 (by decide) (fun q => absurd q (by decide)) (fun _ => ?_)
    refine lv_iload_n hx hb dX11_needless_45 rfl (lv_at hl 4 rfl) ?_
    refine lv_iload hx hb dX11_needless_46 (lv_at hl 0 rfl) ?_
    refine qc_Si (As := [.int 0, .int 2]) (rest := []) (k0 := 2) (m1_has0 l D ca o z3 y 2) kc_yX11_has ⟨hx, hb, hml, hown, hts⟩ wq_1198 rfl rfl ⟨Nat.le_of_ble_eq_true rfl, Nat.le_of_ble_eq_true rfl⟩ wq_all hP hK hS qw_Ai rfl hl.1 rfl (Nat.le_of_ble_eq_true rfl) dX11_needless_48 ⟨Nat.zero_le _, Nat.zero_le _⟩ (fun r7 u7 H locs h7 hP hS _ _ => ?_)
    subst h7
    refine lv_if_eq (tgt := 77) hx hb dX11_needless_51 (by decide) (fun _ => ?_) (fun q => absurd (by decide) q)
    refine lv_iinc (v := 3) (lv' := [(4, .int 3), (3, .int 0), (2, .int 1), (0, .ref (o + 0)), (1, .int 0)]) hx hb dX11_needless_77 hl (k := 0) rfl (by decide) (by decide) rfl (fun ls hl => ?_)
    refine lv_goto (tgt := 38) hx hb dX11_needless_80 (by decide) ?_
    refine lv_iload hx hb dX11_needless_38 (lv_at hl 0 rfl) ?_
    refine lv_bipush (v := 10) hx hb dX11_needless_40 (by decide) ?_
    refine lv_icmp_ge (tgt := 83) hx hb dX11_needless_42 (by decide) (fun q => absurd q (by decide)) (fun _ => ?_)
    refine lv_iload_n hx hb dX11_needless_45 rfl (lv_at hl 4 rfl) ?_
    refine lv_iload hx hb dX11_needless_46 (lv_at hl 0 rfl) ?_
    refine qc_Si (As := [.int 0, .int 3]) (rest := []) (k0 := 2) (m1_has0 l D ca o z3 y 3) kc_yX11_has ⟨hx, hb, hml, hown, hts⟩ wq_1198 rfl rfl ⟨Nat.le_of_ble_eq_true rfl, Nat.le_of_ble_eq_true rfl⟩ wq_all hP hK hS qw_Ai rfl hl.1 rfl (Nat.le_of_ble_eq_true rfl) dX11_needless_48 ⟨Nat.zero_le _, Nat.zero_le _⟩ (fun r8 u8 H locs h8 hP hS _ _ => ?_)
    subst h8
    refine lv_if_eq (tgt := 77) hx hb dX11_needless_51 (by decide) (fun _ => ?_) (fun q => absurd (by decide) q)
    refine lv_iinc (v := 4) (lv' := [(4, .int 4), (3, .int 0), (2, .int 1), (0, .ref (o + 0)), (1, .int 0)]) hx hb dX11_needless_77 hl (k := 0) rfl (by decide) (by decide) rfl (fun ls hl => ?_)
    refine lv_goto (tgt := 38) hx hb dX11_needless_80 (by decide) ?_
    refine lv_iload hx hb dX11_needless_38 (lv_at hl 0 rfl) ?_
    refine lv_bipush (v := 10) hx hb dX11_needless_40 (by decide) ?_
    refine lv_icmp_ge (tgt := 83) hx hb dX11_needless_42 (by decide) (fun q => absurd q (by decide)) (fun _ => ?_)
    refine lv_iload_n hx hb dX11_needless_45 rfl (lv_at hl 4 rfl) ?_
    refine lv_iload hx hb dX11_needless_46 (lv_at hl 0 rfl) ?_
    refine qc_Si (As := [.int 0, .int 4]) (rest := []) (k0 := 2) (m1_has0 l D ca o z3 y 4) kc_yX11_has ⟨hx, hb, hml, hown, hts⟩ wq_1198 rfl rfl ⟨Nat.le_of_ble_eq_true rfl, Nat.le_of_ble_eq_true rfl⟩ wq_all hP hK hS qw_Ai rfl hl.1 rfl (Nat.le_of_ble_eq_true rfl) dX11_needless_48 ⟨Nat.zero_le _, Nat.zero_le _⟩ (fun r9 u9 H locs h9 hP hS _ _ => ?_)
    subst h9
    refine lv_if_eq (tgt := 77) hx hb dX11_needless_51 (by decide) (fun _ => ?_) (fun q => absurd (by decide) q)
    refine lv_iinc (v := 5) (lv' := [(4, .int 5), (3, .int 0), (2, .int 1), (0, .ref (o + 0)), (1, .int 0)]) hx hb dX11_needless_77 hl (k := 0) rfl (by decide) (by decide) rfl (fun ls hl => ?_)
    refine lv_goto (tgt := 38) hx hb dX11_needless_80 (by decide) ?_
    refine lv_iload hx hb dX11_needless_38 (lv_at hl 0 rfl) ?_
    refine lv_bipush (v := 10) hx hb dX11_needless_40 (by decide) ?_
    refine lv_icmp_ge (tgt := 83) hx hb dX11_needless_42 (by decide) (fun q => absurd q (by decide)) (fun _ => ?_)
    refine lv_iload_n hx hb dX11_needless_45 rfl (lv_at hl 4 rfl) ?_
    refine lv_iload hx hb dX11_needless_46 (lv_at hl 0 rfl) ?_
    refine qc_Si (As := [.int 0, .int 5]) (rest := []) (k0 := 2) (m1_has0 l D ca o z3 y 5) kc_yX11_has ⟨hx, hb, hml, hown, hts⟩ wq_1198 rfl rfl ⟨Nat.le_of_ble_eq_true rfl, Nat.le_of_ble_eq_true rfl⟩ wq_all hP hK hS qw_Ai rfl hl.1 rfl (Nat.le_of_ble_eq_true rfl) dX11_needless_48 ⟨Nat.zero_le _, Nat.zero_le _⟩ (fun r10 u10 H locs h10 hP hS _ _ => ?_)
    subst h10
    refine lv_if_eq (tgt := 77) hx hb dX11_needless_51 (by decide) (fun _ => ?_) (fun q => absurd (by decide) q)
    refine lv_iinc (v := 6) (lv' := [(4, .int 6), (3, .int 0), (2, .int 1), (0, .ref (o + 0)), (1, .int 0)]) hx hb dX11_needless_77 hl (k := 0) rfl (by decide) (by decide) rfl (fun ls hl => ?_)
    refine lv_goto (tgt := 38) hx hb dX11_needless_80 (by decide) ?_
    refine lv_iload hx hb dX11_needless_38 (lv_at hl 0 rfl) ?_
    refine lv_bipush (v := 10) hx hb dX11_needless_40 (by decide) ?_
    refine lv_icmp_ge (tgt := 83) hx hb dX11_needless_42 (by decide) (fun q => absurd q (by decide)) (fun _ => ?_)
    refine lv_iload_n hx hb dX11_needless_45 rfl (lv_at hl 4 rfl) ?_
    refine lv_iload hx hb dX11_needless_46 (lv_at hl 0 rfl) ?_
    refine qc_Si (As := [.int 0, .int 6]) (rest := []) (k0 := 2) (m1_has0 l D ca o z3 y 6) kc_yX11_has ⟨hx, hb, hml, hown, hts⟩ wq_1198 rfl rfl ⟨Nat.le_of_ble_eq_true rfl, Nat.le_of_ble_eq_true rfl⟩ wq_all hP hK hS qw_Ai rfl hl.1 rfl (Nat.le_of_ble_eq_true rfl) dX11_needless_48 ⟨Nat.zero_le _, Nat.zero_le _⟩ (fun r11 u11 H locs h11 hP hS _ _ => ?_)
    subst h11
    refine lv_if_eq (tgt := 77) hx hb dX11_needless_51 (by decide) (fun _ => ?_) (fun q => absurd (by decide) q)
    refine lv_iinc (v := 7) (lv' := [(4, .int 7), (3, .int 0), (2, .int 1), (0, .ref (o + 0)), (1, .int 0)]) hx hb dX11_needless_77 hl (k := 0) rfl (by decide) (by decide) rfl (fun ls hl => ?_)
    refine lv_goto (tgt := 38) hx hb dX11_needless_80 (by decide) ?_
    refine lv_iload hx hb dX11_needless_38 (lv_at hl 0 rfl) ?_
    refine lv_bipush (v := 10) hx hb dX11_needless_40 (by decide) ?_
    refine lv_icmp_ge (tgt := 83) hx hb dX11_needless_42 (by decide) (fun q => absurd q (by decide)) (fun _ => ?_)
    refine lv_iload_n hx hb dX11_needless_45 rfl (lv_at hl 4 rfl) ?_
    refine lv_iload hx hb dX11_needless_46 (lv_at hl 0 rfl) ?_
    refine qc_Si (As := [.int 0, .int 7]) (rest := []) (k0 := 2) (m1_has0 l D ca o z3 y 7) kc_yX11_has ⟨hx, hb, hml, hown, hts⟩ wq_1198 rfl rfl ⟨Nat.le_of_ble_eq_true rfl, Nat.le_of_ble_eq_true rfl⟩ wq_all hP hK hS qw_Ai rfl hl.1 rfl (Nat.le_of_ble_eq_true rfl) dX11_needless_48 ⟨Nat.zero_le _, Nat.zero_le _⟩ (fun r12 u12 H locs h12 hP hS _ _ => ?_)
    subst h12
    refine lv_if_eq (tgt := 77) hx hb dX11_needless_51 (by decide) (fun _ => ?_) (fun q => absurd (by decide) q)
    refine lv_iinc (v := 8) (lv' := [(4, .int 8), (3, .int 0), (2, .int 1), (0, .ref (o + 0)), (1, .int 0)]) hx hb dX11_needless_77 hl (k := 0) rfl (by decide) (by decide) rfl (fun ls hl => ?_)
    refine lv_goto (tgt := 38) hx hb dX11_needless_80 (by decide) ?_
    refine lv_iload hx hb dX11_needless_38 (lv_at hl 0 rfl) ?_
    refine lv_bipush (v := 10) hx hb dX11_needless_40 (by decide) ?_
    refine lv_icmp_ge (tgt := 83) hx hb dX11_needless_42 (by decide) (fun q => absurd q (by decide)) (fun _ => ?_)
    refine lv_iload_n hx hb dX11_needless_45 rfl (lv_at hl 4 rfl) ?_
    refine lv_iload hx hb dX11_needless_46 (lv_at hl 0 rfl) ?_
    refine qc_Si (As := [.int 0, .int 8]) (rest := []) (k0 := 2) (m1_has0 l D ca o z3 y 8) kc_yX11_has ⟨hx, hb, hml, hown, hts⟩ wq_1198 rfl rfl ⟨Nat.le_of_ble_eq_true rfl, Nat.le_of_ble_eq_true rfl⟩ wq_all hP hK hS qw_Ai rfl hl.1 rfl (Nat.le_of_ble_eq_true rfl) dX11_needless_48 ⟨Nat.zero_le _, Nat.zero_le _⟩ (fun r13 u13 H locs h13 hP hS _ _ => ?_)
    subst h13
    refine lv_if_eq (tgt := 77) hx hb dX11_needless_51 (by decide) (fun _ => ?_) (fun q => absurd (by decide) q)
    refine lv_iinc (v := 9) (lv' := [(4, .int 9), (3, .int 0), (2, .int 1), (0, .ref (o + 0)), (1, .int 0)]) hx hb dX11_needless_77 hl (k := 0) rfl (by decide) (by decide) rfl (fun ls hl => ?_)
    refine lv_goto (tgt := 38) hx hb dX11_needless_80 (by decide) ?_
    refine lv_iload hx hb dX11_needless_38 (lv_at hl 0 rfl) ?_
    refine lv_bipush (v := 10) hx hb dX11_needless_40 (by decide) ?_
    refine lv_icmp_ge (tgt := 83) hx hb dX11_needless_42 (by decide) (fun q => absurd q (by decide)) (fun _ => ?_)
    refine lv_iload_n hx hb dX11_needless_45 rfl (lv_at hl 4 rfl) ?_
    refine lv_iload hx hb dX11_needless_46 (lv_at hl 0 rfl) ?_
    refine qc_Si (As := [.int 0, .int 9]) (rest := []) (k0 := 2) (m1_has0 l D ca o z3 y 9) kc_yX11_has ⟨hx, hb, hml, hown, hts⟩ wq_1198 rfl rfl ⟨Nat.le_of_ble_eq_true rfl, Nat.le_of_ble_eq_true rfl⟩ wq_all hP hK hS qw_Ai rfl hl.1 rfl (Nat.le_of_ble_eq_true rfl) dX11_needless_48 ⟨Nat.zero_le _, Nat.zero_le _⟩ (fun r14 u14 H locs h14 hP hS _ _ => ?_)
    subst h14
    refine lv_if_eq (tgt := 77) hx hb dX11_needless_51 (by decide) (fun _ => ?_) (fun q => absurd (by decide) q)
    refine lv_iinc (v := 10) (lv' := [(4, .int 10), (3, .int 0), (2, .int 1), (0, .ref (o + 0)), (1, .int 0)]) hx hb dX11_needless_77 hl (k := 0) rfl (by decide) (by decide) rfl (fun ls hl => ?_)
    refine lv_goto (tgt := 38) hx hb dX11_needless_80 (by decide) ?_
    refine lv_iload hx hb dX11_needless_38 (lv_at hl 0 rfl) ?_
    refine lv_bipush (v := 10) hx hb dX11_needless_40 (by decide) ?_
    refine lv_icmp_ge (tgt := 83) hx hb dX11_needless_42 (by decide) (fun _ => ?_) (fun q => absurd (by decide) q)
    refine lv_iload_n hx hb dX11_needless_83 rfl (lv_at hl 1 rfl) ?_
    exact W.iret (v := 0) hx hb hr (fun t ht hW => ⟨⟨0, (z3, y), rfl, (ga_p (by omega)), by rw [ht]; exact hP, va_K.moved hW.alike hK⟩, hS.F ht⟩) hS.2.2 dX11_needless_84
  · subst h1r
    refine lv_if_ne (tgt := 10) hx hb dX11_needless_5 (by decide) (fun q => absurd q (by decide)) (fun _ => ?_)
    refine lv_iconst (v := (-1)) hx hb dX11_needless_8 (by decide) ?_
    exact W.iret (v := (-1)) hx hb hr (fun t ht hW => ⟨⟨(-1), (z, y), rfl, (ga_n (by omega)), by rw [ht]; exact hP, va_K.moved hW.alike hK⟩, hS.F ht⟩) hS.2.2 dX11_needless_9

set_option maxRecDepth 100000 in
set_option maxHeartbeats 4000000 in
theorem mP_settles (l : Launch) (D : va_G) (ca : Nat → ClassId) (o : Nat) (z : Nat → Nat → Int32) (y : Nat → Nat → Int64) (a1 : Int32) (h0_4 : z 0 4 = 0) (h0_5 : z 0 5 = 0) (h0_6 : z 0 6 = 0) (h0_15 : z 0 15 = 0) (h0_61 : z 0 61 = 0) : qM l yX11_settles cX11_settles 3 (some .int) 5 147 (qPre D vwCl (qT6 ca) o 41 (qG (GM ca o) z y) [.ref (o + 0), .int a1]) (va_Qi (fun r _ => r = A_settles a1) (qB D vwCl (qT6 ca) o 41 (fun u : qZ => qG (GM ca o) u.1 u.2)) (qw_A o 41)) (qw_A o 41) := by
  refine Met.ofW (cc := cX11_settles) (maxL := 3) (ret := (some .int)) (by decide) rfl ?_
  intro p e s m args below meth c s₁ B hml hv
  obtain ⟨rfl, hP, hK⟩ := hv
  have hx := B.exec
  have hb := B.bytes
  have hr := B.returns
  have hts0 := atoms_spec (ws := Cond.code yX11_settles cX11_settles 3 (some .int) :: qtbl) B.pre
  have hts : ∀ w ∈ qtbl, w.before _ s = true := fun w h => hts0 w (List.mem_cons_of_mem _ h)
  have hown : s.vm.findClass RX11 = some m.cls := findClass_of_methodNamed B.named
  have hlocks := B.notSynchronized
  have hz0 : (0 : Int32).toInt = 0 := rfl
  have hS : va_S (qw_A o 41) s.heap s.heap [] := va_S.rf
  have hl := lv_entry ([.ref (o + 0), .int a1]) (n := 3) (Nat.le_of_ble_eq_true rfl)
  rw [lg_entry_eq]
  generalize (lg_sl ([.ref (o + 0), .int a1]) ++ List.replicate (3 - (lg_sl ([.ref (o + 0), .int a1])).length) Slot.unset).toArray = ls at hl ⊢
  have hl : lv_has ls 3 [(0, .ref (o + 0)), (1, .int a1)] := hl
  refine lv_aload_n hx hb dX11_settles_0 rfl (lv_at hl 0 rfl) ?_
  refine lv_iload_n hx hb dX11_settles_1 rfl (lv_at hl 1 rfl) ?_
  refine qc_Vi (As := [.int a1]) (rest := []) (k0 := 1) (m1_areRemarks l D ca o z y a1 (h0_6)) kc_yX11_areRemarks ⟨hx, hb, hml, hown, hts⟩ wq_1324 rfl rfl ⟨Nat.le_of_ble_eq_true rfl, Nat.le_of_ble_eq_true rfl⟩ wq_all hP hK hS qw_Ai (q0 := 0) (by decide) (hgM_0 ca o _ _) rfl rfl hl.1 rfl (Nat.le_of_ble_eq_true rfl) dX11_settles_2 ⟨Nat.zero_le _, Nat.zero_le _⟩ (fun r1 u1 H locs h1 hP hS _ _ => ?_)
  rcases h1 with ⟨h1r, h1a⟩ | ⟨h1r, h1a⟩
  · subst h1r
    obtain rfl : a1 = 0 := gr_eq (y := 0) h1a
    refine lv_if_ne (tgt := 10) hx hb dX11_settles_5 (by decide) (fun _ => ?_) (fun q => absurd q (by decide))
    refine lv_aload_n hx hb dX11_settles_10 rfl (lv_at hl 0 rfl) ?_
    refine qc_Vi (As := []) (rest := []) (k0 := 0) (m1_rowMany l D ca o z y (h0_4)) kc_yX11_rowMany ⟨hx, hb, hml, hown, hts⟩ wq_1315 rfl rfl ⟨Nat.le_of_ble_eq_true rfl, Nat.le_of_ble_eq_true rfl⟩ wq_all hP hK hS qw_Ai (q0 := 0) (by decide) (hgM_0 ca o _ _) rfl rfl hl.1 rfl (Nat.le_of_ble_eq_true rfl) dX11_settles_11 ⟨Nat.zero_le _, Nat.zero_le _⟩ (fun r2 u2 H locs h2 hP hS _ _ => ?_)
    subst h2
    refine lv_ldcw (v := 200000) hx hb hown (hts _ wq_1319) dX11_settles_14 ?_
    refine lv_icmp_le (tgt := 23) hx hb dX11_settles_17 (by decide) (fun _ => ?_) (fun q => absurd (by decide) q)
    refine lv_aload_n hx hb dX11_settles_23 rfl (lv_at hl 0 rfl) ?_
    refine qc_Vv (As := []) (rest := []) (k0 := 0) (m1_counts l D ca o z y (h0_4) (h0_6)) kc_yX11_counts ⟨hx, hb, hml, hown, hts⟩ wq_1356 rfl rfl ⟨Nat.le_of_ble_eq_true rfl, Nat.le_of_ble_eq_true rfl⟩ wq_all hP hK hS qw_Ai (q0 := 0) (by decide) (hgM_0 ca o _ _) rfl rfl hl.1 rfl (Nat.le_of_ble_eq_true rfl) dX11_settles_24 ⟨Nat.zero_le _, Nat.zero_le _⟩ (fun u3 H locs h3 hP hS _ _ => ?_)
    obtain ⟨z3, y3⟩ := u3
    obtain ⟨h3f, h3y, h3m⟩ := h3
    dsimp only at h3f h3y h3m hP
    rw [h3y] at hP
    have f3_0_4 : z3 0 4 = 0 := (congrFun (h3f 0 (by decide) (by decide)) 4).trans (h0_4)
    have f3_0_5 : z3 0 5 = 0 := (congrFun (h3f 0 (by decide) (by decide)) 5).trans (h0_5)
    have f3_0_6 : z3 0 6 = 0 := (congrFun (h3f 0 (by decide) (by decide)) 6).trans (h0_6)
    have f3_0_15 : z3 0 15 = 0 := (congrFun (h3f 0 (by decide) (by decide)) 15).trans (h0_15)
    have f3_0_61 : z3 0 61 = 0 := (congrFun (h3f 0 (by decide) (by decide)) 61).trans (h0_61)
    refine lv_iconst (v := 0) hx hb dX11_settles_27 (by decide) ?_
    refine lv_istore_n (lv' := [(2, .int 0), (0, .ref (o + 0)), (1, .int 0)]) hx hb dX11_settles_28 rfl hl (by decide) rfl (fun ls hl => ?_)
    refine lv_iload_n hx hb dX11_settles_29 rfl (lv_at hl 0 rfl) ?_
    refine lv_bipush (v := 10) hx hb dX11_settles_30 (by decide) ?_
    refine lv_icmp_ge (tgt := 72) hx hb dX11_settles_32 (by decide) (fun q => absurd q (by decide)) (fun _ => ?_)
    refine lv_aload_n hx hb dX11_settles_35 rfl (lv_at hl 1 rfl) ?_
    refine lv_iload_n hx hb dX11_settles_36 rfl (lv_at hl 0 rfl) ?_
    refine qc_Vi (As := [.int 0]) (rest := []) (k0 := 1) (m1_isRemark l D ca o z3 y 0 (f3_0_6)) kc_yX11_isRemark ⟨hx, hb, hml, hown, hts⟩ wq_1307 rfl rfl ⟨Nat.le_of_ble_eq_true rfl, Nat.le_of_ble_eq_true rfl⟩ wq_all hP hK hS qw_Ai (q0 := 0) (by decide) (hgM_0 ca o _ _) rfl rfl hl.1 rfl (Nat.le_of_ble_eq_true rfl) dX11_settles_37 ⟨Nat.zero_le _, Nat.zero_le _⟩ (fun r4 u4 H locs h4 hP hS _ _ => ?_)
    subst h4
    refine lv_if_eq (tgt := 66) hx hb dX11_settles_40 (by decide) (fun _ => ?_) (fun q => absurd (by decide) q)
    refine lv_iinc (v := 1) (lv' := [(2, .int 1), (0, .ref (o + 0)), (1, .int 0)]) hx hb dX11_settles_66 hl (k := 0) rfl (by decide) (by decide) rfl (fun ls hl => ?_)
    refine lv_goto (tgt := 29) hx hb dX11_settles_69 (by decide) ?_
    refine lv_iload_n hx hb dX11_settles_29 rfl (lv_at hl 0 rfl) ?_
    refine lv_bipush (v := 10) hx hb dX11_settles_30 (by decide) ?_
    refine lv_icmp_ge (tgt := 72) hx hb dX11_settles_32 (by decide) (fun q => absurd q (by decide)) (fun _ => ?_)
    refine lv_aload_n hx hb dX11_settles_35 rfl (lv_at hl 1 rfl) ?_
    refine lv_iload_n hx hb dX11_settles_36 rfl (lv_at hl 0 rfl) ?_
    refine qc_Vi (As := [.int 1]) (rest := []) (k0 := 1) (m1_isRemark l D ca o z3 y 1 (f3_0_6)) kc_yX11_isRemark ⟨hx, hb, hml, hown, hts⟩ wq_1307 rfl rfl ⟨Nat.le_of_ble_eq_true rfl, Nat.le_of_ble_eq_true rfl⟩ wq_all hP hK hS qw_Ai (q0 := 0) (by decide) (hgM_0 ca o _ _) rfl rfl hl.1 rfl (Nat.le_of_ble_eq_true rfl) dX11_settles_37 ⟨Nat.zero_le _, Nat.zero_le _⟩ (fun r5 u5 H locs h5 hP hS _ _ => ?_)
    subst h5
    refine lv_if_eq (tgt := 66) hx hb dX11_settles_40 (by decide) (fun _ => ?_) (fun q => absurd (by decide) q)
    refine lv_iinc (v := 2) (lv' := [(2, .int 2), (0, .ref (o + 0)), (1, .int 0)]) hx hb dX11_settles_66 hl (k := 0) rfl (by decide) (by decide) rfl (fun ls hl => ?_)
    refine lv_goto (tgt := 29) hx hb dX11_settles_69 (by decide) ?_
    refine lv_iload_n hx hb dX11_settles_29 rfl (lv_at hl 0 rfl) ?_
    refine lv_bipush (v := 10) hx hb dX11_settles_30 (by decide) ?_
    refine lv_icmp_ge (tgt := 72) hx hb dX11_settles_32 (by decide) (fun q => absurd q (by decide)) (fun _ => ?_)
    refine lv_aload_n hx hb dX11_settles_35 rfl (lv_at hl 1 rfl) ?_
    refine lv_iload_n hx hb dX11_settles_36 rfl (lv_at hl 0 rfl) ?_
    refine qc_Vi (As := [.int 2]) (rest := []) (k0 := 1) (m1_isRemark l D ca o z3 y 2 (f3_0_6)) kc_yX11_isRemark ⟨hx, hb, hml, hown, hts⟩ wq_1307 rfl rfl ⟨Nat.le_of_ble_eq_true rfl, Nat.le_of_ble_eq_true rfl⟩ wq_all hP hK hS qw_Ai (q0 := 0) (by decide) (hgM_0 ca o _ _) rfl rfl hl.1 rfl (Nat.le_of_ble_eq_true rfl) dX11_settles_37 ⟨Nat.zero_le _, Nat.zero_le _⟩ (fun r6 u6 H locs h6 hP hS _ _ => ?_)
    subst h6
    refine lv_if_eq (tgt := 66) hx hb dX11_settles_40 (by decide) (fun _ => ?_) (fun q => absurd (by decide) q)
    refine lv_iinc (v := 3) (lv' := [(2, .int 3), (0, .ref (o + 0)), (1, .int 0)]) hx hb dX11_settles_66 hl (k := 0) rfl (by decide) (by decide) rfl (fun ls hl => ?_)
    refine lv_goto (tgt := 29) hx hb dX11_settles_69 (by decide) ?_
    refine lv_iload_n hx hb dX11_settles_29 rfl (lv_at hl 0 rfl) ?_
    refine lv_bipush (v := 10) hx hb dX11_settles_30 (by decide) ?_
    refine lv_icmp_ge (tgt := 72) hx hb dX11_settles_32 (by decide) (fun q => absurd q (by decide)) (fun _ => ?_)
    refine lv_aload_n hx hb dX11_settles_35 rfl (lv_at hl 1 rfl) ?_
    refine lv_iload_n hx hb dX11_settles_36 rfl (lv_at hl 0 rfl) ?_
    refine qc_Vi (As := [.int 3]) (rest := []) (k0 := 1) (m1_isRemark l D ca o z3 y 3 (f3_0_6)) kc_yX11_isRemark ⟨hx, hb, hml, hown, hts⟩ wq_1307 rfl rfl ⟨Nat.le_of_ble_eq_true rfl, Nat.le_of_ble_eq_true rfl⟩ wq_all hP hK hS qw_Ai (q0 := 0) (by decide) (hgM_0 ca o _ _) rfl rfl hl.1 rfl (Nat.le_of_ble_eq_true rfl) dX11_settles_37 ⟨Nat.zero_le _, Nat.zero_le _⟩ (fun r7 u7 H locs h7 hP hS _ _ => ?_)
    subst h7
    refine lv_if_eq (tgt := 66) hx hb dX11_settles_40 (by decide) (fun _ => ?_) (fun q => absurd (by decide) q)
    refine lv_iinc (v := 4) (lv' := [(2, .int 4), (0, .ref (o + 0)), (1, .int 0)]) hx hb dX11_settles_66 hl (k := 0) rfl (by decide) (by decide) rfl (fun ls hl => ?_)
    refine lv_goto (tgt := 29) hx hb dX11_settles_69 (by decide) ?_
    refine lv_iload_n hx hb dX11_settles_29 rfl (lv_at hl 0 rfl) ?_
    refine lv_bipush (v := 10) hx hb dX11_settles_30 (by decide) ?_
    refine lv_icmp_ge (tgt := 72) hx hb dX11_settles_32 (by decide) (fun q => absurd q (by decide)) (fun _ => ?_)
    refine lv_aload_n hx hb dX11_settles_35 rfl (lv_at hl 1 rfl) ?_
    refine lv_iload_n hx hb dX11_settles_36 rfl (lv_at hl 0 rfl) ?_
    refine qc_Vi (As := [.int 4]) (rest := []) (k0 := 1) (m1_isRemark l D ca o z3 y 4 (f3_0_6)) kc_yX11_isRemark ⟨hx, hb, hml, hown, hts⟩ wq_1307 rfl rfl ⟨Nat.le_of_ble_eq_true rfl, Nat.le_of_ble_eq_true rfl⟩ wq_all hP hK hS qw_Ai (q0 := 0) (by decide) (hgM_0 ca o _ _) rfl rfl hl.1 rfl (Nat.le_of_ble_eq_true rfl) dX11_settles_37 ⟨Nat.zero_le _, Nat.zero_le _⟩ (fun r8 u8 H locs h8 hP hS _ _ => ?_)
    subst h8
    refine lv_if_eq (tgt := 66) hx hb dX11_settles_40 (by decide) (fun _ => ?_) (fun q => absurd (by decide) q)
    refine lv_iinc (v := 5) (lv' := [(2, .int 5), (0, .ref (o + 0)), (1, .int 0)]) hx hb dX11_settles_66 hl (k := 0) rfl (by decide) (by decide) rfl (fun ls hl => ?_)
    refine lv_goto (tgt := 29) hx hb dX11_settles_69 (by decide) ?_
    refine lv_iload_n hx hb dX11_settles_29 rfl (lv_at hl 0 rfl) ?_
    refine lv_bipush (v := 10) hx hb dX11_settles_30 (by decide) ?_
    refine lv_icmp_ge (tgt := 72) hx hb dX11_settles_32 (by decide) (fun q => absurd q (by decide)) (fun _ => ?_)
    refine lv_aload_n hx hb dX11_settles_35 rfl (lv_at hl 1 rfl) ?_
    refine lv_iload_n hx hb dX11_settles_36 rfl (lv_at hl 0 rfl) ?_
    refine qc_Vi (As := [.int 5]) (rest := []) (k0 := 1) (m1_isRemark l D ca o z3 y 5 (f3_0_6)) kc_yX11_isRemark ⟨hx, hb, hml, hown, hts⟩ wq_1307 rfl rfl ⟨Nat.le_of_ble_eq_true rfl, Nat.le_of_ble_eq_true rfl⟩ wq_all hP hK hS qw_Ai (q0 := 0) (by decide) (hgM_0 ca o _ _) rfl rfl hl.1 rfl (Nat.le_of_ble_eq_true rfl) dX11_settles_37 ⟨Nat.zero_le _, Nat.zero_le _⟩ (fun r9 u9 H locs h9 hP hS _ _ => ?_)
    subst h9
    refine lv_if_eq (tgt := 66) hx hb dX11_settles_40 (by decide) (fun _ => ?_) (fun q => absurd (by decide) q)
    refine lv_iinc (v := 6) (lv' := [(2, .int 6), (0, .ref (o + 0)), (1, .int 0)]) hx hb dX11_settles_66 hl (k := 0) rfl (by decide) (by decide) rfl (fun ls hl => ?_)
    refine lv_goto (tgt := 29) hx hb dX11_settles_69 (by decide) ?_
    refine lv_iload_n hx hb dX11_settles_29 rfl (lv_at hl 0 rfl) ?_
    refine lv_bipush (v := 10) hx hb dX11_settles_30 (by decide) ?_
    refine lv_icmp_ge (tgt := 72) hx hb dX11_settles_32 (by decide) (fun q => absurd q (by decide)) (fun _ => ?_)
    refine lv_aload_n hx hb dX11_settles_35 rfl (lv_at hl 1 rfl) ?_
    refine lv_iload_n hx hb dX11_settles_36 rfl (lv_at hl 0 rfl) ?_
    refine qc_Vi (As := [.int 6]) (rest := []) (k0 := 1) (m1_isRemark l D ca o z3 y 6 (f3_0_6)) kc_yX11_isRemark ⟨hx, hb, hml, hown, hts⟩ wq_1307 rfl rfl ⟨Nat.le_of_ble_eq_true rfl, Nat.le_of_ble_eq_true rfl⟩ wq_all hP hK hS qw_Ai (q0 := 0) (by decide) (hgM_0 ca o _ _) rfl rfl hl.1 rfl (Nat.le_of_ble_eq_true rfl) dX11_settles_37 ⟨Nat.zero_le _, Nat.zero_le _⟩ (fun r10 u10 H locs h10 hP hS _ _ => ?_)
    subst h10
    refine lv_if_eq (tgt := 66) hx hb dX11_settles_40 (by decide) (fun _ => ?_) (fun q => absurd (by decide) q)
    refine lv_iinc (v := 7) (lv' := [(2, .int 7), (0, .ref (o + 0)), (1, .int 0)]) hx hb dX11_settles_66 hl (k := 0) rfl (by decide) (by decide) rfl (fun ls hl => ?_)
    refine lv_goto (tgt := 29) hx hb dX11_settles_69 (by decide) ?_
    refine lv_iload_n hx hb dX11_settles_29 rfl (lv_at hl 0 rfl) ?_
    refine lv_bipush (v := 10) hx hb dX11_settles_30 (by decide) ?_
    refine lv_icmp_ge (tgt := 72) hx hb dX11_settles_32 (by decide) (fun q => absurd q (by decide)) (fun _ => ?_)
    refine lv_aload_n hx hb dX11_settles_35 rfl (lv_at hl 1 rfl) ?_
    refine lv_iload_n hx hb dX11_settles_36 rfl (lv_at hl 0 rfl) ?_
    refine qc_Vi (As := [.int 7]) (rest := []) (k0 := 1) (m1_isRemark l D ca o z3 y 7 (f3_0_6)) kc_yX11_isRemark ⟨hx, hb, hml, hown, hts⟩ wq_1307 rfl rfl ⟨Nat.le_of_ble_eq_true rfl, Nat.le_of_ble_eq_true rfl⟩ wq_all hP hK hS qw_Ai (q0 := 0) (by decide) (hgM_0 ca o _ _) rfl rfl hl.1 rfl (Nat.le_of_ble_eq_true rfl) dX11_settles_37 ⟨Nat.zero_le _, Nat.zero_le _⟩ (fun r11 u11 H locs h11 hP hS _ _ => ?_)
    subst h11
    refine lv_if_eq (tgt := 66) hx hb dX11_settles_40 (by decide) (fun _ => ?_) (fun q => absurd (by decide) q)
    refine lv_iinc (v := 8) (lv' := [(2, .int 8), (0, .ref (o + 0)), (1, .int 0)]) hx hb dX11_settles_66 hl (k := 0) rfl (by decide) (by decide) rfl (fun ls hl => ?_)
    refine lv_goto (tgt := 29) hx hb dX11_settles_69 (by decide) ?_
    refine lv_iload_n hx hb dX11_settles_29 rfl (lv_at hl 0 rfl) ?_
    refine lv_bipush (v := 10) hx hb dX11_settles_30 (by decide) ?_
    refine lv_icmp_ge (tgt := 72) hx hb dX11_settles_32 (by decide) (fun q => absurd q (by decide)) (fun _ => ?_)
    refine lv_aload_n hx hb dX11_settles_35 rfl (lv_at hl 1 rfl) ?_
    refine lv_iload_n hx hb dX11_settles_36 rfl (lv_at hl 0 rfl) ?_
    refine qc_Vi (As := [.int 8]) (rest := []) (k0 := 1) (m1_isRemark l D ca o z3 y 8 (f3_0_6)) kc_yX11_isRemark ⟨hx, hb, hml, hown, hts⟩ wq_1307 rfl rfl ⟨Nat.le_of_ble_eq_true rfl, Nat.le_of_ble_eq_true rfl⟩ wq_all hP hK hS qw_Ai (q0 := 0) (by decide) (hgM_0 ca o _ _) rfl rfl hl.1 rfl (Nat.le_of_ble_eq_true rfl) dX11_settles_37 ⟨Nat.zero_le _, Nat.zero_le _⟩ (fun r12 u12 H locs h12 hP hS _ _ => ?_)
    subst h12
    refine lv_if_eq (tgt := 66) hx hb dX11_settles_40 (by decide) (fun _ => ?_) (fun q => absurd (by decide) q)
    refine lv_iinc (v := 9) (lv' := [(2, .int 9), (0, .ref (o + 0)), (1, .int 0)]) hx hb dX11_settles_66 hl (k := 0) rfl (by decide) (by decide) rfl (fun ls hl => ?_)
    refine lv_goto (tgt := 29) hx hb dX11_settles_69 (by decide) ?_
    refine lv_iload_n hx hb dX11_settles_29 rfl (lv_at hl 0 rfl) ?_
    refine lv_bipush (v := 10) hx hb dX11_settles_30 (by decide) ?_
    refine lv_icmp_ge (tgt := 72) hx hb dX11_settles_32 (by decide) (fun q => absurd q (by decide)) (fun _ => ?_)
    refine lv_aload_n hx hb dX11_settles_35 rfl (lv_at hl 1 rfl) ?_
    refine lv_iload_n hx hb dX11_settles_36 rfl (lv_at hl 0 rfl) ?_
    refine qc_Vi (As := [.int 9]) (rest := []) (k0 := 1) (m1_isRemark l D ca o z3 y 9 (f3_0_6)) kc_yX11_isRemark ⟨hx, hb, hml, hown, hts⟩ wq_1307 rfl rfl ⟨Nat.le_of_ble_eq_true rfl, Nat.le_of_ble_eq_true rfl⟩ wq_all hP hK hS qw_Ai (q0 := 0) (by decide) (hgM_0 ca o _ _) rfl rfl hl.1 rfl (Nat.le_of_ble_eq_true rfl) dX11_settles_37 ⟨Nat.zero_le _, Nat.zero_le _⟩ (fun r13 u13 H locs h13 hP hS _ _ => ?_)
    subst h13
    refine lv_if_eq (tgt := 66) hx hb dX11_settles_40 (by decide) (fun _ => ?_) (fun q => absurd (by decide) q)
    refine lv_iinc (v := 10) (lv' := [(2, .int 10), (0, .ref (o + 0)), (1, .int 0)]) hx hb dX11_settles_66 hl (k := 0) rfl (by decide) (by decide) rfl (fun ls hl => ?_)
    refine lv_goto (tgt := 29) hx hb dX11_settles_69 (by decide) ?_
    refine lv_iload_n hx hb dX11_settles_29 rfl (lv_at hl 0 rfl) ?_
    refine lv_bipush (v := 10) hx hb dX11_settles_30 (by decide) ?_
    refine lv_icmp_ge (tgt := 72) hx hb dX11_settles_32 (by decide) (fun _ => ?_) (fun q => absurd (by decide) q)
    refine lv_bipush (v := (-2)) hx hb dX11_settles_72 (by decide) ?_
    exact W.iret (v := (-2)) hx hb hr (fun t ht hW => ⟨⟨(-2), (z3, y), rfl, (ga_p (by omega)), by rw [ht]; exact hP, va_K.moved hW.alike hK⟩, hS.F ht⟩) hS.2.2 dX11_settles_74
  · subst h1r
    refine lv_if_ne (tgt := 10) hx hb dX11_settles_5 (by decide) (fun q => absurd q (by decide)) (fun _ => ?_)
    refine lv_iconst (v := (-1)) hx hb dX11_settles_8 (by decide) ?_
    exact W.iret (v := (-1)) hx hb hr (fun t ht hW => ⟨⟨(-1), (z, y), rfl, (ga_n (by omega)), by rw [ht]; exact hP, va_K.moved hW.alike hK⟩, hS.F ht⟩) hS.2.2 dX11_settles_9

set_option maxRecDepth 100000 in
set_option maxHeartbeats 4000000 in
theorem mP_fewest (l : Launch) (D : va_G) (ca : Nat → ClassId) (o : Nat) (z : Nat → Nat → Int32) (y : Nat → Nat → Int64) (a1 : Int32) (a2 : Int32) (h0_4 : z 0 4 = 0) (h0_5 : z 0 5 = 0) (h0_6 : z 0 6 = 0) (h0_15 : z 0 15 = 0) (h0_61 : z 0 61 = 0) : qM l yX11_fewest cX11_fewest 6 (some .int) 5 147 (qPre D vwCl (qT6 ca) o 41 (qG (GM ca o) z y) [.ref (o + 0), .int a1, .int a2]) (va_Qi (fun r _ => r = A_fewest a1 a2) (qB D vwCl (qT6 ca) o 41 (fun u : qZ => qG (GM ca o) u.1 u.2)) (qw_A o 41)) (qw_A o 41) := by
  refine Met.ofW (cc := cX11_fewest) (maxL := 6) (ret := (some .int)) (by decide) rfl ?_
  intro p e s m args below meth c s₁ B hml hv
  obtain ⟨rfl, hP, hK⟩ := hv
  have hx := B.exec
  have hb := B.bytes
  have hr := B.returns
  have hts0 := atoms_spec (ws := Cond.code yX11_fewest cX11_fewest 6 (some .int) :: qtbl) B.pre
  have hts : ∀ w ∈ qtbl, w.before _ s = true := fun w h => hts0 w (List.mem_cons_of_mem _ h)
  have hown : s.vm.findClass RX11 = some m.cls := findClass_of_methodNamed B.named
  have hlocks := B.notSynchronized
  have hz0 : (0 : Int32).toInt = 0 := rfl
  have hS : va_S (qw_A o 41) s.heap s.heap [] := va_S.rf
  have hl := lv_entry ([.ref (o + 0), .int a1, .int a2]) (n := 6) (Nat.le_of_ble_eq_true rfl)
  rw [lg_entry_eq]
  generalize (lg_sl ([.ref (o + 0), .int a1, .int a2]) ++ List.replicate (6 - (lg_sl ([.ref (o + 0), .int a1, .int a2])).length) Slot.unset).toArray = ls at hl ⊢
  have hl : lv_has ls 6 [(0, .ref (o + 0)), (1, .int a1), (2, .int a2)] := hl
  refine lv_aload_n hx hb dX11_fewest_0 rfl (lv_at hl 0 rfl) ?_
  refine lv_iload_n hx hb dX11_fewest_1 rfl (lv_at hl 1 rfl) ?_
  refine qc_Vi (As := [.int a1]) (rest := []) (k0 := 1) (m1_areRemarks l D ca o z y a1 (h0_6)) kc_yX11_areRemarks ⟨hx, hb, hml, hown, hts⟩ wq_1324 rfl rfl ⟨Nat.le_of_ble_eq_true rfl, Nat.le_of_ble_eq_true rfl⟩ wq_all hP hK hS qw_Ai (q0 := 0) (by decide) (hgM_0 ca o _ _) rfl rfl hl.1 rfl (Nat.le_of_ble_eq_true rfl) dX11_fewest_2 ⟨Nat.zero_le _, Nat.zero_le _⟩ (fun r1 u1 H locs h1 hP hS _ _ => ?_)
  rcases h1 with ⟨h1r, h1a⟩ | ⟨h1r, h1a⟩
  · subst h1r
    obtain rfl : a1 = 0 := gr_eq (y := 0) h1a
    refine lv_if_eq (tgt := 17) hx hb dX11_fewest_5 (by decide) (fun q => absurd q (by decide)) (fun _ => ?_)
    refine lv_iload_n hx hb dX11_fewest_8 rfl (lv_at hl 2 rfl) ?_
    refine lv_iconst (v := 0) hx hb dX11_fewest_9 (by decide) ?_
    refine lv_iconst (v := 1) hx hb dX11_fewest_10 (by decide) ?_
    refine qc_Si (As := [.int a2, .int 0, .int 1]) (rest := []) (k0 := 3) (m1_in l D ca o z y a2 0 1) kc_yX11_in ⟨hx, hb, hml, hown, hts⟩ wq_1187 rfl rfl ⟨Nat.le_of_ble_eq_true rfl, Nat.le_of_ble_eq_true rfl⟩ wq_all hP hK hS qw_Ai rfl hl.1 rfl (Nat.le_of_ble_eq_true rfl) dX11_fewest_11 ⟨Nat.zero_le _, Nat.zero_le _⟩ (fun r2 u2 H locs h2 hP hS _ _ => ?_)
    rcases h2 with ⟨h2r, h2a, h2b⟩ | ⟨h2r, h2a⟩
    · subst h2r
      have t2a : a2.toInt ≥ (0 : Int) := h2a
      have t2b : a2.toInt ≤ (1 : Int) := h2b
      refine lv_if_ne (tgt := 19) hx hb dX11_fewest_14 (by decide) (fun _ => ?_) (fun q => absurd q (by decide))
      refine lv_aload_n hx hb dX11_fewest_19 rfl (lv_at hl 0 rfl) ?_
      refine qc_Vi (As := []) (rest := []) (k0 := 0) (m1_rowMany l D ca o z y (h0_4)) kc_yX11_rowMany ⟨hx, hb, hml, hown, hts⟩ wq_1315 rfl rfl ⟨Nat.le_of_ble_eq_true rfl, Nat.le_of_ble_eq_true rfl⟩ wq_all hP hK hS qw_Ai (q0 := 0) (by decide) (hgM_0 ca o _ _) rfl rfl hl.1 rfl (Nat.le_of_ble_eq_true rfl) dX11_fewest_20 ⟨Nat.zero_le _, Nat.zero_le _⟩ (fun r3 u3 H locs h3 hP hS _ _ => ?_)
      subst h3
      refine lv_ldcw (v := 200000) hx hb hown (hts _ wq_1319) dX11_fewest_23 ?_
      refine lv_icmp_le (tgt := 32) hx hb dX11_fewest_26 (by decide) (fun _ => ?_) (fun q => absurd (by decide) q)
      refine lv_aload_n hx hb dX11_fewest_32 rfl (lv_at hl 0 rfl) ?_
      refine qc_Vv (As := []) (rest := []) (k0 := 0) (m1_counts l D ca o z y (h0_4) (h0_6)) kc_yX11_counts ⟨hx, hb, hml, hown, hts⟩ wq_1356 rfl rfl ⟨Nat.le_of_ble_eq_true rfl, Nat.le_of_ble_eq_true rfl⟩ wq_all hP hK hS qw_Ai (q0 := 0) (by decide) (hgM_0 ca o _ _) rfl rfl hl.1 rfl (Nat.le_of_ble_eq_true rfl) dX11_fewest_33 ⟨Nat.zero_le _, Nat.zero_le _⟩ (fun u4 H locs h4 hP hS _ _ => ?_)
      obtain ⟨z4, y4⟩ := u4
      obtain ⟨h4f, h4y, h4m⟩ := h4
      dsimp only at h4f h4y h4m hP
      rw [h4y] at hP
      have f4_0_4 : z4 0 4 = 0 := (congrFun (h4f 0 (by decide) (by decide)) 4).trans (h0_4)
      have f4_0_5 : z4 0 5 = 0 := (congrFun (h4f 0 (by decide) (by decide)) 5).trans (h0_5)
      have f4_0_6 : z4 0 6 = 0 := (congrFun (h4f 0 (by decide) (by decide)) 6).trans (h0_6)
      have f4_0_15 : z4 0 15 = 0 := (congrFun (h4f 0 (by decide) (by decide)) 15).trans (h0_15)
      have f4_0_61 : z4 0 61 = 0 := (congrFun (h4f 0 (by decide) (by decide)) 61).trans (h0_61)
      refine lv_aload_n hx hb dX11_fewest_36 rfl (lv_at hl 0 rfl) ?_
      refine qc_Vi (As := []) (rest := []) (k0 := 0) (m1_toldRemarks l D ca o z4 y (f4_0_6)) kc_yX11_toldRemarks ⟨hx, hb, hml, hown, hts⟩ wq_1328 rfl rfl ⟨Nat.le_of_ble_eq_true rfl, Nat.le_of_ble_eq_true rfl⟩ wq_all hP hK hS qw_Ai (q0 := 0) (by decide) (hgM_0 ca o _ _) rfl rfl hl.1 rfl (Nat.le_of_ble_eq_true rfl) dX11_fewest_37 ⟨Nat.zero_le _, Nat.zero_le _⟩ (fun r5 u5 H locs h5 hP hS _ _ => ?_)
      subst h5
      refine lv_iload_n hx hb dX11_fewest_40 rfl (lv_at hl 1 rfl) ?_
      refine lv_iconst (v := (-1)) hx hb dX11_fewest_41 (by decide) ?_
      refine lv_ixor hx hb dX11_fewest_42 ?_
      refine qtop (x' := (-1)) (by decide) ?_
      refine lv_iand hx hb dX11_fewest_43 ?_
      refine qtop (x' := 0) (by decide) ?_
      refine lv_istore_n (lv' := [(3, .int 0), (0, .ref (o + 0)), (1, .int 0), (2, .int a2)]) hx hb dX11_fewest_44 rfl hl (by decide) rfl (fun ls hl => ?_)
      refine lv_bipush (v := (-2)) hx hb dX11_fewest_45 (by decide) ?_
      refine lv_istore (lv' := [(4, .int ((-2))), (3, .int 0), (0, .ref (o + 0)), (1, .int 0), (2, .int a2)]) hx hb dX11_fewest_47 hl (by decide) rfl (fun ls hl => ?_)
      refine lv_iconst (v := 0) hx hb dX11_fewest_49 (by decide) ?_
      refine lv_istore (lv' := [(5, .int 0), (4, .int ((-2))), (3, .int 0), (0, .ref (o + 0)), (1, .int 0), (2, .int a2)]) hx hb dX11_fewest_50 hl (by decide) rfl (fun ls hl => ?_)
      refine lv_iload hx hb dX11_fewest_52 (lv_at hl 0 rfl) ?_
      refine lv_sipush (v := 1024) hx hb dX11_fewest_54 (by decide) ?_
      refine lv_icmp_ge (tgt := 123) hx hb dX11_fewest_57 (by decide) (fun q => absurd q (by decide)) (fun _ => ?_)
      refine lv_iload hx hb dX11_fewest_60 (lv_at hl 0 rfl) ?_
      refine lv_iload_n hx hb dX11_fewest_62 rfl (lv_at hl 2 rfl) ?_
      refine lv_iconst (v := (-1)) hx hb dX11_fewest_63 (by decide) ?_
      refine lv_ixor hx hb dX11_fewest_64 ?_
      refine qtop (x' := (-1)) (by decide) ?_
      refine lv_iand hx hb dX11_fewest_65 ?_
      refine qtop (x' := 0) (by decide) ?_
      refine lv_if_ne (tgt := 117) hx hb dX11_fewest_66 (by decide) (fun q => absurd q (by decide)) (fun _ => ?_)
      refine lv_iload hx hb dX11_fewest_69 (lv_at hl 0 rfl) ?_
      refine qc_Si (As := [.int 0]) (rest := []) (k0 := 1) (m1_bits0 l D ca o z4 y) kc_yX11_bits ⟨hx, hb, hml, hown, hts⟩ wq_1296 rfl rfl ⟨Nat.le_of_ble_eq_true rfl, Nat.le_of_ble_eq_true rfl⟩ wq_all hP hK hS qw_Ai rfl hl.1 rfl (Nat.le_of_ble_eq_true rfl) dX11_fewest_71 ⟨Nat.zero_le _, Nat.zero_le _⟩ (fun r6 u6 H locs h6 hP hS _ _ => ?_)
      subst h6
      refine lv_iconst (v := 3) hx hb dX11_fewest_74 (by decide) ?_
      refine lv_icmp_gt (tgt := 117) hx hb dX11_fewest_75 (by decide) (fun q => absurd q (by decide)) (fun _ => ?_)
      refine lv_iload hx hb dX11_fewest_78 (lv_at hl 1 rfl) ?_
      refine lv_bipush (v := (-2)) hx hb dX11_fewest_80 (by decide) ?_
      refine lv_icmp_eq (tgt := 101) hx hb dX11_fewest_82 (by decide) (fun _ => ?_) (fun q => absurd (by decide) q)
      refine lv_aload_n hx hb dX11_fewest_101 rfl (lv_at hl 3 rfl) ?_
      refine lv_iload_n hx hb dX11_fewest_102 rfl (lv_at hl 4 rfl) ?_
      refine lv_iload hx hb dX11_fewest_103 (lv_at hl 0 rfl) ?_
      refine lv_ior hx hb dX11_fewest_105 ?_
      refine qtop (x' := 0) (by decide) ?_
      refine qc_Vi (As := [.int 0]) (rest := []) (k0 := 1) (m1_fitting l D ca o z4 y h4m (h4m.1)) kc_yX11_fitting ⟨hx, hb, hml, hown, hts⟩ wq_1360 rfl rfl ⟨Nat.le_of_ble_eq_true rfl, Nat.le_of_ble_eq_true rfl⟩ wq_all hP hK hS qw_Ai (q0 := 0) (by decide) (hgM_0 ca o _ _) rfl rfl hl.1 rfl (Nat.le_of_ble_eq_true rfl) dX11_fewest_106 ⟨Nat.zero_le _, Nat.zero_le _⟩ (fun r7 u7 H locs h7 hP hS _ _ => ?_)
      subst h7
      refine lv_iconst (v := 1) hx hb dX11_fewest_109 (by decide) ?_
      refine lv_icmp_ne (tgt := 117) hx hb dX11_fewest_110 (by decide) (fun q => absurd q (by decide)) (fun _ => ?_)
      refine lv_iload hx hb dX11_fewest_113 (lv_at hl 0 rfl) ?_
      refine lv_istore (lv' := [(4, .int 0), (5, .int 0), (3, .int 0), (0, .ref (o + 0)), (1, .int 0), (2, .int a2)]) hx hb dX11_fewest_115 hl (by decide) rfl (fun ls hl => ?_)
      refine lv_iinc (v := 1) (lv' := [(5, .int 1), (4, .int 0), (3, .int 0), (0, .ref (o + 0)), (1, .int 0), (2, .int a2)]) hx hb dX11_fewest_117 hl (k := 1) rfl (by decide) (by decide) rfl (fun ls hl => ?_)
      refine lv_goto (tgt := 52) hx hb dX11_fewest_120 (by decide) ?_
      have loop8 : ∀ (n i8 : Nat) (x8 : Int32), 1024 < i8 + n → i8 ≤ 1024 → 1 ≤ i8 → x8.toInt = (i8 : Int) → ∀ (H : Heap) (locs : List Loc), qw_P D vwCl o 41 (qG (GM ca o) z4 y) H → va_S (qw_A o 41) s.heap H locs → ∀ (ls : Array Slot), lv_has ls 6 [(5, .int x8), (4, .int 0), (3, .int 0), (0, .ref (o + 0)), (1, .int 0), (2, .int a2)] → W p l e (headSpec (Cond.code yX11_fewest cX11_fewest 6 (some .int) :: qtbl) ({ frames := 5, cells := 0, slots := 0, locals := 147 })).room s m (([.ref (o + 0), .int 0, .int a2] : List Value).toArray) below meth c H locs 0 0 (MQ below (va_Qi (fun r _ => r = A_fewest 0 a2) (qB D vwCl (qT6 ca) o 41 (fun u : qZ => qG (GM ca o) u.1 u.2)) (qw_A o 41)) (([.ref (o + 0), .int 0, .int a2] : List Value).toArray) s 0 0 (qw_A o 41)) (F0 m 52 ls []) := by
        intro n
        induction n with
        | zero => intro i8 x8 hb8 hi8; exact absurd hb8 (by omega)
        | succ n ih =>
          intro i8 x8 hb8 hi8 ho8 hx8 H locs hP hS ls hl
          refine lv_iload hx hb dX11_fewest_52 (lv_at hl 0 rfl) ?_
          refine lv_sipush (v := 1024) hx hb dX11_fewest_54 (by decide) ?_
          refine lv_icmp_ge (tgt := 123) hx hb dX11_fewest_57 (by decide) (fun c9 => ?_) (fun c9 => ?_)
          · have t9 : x8.toInt ≥ (1024 : Int) := gl_le c9
            refine lv_iload_n hx hb dX11_fewest_123 rfl (lv_at hl 5 rfl) ?_
            refine lv_iconst (v := 1) hx hb dX11_fewest_124 (by decide) ?_
            refine lv_icmp_eq (tgt := 135) hx hb dX11_fewest_125 (by decide) (fun c10 => ?_) (fun c10 => ?_)
            · have t10 : a2.toInt = (1 : Int) := gl_eq c10
              refine lv_iload hx hb dX11_fewest_135 (lv_at hl 1 rfl) ?_
              refine lv_goto (tgt := 145) hx hb dX11_fewest_137 (by decide) ?_
              exact W.iret (v := 0) hx hb hr (fun t ht hW => ⟨⟨0, (z4, y), rfl, (ga_p (by omega)), by rw [ht]; exact hP, va_K.moved hW.alike hK⟩, hS.F ht⟩) hS.2.2 dX11_fewest_145
            · have t10 : a2.toInt ≠ (1 : Int) := gl_ne c10
              refine lv_iload hx hb dX11_fewest_128 (lv_at hl 1 rfl) ?_
              refine lv_bipush (v := (-2)) hx hb dX11_fewest_130 (by decide) ?_
              refine lv_icmp_ne (tgt := 140) hx hb dX11_fewest_132 (by decide) (fun _ => ?_) (fun q => absurd q (by decide))
              refine lv_iload hx hb dX11_fewest_140 (lv_at hl 1 rfl) ?_
              refine qc_Si (As := [.int 0]) (rest := []) (k0 := 1) (m1_bits0 l D ca o z4 y) kc_yX11_bits ⟨hx, hb, hml, hown, hts⟩ wq_1296 rfl rfl ⟨Nat.le_of_ble_eq_true rfl, Nat.le_of_ble_eq_true rfl⟩ wq_all hP hK hS qw_Ai rfl hl.1 rfl (Nat.le_of_ble_eq_true rfl) dX11_fewest_142 ⟨Nat.zero_le _, Nat.zero_le _⟩ (fun r11 u11 H locs h11 hP hS _ _ => ?_)
              subst h11
              exact W.iret (v := 0) hx hb hr (fun t ht hW => ⟨⟨0, (z4, y), rfl, (ga_p (by omega)), by rw [ht]; exact hP, va_K.moved hW.alike hK⟩, hS.F ht⟩) hS.2.2 dX11_fewest_145
          · have t9 : x8.toInt < (1024 : Int) := gl_nle c9
            refine lv_iload hx hb dX11_fewest_60 (lv_at hl 0 rfl) ?_
            refine lv_iload_n hx hb dX11_fewest_62 rfl (lv_at hl 2 rfl) ?_
            refine lv_iconst (v := (-1)) hx hb dX11_fewest_63 (by decide) ?_
            refine lv_ixor hx hb dX11_fewest_64 ?_
            refine qtop (x' := (-1)) (by decide) ?_
            refine lv_iand hx hb dX11_fewest_65 ?_
            refine qtop (gi_m1 _) ?_
            refine lv_if_ne (tgt := 117) hx hb dX11_fewest_66 (by decide) (fun _ => ?_) (fun q => absurd q (gr_ne (show x8.toInt ≠ (0 : Int) from by omega)))
            obtain ⟨x12, e12⟩ : ∃ t : Int32, t = x8 + 1 := ⟨_, rfl⟩
            refine lv_iinc (v := x12) (lv' := [(5, .int x12), (4, .int 0), (3, .int 0), (0, .ref (o + 0)), (1, .int 0), (2, .int a2)]) hx hb dX11_fewest_117 hl (k := 0) rfl (by rw [e12]; rfl) (by decide) rfl (fun ls hl => ?_)
            refine lv_goto (tgt := 52) hx hb dX11_fewest_120 (by decide) ?_
            exact ih (i8 + 1) x12 (by omega) (by omega) (by omega) (by rw [e12]; rw [gi_add (by rw [hx8]; show _ ≤ _ + (1 : Int); omega) (by rw [hx8]; show _ + (1 : Int) ≤ _; omega), hx8]; rfl) _ _ hP hS _ (lv_sub hl [0, 1, 2, 3, 4, 5] rfl)
      exact loop8 1025 1 1 (by omega) (by omega) (by omega) rfl _ _ hP hS _ (lv_sub hl [0, 1, 2, 3, 4, 5] rfl)
    · subst h2r
      have t2a : a2.toInt < (0 : Int) ∨ (1 : Int) < a2.toInt := h2a
      refine lv_if_ne (tgt := 19) hx hb dX11_fewest_14 (by decide) (fun q => absurd q (by decide)) (fun _ => ?_)
      refine lv_iconst (v := (-1)) hx hb dX11_fewest_17 (by decide) ?_
      exact W.iret (v := (-1)) hx hb hr (fun t ht hW => ⟨⟨(-1), (z, y), rfl, (ga_n (by omega)), by rw [ht]; exact hP, va_K.moved hW.alike hK⟩, hS.F ht⟩) hS.2.2 dX11_fewest_18
  · subst h1r
    refine lv_if_eq (tgt := 17) hx hb dX11_fewest_5 (by decide) (fun _ => ?_) (fun q => absurd (by decide) q)
    refine lv_iconst (v := (-1)) hx hb dX11_fewest_17 (by decide) ?_
    exact W.iret (v := (-1)) hx hb hr (fun t ht hW => ⟨⟨(-1), (z, y), rfl, (ga_n (by omega)), by rw [ht]; exact hP, va_K.moved hW.alike hK⟩, hS.F ht⟩) hS.2.2 dX11_fewest_18

set_option maxRecDepth 100000 in
set_option maxHeartbeats 4000000 in
theorem mP_offByAYear (l : Launch) (D : va_G) (ca : Nat → ClassId) (o : Nat) (z : Nat → Nat → Int32) (y : Nat → Nat → Int64) (a1 : Int32) (a2 : Int32) (h0_4 : z 0 4 = 0) (h0_5 : z 0 5 = 0) (h0_6 : z 0 6 = 0) (h0_15 : z 0 15 = 0) (h0_61 : z 0 61 = 0) : qM l yX11_offByAYear cX11_offByAYear 7 (some .int) 4 125 (qPre D vwCl (qT6 ca) o 41 (qG (GM ca o) z y) [.ref (o + 0), .int a1, .int a2]) (va_Qi (fun r _ => r = A_offByAYear a1 a2) (qB D vwCl (qT6 ca) o 41 (fun u : qZ => qG (GM ca o) u.1 u.2)) (qw_A o 41)) (qw_A o 41) := by
  refine Met.ofW (cc := cX11_offByAYear) (maxL := 7) (ret := (some .int)) (by decide) rfl ?_
  intro p e s m args below meth c s₁ B hml hv
  obtain ⟨rfl, hP, hK⟩ := hv
  have hx := B.exec
  have hb := B.bytes
  have hr := B.returns
  have hts0 := atoms_spec (ws := Cond.code yX11_offByAYear cX11_offByAYear 7 (some .int) :: qtbl) B.pre
  have hts : ∀ w ∈ qtbl, w.before _ s = true := fun w h => hts0 w (List.mem_cons_of_mem _ h)
  have hown : s.vm.findClass RX11 = some m.cls := findClass_of_methodNamed B.named
  have hlocks := B.notSynchronized
  have hz0 : (0 : Int32).toInt = 0 := rfl
  have hS : va_S (qw_A o 41) s.heap s.heap [] := va_S.rf
  have hl := lv_entry ([.ref (o + 0), .int a1, .int a2]) (n := 7) (Nat.le_of_ble_eq_true rfl)
  rw [lg_entry_eq]
  generalize (lg_sl ([.ref (o + 0), .int a1, .int a2]) ++ List.replicate (7 - (lg_sl ([.ref (o + 0), .int a1, .int a2])).length) Slot.unset).toArray = ls at hl ⊢
  have hl : lv_has ls 7 [(0, .ref (o + 0)), (1, .int a1), (2, .int a2)] := hl
  refine lv_aload_n hx hb dX11_offByAYear_0 rfl (lv_at hl 0 rfl) ?_
  refine lv_iload_n hx hb dX11_offByAYear_1 rfl (lv_at hl 1 rfl) ?_
  refine qc_Vi (As := [.int a1]) (rest := []) (k0 := 1) (m1_areRemarks l D ca o z y a1 (h0_6)) kc_yX11_areRemarks ⟨hx, hb, hml, hown, hts⟩ wq_1324 rfl rfl ⟨Nat.le_of_ble_eq_true rfl, Nat.le_of_ble_eq_true rfl⟩ wq_all hP hK hS qw_Ai (q0 := 0) (by decide) (hgM_0 ca o _ _) rfl rfl hl.1 rfl (Nat.le_of_ble_eq_true rfl) dX11_offByAYear_2 ⟨Nat.zero_le _, Nat.zero_le _⟩ (fun r1 u1 H locs h1 hP hS _ _ => ?_)
  rcases h1 with ⟨h1r, h1a⟩ | ⟨h1r, h1a⟩
  · subst h1r
    obtain rfl : a1 = 0 := gr_eq (y := 0) h1a
    refine lv_if_eq (tgt := 17) hx hb dX11_offByAYear_5 (by decide) (fun q => absurd q (by decide)) (fun _ => ?_)
    refine lv_iload_n hx hb dX11_offByAYear_8 rfl (lv_at hl 2 rfl) ?_
    refine lv_iconst (v := 0) hx hb dX11_offByAYear_9 (by decide) ?_
    refine lv_iconst (v := 1) hx hb dX11_offByAYear_10 (by decide) ?_
    refine qc_Si (As := [.int a2, .int 0, .int 1]) (rest := []) (k0 := 3) (m1_in l D ca o z y a2 0 1) kc_yX11_in ⟨hx, hb, hml, hown, hts⟩ wq_1187 rfl rfl ⟨Nat.le_of_ble_eq_true rfl, Nat.le_of_ble_eq_true rfl⟩ wq_all hP hK hS qw_Ai rfl hl.1 rfl (Nat.le_of_ble_eq_true rfl) dX11_offByAYear_11 ⟨Nat.zero_le _, Nat.zero_le _⟩ (fun r2 u2 H locs h2 hP hS _ _ => ?_)
    rcases h2 with ⟨h2r, h2a, h2b⟩ | ⟨h2r, h2a⟩
    · subst h2r
      have t2a : a2.toInt ≥ (0 : Int) := h2a
      have t2b : a2.toInt ≤ (1 : Int) := h2b
      refine lv_if_ne (tgt := 19) hx hb dX11_offByAYear_14 (by decide) (fun _ => ?_) (fun q => absurd q (by decide))
      refine lv_aload_n hx hb dX11_offByAYear_19 rfl (lv_at hl 0 rfl) ?_
      refine qc_Vi (As := []) (rest := []) (k0 := 0) (m1_rowMany l D ca o z y (h0_4)) kc_yX11_rowMany ⟨hx, hb, hml, hown, hts⟩ wq_1315 rfl rfl ⟨Nat.le_of_ble_eq_true rfl, Nat.le_of_ble_eq_true rfl⟩ wq_all hP hK hS qw_Ai (q0 := 0) (by decide) (hgM_0 ca o _ _) rfl rfl hl.1 rfl (Nat.le_of_ble_eq_true rfl) dX11_offByAYear_20 ⟨Nat.zero_le _, Nat.zero_le _⟩ (fun r3 u3 H locs h3 hP hS _ _ => ?_)
      subst h3
      refine lv_ldcw (v := 200000) hx hb hown (hts _ wq_1319) dX11_offByAYear_23 ?_
      refine lv_icmp_le (tgt := 32) hx hb dX11_offByAYear_26 (by decide) (fun _ => ?_) (fun q => absurd (by decide) q)
      refine lv_bipush (v := (-2)) hx hb dX11_offByAYear_32 (by decide) ?_
      refine lv_istore_n (lv' := [(3, .int ((-2))), (0, .ref (o + 0)), (1, .int 0), (2, .int a2)]) hx hb dX11_offByAYear_34 rfl hl (by decide) rfl (fun ls hl => ?_)
      refine lv_aload_n hx hb dX11_offByAYear_35 rfl (lv_at hl 1 rfl) ?_
      refine qc_Vv (As := []) (rest := []) (k0 := 0) (m1_firstRow l D ca o z y ) kc_yX11_firstRow ⟨hx, hb, hml, hown, hts⟩ wq_1336 rfl rfl ⟨Nat.le_of_ble_eq_true rfl, Nat.le_of_ble_eq_true rfl⟩ wq_all hP hK hS qw_Ai (q0 := 0) (by decide) (hgM_0 ca o _ _) rfl rfl hl.1 rfl (Nat.le_of_ble_eq_true rfl) dX11_offByAYear_36 ⟨Nat.zero_le _, Nat.zero_le _⟩ (fun u4 H locs h4 hP hS _ _ => ?_)
      obtain ⟨z4, y4⟩ := u4
      obtain ⟨h4f, h4y⟩ := h4
      dsimp only at h4f h4y hP
      rw [h4y] at hP
      have f4_0_4 : z4 0 4 = 0 := (congrFun (h4f 0 (by decide)) 4).trans (h0_4)
      have f4_0_5 : z4 0 5 = 0 := (congrFun (h4f 0 (by decide)) 5).trans (h0_5)
      have f4_0_6 : z4 0 6 = 0 := (congrFun (h4f 0 (by decide)) 6).trans (h0_6)
      have f4_0_15 : z4 0 15 = 0 := (congrFun (h4f 0 (by decide)) 15).trans (h0_15)
      have f4_0_61 : z4 0 61 = 0 := (congrFun (h4f 0 (by decide)) 61).trans (h0_61)
      refine lv_iconst (v := 1) hx hb dX11_offByAYear_39 (by decide) ?_
      refine lv_istore (lv' := [(4, .int 1), (3, .int ((-2))), (0, .ref (o + 0)), (1, .int 0), (2, .int a2)]) hx hb dX11_offByAYear_40 hl (by decide) rfl (fun ls hl => ?_)
      refine lv_iload hx hb dX11_offByAYear_42 (lv_at hl 0 rfl) ?_
      refine lv_if_eq (tgt := 120) hx hb dX11_offByAYear_44 (by decide) (fun q => absurd q (by decide)) (fun _ => ?_)
      refine lv_aload_n hx hb dX11_offByAYear_47 rfl (lv_at hl 2 rfl) ?_
      refine lv_iload_n hx hb dX11_offByAYear_48 rfl (lv_at hl 3 rfl) ?_
      refine qc_Vi (As := [.int 0]) (rest := []) (k0 := 1) (m1_offIn l D ca o z4 y) kc_yX11_offIn ⟨hx, hb, hml, hown, hts⟩ wq_1417 rfl rfl ⟨Nat.le_of_ble_eq_true rfl, Nat.le_of_ble_eq_true rfl⟩ wq_all hP hK hS qw_Ai (q0 := 0) (by decide) (hgM_0 ca o _ _) rfl rfl hl.1 rfl (Nat.le_of_ble_eq_true rfl) dX11_offByAYear_49 ⟨Nat.zero_le _, Nat.zero_le _⟩ (fun r5 u5 H locs h5 hP hS _ _ => ?_)
      subst h5
      refine lv_istore (lv' := [(5, .int 0), (4, .int 1), (3, .int ((-2))), (0, .ref (o + 0)), (1, .int 0), (2, .int a2)]) hx hb dX11_offByAYear_52 hl (by decide) rfl (fun ls hl => ?_)
      refine lv_iload hx hb dX11_offByAYear_54 (lv_at hl 0 rfl) ?_
      refine lv_iconst (v := (-1)) hx hb dX11_offByAYear_56 (by decide) ?_
      refine lv_icmp_eq (tgt := 100) hx hb dX11_offByAYear_57 (by decide) (fun q => absurd q (by decide)) (fun _ => ?_)
      refine lv_iload_n hx hb dX11_offByAYear_60 rfl (lv_at hl 2 rfl) ?_
      refine lv_bipush (v := (-2)) hx hb dX11_offByAYear_61 (by decide) ?_
      refine lv_icmp_eq (tgt := 96) hx hb dX11_offByAYear_63 (by decide) (fun _ => ?_) (fun q => absurd (by decide) q)
      refine lv_iconst (v := 1) hx hb dX11_offByAYear_96 (by decide) ?_
      refine lv_goto (tgt := 101) hx hb dX11_offByAYear_97 (by decide) ?_
      refine lv_istore (lv' := [(6, .int 1), (5, .int 0), (4, .int 1), (3, .int ((-2))), (0, .ref (o + 0)), (1, .int 0), (2, .int a2)]) hx hb dX11_offByAYear_101 hl (by decide) rfl (fun ls hl => ?_)
      refine lv_iload hx hb dX11_offByAYear_103 (lv_at hl 0 rfl) ?_
      refine lv_if_eq (tgt := 111) hx hb dX11_offByAYear_105 (by decide) (fun q => absurd q (by decide)) (fun _ => ?_)
      refine lv_iload hx hb dX11_offByAYear_108 (lv_at hl 1 rfl) ?_
      refine lv_istore_n (lv' := [(3, .int 0), (6, .int 1), (5, .int 0), (4, .int 1), (0, .ref (o + 0)), (1, .int 0), (2, .int a2)]) hx hb dX11_offByAYear_110 rfl hl (by decide) rfl (fun ls hl => ?_)
      refine lv_aload_n hx hb dX11_offByAYear_111 rfl (lv_at hl 4 rfl) ?_
      refine qc_Vi (As := []) (rest := []) (k0 := 0) (m1_nextRow l D ca o z4 y (f4_0_4)) kc_yX11_nextRow ⟨hx, hb, hml, hown, hts⟩ wq_1352 rfl rfl ⟨Nat.le_of_ble_eq_true rfl, Nat.le_of_ble_eq_true rfl⟩ wq_all hP hK hS qw_Ai (q0 := 0) (by decide) (hgM_0 ca o _ _) rfl rfl hl.1 rfl (Nat.le_of_ble_eq_true rfl) dX11_offByAYear_112 ⟨Nat.zero_le _, Nat.zero_le _⟩ (fun r6 u6 H locs h6 hP hS _ _ => ?_)
      subst h6
      refine lv_istore (lv' := [(4, .int 0), (3, .int 0), (6, .int 1), (5, .int 0), (0, .ref (o + 0)), (1, .int 0), (2, .int a2)]) hx hb dX11_offByAYear_115 hl (by decide) rfl (fun ls hl => ?_)
      refine lv_goto (tgt := 42) hx hb dX11_offByAYear_117 (by decide) ?_
      refine lv_iload hx hb dX11_offByAYear_42 (lv_at hl 0 rfl) ?_
      refine lv_if_eq (tgt := 120) hx hb dX11_offByAYear_44 (by decide) (fun _ => ?_) (fun q => absurd (by decide) q)
      refine lv_iload_n hx hb dX11_offByAYear_120 rfl (lv_at hl 6 rfl) ?_
      refine lv_iconst (v := 1) hx hb dX11_offByAYear_121 (by decide) ?_
      refine lv_icmp_eq (tgt := 131) hx hb dX11_offByAYear_122 (by decide) (fun c7 => ?_) (fun c7 => ?_)
      · have t7 : a2.toInt = (1 : Int) := gl_eq c7
        refine lv_iload_n hx hb dX11_offByAYear_131 rfl (lv_at hl 1 rfl) ?_
        refine lv_goto (tgt := 139) hx hb dX11_offByAYear_132 (by decide) ?_
        exact W.iret (v := 0) hx hb hr (fun t ht hW => ⟨⟨0, (z4, y), rfl, (ga_p (by omega)), by rw [ht]; exact hP, va_K.moved hW.alike hK⟩, hS.F ht⟩) hS.2.2 dX11_offByAYear_139
      · have t7 : a2.toInt ≠ (1 : Int) := gl_ne c7
        refine lv_iload_n hx hb dX11_offByAYear_125 rfl (lv_at hl 1 rfl) ?_
        refine lv_bipush (v := (-2)) hx hb dX11_offByAYear_126 (by decide) ?_
        refine lv_icmp_ne (tgt := 135) hx hb dX11_offByAYear_128 (by decide) (fun _ => ?_) (fun q => absurd q (by decide))
        refine lv_iload_n hx hb dX11_offByAYear_135 rfl (lv_at hl 1 rfl) ?_
        refine qc_Si (As := [.int 0]) (rest := []) (k0 := 1) (m1_bits0 l D ca o z4 y) kc_yX11_bits ⟨hx, hb, hml, hown, hts⟩ wq_1296 rfl rfl ⟨Nat.le_of_ble_eq_true rfl, Nat.le_of_ble_eq_true rfl⟩ wq_all hP hK hS qw_Ai rfl hl.1 rfl (Nat.le_of_ble_eq_true rfl) dX11_offByAYear_136 ⟨Nat.zero_le _, Nat.zero_le _⟩ (fun r8 u8 H locs h8 hP hS _ _ => ?_)
        subst h8
        exact W.iret (v := 0) hx hb hr (fun t ht hW => ⟨⟨0, (z4, y), rfl, (ga_p (by omega)), by rw [ht]; exact hP, va_K.moved hW.alike hK⟩, hS.F ht⟩) hS.2.2 dX11_offByAYear_139
    · subst h2r
      have t2a : a2.toInt < (0 : Int) ∨ (1 : Int) < a2.toInt := h2a
      refine lv_if_ne (tgt := 19) hx hb dX11_offByAYear_14 (by decide) (fun q => absurd q (by decide)) (fun _ => ?_)
      refine lv_iconst (v := (-1)) hx hb dX11_offByAYear_17 (by decide) ?_
      exact W.iret (v := (-1)) hx hb hr (fun t ht hW => ⟨⟨(-1), (z, y), rfl, (ga_n (by omega)), by rw [ht]; exact hP, va_K.moved hW.alike hK⟩, hS.F ht⟩) hS.2.2 dX11_offByAYear_18
  · subst h1r
    refine lv_if_eq (tgt := 17) hx hb dX11_offByAYear_5 (by decide) (fun _ => ?_) (fun q => absurd (by decide) q)
    refine lv_iconst (v := (-1)) hx hb dX11_offByAYear_17 (by decide) ?_
    exact W.iret (v := (-1)) hx hb hr (fun t ht hW => ⟨⟨(-1), (z, y), rfl, (ga_n (by omega)), by rw [ht]; exact hP, va_K.moved hW.alike hK⟩, hS.F ht⟩) hS.2.2 dX11_offByAYear_18

set_option maxRecDepth 100000 in
set_option maxHeartbeats 4000000 in
theorem mP_known (l : Launch) (D : va_G) (ca : Nat → ClassId) (o : Nat) (z : Nat → Nat → Int32) (y : Nat → Nat → Int64) (a1 : Int32) (a2 : Int32) (h0_4 : z 0 4 = 0) (h0_5 : z 0 5 = 0) (h0_6 : z 0 6 = 0) (h0_15 : z 0 15 = 0) (h0_61 : z 0 61 = 0) : qM l yX11_known cX11_known 5 (some .int) 3 103 (qPre D vwCl (qT6 ca) o 41 (qG (GM ca o) z y) [.ref (o + 0), .int a1, .int a2]) (va_Qi (fun r _ => r = A_known a1 a2) (qB D vwCl (qT6 ca) o 41 (fun u : qZ => qG (GM ca o) u.1 u.2)) (qw_A o 41)) (qw_A o 41) := by
  refine Met.ofW (cc := cX11_known) (maxL := 5) (ret := (some .int)) (by decide) rfl ?_
  intro p e s m args below meth c s₁ B hml hv
  obtain ⟨rfl, hP, hK⟩ := hv
  have hx := B.exec
  have hb := B.bytes
  have hr := B.returns
  have hts0 := atoms_spec (ws := Cond.code yX11_known cX11_known 5 (some .int) :: qtbl) B.pre
  have hts : ∀ w ∈ qtbl, w.before _ s = true := fun w h => hts0 w (List.mem_cons_of_mem _ h)
  have hown : s.vm.findClass RX11 = some m.cls := findClass_of_methodNamed B.named
  have hlocks := B.notSynchronized
  have hz0 : (0 : Int32).toInt = 0 := rfl
  have hS : va_S (qw_A o 41) s.heap s.heap [] := va_S.rf
  have hl := lv_entry ([.ref (o + 0), .int a1, .int a2]) (n := 5) (Nat.le_of_ble_eq_true rfl)
  rw [lg_entry_eq]
  generalize (lg_sl ([.ref (o + 0), .int a1, .int a2]) ++ List.replicate (5 - (lg_sl ([.ref (o + 0), .int a1, .int a2])).length) Slot.unset).toArray = ls at hl ⊢
  have hl : lv_has ls 5 [(0, .ref (o + 0)), (1, .int a1), (2, .int a2)] := hl
  refine lv_aload_n hx hb dX11_known_0 rfl (lv_at hl 0 rfl) ?_
  refine lv_iload_n hx hb dX11_known_1 rfl (lv_at hl 1 rfl) ?_
  refine qc_Vi (As := [.int a1]) (rest := []) (k0 := 1) (m1_areRemarks l D ca o z y a1 (h0_6)) kc_yX11_areRemarks ⟨hx, hb, hml, hown, hts⟩ wq_1324 rfl rfl ⟨Nat.le_of_ble_eq_true rfl, Nat.le_of_ble_eq_true rfl⟩ wq_all hP hK hS qw_Ai (q0 := 0) (by decide) (hgM_0 ca o _ _) rfl rfl hl.1 rfl (Nat.le_of_ble_eq_true rfl) dX11_known_2 ⟨Nat.zero_le _, Nat.zero_le _⟩ (fun r1 u1 H locs h1 hP hS _ _ => ?_)
  rcases h1 with ⟨h1r, h1a⟩ | ⟨h1r, h1a⟩
  · subst h1r
    obtain rfl : a1 = 0 := gr_eq (y := 0) h1a
    refine lv_if_eq (tgt := 16) hx hb dX11_known_5 (by decide) (fun q => absurd q (by decide)) (fun _ => ?_)
    refine lv_aload_n hx hb dX11_known_8 rfl (lv_at hl 0 rfl) ?_
    refine lv_iload_n hx hb dX11_known_9 rfl (lv_at hl 2 rfl) ?_
    refine qc_Vi (As := [.int a2]) (rest := []) (k0 := 1) (m1_isForm l D ca o z y a2 (h0_6)) kc_yX11_isForm ⟨hx, hb, hml, hown, hts⟩ wq_1433 rfl rfl ⟨Nat.le_of_ble_eq_true rfl, Nat.le_of_ble_eq_true rfl⟩ wq_all hP hK hS qw_Ai (q0 := 0) (by decide) (hgM_0 ca o _ _) rfl rfl hl.1 rfl (Nat.le_of_ble_eq_true rfl) dX11_known_10 ⟨Nat.zero_le _, Nat.zero_le _⟩ (fun r2 u2 H locs h2 hP hS _ _ => ?_)
    subst h2
    refine lv_if_ne (tgt := 18) hx hb dX11_known_13 (by decide) (fun q => absurd q (by decide)) (fun _ => ?_)
    refine lv_iconst (v := (-1)) hx hb dX11_known_16 (by decide) ?_
    exact W.iret (v := (-1)) hx hb hr (fun t ht hW => ⟨⟨(-1), (z, y), rfl, rfl, by rw [ht]; exact hP, va_K.moved hW.alike hK⟩, hS.F ht⟩) hS.2.2 dX11_known_17
  · subst h1r
    refine lv_if_eq (tgt := 16) hx hb dX11_known_5 (by decide) (fun _ => ?_) (fun q => absurd (by decide) q)
    refine lv_iconst (v := (-1)) hx hb dX11_known_16 (by decide) ?_
    exact W.iret (v := (-1)) hx hb hr (fun t ht hW => ⟨⟨(-1), (z, y), rfl, rfl, by rw [ht]; exact hP, va_K.moved hW.alike hK⟩, hS.F ht⟩) hS.2.2 dX11_known_17

set_option maxRecDepth 100000 in
set_option maxHeartbeats 4000000 in
theorem mP_sayings (l : Launch) (D : va_G) (ca : Nat → ClassId) (o : Nat) (z : Nat → Nat → Int32) (y : Nat → Nat → Int64) (a1 : Int32) (a2 : Int32) (a3 : Int32) (h0_4 : z 0 4 = 0) (h0_5 : z 0 5 = 0) (h0_6 : z 0 6 = 0) (h0_15 : z 0 15 = 0) (h0_61 : z 0 61 = 0) : qM l yX11_sayings cX11_sayings 6 (some .int) 3 103 (qPre D vwCl (qT6 ca) o 41 (qG (GM ca o) z y) [.ref (o + 0), .int a1, .int a2, .int a3]) (va_Qi (fun r _ => r = A_sayings a1 a2 a3) (qB D vwCl (qT6 ca) o 41 (fun u : qZ => qG (GM ca o) u.1 u.2)) (qw_A o 41)) (qw_A o 41) := by
  refine Met.ofW (cc := cX11_sayings) (maxL := 6) (ret := (some .int)) (by decide) rfl ?_
  intro p e s m args below meth c s₁ B hml hv
  obtain ⟨rfl, hP, hK⟩ := hv
  have hx := B.exec
  have hb := B.bytes
  have hr := B.returns
  have hts0 := atoms_spec (ws := Cond.code yX11_sayings cX11_sayings 6 (some .int) :: qtbl) B.pre
  have hts : ∀ w ∈ qtbl, w.before _ s = true := fun w h => hts0 w (List.mem_cons_of_mem _ h)
  have hown : s.vm.findClass RX11 = some m.cls := findClass_of_methodNamed B.named
  have hlocks := B.notSynchronized
  have hz0 : (0 : Int32).toInt = 0 := rfl
  have hS : va_S (qw_A o 41) s.heap s.heap [] := va_S.rf
  have hl := lv_entry ([.ref (o + 0), .int a1, .int a2, .int a3]) (n := 6) (Nat.le_of_ble_eq_true rfl)
  rw [lg_entry_eq]
  generalize (lg_sl ([.ref (o + 0), .int a1, .int a2, .int a3]) ++ List.replicate (6 - (lg_sl ([.ref (o + 0), .int a1, .int a2, .int a3])).length) Slot.unset).toArray = ls at hl ⊢
  have hl : lv_has ls 6 [(0, .ref (o + 0)), (1, .int a1), (2, .int a2), (3, .int a3)] := hl
  refine lv_aload_n hx hb dX11_sayings_0 rfl (lv_at hl 0 rfl) ?_
  refine lv_iload_n hx hb dX11_sayings_1 rfl (lv_at hl 1 rfl) ?_
  refine qc_Vi (As := [.int a1]) (rest := []) (k0 := 1) (m1_areRemarks l D ca o z y a1 (h0_6)) kc_yX11_areRemarks ⟨hx, hb, hml, hown, hts⟩ wq_1324 rfl rfl ⟨Nat.le_of_ble_eq_true rfl, Nat.le_of_ble_eq_true rfl⟩ wq_all hP hK hS qw_Ai (q0 := 0) (by decide) (hgM_0 ca o _ _) rfl rfl hl.1 rfl (Nat.le_of_ble_eq_true rfl) dX11_sayings_2 ⟨Nat.zero_le _, Nat.zero_le _⟩ (fun r1 u1 H locs h1 hP hS _ _ => ?_)
  rcases h1 with ⟨h1r, h1a⟩ | ⟨h1r, h1a⟩
  · subst h1r
    obtain rfl : a1 = 0 := gr_eq (y := 0) h1a
    refine lv_if_eq (tgt := 40) hx hb dX11_sayings_5 (by decide) (fun q => absurd q (by decide)) (fun _ => ?_)
    refine lv_iload_n hx hb dX11_sayings_8 rfl (lv_at hl 2 rfl) ?_
    refine lv_iconst (v := 1) hx hb dX11_sayings_9 (by decide) ?_
    refine lv_bipush (v := 20) hx hb dX11_sayings_10 (by decide) ?_
    refine qc_Si (As := [.int a2, .int 1, .int 20]) (rest := []) (k0 := 3) (m1_in l D ca o z y a2 1 20) kc_yX11_in ⟨hx, hb, hml, hown, hts⟩ wq_1187 rfl rfl ⟨Nat.le_of_ble_eq_true rfl, Nat.le_of_ble_eq_true rfl⟩ wq_all hP hK hS qw_Ai rfl hl.1 rfl (Nat.le_of_ble_eq_true rfl) dX11_sayings_12 ⟨Nat.zero_le _, Nat.zero_le _⟩ (fun r2 u2 H locs h2 hP hS _ _ => ?_)
    rcases h2 with ⟨h2r, h2a, h2b⟩ | ⟨h2r, h2a⟩
    · subst h2r
      have t2a : a2.toInt ≥ (1 : Int) := h2a
      have t2b : a2.toInt ≤ (20 : Int) := h2b
      refine lv_if_eq (tgt := 40) hx hb dX11_sayings_15 (by decide) (fun q => absurd q (by decide)) (fun _ => ?_)
      refine lv_iload_n hx hb dX11_sayings_18 rfl (lv_at hl 3 rfl) ?_
      refine lv_bipush (v := 100) hx hb dX11_sayings_19 (by decide) ?_
      refine lv_icmp_eq (tgt := 32) hx hb dX11_sayings_21 (by decide) (fun c3 => ?_) (fun c3 => ?_)
      · have t3 : a3.toInt = (100 : Int) := gl_eq c3
        refine lv_iload_n hx hb dX11_sayings_32 rfl (lv_at hl 2 rfl) ?_
        refine lv_aload_n hx hb dX11_sayings_33 rfl (lv_at hl 0 rfl) ?_
        refine qf_get hx hb hts inX11 hown hK hP (q0 := 0) (by decide) (hgM_0 ca o) rfl 15 (by decide) wq_1008 (v := .int (z 0 15)) rfl dX11_sayings_34 ?_
        refine qtop (x' := 0) h0_15 ?_
        refine lv_icmp_le (tgt := 42) hx hb dX11_sayings_37 (by decide) (fun q => absurd q (gr_nle (by show (0 : Int) < a2.toInt; omega))) (fun _ => ?_)
        refine lv_iconst (v := (-1)) hx hb dX11_sayings_40 (by decide) ?_
        exact W.iret (v := (-1)) hx hb hr (fun t ht hW => ⟨⟨(-1), (z, y), rfl, rfl, by rw [ht]; exact hP, va_K.moved hW.alike hK⟩, hS.F ht⟩) hS.2.2 dX11_sayings_41
      · have t3 : a3.toInt ≠ (100 : Int) := gl_ne c3
        refine lv_aload_n hx hb dX11_sayings_24 rfl (lv_at hl 0 rfl) ?_
        refine lv_iload_n hx hb dX11_sayings_25 rfl (lv_at hl 3 rfl) ?_
        refine qc_Vi (As := [.int a3]) (rest := []) (k0 := 1) (m1_isPerson l D ca o z y a3 (h0_4)) kc_yX11_isPerson ⟨hx, hb, hml, hown, hts⟩ wq_1194 rfl rfl ⟨Nat.le_of_ble_eq_true rfl, Nat.le_of_ble_eq_true rfl⟩ wq_all hP hK hS qw_Ai (q0 := 0) (by decide) (hgM_0 ca o _ _) rfl rfl hl.1 rfl (Nat.le_of_ble_eq_true rfl) dX11_sayings_26 ⟨Nat.zero_le _, Nat.zero_le _⟩ (fun r4 u4 H locs h4 hP hS _ _ => ?_)
        subst h4
        refine lv_if_eq (tgt := 40) hx hb dX11_sayings_29 (by decide) (fun _ => ?_) (fun q => absurd (by decide) q)
        refine lv_iconst (v := (-1)) hx hb dX11_sayings_40 (by decide) ?_
        exact W.iret (v := (-1)) hx hb hr (fun t ht hW => ⟨⟨(-1), (z, y), rfl, rfl, by rw [ht]; exact hP, va_K.moved hW.alike hK⟩, hS.F ht⟩) hS.2.2 dX11_sayings_41
    · subst h2r
      have t2a : a2.toInt < (1 : Int) ∨ (20 : Int) < a2.toInt := h2a
      refine lv_if_eq (tgt := 40) hx hb dX11_sayings_15 (by decide) (fun _ => ?_) (fun q => absurd (by decide) q)
      refine lv_iconst (v := (-1)) hx hb dX11_sayings_40 (by decide) ?_
      exact W.iret (v := (-1)) hx hb hr (fun t ht hW => ⟨⟨(-1), (z, y), rfl, rfl, by rw [ht]; exact hP, va_K.moved hW.alike hK⟩, hS.F ht⟩) hS.2.2 dX11_sayings_41
  · subst h1r
    refine lv_if_eq (tgt := 40) hx hb dX11_sayings_5 (by decide) (fun _ => ?_) (fun q => absurd (by decide) q)
    refine lv_iconst (v := (-1)) hx hb dX11_sayings_40 (by decide) ?_
    exact W.iret (v := (-1)) hx hb hr (fun t ht hW => ⟨⟨(-1), (z, y), rfl, rfl, by rw [ht]; exact hP, va_K.moved hW.alike hK⟩, hS.F ht⟩) hS.2.2 dX11_sayings_41

set_option maxRecDepth 100000 in
set_option maxHeartbeats 4000000 in
theorem mP_isTrue (l : Launch) (D : va_G) (ca : Nat → ClassId) (o : Nat) (z : Nat → Nat → Int32) (y : Nat → Nat → Int64) (a1 : Int32) (a2 : Int32) (a3 : Int32) (h0_4 : z 0 4 = 0) (h0_5 : z 0 5 = 0) (h0_6 : z 0 6 = 0) (h0_15 : z 0 15 = 0) (h0_61 : z 0 61 = 0) : qM l yX11_isTrue cX11_isTrue 10 (some .int) 3 103 (qPre D vwCl (qT6 ca) o 41 (qG (GM ca o) z y) [.ref (o + 0), .int a1, .int a2, .int a3]) (va_Qi (fun r _ => r = A_isTrue a1 a2 a3) (qB D vwCl (qT6 ca) o 41 (fun u : qZ => qG (GM ca o) u.1 u.2)) (qw_A o 41)) (qw_A o 41) := by
  refine Met.ofW (cc := cX11_isTrue) (maxL := 10) (ret := (some .int)) (by decide) rfl ?_
  intro p e s m args below meth c s₁ B hml hv
  obtain ⟨rfl, hP, hK⟩ := hv
  have hx := B.exec
  have hb := B.bytes
  have hr := B.returns
  have hts0 := atoms_spec (ws := Cond.code yX11_isTrue cX11_isTrue 10 (some .int) :: qtbl) B.pre
  have hts : ∀ w ∈ qtbl, w.before _ s = true := fun w h => hts0 w (List.mem_cons_of_mem _ h)
  have hown : s.vm.findClass RX11 = some m.cls := findClass_of_methodNamed B.named
  have hlocks := B.notSynchronized
  have hz0 : (0 : Int32).toInt = 0 := rfl
  have hS : va_S (qw_A o 41) s.heap s.heap [] := va_S.rf
  have hl := lv_entry ([.ref (o + 0), .int a1, .int a2, .int a3]) (n := 10) (Nat.le_of_ble_eq_true rfl)
  rw [lg_entry_eq]
  generalize (lg_sl ([.ref (o + 0), .int a1, .int a2, .int a3]) ++ List.replicate (10 - (lg_sl ([.ref (o + 0), .int a1, .int a2, .int a3])).length) Slot.unset).toArray = ls at hl ⊢
  have hl : lv_has ls 10 [(0, .ref (o + 0)), (1, .int a1), (2, .int a2), (3, .int a3)] := hl
  refine lv_aload_n hx hb dX11_isTrue_0 rfl (lv_at hl 0 rfl) ?_
  refine lv_iload_n hx hb dX11_isTrue_1 rfl (lv_at hl 1 rfl) ?_
  refine qc_Vi (As := [.int a1]) (rest := []) (k0 := 1) (m1_areRemarks l D ca o z y a1 (h0_6)) kc_yX11_areRemarks ⟨hx, hb, hml, hown, hts⟩ wq_1324 rfl rfl ⟨Nat.le_of_ble_eq_true rfl, Nat.le_of_ble_eq_true rfl⟩ wq_all hP hK hS qw_Ai (q0 := 0) (by decide) (hgM_0 ca o _ _) rfl rfl hl.1 rfl (Nat.le_of_ble_eq_true rfl) dX11_isTrue_2 ⟨Nat.zero_le _, Nat.zero_le _⟩ (fun r1 u1 H locs h1 hP hS _ _ => ?_)
  rcases h1 with ⟨h1r, h1a⟩ | ⟨h1r, h1a⟩
  · subst h1r
    obtain rfl : a1 = 0 := gr_eq (y := 0) h1a
    refine lv_if_eq (tgt := 25) hx hb dX11_isTrue_5 (by decide) (fun q => absurd q (by decide)) (fun _ => ?_)
    refine lv_aload_n hx hb dX11_isTrue_8 rfl (lv_at hl 0 rfl) ?_
    refine lv_iload_n hx hb dX11_isTrue_9 rfl (lv_at hl 2 rfl) ?_
    refine qc_Vi (As := [.int a2]) (rest := []) (k0 := 1) (m1_isRemark l D ca o z y a2 (h0_6)) kc_yX11_isRemark ⟨hx, hb, hml, hown, hts⟩ wq_1307 rfl rfl ⟨Nat.le_of_ble_eq_true rfl, Nat.le_of_ble_eq_true rfl⟩ wq_all hP hK hS qw_Ai (q0 := 0) (by decide) (hgM_0 ca o _ _) rfl rfl hl.1 rfl (Nat.le_of_ble_eq_true rfl) dX11_isTrue_10 ⟨Nat.zero_le _, Nat.zero_le _⟩ (fun r2 u2 H locs h2 hP hS _ _ => ?_)
    subst h2
    refine lv_if_eq (tgt := 25) hx hb dX11_isTrue_13 (by decide) (fun _ => ?_) (fun q => absurd (by decide) q)
    refine lv_sipush (v := (-204)) hx hb dX11_isTrue_25 (by decide) ?_
    exact W.iret (v := (-204)) hx hb hr (fun t ht hW => ⟨⟨(-204), (z, y), rfl, rfl, by rw [ht]; exact hP, va_K.moved hW.alike hK⟩, hS.F ht⟩) hS.2.2 dX11_isTrue_28
  · subst h1r
    refine lv_if_eq (tgt := 25) hx hb dX11_isTrue_5 (by decide) (fun _ => ?_) (fun q => absurd (by decide) q)
    refine lv_sipush (v := (-204)) hx hb dX11_isTrue_25 (by decide) ?_
    exact W.iret (v := (-204)) hx hb hr (fun t ht hW => ⟨⟨(-204), (z, y), rfl, rfl, by rw [ht]; exact hP, va_K.moved hW.alike hK⟩, hS.F ht⟩) hS.2.2 dX11_isTrue_28

set_option maxRecDepth 100000 in
set_option maxHeartbeats 4000000 in
theorem mP_together (l : Launch) (D : va_G) (ca : Nat → ClassId) (o : Nat) (z : Nat → Nat → Int32) (y : Nat → Nat → Int64) (a1 : Int32) (a2 : Int32) (a3 : Int32) (h0_4 : z 0 4 = 0) (h0_5 : z 0 5 = 0) (h0_6 : z 0 6 = 0) (h0_15 : z 0 15 = 0) (h0_61 : z 0 61 = 0) : qM l yX11_together cX11_together 6 (some .int) 3 103 (qPre D vwCl (qT6 ca) o 41 (qG (GM ca o) z y) [.ref (o + 0), .int a1, .int a2, .int a3]) (va_Qi (fun r _ => r = A_together a1 a2 a3) (qB D vwCl (qT6 ca) o 41 (fun u : qZ => qG (GM ca o) u.1 u.2)) (qw_A o 41)) (qw_A o 41) := by
  refine Met.ofW (cc := cX11_together) (maxL := 6) (ret := (some .int)) (by decide) rfl ?_
  intro p e s m args below meth c s₁ B hml hv
  obtain ⟨rfl, hP, hK⟩ := hv
  have hx := B.exec
  have hb := B.bytes
  have hr := B.returns
  have hts0 := atoms_spec (ws := Cond.code yX11_together cX11_together 6 (some .int) :: qtbl) B.pre
  have hts : ∀ w ∈ qtbl, w.before _ s = true := fun w h => hts0 w (List.mem_cons_of_mem _ h)
  have hown : s.vm.findClass RX11 = some m.cls := findClass_of_methodNamed B.named
  have hlocks := B.notSynchronized
  have hz0 : (0 : Int32).toInt = 0 := rfl
  have hS : va_S (qw_A o 41) s.heap s.heap [] := va_S.rf
  have hl := lv_entry ([.ref (o + 0), .int a1, .int a2, .int a3]) (n := 6) (Nat.le_of_ble_eq_true rfl)
  rw [lg_entry_eq]
  generalize (lg_sl ([.ref (o + 0), .int a1, .int a2, .int a3]) ++ List.replicate (6 - (lg_sl ([.ref (o + 0), .int a1, .int a2, .int a3])).length) Slot.unset).toArray = ls at hl ⊢
  have hl : lv_has ls 6 [(0, .ref (o + 0)), (1, .int a1), (2, .int a2), (3, .int a3)] := hl
  refine lv_aload_n hx hb dX11_together_0 rfl (lv_at hl 0 rfl) ?_
  refine lv_iload_n hx hb dX11_together_1 rfl (lv_at hl 1 rfl) ?_
  refine qc_Vi (As := [.int a1]) (rest := []) (k0 := 1) (m1_areRemarks l D ca o z y a1 (h0_6)) kc_yX11_areRemarks ⟨hx, hb, hml, hown, hts⟩ wq_1324 rfl rfl ⟨Nat.le_of_ble_eq_true rfl, Nat.le_of_ble_eq_true rfl⟩ wq_all hP hK hS qw_Ai (q0 := 0) (by decide) (hgM_0 ca o _ _) rfl rfl hl.1 rfl (Nat.le_of_ble_eq_true rfl) dX11_together_2 ⟨Nat.zero_le _, Nat.zero_le _⟩ (fun r1 u1 H locs h1 hP hS _ _ => ?_)
  rcases h1 with ⟨h1r, h1a⟩ | ⟨h1r, h1a⟩
  · subst h1r
    obtain rfl : a1 = 0 := gr_eq (y := 0) h1a
    refine lv_if_eq (tgt := 51) hx hb dX11_together_5 (by decide) (fun q => absurd q (by decide)) (fun _ => ?_)
    refine lv_aload_n hx hb dX11_together_8 rfl (lv_at hl 0 rfl) ?_
    refine lv_iload_n hx hb dX11_together_9 rfl (lv_at hl 2 rfl) ?_
    refine qc_Vi (As := [.int a2]) (rest := []) (k0 := 1) (m1_isPerson l D ca o z y a2 (h0_4)) kc_yX11_isPerson ⟨hx, hb, hml, hown, hts⟩ wq_1194 rfl rfl ⟨Nat.le_of_ble_eq_true rfl, Nat.le_of_ble_eq_true rfl⟩ wq_all hP hK hS qw_Ai (q0 := 0) (by decide) (hgM_0 ca o _ _) rfl rfl hl.1 rfl (Nat.le_of_ble_eq_true rfl) dX11_together_10 ⟨Nat.zero_le _, Nat.zero_le _⟩ (fun r2 u2 H locs h2 hP hS _ _ => ?_)
    subst h2
    refine lv_if_eq (tgt := 51) hx hb dX11_together_13 (by decide) (fun _ => ?_) (fun q => absurd (by decide) q)
    refine lv_sipush (v := (-4000)) hx hb dX11_together_51 (by decide) ?_
    exact W.iret (v := (-4000)) hx hb hr (fun t ht hW => ⟨⟨(-4000), (z, y), rfl, rfl, by rw [ht]; exact hP, va_K.moved hW.alike hK⟩, hS.F ht⟩) hS.2.2 dX11_together_54
  · subst h1r
    refine lv_if_eq (tgt := 51) hx hb dX11_together_5 (by decide) (fun _ => ?_) (fun q => absurd (by decide) q)
    refine lv_sipush (v := (-4000)) hx hb dX11_together_51 (by decide) ?_
    exact W.iret (v := (-4000)) hx hb hr (fun t ht hW => ⟨⟨(-4000), (z, y), rfl, rfl, by rw [ht]; exact hP, va_K.moved hW.alike hK⟩, hS.F ht⟩) hS.2.2 dX11_together_54

set_option maxRecDepth 100000 in
set_option maxHeartbeats 4000000 in
theorem mP_turned (l : Launch) (D : va_G) (ca : Nat → ClassId) (o : Nat) (z : Nat → Nat → Int32) (y : Nat → Nat → Int64) (a1 : Int32) (a2 : Int32) (a3 : Int32) (a4 : Int32) (h0_4 : z 0 4 = 0) (h0_5 : z 0 5 = 0) (h0_6 : z 0 6 = 0) (h0_15 : z 0 15 = 0) (h0_61 : z 0 61 = 0) : qM l yX11_turned cX11_turned 8 (some .int) 4 125 (qPre D vwCl (qT6 ca) o 41 (qG (GM ca o) z y) [.ref (o + 0), .int a1, .int a2, .int a3, .int a4]) (va_Qi (fun r _ => r = A_turned a1 a2 a3 a4) (qB D vwCl (qT6 ca) o 41 (fun u : qZ => qG (GM ca o) u.1 u.2)) (qw_A o 41)) (qw_A o 41) := by
  refine Met.ofW (cc := cX11_turned) (maxL := 8) (ret := (some .int)) (by decide) rfl ?_
  intro p e s m args below meth c s₁ B hml hv
  obtain ⟨rfl, hP, hK⟩ := hv
  have hx := B.exec
  have hb := B.bytes
  have hr := B.returns
  have hts0 := atoms_spec (ws := Cond.code yX11_turned cX11_turned 8 (some .int) :: qtbl) B.pre
  have hts : ∀ w ∈ qtbl, w.before _ s = true := fun w h => hts0 w (List.mem_cons_of_mem _ h)
  have hown : s.vm.findClass RX11 = some m.cls := findClass_of_methodNamed B.named
  have hlocks := B.notSynchronized
  have hz0 : (0 : Int32).toInt = 0 := rfl
  have hS : va_S (qw_A o 41) s.heap s.heap [] := va_S.rf
  have hl := lv_entry ([.ref (o + 0), .int a1, .int a2, .int a3, .int a4]) (n := 8) (Nat.le_of_ble_eq_true rfl)
  rw [lg_entry_eq]
  generalize (lg_sl ([.ref (o + 0), .int a1, .int a2, .int a3, .int a4]) ++ List.replicate (8 - (lg_sl ([.ref (o + 0), .int a1, .int a2, .int a3, .int a4])).length) Slot.unset).toArray = ls at hl ⊢
  have hl : lv_has ls 8 [(0, .ref (o + 0)), (1, .int a1), (2, .int a2), (3, .int a3), (4, .int a4)] := hl
  refine lv_aload_n hx hb dX11_turned_0 rfl (lv_at hl 0 rfl) ?_
  refine lv_iload_n hx hb dX11_turned_1 rfl (lv_at hl 1 rfl) ?_
  refine qc_Vi (As := [.int a1]) (rest := []) (k0 := 1) (m1_areRemarks l D ca o z y a1 (h0_6)) kc_yX11_areRemarks ⟨hx, hb, hml, hown, hts⟩ wq_1324 rfl rfl ⟨Nat.le_of_ble_eq_true rfl, Nat.le_of_ble_eq_true rfl⟩ wq_all hP hK hS qw_Ai (q0 := 0) (by decide) (hgM_0 ca o _ _) rfl rfl hl.1 rfl (Nat.le_of_ble_eq_true rfl) dX11_turned_2 ⟨Nat.zero_le _, Nat.zero_le _⟩ (fun r1 u1 H locs h1 hP hS _ _ => ?_)
  rcases h1 with ⟨h1r, h1a⟩ | ⟨h1r, h1a⟩
  · subst h1r
    obtain rfl : a1 = 0 := gr_eq (y := 0) h1a
    refine lv_if_eq (tgt := 27) hx hb dX11_turned_5 (by decide) (fun q => absurd q (by decide)) (fun _ => ?_)
    refine lv_aload_n hx hb dX11_turned_8 rfl (lv_at hl 0 rfl) ?_
    refine lv_iload_n hx hb dX11_turned_9 rfl (lv_at hl 2 rfl) ?_
    refine lv_iload_n hx hb dX11_turned_10 rfl (lv_at hl 3 rfl) ?_
    refine qc_Vi (As := [.int a2, .int a3]) (rest := []) (k0 := 2) (m1_areTwo l D ca o z y a2 a3 (h0_4)) kc_yX11_areTwo ⟨hx, hb, hml, hown, hts⟩ wq_1384 rfl rfl ⟨Nat.le_of_ble_eq_true rfl, Nat.le_of_ble_eq_true rfl⟩ wq_all hP hK hS qw_Ai (q0 := 0) (by decide) (hgM_0 ca o _ _) rfl rfl hl.1 rfl (Nat.le_of_ble_eq_true rfl) dX11_turned_11 ⟨Nat.zero_le _, Nat.zero_le _⟩ (fun r2 u2 H locs h2 hP hS _ _ => ?_)
    subst h2
    refine lv_if_eq (tgt := 27) hx hb dX11_turned_14 (by decide) (fun _ => ?_) (fun q => absurd (by decide) q)
    refine lv_iconst (v := (-1)) hx hb dX11_turned_27 (by decide) ?_
    exact W.iret (v := (-1)) hx hb hr (fun t ht hW => ⟨⟨(-1), (z, y), rfl, rfl, by rw [ht]; exact hP, va_K.moved hW.alike hK⟩, hS.F ht⟩) hS.2.2 dX11_turned_28
  · subst h1r
    refine lv_if_eq (tgt := 27) hx hb dX11_turned_5 (by decide) (fun _ => ?_) (fun q => absurd (by decide) q)
    refine lv_iconst (v := (-1)) hx hb dX11_turned_27 (by decide) ?_
    exact W.iret (v := (-1)) hx hb hr (fun t ht hW => ⟨⟨(-1), (z, y), rfl, rfl, by rw [ht]; exact hP, va_K.moved hW.alike hK⟩, hS.F ht⟩) hS.2.2 dX11_turned_28

set_option maxRecDepth 100000 in
set_option maxHeartbeats 4000000 in
theorem mP_squares (l : Launch) (D : va_G) (ca : Nat → ClassId) (o : Nat) (z : Nat → Nat → Int32) (y : Nat → Nat → Int64) (a1 : Int32) (a2 : Int32) (h0_4 : z 0 4 = 0) (h0_5 : z 0 5 = 0) (h0_6 : z 0 6 = 0) (h0_15 : z 0 15 = 0) (h0_61 : z 0 61 = 0) : qM l yX11_squares cX11_squares 5 (some .int) 4 127 (qPre D vwCl (qT6 ca) o 41 (qG (GM ca o) z y) [.ref (o + 0), .int a1, .int a2]) (va_Qi (fun r _ => r = A_squares a1 a2) (qB D vwCl (qT6 ca) o 41 (fun u : qZ => qG (GM ca o) u.1 u.2)) (qw_A o 41)) (qw_A o 41) := by
  refine Met.ofW (cc := cX11_squares) (maxL := 5) (ret := (some .int)) (by decide) rfl ?_
  intro p e s m args below meth c s₁ B hml hv
  obtain ⟨rfl, hP, hK⟩ := hv
  have hx := B.exec
  have hb := B.bytes
  have hr := B.returns
  have hts0 := atoms_spec (ws := Cond.code yX11_squares cX11_squares 5 (some .int) :: qtbl) B.pre
  have hts : ∀ w ∈ qtbl, w.before _ s = true := fun w h => hts0 w (List.mem_cons_of_mem _ h)
  have hown : s.vm.findClass RX11 = some m.cls := findClass_of_methodNamed B.named
  have hlocks := B.notSynchronized
  have hz0 : (0 : Int32).toInt = 0 := rfl
  have hS : va_S (qw_A o 41) s.heap s.heap [] := va_S.rf
  have hl := lv_entry ([.ref (o + 0), .int a1, .int a2]) (n := 5) (Nat.le_of_ble_eq_true rfl)
  rw [lg_entry_eq]
  generalize (lg_sl ([.ref (o + 0), .int a1, .int a2]) ++ List.replicate (5 - (lg_sl ([.ref (o + 0), .int a1, .int a2])).length) Slot.unset).toArray = ls at hl ⊢
  have hl : lv_has ls 5 [(0, .ref (o + 0)), (1, .int a1), (2, .int a2)] := hl
  refine lv_aload_n hx hb dX11_squares_0 rfl (lv_at hl 0 rfl) ?_
  refine lv_iload_n hx hb dX11_squares_1 rfl (lv_at hl 1 rfl) ?_
  refine qc_Vi (As := [.int a1]) (rest := []) (k0 := 1) (m1_areRemarks l D ca o z y a1 (h0_6)) kc_yX11_areRemarks ⟨hx, hb, hml, hown, hts⟩ wq_1324 rfl rfl ⟨Nat.le_of_ble_eq_true rfl, Nat.le_of_ble_eq_true rfl⟩ wq_all hP hK hS qw_Ai (q0 := 0) (by decide) (hgM_0 ca o _ _) rfl rfl hl.1 rfl (Nat.le_of_ble_eq_true rfl) dX11_squares_2 ⟨Nat.zero_le _, Nat.zero_le _⟩ (fun r1 u1 H locs h1 hP hS _ _ => ?_)
  rcases h1 with ⟨h1r, h1a⟩ | ⟨h1r, h1a⟩
  · subst h1r
    obtain rfl : a1 = 0 := gr_eq (y := 0) h1a
    refine lv_if_eq (tgt := 18) hx hb dX11_squares_5 (by decide) (fun q => absurd q (by decide)) (fun _ => ?_)
    refine lv_iload_n hx hb dX11_squares_8 rfl (lv_at hl 2 rfl) ?_
    refine lv_iconst (v := 0) hx hb dX11_squares_9 (by decide) ?_
    refine lv_bipush (v := 100) hx hb dX11_squares_10 (by decide) ?_
    refine qc_Si (As := [.int a2, .int 0, .int 100]) (rest := []) (k0 := 3) (m1_in l D ca o z y a2 0 100) kc_yX11_in ⟨hx, hb, hml, hown, hts⟩ wq_1187 rfl rfl ⟨Nat.le_of_ble_eq_true rfl, Nat.le_of_ble_eq_true rfl⟩ wq_all hP hK hS qw_Ai rfl hl.1 rfl (Nat.le_of_ble_eq_true rfl) dX11_squares_12 ⟨Nat.zero_le _, Nat.zero_le _⟩ (fun r2 u2 H locs h2 hP hS _ _ => ?_)
    rcases h2 with ⟨h2r, h2a, h2b⟩ | ⟨h2r, h2a⟩
    · subst h2r
      have t2a : a2.toInt ≥ (0 : Int) := h2a
      have t2b : a2.toInt ≤ (100 : Int) := h2b
      refine lv_if_ne (tgt := 20) hx hb dX11_squares_15 (by decide) (fun _ => ?_) (fun q => absurd q (by decide))
      refine lv_aload_n hx hb dX11_squares_20 rfl (lv_at hl 0 rfl) ?_
      refine qc_Vi (As := []) (rest := []) (k0 := 0) (m1_rowMany l D ca o z y (h0_4)) kc_yX11_rowMany ⟨hx, hb, hml, hown, hts⟩ wq_1315 rfl rfl ⟨Nat.le_of_ble_eq_true rfl, Nat.le_of_ble_eq_true rfl⟩ wq_all hP hK hS qw_Ai (q0 := 0) (by decide) (hgM_0 ca o _ _) rfl rfl hl.1 rfl (Nat.le_of_ble_eq_true rfl) dX11_squares_21 ⟨Nat.zero_le _, Nat.zero_le _⟩ (fun r3 u3 H locs h3 hP hS _ _ => ?_)
      subst h3
      refine lv_ldcw (v := 200000) hx hb hown (hts _ wq_1319) dX11_squares_24 ?_
      refine lv_icmp_le (tgt := 33) hx hb dX11_squares_27 (by decide) (fun _ => ?_) (fun q => absurd (by decide) q)
      refine lv_aload_n hx hb dX11_squares_33 rfl (lv_at hl 0 rfl) ?_
      refine lv_iload_n hx hb dX11_squares_34 rfl (lv_at hl 1 rfl) ?_
      refine qc_Vi (As := [.int 0]) (rest := []) (k0 := 1) (m1_findsRow l D ca o z y (h0_4)) kc_yX11_findsRow ⟨hx, hb, hml, hown, hts⟩ wq_1332 rfl rfl ⟨Nat.le_of_ble_eq_true rfl, Nat.le_of_ble_eq_true rfl⟩ wq_all hP hK hS qw_Ai (q0 := 0) (by decide) (hgM_0 ca o _ _) rfl rfl hl.1 rfl (Nat.le_of_ble_eq_true rfl) dX11_squares_35 ⟨Nat.zero_le _, Nat.zero_le _⟩ (fun r4 u4 H locs h4 hP hS _ _ => ?_)
      obtain ⟨z4, y4⟩ := u4
      obtain ⟨h4r, h4f, h4y⟩ := h4
      dsimp only at h4f h4y hP
      subst h4r
      rw [h4y] at hP
      have f4_0_4 : z4 0 4 = 0 := (congrFun (h4f 0 (by decide)) 4).trans (h0_4)
      have f4_0_5 : z4 0 5 = 0 := (congrFun (h4f 0 (by decide)) 5).trans (h0_5)
      have f4_0_6 : z4 0 6 = 0 := (congrFun (h4f 0 (by decide)) 6).trans (h0_6)
      have f4_0_15 : z4 0 15 = 0 := (congrFun (h4f 0 (by decide)) 15).trans (h0_15)
      have f4_0_61 : z4 0 61 = 0 := (congrFun (h4f 0 (by decide)) 61).trans (h0_61)
      refine lv_if_ne (tgt := 44) hx hb dX11_squares_38 (by decide) (fun _ => ?_) (fun q => absurd q (by decide))
      refine lv_iload_n hx hb dX11_squares_44 rfl (lv_at hl 2 rfl) ?_
      refine lv_bipush (v := 100) hx hb dX11_squares_45 (by decide) ?_
      refine lv_icmp_ge (tgt := 56) hx hb dX11_squares_47 (by decide) (fun c5 => ?_) (fun c5 => ?_)
      · have t5 : a2.toInt ≥ (100 : Int) := gl_le c5
        refine lv_iconst (v := 0) hx hb dX11_squares_56 (by decide) ?_
        refine lv_istore_n (lv' := [(3, .int 0), (0, .ref (o + 0)), (1, .int 0), (2, .int a2)]) hx hb dX11_squares_57 rfl hl (by decide) rfl (fun ls hl => ?_)
        refine lv_iconst (v := 1) hx hb dX11_squares_58 (by decide) ?_
        refine lv_istore (lv' := [(4, .int 1), (3, .int 0), (0, .ref (o + 0)), (1, .int 0), (2, .int a2)]) hx hb dX11_squares_59 hl (by decide) rfl (fun ls hl => ?_)
        have loop6 : ∀ (n i6 : Nat) (x6 : Int32), 100 < i6 + n → i6 ≤ 100 → 1 ≤ i6 → x6.toInt = (i6 : Int) → ∀ (H : Heap) (locs : List Loc), qw_P D vwCl o 41 (qG (GM ca o) z4 y) H → va_S (qw_A o 41) s.heap H locs → ∀ (ls : Array Slot), lv_has ls 5 [(4, .int x6), (3, .int 0), (0, .ref (o + 0)), (1, .int 0), (2, .int a2)] → W p l e (headSpec (Cond.code yX11_squares cX11_squares 5 (some .int) :: qtbl) ({ frames := 4, cells := 0, slots := 0, locals := 127 })).room s m (([.ref (o + 0), .int 0, .int a2] : List Value).toArray) below meth c H locs 0 0 (MQ below (va_Qi (fun r _ => r = A_squares 0 a2) (qB D vwCl (qT6 ca) o 41 (fun u : qZ => qG (GM ca o) u.1 u.2)) (qw_A o 41)) (([.ref (o + 0), .int 0, .int a2] : List Value).toArray) s 0 0 (qw_A o 41)) (F0 m 61 ls []) := by
          intro n
          induction n with
          | zero => intro i6 x6 hb6 hi6; exact absurd hb6 (by omega)
          | succ n ih =>
            intro i6 x6 hb6 hi6 ho6 hx6 H locs hP hS ls hl
            refine lv_iload hx hb dX11_squares_61 (lv_at hl 0 rfl) ?_
            refine lv_bipush (v := 100) hx hb dX11_squares_63 (by decide) ?_
            refine lv_icmp_ge (tgt := 91) hx hb dX11_squares_65 (by decide) (fun c7 => ?_) (fun c7 => ?_)
            · have t7 : x6.toInt ≥ (100 : Int) := gl_le c7
              refine lv_iload_n hx hb dX11_squares_91 rfl (lv_at hl 1 rfl) ?_
              exact W.iret (v := 0) hx hb hr (fun t ht hW => ⟨⟨0, (z4, y), rfl, (ga_p (by omega)), by rw [ht]; exact hP, va_K.moved hW.alike hK⟩, hS.F ht⟩) hS.2.2 dX11_squares_92
            · have t7 : x6.toInt < (100 : Int) := gl_nle c7
              refine lv_aload_n hx hb dX11_squares_68 rfl (lv_at hl 2 rfl) ?_
              refine lv_iload hx hb dX11_squares_69 (lv_at hl 0 rfl) ?_
              refine qc_Vi (As := [.int x6]) (rest := []) (k0 := 1) (m1_squaresIn l D ca o z4 y x6 (f4_0_4)) kc_yX11_squaresIn ⟨hx, hb, hml, hown, hts⟩ wq_1511 rfl rfl ⟨Nat.le_of_ble_eq_true rfl, Nat.le_of_ble_eq_true rfl⟩ wq_all hP hK hS qw_Ai (q0 := 0) (by decide) (hgM_0 ca o _ _) rfl rfl hl.1 rfl (Nat.le_of_ble_eq_true rfl) dX11_squares_71 ⟨Nat.zero_le _, Nat.zero_le _⟩ (fun r8 u8 H locs h8 hP hS _ _ => ?_)
              subst h8
              refine lv_aload_n hx hb dX11_squares_74 rfl (lv_at hl 2 rfl) ?_
              refine lv_iload_n hx hb dX11_squares_75 rfl (lv_at hl 1 rfl) ?_
              refine qc_Vi (As := [.int 0]) (rest := [.int 0]) (k0 := 1) (m1_squaresIn l D ca o z4 y 0 (f4_0_4)) kc_yX11_squaresIn ⟨hx, hb, hml, hown, hts⟩ wq_1511 rfl rfl ⟨Nat.le_of_ble_eq_true rfl, Nat.le_of_ble_eq_true rfl⟩ wq_all hP hK hS qw_Ai (q0 := 0) (by decide) (hgM_0 ca o _ _) rfl rfl hl.1 rfl (Nat.le_of_ble_eq_true rfl) dX11_squares_76 ⟨Nat.zero_le _, Nat.zero_le _⟩ (fun r9 u9 H locs h9 hP hS _ _ => ?_)
              subst h9
              refine lv_icmp_le (tgt := 85) hx hb dX11_squares_79 (by decide) (fun _ => ?_) (fun q => absurd (by decide) q)
              obtain ⟨x10, e10⟩ : ∃ t : Int32, t = x6 + 1 := ⟨_, rfl⟩
              refine lv_iinc (v := x10) (lv' := [(4, .int x10), (3, .int 0), (0, .ref (o + 0)), (1, .int 0), (2, .int a2)]) hx hb dX11_squares_85 hl (k := 0) rfl (by rw [e10]; rfl) (by decide) rfl (fun ls hl => ?_)
              refine lv_goto (tgt := 61) hx hb dX11_squares_88 (by decide) ?_
              exact ih (i6 + 1) x10 (by omega) (by omega) (by omega) (by rw [e10]; rw [gi_add (by rw [hx6]; show _ ≤ _ + (1 : Int); omega) (by rw [hx6]; show _ + (1 : Int) ≤ _; omega), hx6]; rfl) _ _ hP hS _ (lv_sub hl [0, 1, 2, 3, 4] rfl)
        exact loop6 101 1 1 (by omega) (by omega) (by omega) rfl _ _ hP hS _ (lv_sub hl [0, 1, 2, 3, 4] rfl)
      · have t5 : a2.toInt < (100 : Int) := gl_nle c5
        refine lv_aload_n hx hb dX11_squares_50 rfl (lv_at hl 0 rfl) ?_
        refine lv_iload_n hx hb dX11_squares_51 rfl (lv_at hl 2 rfl) ?_
        refine qc_Vi (As := [.int a2]) (rest := []) (k0 := 1) (m1_squaresIn l D ca o z4 y a2 (f4_0_4)) kc_yX11_squaresIn ⟨hx, hb, hml, hown, hts⟩ wq_1511 rfl rfl ⟨Nat.le_of_ble_eq_true rfl, Nat.le_of_ble_eq_true rfl⟩ wq_all hP hK hS qw_Ai (q0 := 0) (by decide) (hgM_0 ca o _ _) rfl rfl hl.1 rfl (Nat.le_of_ble_eq_true rfl) dX11_squares_52 ⟨Nat.zero_le _, Nat.zero_le _⟩ (fun r11 u11 H locs h11 hP hS _ _ => ?_)
        subst h11
        exact W.iret (v := 0) hx hb hr (fun t ht hW => ⟨⟨0, (z4, y), rfl, (ga_p (by omega)), by rw [ht]; exact hP, va_K.moved hW.alike hK⟩, hS.F ht⟩) hS.2.2 dX11_squares_55
    · subst h2r
      have t2a : a2.toInt < (0 : Int) ∨ (100 : Int) < a2.toInt := h2a
      refine lv_if_ne (tgt := 20) hx hb dX11_squares_15 (by decide) (fun q => absurd q (by decide)) (fun _ => ?_)
      refine lv_iconst (v := (-1)) hx hb dX11_squares_18 (by decide) ?_
      exact W.iret (v := (-1)) hx hb hr (fun t ht hW => ⟨⟨(-1), (z, y), rfl, (ga_n (by omega)), by rw [ht]; exact hP, va_K.moved hW.alike hK⟩, hS.F ht⟩) hS.2.2 dX11_squares_19
  · subst h1r
    refine lv_if_eq (tgt := 18) hx hb dX11_squares_5 (by decide) (fun _ => ?_) (fun q => absurd (by decide) q)
    refine lv_iconst (v := (-1)) hx hb dX11_squares_18 (by decide) ?_
    exact W.iret (v := (-1)) hx hb hr (fun t ht hW => ⟨⟨(-1), (z, y), rfl, (ga_n (by omega)), by rw [ht]; exact hP, va_K.moved hW.alike hK⟩, hS.F ht⟩) hS.2.2 dX11_squares_19

set_option maxRecDepth 100000 in
set_option maxHeartbeats 4000000 in
theorem mP_when (l : Launch) (D : va_G) (ca : Nat → ClassId) (o : Nat) (z : Nat → Nat → Int32) (y : Nat → Nat → Int64) (a1 : Int32) (a2 : Int32) (a3 : Int32) (a4 : Int32) (h0_4 : z 0 4 = 0) (h0_5 : z 0 5 = 0) (h0_6 : z 0 6 = 0) (h0_15 : z 0 15 = 0) (h0_61 : z 0 61 = 0) : qM l yX11_when cX11_when 5 (some .int) 3 103 (qPre D vwCl (qT6 ca) o 41 (qG (GM ca o) z y) [.ref (o + 0), .int a1, .int a2, .int a3, .int a4]) (va_Qi (fun r _ => r = A_when a1 a2 a3 a4) (qB D vwCl (qT6 ca) o 41 (fun u : qZ => qG (GM ca o) u.1 u.2)) (qw_A o 41)) (qw_A o 41) := by
  refine Met.ofW (cc := cX11_when) (maxL := 5) (ret := (some .int)) (by decide) rfl ?_
  intro p e s m args below meth c s₁ B hml hv
  obtain ⟨rfl, hP, hK⟩ := hv
  have hx := B.exec
  have hb := B.bytes
  have hr := B.returns
  have hts0 := atoms_spec (ws := Cond.code yX11_when cX11_when 5 (some .int) :: qtbl) B.pre
  have hts : ∀ w ∈ qtbl, w.before _ s = true := fun w h => hts0 w (List.mem_cons_of_mem _ h)
  have hown : s.vm.findClass RX11 = some m.cls := findClass_of_methodNamed B.named
  have hlocks := B.notSynchronized
  have hz0 : (0 : Int32).toInt = 0 := rfl
  have hS : va_S (qw_A o 41) s.heap s.heap [] := va_S.rf
  have hl := lv_entry ([.ref (o + 0), .int a1, .int a2, .int a3, .int a4]) (n := 5) (Nat.le_of_ble_eq_true rfl)
  rw [lg_entry_eq]
  generalize (lg_sl ([.ref (o + 0), .int a1, .int a2, .int a3, .int a4]) ++ List.replicate (5 - (lg_sl ([.ref (o + 0), .int a1, .int a2, .int a3, .int a4])).length) Slot.unset).toArray = ls at hl ⊢
  have hl : lv_has ls 5 [(0, .ref (o + 0)), (1, .int a1), (2, .int a2), (3, .int a3), (4, .int a4)] := hl
  refine lv_aload_n hx hb dX11_when_0 rfl (lv_at hl 0 rfl) ?_
  refine lv_iload_n hx hb dX11_when_1 rfl (lv_at hl 1 rfl) ?_
  refine qc_Vi (As := [.int a1]) (rest := []) (k0 := 1) (m1_areRemarks l D ca o z y a1 (h0_6)) kc_yX11_areRemarks ⟨hx, hb, hml, hown, hts⟩ wq_1324 rfl rfl ⟨Nat.le_of_ble_eq_true rfl, Nat.le_of_ble_eq_true rfl⟩ wq_all hP hK hS qw_Ai (q0 := 0) (by decide) (hgM_0 ca o _ _) rfl rfl hl.1 rfl (Nat.le_of_ble_eq_true rfl) dX11_when_2 ⟨Nat.zero_le _, Nat.zero_le _⟩ (fun r1 u1 H locs h1 hP hS _ _ => ?_)
  rcases h1 with ⟨h1r, h1a⟩ | ⟨h1r, h1a⟩
  · subst h1r
    obtain rfl : a1 = 0 := gr_eq (y := 0) h1a
    refine lv_if_eq (tgt := 36) hx hb dX11_when_5 (by decide) (fun q => absurd q (by decide)) (fun _ => ?_)
    refine lv_aload_n hx hb dX11_when_8 rfl (lv_at hl 0 rfl) ?_
    refine lv_iload_n hx hb dX11_when_9 rfl (lv_at hl 2 rfl) ?_
    refine qc_Vi (As := [.int a2]) (rest := []) (k0 := 1) (m1_isPerson l D ca o z y a2 (h0_4)) kc_yX11_isPerson ⟨hx, hb, hml, hown, hts⟩ wq_1194 rfl rfl ⟨Nat.le_of_ble_eq_true rfl, Nat.le_of_ble_eq_true rfl⟩ wq_all hP hK hS qw_Ai (q0 := 0) (by decide) (hgM_0 ca o _ _) rfl rfl hl.1 rfl (Nat.le_of_ble_eq_true rfl) dX11_when_10 ⟨Nat.zero_le _, Nat.zero_le _⟩ (fun r2 u2 H locs h2 hP hS _ _ => ?_)
    subst h2
    refine lv_if_eq (tgt := 36) hx hb dX11_when_13 (by decide) (fun _ => ?_) (fun q => absurd (by decide) q)
    refine lv_sipush (v := (-4000)) hx hb dX11_when_36 (by decide) ?_
    exact W.iret (v := (-4000)) hx hb hr (fun t ht hW => ⟨⟨(-4000), (z, y), rfl, rfl, by rw [ht]; exact hP, va_K.moved hW.alike hK⟩, hS.F ht⟩) hS.2.2 dX11_when_39
  · subst h1r
    refine lv_if_eq (tgt := 36) hx hb dX11_when_5 (by decide) (fun _ => ?_) (fun q => absurd (by decide) q)
    refine lv_sipush (v := (-4000)) hx hb dX11_when_36 (by decide) ?_
    exact W.iret (v := (-4000)) hx hb hr (fun t ht hW => ⟨⟨(-4000), (z, y), rfl, rfl, by rw [ht]; exact hP, va_K.moved hW.alike hK⟩, hS.F ht⟩) hS.2.2 dX11_when_39

set_option maxRecDepth 100000 in
set_option maxHeartbeats 4000000 in
theorem mP_whoIsWho (l : Launch) (D : va_G) (ca : Nat → ClassId) (o : Nat) (z : Nat → Nat → Int32) (y : Nat → Nat → Int64) (a1 : Int32) (a2 : Int32) (a3 : Int32) (a4 : Int32) (h0_4 : z 0 4 = 0) (h0_5 : z 0 5 = 0) (h0_6 : z 0 6 = 0) (h0_15 : z 0 15 = 0) (h0_61 : z 0 61 = 0) : qM l yX11_whoIsWho cX11_whoIsWho 12 (some .int) 2 82 (qPre D vwCl (qT6 ca) o 41 (qG (GM ca o) z y) [.ref (o + 0), .int a1, .int a2, .int a3, .int a4]) (va_Qi (fun r _ => r = A_whoIsWho a1 a2 a3 a4) (qB D vwCl (qT6 ca) o 41 (fun u : qZ => qG (GM ca o) u.1 u.2)) (qw_A o 41)) (qw_A o 41) := by
  refine Met.ofW (cc := cX11_whoIsWho) (maxL := 12) (ret := (some .int)) (by decide) rfl ?_
  intro p e s m args below meth c s₁ B hml hv
  obtain ⟨rfl, hP, hK⟩ := hv
  have hx := B.exec
  have hb := B.bytes
  have hr := B.returns
  have hts0 := atoms_spec (ws := Cond.code yX11_whoIsWho cX11_whoIsWho 12 (some .int) :: qtbl) B.pre
  have hts : ∀ w ∈ qtbl, w.before _ s = true := fun w h => hts0 w (List.mem_cons_of_mem _ h)
  have hown : s.vm.findClass RX11 = some m.cls := findClass_of_methodNamed B.named
  have hlocks := B.notSynchronized
  have hz0 : (0 : Int32).toInt = 0 := rfl
  have hS : va_S (qw_A o 41) s.heap s.heap [] := va_S.rf
  have hl := lv_entry ([.ref (o + 0), .int a1, .int a2, .int a3, .int a4]) (n := 12) (Nat.le_of_ble_eq_true rfl)
  rw [lg_entry_eq]
  generalize (lg_sl ([.ref (o + 0), .int a1, .int a2, .int a3, .int a4]) ++ List.replicate (12 - (lg_sl ([.ref (o + 0), .int a1, .int a2, .int a3, .int a4])).length) Slot.unset).toArray = ls at hl ⊢
  have hl : lv_has ls 12 [(0, .ref (o + 0)), (1, .int a1), (2, .int a2), (3, .int a3), (4, .int a4)] := hl
  refine lv_iload_n hx hb dX11_whoIsWho_0 rfl (lv_at hl 1 rfl) ?_
  refine lv_iconst (v := 2) hx hb dX11_whoIsWho_1 (by decide) ?_
  refine lv_bipush (v := 6) hx hb dX11_whoIsWho_2 (by decide) ?_
  refine qc_Si (As := [.int a1, .int 2, .int 6]) (rest := []) (k0 := 3) (m1_in l D ca o z y a1 2 6) kc_yX11_in ⟨hx, hb, hml, hown, hts⟩ wq_1187 rfl rfl ⟨Nat.le_of_ble_eq_true rfl, Nat.le_of_ble_eq_true rfl⟩ wq_all hP hK hS qw_Ai rfl hl.1 rfl (Nat.le_of_ble_eq_true rfl) dX11_whoIsWho_4 ⟨Nat.zero_le _, Nat.zero_le _⟩ (fun r1 u1 H locs h1 hP hS _ _ => ?_)
  rcases h1 with ⟨h1r, h1a, h1b⟩ | ⟨h1r, h1a⟩
  · subst h1r
    have t1a : a1.toInt ≥ (2 : Int) := h1a
    have t1b : a1.toInt ≤ (6 : Int) := h1b
    refine lv_if_eq (tgt := 75) hx hb dX11_whoIsWho_7 (by decide) (fun q => absurd q (by decide)) (fun _ => ?_)
    refine lv_iload_n hx hb dX11_whoIsWho_10 rfl (lv_at hl 2 rfl) ?_
    refine lv_if_lt (tgt := 75) hx hb dX11_whoIsWho_11 (by decide) (fun c2 => ?_) (fun c2 => ?_)
    · have t2 : a2.toInt < (0 : Int) := gl_lt c2
      refine lv_iconst (v := (-1)) hx hb dX11_whoIsWho_75 (by decide) ?_
      exact W.iret (v := (-1)) hx hb hr (fun t ht hW => ⟨⟨(-1), (z, y), rfl, rfl, by rw [ht]; exact hP, va_K.moved hW.alike hK⟩, hS.F ht⟩) hS.2.2 dX11_whoIsWho_76
    · have t2 : a2.toInt ≥ (0 : Int) := gl_nlt c2
      refine lv_iload_n hx hb dX11_whoIsWho_14 rfl (lv_at hl 2 rfl) ?_
      refine lv_aload_n hx hb dX11_whoIsWho_15 rfl (lv_at hl 0 rfl) ?_
      refine qf_get hx hb hts inX11 hown hK hP (q0 := 0) (by decide) (hgM_0 ca o) rfl 4 (by decide) wq_997 (v := .int (z 0 4)) rfl dX11_whoIsWho_16 ?_
      refine qtop (x' := 0) h0_4 ?_
      refine lv_iconst (v := (-1)) hx hb dX11_whoIsWho_19 (by decide) ?_
      refine lv_ixor hx hb dX11_whoIsWho_20 ?_
      refine qtop (x' := (-1)) (by decide) ?_
      refine lv_iand hx hb dX11_whoIsWho_21 ?_
      refine qtop (gi_m1 _) ?_
      refine lv_if_ne (tgt := 75) hx hb dX11_whoIsWho_22 (by decide) (fun c3 => ?_) (fun c3 => ?_)
      · have t3 : a2.toInt ≠ (0 : Int) := gl_ne c3
        refine lv_iconst (v := (-1)) hx hb dX11_whoIsWho_75 (by decide) ?_
        exact W.iret (v := (-1)) hx hb hr (fun t ht hW => ⟨⟨(-1), (z, y), rfl, rfl, by rw [ht]; exact hP, va_K.moved hW.alike hK⟩, hS.F ht⟩) hS.2.2 dX11_whoIsWho_76
      · have t3 : a2.toInt = (0 : Int) := gl_eq c3
        obtain rfl : a2 = 0 := gr_eq (y := 0) t3
        refine lv_iload_n hx hb dX11_whoIsWho_25 rfl (lv_at hl 2 rfl) ?_
        refine qc_Si (As := [.int 0]) (rest := []) (k0 := 1) (m1_bits0 l D ca o z y) kc_yX11_bits ⟨hx, hb, hml, hown, hts⟩ wq_1296 rfl rfl ⟨Nat.le_of_ble_eq_true rfl, Nat.le_of_ble_eq_true rfl⟩ wq_all hP hK hS qw_Ai rfl hl.1 rfl (Nat.le_of_ble_eq_true rfl) dX11_whoIsWho_26 ⟨Nat.zero_le _, Nat.zero_le _⟩ (fun r4 u4 H locs h4 hP hS _ _ => ?_)
        subst h4
        refine lv_iload_n hx hb dX11_whoIsWho_29 rfl (lv_at hl 1 rfl) ?_
        refine lv_icmp_ne (tgt := 75) hx hb dX11_whoIsWho_30 (by decide) (fun _ => ?_) (fun q => absurd q (gr_ne (by show (0 : Int) ≠ a1.toInt; omega)))
        refine lv_iconst (v := (-1)) hx hb dX11_whoIsWho_75 (by decide) ?_
        exact W.iret (v := (-1)) hx hb hr (fun t ht hW => ⟨⟨(-1), (z, y), rfl, rfl, by rw [ht]; exact hP, va_K.moved hW.alike hK⟩, hS.F ht⟩) hS.2.2 dX11_whoIsWho_76
  · subst h1r
    have t1a : a1.toInt < (2 : Int) ∨ (6 : Int) < a1.toInt := h1a
    refine lv_if_eq (tgt := 75) hx hb dX11_whoIsWho_7 (by decide) (fun _ => ?_) (fun q => absurd (by decide) q)
    refine lv_iconst (v := (-1)) hx hb dX11_whoIsWho_75 (by decide) ?_
    exact W.iret (v := (-1)) hx hb hr (fun t ht hW => ⟨⟨(-1), (z, y), rfl, rfl, by rw [ht]; exact hP, va_K.moved hW.alike hK⟩, hS.F ht⟩) hS.2.2 dX11_whoIsWho_76

set_option maxRecDepth 100000 in
set_option maxHeartbeats 4000000 in
theorem mP_asks (l : Launch) (D : va_G) (ca : Nat → ClassId) (o : Nat) (z : Nat → Nat → Int32) (y : Nat → Nat → Int64) (a1 : Int32) (a2 : Int32) (h0_4 : z 0 4 = 0) (h0_5 : z 0 5 = 0) (h0_6 : z 0 6 = 0) (h0_15 : z 0 15 = 0) (h0_61 : z 0 61 = 0) : qM l yX11_asks cX11_asks 9 (some .int) 5 147 (qPre D vwCl (qT6 ca) o 41 (qG (GM ca o) z y) [.ref (o + 0), .int a1, .int a2]) (va_Qi (fun r _ => r = A_asks a1 a2) (qB D vwCl (qT6 ca) o 41 (fun u : qZ => qG (GM ca o) u.1 u.2)) (qw_A o 41)) (qw_A o 41) := by
  refine Met.ofW (cc := cX11_asks) (maxL := 9) (ret := (some .int)) (by decide) rfl ?_
  intro p e s m args below meth c s₁ B hml hv
  obtain ⟨rfl, hP, hK⟩ := hv
  have hx := B.exec
  have hb := B.bytes
  have hr := B.returns
  have hts0 := atoms_spec (ws := Cond.code yX11_asks cX11_asks 9 (some .int) :: qtbl) B.pre
  have hts : ∀ w ∈ qtbl, w.before _ s = true := fun w h => hts0 w (List.mem_cons_of_mem _ h)
  have hown : s.vm.findClass RX11 = some m.cls := findClass_of_methodNamed B.named
  have hlocks := B.notSynchronized
  have hz0 : (0 : Int32).toInt = 0 := rfl
  have hS : va_S (qw_A o 41) s.heap s.heap [] := va_S.rf
  have hl := lv_entry ([.ref (o + 0), .int a1, .int a2]) (n := 9) (Nat.le_of_ble_eq_true rfl)
  rw [lg_entry_eq]
  generalize (lg_sl ([.ref (o + 0), .int a1, .int a2]) ++ List.replicate (9 - (lg_sl ([.ref (o + 0), .int a1, .int a2])).length) Slot.unset).toArray = ls at hl ⊢
  have hl : lv_has ls 9 [(0, .ref (o + 0)), (1, .int a1), (2, .int a2)] := hl
  refine lv_aload_n hx hb dX11_asks_0 rfl (lv_at hl 0 rfl) ?_
  refine lv_iload_n hx hb dX11_asks_1 rfl (lv_at hl 1 rfl) ?_
  refine qc_Vi (As := [.int a1]) (rest := []) (k0 := 1) (m1_areRemarks l D ca o z y a1 (h0_6)) kc_yX11_areRemarks ⟨hx, hb, hml, hown, hts⟩ wq_1324 rfl rfl ⟨Nat.le_of_ble_eq_true rfl, Nat.le_of_ble_eq_true rfl⟩ wq_all hP hK hS qw_Ai (q0 := 0) (by decide) (hgM_0 ca o _ _) rfl rfl hl.1 rfl (Nat.le_of_ble_eq_true rfl) dX11_asks_2 ⟨Nat.zero_le _, Nat.zero_le _⟩ (fun r1 u1 H locs h1 hP hS _ _ => ?_)
  rcases h1 with ⟨h1r, h1a⟩ | ⟨h1r, h1a⟩
  · subst h1r
    obtain rfl : a1 = 0 := gr_eq (y := 0) h1a
    refine lv_if_eq (tgt := 17) hx hb dX11_asks_5 (by decide) (fun q => absurd q (by decide)) (fun _ => ?_)
    refine lv_iload_n hx hb dX11_asks_8 rfl (lv_at hl 2 rfl) ?_
    refine lv_iconst (v := 0) hx hb dX11_asks_9 (by decide) ?_
    refine lv_iconst (v := 2) hx hb dX11_asks_10 (by decide) ?_
    refine qc_Si (As := [.int a2, .int 0, .int 2]) (rest := []) (k0 := 3) (m1_in l D ca o z y a2 0 2) kc_yX11_in ⟨hx, hb, hml, hown, hts⟩ wq_1187 rfl rfl ⟨Nat.le_of_ble_eq_true rfl, Nat.le_of_ble_eq_true rfl⟩ wq_all hP hK hS qw_Ai rfl hl.1 rfl (Nat.le_of_ble_eq_true rfl) dX11_asks_11 ⟨Nat.zero_le _, Nat.zero_le _⟩ (fun r2 u2 H locs h2 hP hS _ _ => ?_)
    rcases h2 with ⟨h2r, h2a, h2b⟩ | ⟨h2r, h2a⟩
    · subst h2r
      have t2a : a2.toInt ≥ (0 : Int) := h2a
      have t2b : a2.toInt ≤ (2 : Int) := h2b
      refine lv_if_ne (tgt := 19) hx hb dX11_asks_14 (by decide) (fun _ => ?_) (fun q => absurd q (by decide))
      refine lv_aload_n hx hb dX11_asks_19 rfl (lv_at hl 0 rfl) ?_
      refine qc_Vi (As := []) (rest := []) (k0 := 0) (m1_rowMany l D ca o z y (h0_4)) kc_yX11_rowMany ⟨hx, hb, hml, hown, hts⟩ wq_1315 rfl rfl ⟨Nat.le_of_ble_eq_true rfl, Nat.le_of_ble_eq_true rfl⟩ wq_all hP hK hS qw_Ai (q0 := 0) (by decide) (hgM_0 ca o _ _) rfl rfl hl.1 rfl (Nat.le_of_ble_eq_true rfl) dX11_asks_20 ⟨Nat.zero_le _, Nat.zero_le _⟩ (fun r3 u3 H locs h3 hP hS _ _ => ?_)
      subst h3
      refine lv_ldcw (v := 200000) hx hb hown (hts _ wq_1319) dX11_asks_23 ?_
      refine lv_icmp_le (tgt := 32) hx hb dX11_asks_26 (by decide) (fun _ => ?_) (fun q => absurd (by decide) q)
      refine lv_aload_n hx hb dX11_asks_32 rfl (lv_at hl 0 rfl) ?_
      refine qc_Vv (As := []) (rest := []) (k0 := 0) (m1_counts l D ca o z y (h0_4) (h0_6)) kc_yX11_counts ⟨hx, hb, hml, hown, hts⟩ wq_1356 rfl rfl ⟨Nat.le_of_ble_eq_true rfl, Nat.le_of_ble_eq_true rfl⟩ wq_all hP hK hS qw_Ai (q0 := 0) (by decide) (hgM_0 ca o _ _) rfl rfl hl.1 rfl (Nat.le_of_ble_eq_true rfl) dX11_asks_33 ⟨Nat.zero_le _, Nat.zero_le _⟩ (fun u4 H locs h4 hP hS _ _ => ?_)
      obtain ⟨z4, y4⟩ := u4
      obtain ⟨h4f, h4y, h4m⟩ := h4
      dsimp only at h4f h4y h4m hP
      rw [h4y] at hP
      have f4_0_4 : z4 0 4 = 0 := (congrFun (h4f 0 (by decide) (by decide)) 4).trans (h0_4)
      have f4_0_5 : z4 0 5 = 0 := (congrFun (h4f 0 (by decide) (by decide)) 5).trans (h0_5)
      have f4_0_6 : z4 0 6 = 0 := (congrFun (h4f 0 (by decide) (by decide)) 6).trans (h0_6)
      have f4_0_15 : z4 0 15 = 0 := (congrFun (h4f 0 (by decide) (by decide)) 15).trans (h0_15)
      have f4_0_61 : z4 0 61 = 0 := (congrFun (h4f 0 (by decide) (by decide)) 61).trans (h0_61)
      refine lv_aload_n hx hb dX11_asks_36 rfl (lv_at hl 0 rfl) ?_
      refine lv_iload_n hx hb dX11_asks_37 rfl (lv_at hl 1 rfl) ?_
      refine qc_Vi (As := [.int 0]) (rest := []) (k0 := 1) (m1_fitting l D ca o z4 y h4m (h4m.1)) kc_yX11_fitting ⟨hx, hb, hml, hown, hts⟩ wq_1360 rfl rfl ⟨Nat.le_of_ble_eq_true rfl, Nat.le_of_ble_eq_true rfl⟩ wq_all hP hK hS qw_Ai (q0 := 0) (by decide) (hgM_0 ca o _ _) rfl rfl hl.1 rfl (Nat.le_of_ble_eq_true rfl) dX11_asks_38 ⟨Nat.zero_le _, Nat.zero_le _⟩ (fun r5 u5 H locs h5 hP hS _ _ => ?_)
      subst h5
      refine lv_istore_n (lv' := [(3, .int 1), (0, .ref (o + 0)), (1, .int 0), (2, .int a2)]) hx hb dX11_asks_41 rfl hl (by decide) rfl (fun ls hl => ?_)
      refine lv_bipush (v := (-2)) hx hb dX11_asks_42 (by decide) ?_
      refine lv_istore (lv' := [(4, .int ((-2))), (3, .int 1), (0, .ref (o + 0)), (1, .int 0), (2, .int a2)]) hx hb dX11_asks_44 hl (by decide) rfl (fun ls hl => ?_)
      refine lv_ldcw (v := 100000000) hx hb hown (hts _ wq_1388) dX11_asks_46 ?_
      refine lv_istore (lv' := [(5, .int 100000000), (4, .int ((-2))), (3, .int 1), (0, .ref (o + 0)), (1, .int 0), (2, .int a2)]) hx hb dX11_asks_49 hl (by decide) rfl (fun ls hl => ?_)
      refine lv_iconst (v := 0) hx hb dX11_asks_51 (by decide) ?_
      refine lv_istore (lv' := [(6, .int 0), (5, .int 100000000), (4, .int ((-2))), (3, .int 1), (0, .ref (o + 0)), (1, .int 0), (2, .int a2)]) hx hb dX11_asks_52 hl (by decide) rfl (fun ls hl => ?_)
      refine lv_iload hx hb dX11_asks_54 (lv_at hl 0 rfl) ?_
      refine lv_bipush (v := 10) hx hb dX11_asks_56 (by decide) ?_
      refine lv_icmp_ge (tgt := 172) hx hb dX11_asks_58 (by decide) (fun q => absurd q (by decide)) (fun _ => ?_)
      refine lv_iload_n hx hb dX11_asks_61 rfl (lv_at hl 3 rfl) ?_
      refine lv_if_le (tgt := 172) hx hb dX11_asks_62 (by decide) (fun q => absurd q (by decide)) (fun _ => ?_)
      refine lv_aload_n hx hb dX11_asks_65 rfl (lv_at hl 4 rfl) ?_
      refine lv_iload hx hb dX11_asks_66 (lv_at hl 0 rfl) ?_
      refine qc_Vi (As := [.int 0]) (rest := []) (k0 := 1) (m1_isRemark l D ca o z4 y 0 (f4_0_6)) kc_yX11_isRemark ⟨hx, hb, hml, hown, hts⟩ wq_1307 rfl rfl ⟨Nat.le_of_ble_eq_true rfl, Nat.le_of_ble_eq_true rfl⟩ wq_all hP hK hS qw_Ai (q0 := 0) (by decide) (hgM_0 ca o _ _) rfl rfl hl.1 rfl (Nat.le_of_ble_eq_true rfl) dX11_asks_68 ⟨Nat.zero_le _, Nat.zero_le _⟩ (fun r6 u6 H locs h6 hP hS _ _ => ?_)
      subst h6
      refine lv_if_eq (tgt := 166) hx hb dX11_asks_71 (by decide) (fun _ => ?_) (fun q => absurd (by decide) q)
      refine lv_iinc (v := 1) (lv' := [(6, .int 1), (5, .int 100000000), (4, .int ((-2))), (3, .int 1), (0, .ref (o + 0)), (1, .int 0), (2, .int a2)]) hx hb dX11_asks_166 hl (k := 0) rfl (by decide) (by decide) rfl (fun ls hl => ?_)
      refine lv_goto (tgt := 54) hx hb dX11_asks_169 (by decide) ?_
      refine lv_iload hx hb dX11_asks_54 (lv_at hl 0 rfl) ?_
      refine lv_bipush (v := 10) hx hb dX11_asks_56 (by decide) ?_
      refine lv_icmp_ge (tgt := 172) hx hb dX11_asks_58 (by decide) (fun q => absurd q (by decide)) (fun _ => ?_)
      refine lv_iload_n hx hb dX11_asks_61 rfl (lv_at hl 3 rfl) ?_
      refine lv_if_le (tgt := 172) hx hb dX11_asks_62 (by decide) (fun q => absurd q (by decide)) (fun _ => ?_)
      refine lv_aload_n hx hb dX11_asks_65 rfl (lv_at hl 4 rfl) ?_
      refine lv_iload hx hb dX11_asks_66 (lv_at hl 0 rfl) ?_
      refine qc_Vi (As := [.int 1]) (rest := []) (k0 := 1) (m1_isRemark l D ca o z4 y 1 (f4_0_6)) kc_yX11_isRemark ⟨hx, hb, hml, hown, hts⟩ wq_1307 rfl rfl ⟨Nat.le_of_ble_eq_true rfl, Nat.le_of_ble_eq_true rfl⟩ wq_all hP hK hS qw_Ai (q0 := 0) (by decide) (hgM_0 ca o _ _) rfl rfl hl.1 rfl (Nat.le_of_ble_eq_true rfl) dX11_asks_68 ⟨Nat.zero_le _, Nat.zero_le _⟩ (fun r7 u7 H locs h7 hP hS _ _ => ?_)
      subst h7
      refine lv_if_eq (tgt := 166) hx hb dX11_asks_71 (by decide) (fun _ => ?_) (fun q => absurd (by decide) q)
      refine lv_iinc (v := 2) (lv' := [(6, .int 2), (5, .int 100000000), (4, .int ((-2))), (3, .int 1), (0, .ref (o + 0)), (1, .int 0), (2, .int a2)]) hx hb dX11_asks_166 hl (k := 0) rfl (by decide) (by decide) rfl (fun ls hl => ?_)
      refine lv_goto (tgt := 54) hx hb dX11_asks_169 (by decide) ?_
      refine lv_iload hx hb dX11_asks_54 (lv_at hl 0 rfl) ?_
      refine lv_bipush (v := 10) hx hb dX11_asks_56 (by decide) ?_
      refine lv_icmp_ge (tgt := 172) hx hb dX11_asks_58 (by decide) (fun q => absurd q (by decide)) (fun _ => ?_)
      refine lv_iload_n hx hb dX11_asks_61 rfl (lv_at hl 3 rfl) ?_
      refine lv_if_le (tgt := 172) hx hb dX11_asks_62 (by decide) (fun q => absurd q (by decide)) (fun _ => ?_)
      refine lv_aload_n hx hb dX11_asks_65 rfl (lv_at hl 4 rfl) ?_
      refine lv_iload hx hb dX11_asks_66 (lv_at hl 0 rfl) ?_
      refine qc_Vi (As := [.int 2]) (rest := []) (k0 := 1) (m1_isRemark l D ca o z4 y 2 (f4_0_6)) kc_yX11_isRemark ⟨hx, hb, hml, hown, hts⟩ wq_1307 rfl rfl ⟨Nat.le_of_ble_eq_true rfl, Nat.le_of_ble_eq_true rfl⟩ wq_all hP hK hS qw_Ai (q0 := 0) (by decide) (hgM_0 ca o _ _) rfl rfl hl.1 rfl (Nat.le_of_ble_eq_true rfl) dX11_asks_68 ⟨Nat.zero_le _, Nat.zero_le _⟩ (fun r8 u8 H locs h8 hP hS _ _ => ?_)
      subst h8
      refine lv_if_eq (tgt := 166) hx hb dX11_asks_71 (by decide) (fun _ => ?_) (fun q => absurd (by decide) q)
      refine lv_iinc (v := 3) (lv' := [(6, .int 3), (5, .int 100000000), (4, .int ((-2))), (3, .int 1), (0, .ref (o + 0)), (1, .int 0), (2, .int a2)]) hx hb dX11_asks_166 hl (k := 0) rfl (by decide) (by decide) rfl (fun ls hl => ?_)
      refine lv_goto (tgt := 54) hx hb dX11_asks_169 (by decide) ?_
      refine lv_iload hx hb dX11_asks_54 (lv_at hl 0 rfl) ?_
      refine lv_bipush (v := 10) hx hb dX11_asks_56 (by decide) ?_
      refine lv_icmp_ge (tgt := 172) hx hb dX11_asks_58 (by decide) (fun q => absurd q (by decide)) (fun _ => ?_)
      refine lv_iload_n hx hb dX11_asks_61 rfl (lv_at hl 3 rfl) ?_
      refine lv_if_le (tgt := 172) hx hb dX11_asks_62 (by decide) (fun q => absurd q (by decide)) (fun _ => ?_)
      refine lv_aload_n hx hb dX11_asks_65 rfl (lv_at hl 4 rfl) ?_
      refine lv_iload hx hb dX11_asks_66 (lv_at hl 0 rfl) ?_
      refine qc_Vi (As := [.int 3]) (rest := []) (k0 := 1) (m1_isRemark l D ca o z4 y 3 (f4_0_6)) kc_yX11_isRemark ⟨hx, hb, hml, hown, hts⟩ wq_1307 rfl rfl ⟨Nat.le_of_ble_eq_true rfl, Nat.le_of_ble_eq_true rfl⟩ wq_all hP hK hS qw_Ai (q0 := 0) (by decide) (hgM_0 ca o _ _) rfl rfl hl.1 rfl (Nat.le_of_ble_eq_true rfl) dX11_asks_68 ⟨Nat.zero_le _, Nat.zero_le _⟩ (fun r9 u9 H locs h9 hP hS _ _ => ?_)
      subst h9
      refine lv_if_eq (tgt := 166) hx hb dX11_asks_71 (by decide) (fun _ => ?_) (fun q => absurd (by decide) q)
      refine lv_iinc (v := 4) (lv' := [(6, .int 4), (5, .int 100000000), (4, .int ((-2))), (3, .int 1), (0, .ref (o + 0)), (1, .int 0), (2, .int a2)]) hx hb dX11_asks_166 hl (k := 0) rfl (by decide) (by decide) rfl (fun ls hl => ?_)
      refine lv_goto (tgt := 54) hx hb dX11_asks_169 (by decide) ?_
      refine lv_iload hx hb dX11_asks_54 (lv_at hl 0 rfl) ?_
      refine lv_bipush (v := 10) hx hb dX11_asks_56 (by decide) ?_
      refine lv_icmp_ge (tgt := 172) hx hb dX11_asks_58 (by decide) (fun q => absurd q (by decide)) (fun _ => ?_)
      refine lv_iload_n hx hb dX11_asks_61 rfl (lv_at hl 3 rfl) ?_
      refine lv_if_le (tgt := 172) hx hb dX11_asks_62 (by decide) (fun q => absurd q (by decide)) (fun _ => ?_)
      refine lv_aload_n hx hb dX11_asks_65 rfl (lv_at hl 4 rfl) ?_
      refine lv_iload hx hb dX11_asks_66 (lv_at hl 0 rfl) ?_
      refine qc_Vi (As := [.int 4]) (rest := []) (k0 := 1) (m1_isRemark l D ca o z4 y 4 (f4_0_6)) kc_yX11_isRemark ⟨hx, hb, hml, hown, hts⟩ wq_1307 rfl rfl ⟨Nat.le_of_ble_eq_true rfl, Nat.le_of_ble_eq_true rfl⟩ wq_all hP hK hS qw_Ai (q0 := 0) (by decide) (hgM_0 ca o _ _) rfl rfl hl.1 rfl (Nat.le_of_ble_eq_true rfl) dX11_asks_68 ⟨Nat.zero_le _, Nat.zero_le _⟩ (fun r10 u10 H locs h10 hP hS _ _ => ?_)
      subst h10
      refine lv_if_eq (tgt := 166) hx hb dX11_asks_71 (by decide) (fun _ => ?_) (fun q => absurd (by decide) q)
      refine lv_iinc (v := 5) (lv' := [(6, .int 5), (5, .int 100000000), (4, .int ((-2))), (3, .int 1), (0, .ref (o + 0)), (1, .int 0), (2, .int a2)]) hx hb dX11_asks_166 hl (k := 0) rfl (by decide) (by decide) rfl (fun ls hl => ?_)
      refine lv_goto (tgt := 54) hx hb dX11_asks_169 (by decide) ?_
      refine lv_iload hx hb dX11_asks_54 (lv_at hl 0 rfl) ?_
      refine lv_bipush (v := 10) hx hb dX11_asks_56 (by decide) ?_
      refine lv_icmp_ge (tgt := 172) hx hb dX11_asks_58 (by decide) (fun q => absurd q (by decide)) (fun _ => ?_)
      refine lv_iload_n hx hb dX11_asks_61 rfl (lv_at hl 3 rfl) ?_
      refine lv_if_le (tgt := 172) hx hb dX11_asks_62 (by decide) (fun q => absurd q (by decide)) (fun _ => ?_)
      refine lv_aload_n hx hb dX11_asks_65 rfl (lv_at hl 4 rfl) ?_
      refine lv_iload hx hb dX11_asks_66 (lv_at hl 0 rfl) ?_
      refine qc_Vi (As := [.int 5]) (rest := []) (k0 := 1) (m1_isRemark l D ca o z4 y 5 (f4_0_6)) kc_yX11_isRemark ⟨hx, hb, hml, hown, hts⟩ wq_1307 rfl rfl ⟨Nat.le_of_ble_eq_true rfl, Nat.le_of_ble_eq_true rfl⟩ wq_all hP hK hS qw_Ai (q0 := 0) (by decide) (hgM_0 ca o _ _) rfl rfl hl.1 rfl (Nat.le_of_ble_eq_true rfl) dX11_asks_68 ⟨Nat.zero_le _, Nat.zero_le _⟩ (fun r11 u11 H locs h11 hP hS _ _ => ?_)
      subst h11
      refine lv_if_eq (tgt := 166) hx hb dX11_asks_71 (by decide) (fun _ => ?_) (fun q => absurd (by decide) q)
      refine lv_iinc (v := 6) (lv' := [(6, .int 6), (5, .int 100000000), (4, .int ((-2))), (3, .int 1), (0, .ref (o + 0)), (1, .int 0), (2, .int a2)]) hx hb dX11_asks_166 hl (k := 0) rfl (by decide) (by decide) rfl (fun ls hl => ?_)
      refine lv_goto (tgt := 54) hx hb dX11_asks_169 (by decide) ?_
      refine lv_iload hx hb dX11_asks_54 (lv_at hl 0 rfl) ?_
      refine lv_bipush (v := 10) hx hb dX11_asks_56 (by decide) ?_
      refine lv_icmp_ge (tgt := 172) hx hb dX11_asks_58 (by decide) (fun q => absurd q (by decide)) (fun _ => ?_)
      refine lv_iload_n hx hb dX11_asks_61 rfl (lv_at hl 3 rfl) ?_
      refine lv_if_le (tgt := 172) hx hb dX11_asks_62 (by decide) (fun q => absurd q (by decide)) (fun _ => ?_)
      refine lv_aload_n hx hb dX11_asks_65 rfl (lv_at hl 4 rfl) ?_
      refine lv_iload hx hb dX11_asks_66 (lv_at hl 0 rfl) ?_
      refine qc_Vi (As := [.int 6]) (rest := []) (k0 := 1) (m1_isRemark l D ca o z4 y 6 (f4_0_6)) kc_yX11_isRemark ⟨hx, hb, hml, hown, hts⟩ wq_1307 rfl rfl ⟨Nat.le_of_ble_eq_true rfl, Nat.le_of_ble_eq_true rfl⟩ wq_all hP hK hS qw_Ai (q0 := 0) (by decide) (hgM_0 ca o _ _) rfl rfl hl.1 rfl (Nat.le_of_ble_eq_true rfl) dX11_asks_68 ⟨Nat.zero_le _, Nat.zero_le _⟩ (fun r12 u12 H locs h12 hP hS _ _ => ?_)
      subst h12
      refine lv_if_eq (tgt := 166) hx hb dX11_asks_71 (by decide) (fun _ => ?_) (fun q => absurd (by decide) q)
      refine lv_iinc (v := 7) (lv' := [(6, .int 7), (5, .int 100000000), (4, .int ((-2))), (3, .int 1), (0, .ref (o + 0)), (1, .int 0), (2, .int a2)]) hx hb dX11_asks_166 hl (k := 0) rfl (by decide) (by decide) rfl (fun ls hl => ?_)
      refine lv_goto (tgt := 54) hx hb dX11_asks_169 (by decide) ?_
      refine lv_iload hx hb dX11_asks_54 (lv_at hl 0 rfl) ?_
      refine lv_bipush (v := 10) hx hb dX11_asks_56 (by decide) ?_
      refine lv_icmp_ge (tgt := 172) hx hb dX11_asks_58 (by decide) (fun q => absurd q (by decide)) (fun _ => ?_)
      refine lv_iload_n hx hb dX11_asks_61 rfl (lv_at hl 3 rfl) ?_
      refine lv_if_le (tgt := 172) hx hb dX11_asks_62 (by decide) (fun q => absurd q (by decide)) (fun _ => ?_)
      refine lv_aload_n hx hb dX11_asks_65 rfl (lv_at hl 4 rfl) ?_
      refine lv_iload hx hb dX11_asks_66 (lv_at hl 0 rfl) ?_
      refine qc_Vi (As := [.int 7]) (rest := []) (k0 := 1) (m1_isRemark l D ca o z4 y 7 (f4_0_6)) kc_yX11_isRemark ⟨hx, hb, hml, hown, hts⟩ wq_1307 rfl rfl ⟨Nat.le_of_ble_eq_true rfl, Nat.le_of_ble_eq_true rfl⟩ wq_all hP hK hS qw_Ai (q0 := 0) (by decide) (hgM_0 ca o _ _) rfl rfl hl.1 rfl (Nat.le_of_ble_eq_true rfl) dX11_asks_68 ⟨Nat.zero_le _, Nat.zero_le _⟩ (fun r13 u13 H locs h13 hP hS _ _ => ?_)
      subst h13
      refine lv_if_eq (tgt := 166) hx hb dX11_asks_71 (by decide) (fun _ => ?_) (fun q => absurd (by decide) q)
      refine lv_iinc (v := 8) (lv' := [(6, .int 8), (5, .int 100000000), (4, .int ((-2))), (3, .int 1), (0, .ref (o + 0)), (1, .int 0), (2, .int a2)]) hx hb dX11_asks_166 hl (k := 0) rfl (by decide) (by decide) rfl (fun ls hl => ?_)
      refine lv_goto (tgt := 54) hx hb dX11_asks_169 (by decide) ?_
      refine lv_iload hx hb dX11_asks_54 (lv_at hl 0 rfl) ?_
      refine lv_bipush (v := 10) hx hb dX11_asks_56 (by decide) ?_
      refine lv_icmp_ge (tgt := 172) hx hb dX11_asks_58 (by decide) (fun q => absurd q (by decide)) (fun _ => ?_)
      refine lv_iload_n hx hb dX11_asks_61 rfl (lv_at hl 3 rfl) ?_
      refine lv_if_le (tgt := 172) hx hb dX11_asks_62 (by decide) (fun q => absurd q (by decide)) (fun _ => ?_)
      refine lv_aload_n hx hb dX11_asks_65 rfl (lv_at hl 4 rfl) ?_
      refine lv_iload hx hb dX11_asks_66 (lv_at hl 0 rfl) ?_
      refine qc_Vi (As := [.int 8]) (rest := []) (k0 := 1) (m1_isRemark l D ca o z4 y 8 (f4_0_6)) kc_yX11_isRemark ⟨hx, hb, hml, hown, hts⟩ wq_1307 rfl rfl ⟨Nat.le_of_ble_eq_true rfl, Nat.le_of_ble_eq_true rfl⟩ wq_all hP hK hS qw_Ai (q0 := 0) (by decide) (hgM_0 ca o _ _) rfl rfl hl.1 rfl (Nat.le_of_ble_eq_true rfl) dX11_asks_68 ⟨Nat.zero_le _, Nat.zero_le _⟩ (fun r14 u14 H locs h14 hP hS _ _ => ?_)
      subst h14
      refine lv_if_eq (tgt := 166) hx hb dX11_asks_71 (by decide) (fun _ => ?_) (fun q => absurd (by decide) q)
      refine lv_iinc (v := 9) (lv' := [(6, .int 9), (5, .int 100000000), (4, .int ((-2))), (3, .int 1), (0, .ref (o + 0)), (1, .int 0), (2, .int a2)]) hx hb dX11_asks_166 hl (k := 0) rfl (by decide) (by decide) rfl (fun ls hl => ?_)
      refine lv_goto (tgt := 54) hx hb dX11_asks_169 (by decide) ?_
      refine lv_iload hx hb dX11_asks_54 (lv_at hl 0 rfl) ?_
      refine lv_bipush (v := 10) hx hb dX11_asks_56 (by decide) ?_
      refine lv_icmp_ge (tgt := 172) hx hb dX11_asks_58 (by decide) (fun q => absurd q (by decide)) (fun _ => ?_)
      refine lv_iload_n hx hb dX11_asks_61 rfl (lv_at hl 3 rfl) ?_
      refine lv_if_le (tgt := 172) hx hb dX11_asks_62 (by decide) (fun q => absurd q (by decide)) (fun _ => ?_)
      refine lv_aload_n hx hb dX11_asks_65 rfl (lv_at hl 4 rfl) ?_
      refine lv_iload hx hb dX11_asks_66 (lv_at hl 0 rfl) ?_
      refine qc_Vi (As := [.int 9]) (rest := []) (k0 := 1) (m1_isRemark l D ca o z4 y 9 (f4_0_6)) kc_yX11_isRemark ⟨hx, hb, hml, hown, hts⟩ wq_1307 rfl rfl ⟨Nat.le_of_ble_eq_true rfl, Nat.le_of_ble_eq_true rfl⟩ wq_all hP hK hS qw_Ai (q0 := 0) (by decide) (hgM_0 ca o _ _) rfl rfl hl.1 rfl (Nat.le_of_ble_eq_true rfl) dX11_asks_68 ⟨Nat.zero_le _, Nat.zero_le _⟩ (fun r15 u15 H locs h15 hP hS _ _ => ?_)
      subst h15
      refine lv_if_eq (tgt := 166) hx hb dX11_asks_71 (by decide) (fun _ => ?_) (fun q => absurd (by decide) q)
      refine lv_iinc (v := 10) (lv' := [(6, .int 10), (5, .int 100000000), (4, .int ((-2))), (3, .int 1), (0, .ref (o + 0)), (1, .int 0), (2, .int a2)]) hx hb dX11_asks_166 hl (k := 0) rfl (by decide) (by decide) rfl (fun ls hl => ?_)
      refine lv_goto (tgt := 54) hx hb dX11_asks_169 (by decide) ?_
      refine lv_iload hx hb dX11_asks_54 (lv_at hl 0 rfl) ?_
      refine lv_bipush (v := 10) hx hb dX11_asks_56 (by decide) ?_
      refine lv_icmp_ge (tgt := 172) hx hb dX11_asks_58 (by decide) (fun _ => ?_) (fun q => absurd (by decide) q)
      refine lv_iload hx hb dX11_asks_172 (lv_at hl 2 rfl) ?_
      exact W.iret (v := (-2)) hx hb hr (fun t ht hW => ⟨⟨(-2), (z4, y), rfl, (ga_p (by omega)), by rw [ht]; exact hP, va_K.moved hW.alike hK⟩, hS.F ht⟩) hS.2.2 dX11_asks_174
    · subst h2r
      have t2a : a2.toInt < (0 : Int) ∨ (2 : Int) < a2.toInt := h2a
      refine lv_if_ne (tgt := 19) hx hb dX11_asks_14 (by decide) (fun q => absurd q (by decide)) (fun _ => ?_)
      refine lv_iconst (v := (-1)) hx hb dX11_asks_17 (by decide) ?_
      exact W.iret (v := (-1)) hx hb hr (fun t ht hW => ⟨⟨(-1), (z, y), rfl, (ga_n (by omega)), by rw [ht]; exact hP, va_K.moved hW.alike hK⟩, hS.F ht⟩) hS.2.2 dX11_asks_18
  · subst h1r
    refine lv_if_eq (tgt := 17) hx hb dX11_asks_5 (by decide) (fun _ => ?_) (fun q => absurd (by decide) q)
    refine lv_iconst (v := (-1)) hx hb dX11_asks_17 (by decide) ?_
    exact W.iret (v := (-1)) hx hb hr (fun t ht hW => ⟨⟨(-1), (z, y), rfl, (ga_n (by omega)), by rw [ht]; exact hP, va_K.moved hW.alike hK⟩, hS.F ht⟩) hS.2.2 dX11_asks_18

set_option maxRecDepth 100000 in
set_option maxHeartbeats 4000000 in
theorem mP_unlike (l : Launch) (D : va_G) (ca : Nat → ClassId) (o : Nat) (z : Nat → Nat → Int32) (y : Nat → Nat → Int64) (a1 : Int32) (a2 : Int32) (h0_4 : z 0 4 = 0) (h0_5 : z 0 5 = 0) (h0_6 : z 0 6 = 0) (h0_15 : z 0 15 = 0) (h0_61 : z 0 61 = 0) : qM l yX11_unlike cX11_unlike 3 (some .int) 5 147 (qPre D vwCl (qT6 ca) o 41 (qG (GM ca o) z y) [.ref (o + 0), .int a1, .int a2]) (va_Qi (fun r _ => r = A_unlike a1 a2) (qB D vwCl (qT6 ca) o 41 (fun u : qZ => qG (GM ca o) u.1 u.2)) (qw_A o 41)) (qw_A o 41) := by
  refine Met.ofW (cc := cX11_unlike) (maxL := 3) (ret := (some .int)) (by decide) rfl ?_
  intro p e s m args below meth c s₁ B hml hv
  obtain ⟨rfl, hP, hK⟩ := hv
  have hx := B.exec
  have hb := B.bytes
  have hr := B.returns
  have hts0 := atoms_spec (ws := Cond.code yX11_unlike cX11_unlike 3 (some .int) :: qtbl) B.pre
  have hts : ∀ w ∈ qtbl, w.before _ s = true := fun w h => hts0 w (List.mem_cons_of_mem _ h)
  have hown : s.vm.findClass RX11 = some m.cls := findClass_of_methodNamed B.named
  have hlocks := B.notSynchronized
  have hz0 : (0 : Int32).toInt = 0 := rfl
  have hS : va_S (qw_A o 41) s.heap s.heap [] := va_S.rf
  have hl := lv_entry ([.ref (o + 0), .int a1, .int a2]) (n := 3) (Nat.le_of_ble_eq_true rfl)
  rw [lg_entry_eq]
  generalize (lg_sl ([.ref (o + 0), .int a1, .int a2]) ++ List.replicate (3 - (lg_sl ([.ref (o + 0), .int a1, .int a2])).length) Slot.unset).toArray = ls at hl ⊢
  have hl : lv_has ls 3 [(0, .ref (o + 0)), (1, .int a1), (2, .int a2)] := hl
  refine lv_aload_n hx hb dX11_unlike_0 rfl (lv_at hl 0 rfl) ?_
  refine lv_iload_n hx hb dX11_unlike_1 rfl (lv_at hl 1 rfl) ?_
  refine qc_Vi (As := [.int a1]) (rest := []) (k0 := 1) (m1_areRemarks l D ca o z y a1 (h0_6)) kc_yX11_areRemarks ⟨hx, hb, hml, hown, hts⟩ wq_1324 rfl rfl ⟨Nat.le_of_ble_eq_true rfl, Nat.le_of_ble_eq_true rfl⟩ wq_all hP hK hS qw_Ai (q0 := 0) (by decide) (hgM_0 ca o _ _) rfl rfl hl.1 rfl (Nat.le_of_ble_eq_true rfl) dX11_unlike_2 ⟨Nat.zero_le _, Nat.zero_le _⟩ (fun r1 u1 H locs h1 hP hS _ _ => ?_)
  rcases h1 with ⟨h1r, h1a⟩ | ⟨h1r, h1a⟩
  · subst h1r
    obtain rfl : a1 = 0 := gr_eq (y := 0) h1a
    refine lv_if_eq (tgt := 16) hx hb dX11_unlike_5 (by decide) (fun q => absurd q (by decide)) (fun _ => ?_)
    refine lv_aload_n hx hb dX11_unlike_8 rfl (lv_at hl 0 rfl) ?_
    refine lv_iload_n hx hb dX11_unlike_9 rfl (lv_at hl 2 rfl) ?_
    refine qc_Vi (As := [.int a2]) (rest := []) (k0 := 1) (m1_areRemarks l D ca o z y a2 (h0_6)) kc_yX11_areRemarks ⟨hx, hb, hml, hown, hts⟩ wq_1324 rfl rfl ⟨Nat.le_of_ble_eq_true rfl, Nat.le_of_ble_eq_true rfl⟩ wq_all hP hK hS qw_Ai (q0 := 0) (by decide) (hgM_0 ca o _ _) rfl rfl hl.1 rfl (Nat.le_of_ble_eq_true rfl) dX11_unlike_10 ⟨Nat.zero_le _, Nat.zero_le _⟩ (fun r2 u2 H locs h2 hP hS _ _ => ?_)
    rcases h2 with ⟨h2r, h2a⟩ | ⟨h2r, h2a⟩
    · subst h2r
      obtain rfl : a2 = 0 := gr_eq (y := 0) h2a
      refine lv_if_ne (tgt := 18) hx hb dX11_unlike_13 (by decide) (fun _ => ?_) (fun q => absurd q (by decide))
      refine lv_aload_n hx hb dX11_unlike_18 rfl (lv_at hl 0 rfl) ?_
      refine qc_Vi (As := []) (rest := []) (k0 := 0) (m1_rowMany l D ca o z y (h0_4)) kc_yX11_rowMany ⟨hx, hb, hml, hown, hts⟩ wq_1315 rfl rfl ⟨Nat.le_of_ble_eq_true rfl, Nat.le_of_ble_eq_true rfl⟩ wq_all hP hK hS qw_Ai (q0 := 0) (by decide) (hgM_0 ca o _ _) rfl rfl hl.1 rfl (Nat.le_of_ble_eq_true rfl) dX11_unlike_19 ⟨Nat.zero_le _, Nat.zero_le _⟩ (fun r3 u3 H locs h3 hP hS _ _ => ?_)
      subst h3
      refine lv_ldcw (v := 200000) hx hb hown (hts _ wq_1319) dX11_unlike_22 ?_
      refine lv_icmp_le (tgt := 31) hx hb dX11_unlike_25 (by decide) (fun _ => ?_) (fun q => absurd (by decide) q)
      refine lv_aload_n hx hb dX11_unlike_31 rfl (lv_at hl 0 rfl) ?_
      refine qc_Vv (As := []) (rest := []) (k0 := 0) (m1_counts l D ca o z y (h0_4) (h0_6)) kc_yX11_counts ⟨hx, hb, hml, hown, hts⟩ wq_1356 rfl rfl ⟨Nat.le_of_ble_eq_true rfl, Nat.le_of_ble_eq_true rfl⟩ wq_all hP hK hS qw_Ai (q0 := 0) (by decide) (hgM_0 ca o _ _) rfl rfl hl.1 rfl (Nat.le_of_ble_eq_true rfl) dX11_unlike_32 ⟨Nat.zero_le _, Nat.zero_le _⟩ (fun u4 H locs h4 hP hS _ _ => ?_)
      obtain ⟨z4, y4⟩ := u4
      obtain ⟨h4f, h4y, h4m⟩ := h4
      dsimp only at h4f h4y h4m hP
      rw [h4y] at hP
      have f4_0_4 : z4 0 4 = 0 := (congrFun (h4f 0 (by decide) (by decide)) 4).trans (h0_4)
      have f4_0_5 : z4 0 5 = 0 := (congrFun (h4f 0 (by decide) (by decide)) 5).trans (h0_5)
      have f4_0_6 : z4 0 6 = 0 := (congrFun (h4f 0 (by decide) (by decide)) 6).trans (h0_6)
      have f4_0_15 : z4 0 15 = 0 := (congrFun (h4f 0 (by decide) (by decide)) 15).trans (h0_15)
      have f4_0_61 : z4 0 61 = 0 := (congrFun (h4f 0 (by decide) (by decide)) 61).trans (h0_61)
      refine lv_aload_n hx hb dX11_unlike_35 rfl (lv_at hl 0 rfl) ?_
      refine lv_iload_n hx hb dX11_unlike_36 rfl (lv_at hl 1 rfl) ?_
      refine qc_Vi (As := [.int 0]) (rest := []) (k0 := 1) (m1_fitting l D ca o z4 y h4m (h4m.1)) kc_yX11_fitting ⟨hx, hb, hml, hown, hts⟩ wq_1360 rfl rfl ⟨Nat.le_of_ble_eq_true rfl, Nat.le_of_ble_eq_true rfl⟩ wq_all hP hK hS qw_Ai (q0 := 0) (by decide) (hgM_0 ca o _ _) rfl rfl hl.1 rfl (Nat.le_of_ble_eq_true rfl) dX11_unlike_37 ⟨Nat.zero_le _, Nat.zero_le _⟩ (fun r5 u5 H locs h5 hP hS _ _ => ?_)
      subst h5
      refine lv_aload_n hx hb dX11_unlike_40 rfl (lv_at hl 0 rfl) ?_
      refine lv_iload_n hx hb dX11_unlike_41 rfl (lv_at hl 2 rfl) ?_
      refine qc_Vi (As := [.int 0]) (rest := [.int 1]) (k0 := 1) (m1_fitting l D ca o z4 y h4m (h4m.1)) kc_yX11_fitting ⟨hx, hb, hml, hown, hts⟩ wq_1360 rfl rfl ⟨Nat.le_of_ble_eq_true rfl, Nat.le_of_ble_eq_true rfl⟩ wq_all hP hK hS qw_Ai (q0 := 0) (by decide) (hgM_0 ca o _ _) rfl rfl hl.1 rfl (Nat.le_of_ble_eq_true rfl) dX11_unlike_42 ⟨Nat.zero_le _, Nat.zero_le _⟩ (fun r6 u6 H locs h6 hP hS _ _ => ?_)
      subst h6
      refine lv_iadd hx hb dX11_unlike_45 ?_
      refine qtop (x' := 2) (by decide) ?_
      refine lv_iconst (v := 2) hx hb dX11_unlike_46 (by decide) ?_
      refine lv_aload_n hx hb dX11_unlike_47 rfl (lv_at hl 0 rfl) ?_
      refine lv_iload_n hx hb dX11_unlike_48 rfl (lv_at hl 1 rfl) ?_
      refine lv_iload_n hx hb dX11_unlike_49 rfl (lv_at hl 2 rfl) ?_
      refine lv_ior hx hb dX11_unlike_50 ?_
      refine qtop (x' := 0) (by decide) ?_
      refine qc_Vi (As := [.int 0]) (rest := [.int 2, .int 2]) (k0 := 1) (m1_fitting l D ca o z4 y h4m (h4m.1)) kc_yX11_fitting ⟨hx, hb, hml, hown, hts⟩ wq_1360 rfl rfl ⟨Nat.le_of_ble_eq_true rfl, Nat.le_of_ble_eq_true rfl⟩ wq_all hP hK hS qw_Ai (q0 := 0) (by decide) (hgM_0 ca o _ _) rfl rfl hl.1 rfl (Nat.le_of_ble_eq_true rfl) dX11_unlike_51 ⟨Nat.zero_le _, Nat.zero_le _⟩ (fun r7 u7 H locs h7 hP hS _ _ => ?_)
      subst h7
      refine lv_imul hx hb dX11_unlike_54 ?_
      refine qtop (x' := 2) (by decide) ?_
      refine lv_isub hx hb dX11_unlike_55 ?_
      refine qtop (x' := 0) (by decide) ?_
      exact W.iret (v := 0) hx hb hr (fun t ht hW => ⟨⟨0, (z4, y), rfl, (ga_p (by omega)), by rw [ht]; exact hP, va_K.moved hW.alike hK⟩, hS.F ht⟩) hS.2.2 dX11_unlike_56
    · subst h2r
      refine lv_if_ne (tgt := 18) hx hb dX11_unlike_13 (by decide) (fun q => absurd q (by decide)) (fun _ => ?_)
      refine lv_iconst (v := (-1)) hx hb dX11_unlike_16 (by decide) ?_
      exact W.iret (v := (-1)) hx hb hr (fun t ht hW => ⟨⟨(-1), (z, y), rfl, (ga_n (by omega)), by rw [ht]; exact hP, va_K.moved hW.alike hK⟩, hS.F ht⟩) hS.2.2 dX11_unlike_17
  · subst h1r
    refine lv_if_eq (tgt := 16) hx hb dX11_unlike_5 (by decide) (fun _ => ?_) (fun q => absurd (by decide) q)
    refine lv_iconst (v := (-1)) hx hb dX11_unlike_16 (by decide) ?_
    exact W.iret (v := (-1)) hx hb hr (fun t ht hW => ⟨⟨(-1), (z, y), rfl, (ga_n (by omega)), by rw [ht]; exact hP, va_K.moved hW.alike hK⟩, hS.F ht⟩) hS.2.2 dX11_unlike_17

set_option maxRecDepth 100000 in
set_option maxHeartbeats 4000000 in
theorem mP_shortest (l : Launch) (D : va_G) (ca : Nat → ClassId) (o : Nat) (z : Nat → Nat → Int32) (y : Nat → Nat → Int64) (a1 : Int32) (a2 : Int32) (h0_4 : z 0 4 = 0) (h0_5 : z 0 5 = 0) (h0_6 : z 0 6 = 0) (h0_15 : z 0 15 = 0) (h0_61 : z 0 61 = 0) : qM l yX11_shortest cX11_shortest 6 (some .int) 5 148 (qPre D vwCl (qT6 ca) o 41 (qG (GM ca o) z y) [.ref (o + 0), .int a1, .int a2]) (va_Qi (fun r _ => r = A_shortest a1 a2) (qB D vwCl (qT6 ca) o 41 (fun u : qZ => qG (GM ca o) u.1 u.2)) (qw_A o 41)) (qw_A o 41) := by
  refine Met.ofW (cc := cX11_shortest) (maxL := 6) (ret := (some .int)) (by decide) rfl ?_
  intro p e s m args below meth c s₁ B hml hv
  obtain ⟨rfl, hP, hK⟩ := hv
  have hx := B.exec
  have hb := B.bytes
  have hr := B.returns
  have hts0 := atoms_spec (ws := Cond.code yX11_shortest cX11_shortest 6 (some .int) :: qtbl) B.pre
  have hts : ∀ w ∈ qtbl, w.before _ s = true := fun w h => hts0 w (List.mem_cons_of_mem _ h)
  have hown : s.vm.findClass RX11 = some m.cls := findClass_of_methodNamed B.named
  have hlocks := B.notSynchronized
  have hz0 : (0 : Int32).toInt = 0 := rfl
  have hS : va_S (qw_A o 41) s.heap s.heap [] := va_S.rf
  have hl := lv_entry ([.ref (o + 0), .int a1, .int a2]) (n := 6) (Nat.le_of_ble_eq_true rfl)
  rw [lg_entry_eq]
  generalize (lg_sl ([.ref (o + 0), .int a1, .int a2]) ++ List.replicate (6 - (lg_sl ([.ref (o + 0), .int a1, .int a2])).length) Slot.unset).toArray = ls at hl ⊢
  have hl : lv_has ls 6 [(0, .ref (o + 0)), (1, .int a1), (2, .int a2)] := hl
  refine lv_aload_n hx hb dX11_shortest_0 rfl (lv_at hl 0 rfl) ?_
  refine lv_iload_n hx hb dX11_shortest_1 rfl (lv_at hl 1 rfl) ?_
  refine qc_Vi (As := [.int a1]) (rest := []) (k0 := 1) (m1_areRemarks l D ca o z y a1 (h0_6)) kc_yX11_areRemarks ⟨hx, hb, hml, hown, hts⟩ wq_1324 rfl rfl ⟨Nat.le_of_ble_eq_true rfl, Nat.le_of_ble_eq_true rfl⟩ wq_all hP hK hS qw_Ai (q0 := 0) (by decide) (hgM_0 ca o _ _) rfl rfl hl.1 rfl (Nat.le_of_ble_eq_true rfl) dX11_shortest_2 ⟨Nat.zero_le _, Nat.zero_le _⟩ (fun r1 u1 H locs h1 hP hS _ _ => ?_)
  rcases h1 with ⟨h1r, h1a⟩ | ⟨h1r, h1a⟩
  · subst h1r
    obtain rfl : a1 = 0 := gr_eq (y := 0) h1a
    refine lv_if_eq (tgt := 17) hx hb dX11_shortest_5 (by decide) (fun q => absurd q (by decide)) (fun _ => ?_)
    refine lv_iload_n hx hb dX11_shortest_8 rfl (lv_at hl 2 rfl) ?_
    refine lv_iconst (v := 0) hx hb dX11_shortest_9 (by decide) ?_
    refine lv_iconst (v := 4) hx hb dX11_shortest_10 (by decide) ?_
    refine qc_Si (As := [.int a2, .int 0, .int 4]) (rest := []) (k0 := 3) (m1_in l D ca o z y a2 0 4) kc_yX11_in ⟨hx, hb, hml, hown, hts⟩ wq_1187 rfl rfl ⟨Nat.le_of_ble_eq_true rfl, Nat.le_of_ble_eq_true rfl⟩ wq_all hP hK hS qw_Ai rfl hl.1 rfl (Nat.le_of_ble_eq_true rfl) dX11_shortest_11 ⟨Nat.zero_le _, Nat.zero_le _⟩ (fun r2 u2 H locs h2 hP hS _ _ => ?_)
    rcases h2 with ⟨h2r, h2a, h2b⟩ | ⟨h2r, h2a⟩
    · subst h2r
      have t2a : a2.toInt ≥ (0 : Int) := h2a
      have t2b : a2.toInt ≤ (4 : Int) := h2b
      refine lv_if_ne (tgt := 19) hx hb dX11_shortest_14 (by decide) (fun _ => ?_) (fun q => absurd q (by decide))
      refine lv_aload_n hx hb dX11_shortest_19 rfl (lv_at hl 0 rfl) ?_
      refine lv_iload_n hx hb dX11_shortest_20 rfl (lv_at hl 1 rfl) ?_
      refine qc_Vi (As := [.int 0]) (rest := []) (k0 := 1) (m1_lists l D ca o z y (h0_4)) kc_yX11_lists ⟨hx, hb, hml, hown, hts⟩ wq_1437 rfl rfl ⟨Nat.le_of_ble_eq_true rfl, Nat.le_of_ble_eq_true rfl⟩ wq_all hP hK hS qw_Ai (q0 := 0) (by decide) (hgM_0 ca o _ _) rfl rfl hl.1 rfl (Nat.le_of_ble_eq_true rfl) dX11_shortest_21 ⟨Nat.zero_le _, Nat.zero_le _⟩ (fun r3 u3 H locs h3 hP hS _ _ => ?_)
      obtain ⟨z3, y3⟩ := u3
      obtain ⟨h3r, h3f, h3y, h3a, h3b⟩ := h3
      dsimp only at h3f h3y h3a h3b hP
      subst h3r
      rw [h3y] at hP
      refine lv_if_ne (tgt := 30) hx hb dX11_shortest_24 (by decide) (fun _ => ?_) (fun q => absurd q (by decide))
      refine lv_aload_n hx hb dX11_shortest_30 rfl (lv_at hl 0 rfl) ?_
      refine lv_ldcw (v := 100000000) hx hb hown (hts _ wq_1388) dX11_shortest_31 ?_
      refine qf_put hx hb hts inX11 tyX11 tyX11_ok nmX11 hown hK hP hS qw_Ai (q0 := 0) (by decide) (hgM_0 ca o) rfl 43 (by decide) wq_1035 rfl (x := 100000000) 43 rfl rfl rfl (Nat.le_of_ble_eq_true rfl) dX11_shortest_34 (fun H locs hP hS => ?_)
      refine lv_iconst (v := 0) hx hb dX11_shortest_37 (by decide) ?_
      refine lv_istore_n (lv' := [(3, .int 0), (0, .ref (o + 0)), (1, .int 0), (2, .int a2)]) hx hb dX11_shortest_38 rfl hl (by decide) rfl (fun ls hl => ?_)
      refine lv_iload_n hx hb dX11_shortest_39 rfl (lv_at hl 0 rfl) ?_
      refine lv_bipush (v := 6) hx hb dX11_shortest_40 (by decide) ?_
      refine lv_icmp_ge (tgt := 140) hx hb dX11_shortest_42 (by decide) (fun q => absurd q (by decide)) (fun _ => ?_)
      refine lv_aload_n hx hb dX11_shortest_45 rfl (lv_at hl 1 rfl) ?_
      refine qf_get hx hb hts inX11 hown hK hP (q0 := 0) (by decide) (hgM_0 ca o) rfl 41 (by decide) wq_1033 (v := .int ((qu z3 0 43 100000000) 0 41)) rfl dX11_shortest_46 ?_
      refine qtop (x' := 1) h3a ?_
      refine lv_if_le (tgt := 140) hx hb dX11_shortest_49 (by decide) (fun q => absurd q (by decide)) (fun _ => ?_)
      refine lv_aload_n hx hb dX11_shortest_52 rfl (lv_at hl 1 rfl) ?_
      refine lv_iload_n hx hb dX11_shortest_53 rfl (lv_at hl 0 rfl) ?_
      refine qc_Vi (As := [.int 0]) (rest := []) (k0 := 1) (m1_isPerson l D ca o (qu z3 0 43 100000000) y 0 (h3b)) kc_yX11_isPerson ⟨hx, hb, hml, hown, hts⟩ wq_1194 rfl rfl ⟨Nat.le_of_ble_eq_true rfl, Nat.le_of_ble_eq_true rfl⟩ wq_all hP hK hS qw_Ai (q0 := 0) (by decide) (hgM_0 ca o _ _) rfl rfl hl.1 rfl (Nat.le_of_ble_eq_true rfl) dX11_shortest_54 ⟨Nat.zero_le _, Nat.zero_le _⟩ (fun r4 u4 H locs h4 hP hS _ _ => ?_)
      subst h4
      refine lv_if_ne (tgt := 63) hx hb dX11_shortest_57 (by decide) (fun q => absurd q (by decide)) (fun _ => ?_)
      refine lv_goto (tgt := 134) hx hb dX11_shortest_60 (by decide) ?_
      refine lv_iinc (v := 1) (lv' := [(3, .int 1), (0, .ref (o + 0)), (1, .int 0), (2, .int a2)]) hx hb dX11_shortest_134 hl (k := 0) rfl (by decide) (by decide) rfl (fun ls hl => ?_)
      refine lv_goto (tgt := 39) hx hb dX11_shortest_137 (by decide) ?_
      refine lv_iload_n hx hb dX11_shortest_39 rfl (lv_at hl 0 rfl) ?_
      refine lv_bipush (v := 6) hx hb dX11_shortest_40 (by decide) ?_
      refine lv_icmp_ge (tgt := 140) hx hb dX11_shortest_42 (by decide) (fun q => absurd q (by decide)) (fun _ => ?_)
      refine lv_aload_n hx hb dX11_shortest_45 rfl (lv_at hl 1 rfl) ?_
      refine qf_get hx hb hts inX11 hown hK hP (q0 := 0) (by decide) (hgM_0 ca o) rfl 41 (by decide) wq_1033 (v := .int ((qu z3 0 43 100000000) 0 41)) rfl dX11_shortest_46 ?_
      refine qtop (x' := 1) h3a ?_
      refine lv_if_le (tgt := 140) hx hb dX11_shortest_49 (by decide) (fun q => absurd q (by decide)) (fun _ => ?_)
      refine lv_aload_n hx hb dX11_shortest_52 rfl (lv_at hl 1 rfl) ?_
      refine lv_iload_n hx hb dX11_shortest_53 rfl (lv_at hl 0 rfl) ?_
      refine qc_Vi (As := [.int 1]) (rest := []) (k0 := 1) (m1_isPerson l D ca o (qu z3 0 43 100000000) y 1 (h3b)) kc_yX11_isPerson ⟨hx, hb, hml, hown, hts⟩ wq_1194 rfl rfl ⟨Nat.le_of_ble_eq_true rfl, Nat.le_of_ble_eq_true rfl⟩ wq_all hP hK hS qw_Ai (q0 := 0) (by decide) (hgM_0 ca o _ _) rfl rfl hl.1 rfl (Nat.le_of_ble_eq_true rfl) dX11_shortest_54 ⟨Nat.zero_le _, Nat.zero_le _⟩ (fun r5 u5 H locs h5 hP hS _ _ => ?_)
      subst h5
      refine lv_if_ne (tgt := 63) hx hb dX11_shortest_57 (by decide) (fun q => absurd q (by decide)) (fun _ => ?_)
      refine lv_goto (tgt := 134) hx hb dX11_shortest_60 (by decide) ?_
      refine lv_iinc (v := 2) (lv' := [(3, .int 2), (0, .ref (o + 0)), (1, .int 0), (2, .int a2)]) hx hb dX11_shortest_134 hl (k := 0) rfl (by decide) (by decide) rfl (fun ls hl => ?_)
      refine lv_goto (tgt := 39) hx hb dX11_shortest_137 (by decide) ?_
      refine lv_iload_n hx hb dX11_shortest_39 rfl (lv_at hl 0 rfl) ?_
      refine lv_bipush (v := 6) hx hb dX11_shortest_40 (by decide) ?_
      refine lv_icmp_ge (tgt := 140) hx hb dX11_shortest_42 (by decide) (fun q => absurd q (by decide)) (fun _ => ?_)
      refine lv_aload_n hx hb dX11_shortest_45 rfl (lv_at hl 1 rfl) ?_
      refine qf_get hx hb hts inX11 hown hK hP (q0 := 0) (by decide) (hgM_0 ca o) rfl 41 (by decide) wq_1033 (v := .int ((qu z3 0 43 100000000) 0 41)) rfl dX11_shortest_46 ?_
      refine qtop (x' := 1) h3a ?_
      refine lv_if_le (tgt := 140) hx hb dX11_shortest_49 (by decide) (fun q => absurd q (by decide)) (fun _ => ?_)
      refine lv_aload_n hx hb dX11_shortest_52 rfl (lv_at hl 1 rfl) ?_
      refine lv_iload_n hx hb dX11_shortest_53 rfl (lv_at hl 0 rfl) ?_
      refine qc_Vi (As := [.int 2]) (rest := []) (k0 := 1) (m1_isPerson l D ca o (qu z3 0 43 100000000) y 2 (h3b)) kc_yX11_isPerson ⟨hx, hb, hml, hown, hts⟩ wq_1194 rfl rfl ⟨Nat.le_of_ble_eq_true rfl, Nat.le_of_ble_eq_true rfl⟩ wq_all hP hK hS qw_Ai (q0 := 0) (by decide) (hgM_0 ca o _ _) rfl rfl hl.1 rfl (Nat.le_of_ble_eq_true rfl) dX11_shortest_54 ⟨Nat.zero_le _, Nat.zero_le _⟩ (fun r6 u6 H locs h6 hP hS _ _ => ?_)
      subst h6
      refine lv_if_ne (tgt := 63) hx hb dX11_shortest_57 (by decide) (fun q => absurd q (by decide)) (fun _ => ?_)
      refine lv_goto (tgt := 134) hx hb dX11_shortest_60 (by decide) ?_
      refine lv_iinc (v := 3) (lv' := [(3, .int 3), (0, .ref (o + 0)), (1, .int 0), (2, .int a2)]) hx hb dX11_shortest_134 hl (k := 0) rfl (by decide) (by decide) rfl (fun ls hl => ?_)
      refine lv_goto (tgt := 39) hx hb dX11_shortest_137 (by decide) ?_
      refine lv_iload_n hx hb dX11_shortest_39 rfl (lv_at hl 0 rfl) ?_
      refine lv_bipush (v := 6) hx hb dX11_shortest_40 (by decide) ?_
      refine lv_icmp_ge (tgt := 140) hx hb dX11_shortest_42 (by decide) (fun q => absurd q (by decide)) (fun _ => ?_)
      refine lv_aload_n hx hb dX11_shortest_45 rfl (lv_at hl 1 rfl) ?_
      refine qf_get hx hb hts inX11 hown hK hP (q0 := 0) (by decide) (hgM_0 ca o) rfl 41 (by decide) wq_1033 (v := .int ((qu z3 0 43 100000000) 0 41)) rfl dX11_shortest_46 ?_
      refine qtop (x' := 1) h3a ?_
      refine lv_if_le (tgt := 140) hx hb dX11_shortest_49 (by decide) (fun q => absurd q (by decide)) (fun _ => ?_)
      refine lv_aload_n hx hb dX11_shortest_52 rfl (lv_at hl 1 rfl) ?_
      refine lv_iload_n hx hb dX11_shortest_53 rfl (lv_at hl 0 rfl) ?_
      refine qc_Vi (As := [.int 3]) (rest := []) (k0 := 1) (m1_isPerson l D ca o (qu z3 0 43 100000000) y 3 (h3b)) kc_yX11_isPerson ⟨hx, hb, hml, hown, hts⟩ wq_1194 rfl rfl ⟨Nat.le_of_ble_eq_true rfl, Nat.le_of_ble_eq_true rfl⟩ wq_all hP hK hS qw_Ai (q0 := 0) (by decide) (hgM_0 ca o _ _) rfl rfl hl.1 rfl (Nat.le_of_ble_eq_true rfl) dX11_shortest_54 ⟨Nat.zero_le _, Nat.zero_le _⟩ (fun r7 u7 H locs h7 hP hS _ _ => ?_)
      subst h7
      refine lv_if_ne (tgt := 63) hx hb dX11_shortest_57 (by decide) (fun q => absurd q (by decide)) (fun _ => ?_)
      refine lv_goto (tgt := 134) hx hb dX11_shortest_60 (by decide) ?_
      refine lv_iinc (v := 4) (lv' := [(3, .int 4), (0, .ref (o + 0)), (1, .int 0), (2, .int a2)]) hx hb dX11_shortest_134 hl (k := 0) rfl (by decide) (by decide) rfl (fun ls hl => ?_)
      refine lv_goto (tgt := 39) hx hb dX11_shortest_137 (by decide) ?_
      refine lv_iload_n hx hb dX11_shortest_39 rfl (lv_at hl 0 rfl) ?_
      refine lv_bipush (v := 6) hx hb dX11_shortest_40 (by decide) ?_
      refine lv_icmp_ge (tgt := 140) hx hb dX11_shortest_42 (by decide) (fun q => absurd q (by decide)) (fun _ => ?_)
      refine lv_aload_n hx hb dX11_shortest_45 rfl (lv_at hl 1 rfl) ?_
      refine qf_get hx hb hts inX11 hown hK hP (q0 := 0) (by decide) (hgM_0 ca o) rfl 41 (by decide) wq_1033 (v := .int ((qu z3 0 43 100000000) 0 41)) rfl dX11_shortest_46 ?_
      refine qtop (x' := 1) h3a ?_
      refine lv_if_le (tgt := 140) hx hb dX11_shortest_49 (by decide) (fun q => absurd q (by decide)) (fun _ => ?_)
      refine lv_aload_n hx hb dX11_shortest_52 rfl (lv_at hl 1 rfl) ?_
      refine lv_iload_n hx hb dX11_shortest_53 rfl (lv_at hl 0 rfl) ?_
      refine qc_Vi (As := [.int 4]) (rest := []) (k0 := 1) (m1_isPerson l D ca o (qu z3 0 43 100000000) y 4 (h3b)) kc_yX11_isPerson ⟨hx, hb, hml, hown, hts⟩ wq_1194 rfl rfl ⟨Nat.le_of_ble_eq_true rfl, Nat.le_of_ble_eq_true rfl⟩ wq_all hP hK hS qw_Ai (q0 := 0) (by decide) (hgM_0 ca o _ _) rfl rfl hl.1 rfl (Nat.le_of_ble_eq_true rfl) dX11_shortest_54 ⟨Nat.zero_le _, Nat.zero_le _⟩ (fun r8 u8 H locs h8 hP hS _ _ => ?_)
      subst h8
      refine lv_if_ne (tgt := 63) hx hb dX11_shortest_57 (by decide) (fun q => absurd q (by decide)) (fun _ => ?_)
      refine lv_goto (tgt := 134) hx hb dX11_shortest_60 (by decide) ?_
      refine lv_iinc (v := 5) (lv' := [(3, .int 5), (0, .ref (o + 0)), (1, .int 0), (2, .int a2)]) hx hb dX11_shortest_134 hl (k := 0) rfl (by decide) (by decide) rfl (fun ls hl => ?_)
      refine lv_goto (tgt := 39) hx hb dX11_shortest_137 (by decide) ?_
      refine lv_iload_n hx hb dX11_shortest_39 rfl (lv_at hl 0 rfl) ?_
      refine lv_bipush (v := 6) hx hb dX11_shortest_40 (by decide) ?_
      refine lv_icmp_ge (tgt := 140) hx hb dX11_shortest_42 (by decide) (fun q => absurd q (by decide)) (fun _ => ?_)
      refine lv_aload_n hx hb dX11_shortest_45 rfl (lv_at hl 1 rfl) ?_
      refine qf_get hx hb hts inX11 hown hK hP (q0 := 0) (by decide) (hgM_0 ca o) rfl 41 (by decide) wq_1033 (v := .int ((qu z3 0 43 100000000) 0 41)) rfl dX11_shortest_46 ?_
      refine qtop (x' := 1) h3a ?_
      refine lv_if_le (tgt := 140) hx hb dX11_shortest_49 (by decide) (fun q => absurd q (by decide)) (fun _ => ?_)
      refine lv_aload_n hx hb dX11_shortest_52 rfl (lv_at hl 1 rfl) ?_
      refine lv_iload_n hx hb dX11_shortest_53 rfl (lv_at hl 0 rfl) ?_
      refine qc_Vi (As := [.int 5]) (rest := []) (k0 := 1) (m1_isPerson l D ca o (qu z3 0 43 100000000) y 5 (h3b)) kc_yX11_isPerson ⟨hx, hb, hml, hown, hts⟩ wq_1194 rfl rfl ⟨Nat.le_of_ble_eq_true rfl, Nat.le_of_ble_eq_true rfl⟩ wq_all hP hK hS qw_Ai (q0 := 0) (by decide) (hgM_0 ca o _ _) rfl rfl hl.1 rfl (Nat.le_of_ble_eq_true rfl) dX11_shortest_54 ⟨Nat.zero_le _, Nat.zero_le _⟩ (fun r9 u9 H locs h9 hP hS _ _ => ?_)
      subst h9
      refine lv_if_ne (tgt := 63) hx hb dX11_shortest_57 (by decide) (fun q => absurd q (by decide)) (fun _ => ?_)
      refine lv_goto (tgt := 134) hx hb dX11_shortest_60 (by decide) ?_
      refine lv_iinc (v := 6) (lv' := [(3, .int 6), (0, .ref (o + 0)), (1, .int 0), (2, .int a2)]) hx hb dX11_shortest_134 hl (k := 0) rfl (by decide) (by decide) rfl (fun ls hl => ?_)
      refine lv_goto (tgt := 39) hx hb dX11_shortest_137 (by decide) ?_
      refine lv_iload_n hx hb dX11_shortest_39 rfl (lv_at hl 0 rfl) ?_
      refine lv_bipush (v := 6) hx hb dX11_shortest_40 (by decide) ?_
      refine lv_icmp_ge (tgt := 140) hx hb dX11_shortest_42 (by decide) (fun _ => ?_) (fun q => absurd (by decide) q)
      refine lv_aload_n hx hb dX11_shortest_140 rfl (lv_at hl 1 rfl) ?_
      refine qf_get hx hb hts inX11 hown hK hP (q0 := 0) (by decide) (hgM_0 ca o) rfl 43 (by decide) wq_1035 (v := .int ((qu z3 0 43 100000000) 0 43)) rfl dX11_shortest_141 ?_
      refine qtop (x' := 100000000) rfl ?_
      refine lv_ldcw (v := 100000000) hx hb hown (hts _ wq_1388) dX11_shortest_144 ?_
      refine lv_icmp_ne (tgt := 153) hx hb dX11_shortest_147 (by decide) (fun q => absurd q (by decide)) (fun _ => ?_)
      refine lv_bipush (v := (-2)) hx hb dX11_shortest_150 (by decide) ?_
      exact W.iret (v := (-2)) hx hb hr (fun t ht hW => ⟨⟨(-2), ((qu z3 0 43 100000000), y), rfl, (ga_p (by omega)), by rw [ht]; exact hP, va_K.moved hW.alike hK⟩, hS.F ht⟩) hS.2.2 dX11_shortest_152
    · subst h2r
      have t2a : a2.toInt < (0 : Int) ∨ (4 : Int) < a2.toInt := h2a
      refine lv_if_ne (tgt := 19) hx hb dX11_shortest_14 (by decide) (fun q => absurd q (by decide)) (fun _ => ?_)
      refine lv_iconst (v := (-1)) hx hb dX11_shortest_17 (by decide) ?_
      exact W.iret (v := (-1)) hx hb hr (fun t ht hW => ⟨⟨(-1), (z, y), rfl, (ga_n (by omega)), by rw [ht]; exact hP, va_K.moved hW.alike hK⟩, hS.F ht⟩) hS.2.2 dX11_shortest_18
  · subst h1r
    refine lv_if_eq (tgt := 17) hx hb dX11_shortest_5 (by decide) (fun _ => ?_) (fun q => absurd (by decide) q)
    refine lv_iconst (v := (-1)) hx hb dX11_shortest_17 (by decide) ?_
    exact W.iret (v := (-1)) hx hb hr (fun t ht hW => ⟨⟨(-1), (z, y), rfl, (ga_n (by omega)), by rw [ht]; exact hP, va_K.moved hW.alike hK⟩, hS.F ht⟩) hS.2.2 dX11_shortest_18

set_option maxRecDepth 100000 in
set_option maxHeartbeats 4000000 in
theorem mP_often (l : Launch) (D : va_G) (ca : Nat → ClassId) (o : Nat) (z : Nat → Nat → Int32) (y : Nat → Nat → Int64) (a1 : Int32) (a2 : Int32) (a3 : Int32) (h0_4 : z 0 4 = 0) (h0_5 : z 0 5 = 0) (h0_6 : z 0 6 = 0) (h0_15 : z 0 15 = 0) (h0_61 : z 0 61 = 0) : qM l yX11_often cX11_often 10 (some .int) 3 103 (qPre D vwCl (qT6 ca) o 41 (qG (GM ca o) z y) [.ref (o + 0), .int a1, .int a2, .int a3]) (va_Qi (fun r _ => r = A_often a1 a2 a3) (qB D vwCl (qT6 ca) o 41 (fun u : qZ => qG (GM ca o) u.1 u.2)) (qw_A o 41)) (qw_A o 41) := by
  refine Met.ofW (cc := cX11_often) (maxL := 10) (ret := (some .int)) (by decide) rfl ?_
  intro p e s m args below meth c s₁ B hml hv
  obtain ⟨rfl, hP, hK⟩ := hv
  have hx := B.exec
  have hb := B.bytes
  have hr := B.returns
  have hts0 := atoms_spec (ws := Cond.code yX11_often cX11_often 10 (some .int) :: qtbl) B.pre
  have hts : ∀ w ∈ qtbl, w.before _ s = true := fun w h => hts0 w (List.mem_cons_of_mem _ h)
  have hown : s.vm.findClass RX11 = some m.cls := findClass_of_methodNamed B.named
  have hlocks := B.notSynchronized
  have hz0 : (0 : Int32).toInt = 0 := rfl
  have hS : va_S (qw_A o 41) s.heap s.heap [] := va_S.rf
  have hl := lv_entry ([.ref (o + 0), .int a1, .int a2, .int a3]) (n := 10) (Nat.le_of_ble_eq_true rfl)
  rw [lg_entry_eq]
  generalize (lg_sl ([.ref (o + 0), .int a1, .int a2, .int a3]) ++ List.replicate (10 - (lg_sl ([.ref (o + 0), .int a1, .int a2, .int a3])).length) Slot.unset).toArray = ls at hl ⊢
  have hl : lv_has ls 10 [(0, .ref (o + 0)), (1, .int a1), (2, .int a2), (3, .int a3)] := hl
  refine lv_aload_n hx hb dX11_often_0 rfl (lv_at hl 0 rfl) ?_
  refine lv_iload_n hx hb dX11_often_1 rfl (lv_at hl 1 rfl) ?_
  refine qc_Vi (As := [.int a1]) (rest := []) (k0 := 1) (m1_areRemarks l D ca o z y a1 (h0_6)) kc_yX11_areRemarks ⟨hx, hb, hml, hown, hts⟩ wq_1324 rfl rfl ⟨Nat.le_of_ble_eq_true rfl, Nat.le_of_ble_eq_true rfl⟩ wq_all hP hK hS qw_Ai (q0 := 0) (by decide) (hgM_0 ca o _ _) rfl rfl hl.1 rfl (Nat.le_of_ble_eq_true rfl) dX11_often_2 ⟨Nat.zero_le _, Nat.zero_le _⟩ (fun r1 u1 H locs h1 hP hS _ _ => ?_)
  rcases h1 with ⟨h1r, h1a⟩ | ⟨h1r, h1a⟩
  · subst h1r
    obtain rfl : a1 = 0 := gr_eq (y := 0) h1a
    refine lv_if_eq (tgt := 25) hx hb dX11_often_5 (by decide) (fun q => absurd q (by decide)) (fun _ => ?_)
    refine lv_aload_n hx hb dX11_often_8 rfl (lv_at hl 0 rfl) ?_
    refine lv_iload_n hx hb dX11_often_9 rfl (lv_at hl 2 rfl) ?_
    refine qc_Vi (As := [.int a2]) (rest := []) (k0 := 1) (m1_isForm l D ca o z y a2 (h0_6)) kc_yX11_isForm ⟨hx, hb, hml, hown, hts⟩ wq_1433 rfl rfl ⟨Nat.le_of_ble_eq_true rfl, Nat.le_of_ble_eq_true rfl⟩ wq_all hP hK hS qw_Ai (q0 := 0) (by decide) (hgM_0 ca o _ _) rfl rfl hl.1 rfl (Nat.le_of_ble_eq_true rfl) dX11_often_10 ⟨Nat.zero_le _, Nat.zero_le _⟩ (fun r2 u2 H locs h2 hP hS _ _ => ?_)
    subst h2
    refine lv_if_eq (tgt := 25) hx hb dX11_often_13 (by decide) (fun _ => ?_) (fun q => absurd (by decide) q)
    refine lv_iconst (v := (-1)) hx hb dX11_often_25 (by decide) ?_
    exact W.iret (v := (-1)) hx hb hr (fun t ht hW => ⟨⟨(-1), (z, y), rfl, rfl, by rw [ht]; exact hP, va_K.moved hW.alike hK⟩, hS.F ht⟩) hS.2.2 dX11_often_26
  · subst h1r
    refine lv_if_eq (tgt := 25) hx hb dX11_often_5 (by decide) (fun _ => ?_) (fun q => absurd (by decide) q)
    refine lv_iconst (v := (-1)) hx hb dX11_often_25 (by decide) ?_
    exact W.iret (v := (-1)) hx hb hr (fun t ht hW => ⟨⟨(-1), (z, y), rfl, rfl, by rw [ht]; exact hP, va_K.moved hW.alike hK⟩, hS.F ht⟩) hS.2.2 dX11_often_26

set_option maxRecDepth 100000 in
set_option maxHeartbeats 4000000 in
theorem mP_middle (l : Launch) (D : va_G) (ca : Nat → ClassId) (o : Nat) (z : Nat → Nat → Int32) (y : Nat → Nat → Int64) (a1 : Int32) (a2 : Int32) (h0_4 : z 0 4 = 0) (h0_5 : z 0 5 = 0) (h0_6 : z 0 6 = 0) (h0_15 : z 0 15 = 0) (h0_61 : z 0 61 = 0) : qM l yX11_middle cX11_middle 6 (some .int) 3 103 (qPre D vwCl (qT6 ca) o 41 (qG (GM ca o) z y) [.ref (o + 0), .int a1, .int a2]) (va_Qi (fun r _ => r = A_middle a1 a2) (qB D vwCl (qT6 ca) o 41 (fun u : qZ => qG (GM ca o) u.1 u.2)) (qw_A o 41)) (qw_A o 41) := by
  refine Met.ofW (cc := cX11_middle) (maxL := 6) (ret := (some .int)) (by decide) rfl ?_
  intro p e s m args below meth c s₁ B hml hv
  obtain ⟨rfl, hP, hK⟩ := hv
  have hx := B.exec
  have hb := B.bytes
  have hr := B.returns
  have hts0 := atoms_spec (ws := Cond.code yX11_middle cX11_middle 6 (some .int) :: qtbl) B.pre
  have hts : ∀ w ∈ qtbl, w.before _ s = true := fun w h => hts0 w (List.mem_cons_of_mem _ h)
  have hown : s.vm.findClass RX11 = some m.cls := findClass_of_methodNamed B.named
  have hlocks := B.notSynchronized
  have hz0 : (0 : Int32).toInt = 0 := rfl
  have hS : va_S (qw_A o 41) s.heap s.heap [] := va_S.rf
  have hl := lv_entry ([.ref (o + 0), .int a1, .int a2]) (n := 6) (Nat.le_of_ble_eq_true rfl)
  rw [lg_entry_eq]
  generalize (lg_sl ([.ref (o + 0), .int a1, .int a2]) ++ List.replicate (6 - (lg_sl ([.ref (o + 0), .int a1, .int a2])).length) Slot.unset).toArray = ls at hl ⊢
  have hl : lv_has ls 6 [(0, .ref (o + 0)), (1, .int a1), (2, .int a2)] := hl
  refine lv_aload_n hx hb dX11_middle_0 rfl (lv_at hl 0 rfl) ?_
  refine lv_iload_n hx hb dX11_middle_1 rfl (lv_at hl 1 rfl) ?_
  refine qc_Vi (As := [.int a1]) (rest := []) (k0 := 1) (m1_areRemarks l D ca o z y a1 (h0_6)) kc_yX11_areRemarks ⟨hx, hb, hml, hown, hts⟩ wq_1324 rfl rfl ⟨Nat.le_of_ble_eq_true rfl, Nat.le_of_ble_eq_true rfl⟩ wq_all hP hK hS qw_Ai (q0 := 0) (by decide) (hgM_0 ca o _ _) rfl rfl hl.1 rfl (Nat.le_of_ble_eq_true rfl) dX11_middle_2 ⟨Nat.zero_le _, Nat.zero_le _⟩ (fun r1 u1 H locs h1 hP hS _ _ => ?_)
  rcases h1 with ⟨h1r, h1a⟩ | ⟨h1r, h1a⟩
  · subst h1r
    obtain rfl : a1 = 0 := gr_eq (y := 0) h1a
    refine lv_if_eq (tgt := 16) hx hb dX11_middle_5 (by decide) (fun q => absurd q (by decide)) (fun _ => ?_)
    refine lv_aload_n hx hb dX11_middle_8 rfl (lv_at hl 0 rfl) ?_
    refine lv_iload_n hx hb dX11_middle_9 rfl (lv_at hl 2 rfl) ?_
    refine qc_Vi (As := [.int a2]) (rest := []) (k0 := 1) (m1_isPerson l D ca o z y a2 (h0_4)) kc_yX11_isPerson ⟨hx, hb, hml, hown, hts⟩ wq_1194 rfl rfl ⟨Nat.le_of_ble_eq_true rfl, Nat.le_of_ble_eq_true rfl⟩ wq_all hP hK hS qw_Ai (q0 := 0) (by decide) (hgM_0 ca o _ _) rfl rfl hl.1 rfl (Nat.le_of_ble_eq_true rfl) dX11_middle_10 ⟨Nat.zero_le _, Nat.zero_le _⟩ (fun r2 u2 H locs h2 hP hS _ _ => ?_)
    subst h2
    refine lv_if_ne (tgt := 18) hx hb dX11_middle_13 (by decide) (fun q => absurd q (by decide)) (fun _ => ?_)
    refine lv_iconst (v := (-1)) hx hb dX11_middle_16 (by decide) ?_
    exact W.iret (v := (-1)) hx hb hr (fun t ht hW => ⟨⟨(-1), (z, y), rfl, rfl, by rw [ht]; exact hP, va_K.moved hW.alike hK⟩, hS.F ht⟩) hS.2.2 dX11_middle_17
  · subst h1r
    refine lv_if_eq (tgt := 16) hx hb dX11_middle_5 (by decide) (fun _ => ?_) (fun q => absurd (by decide) q)
    refine lv_iconst (v := (-1)) hx hb dX11_middle_16 (by decide) ?_
    exact W.iret (v := (-1)) hx hb hr (fun t ht hW => ⟨⟨(-1), (z, y), rfl, rfl, by rw [ht]; exact hP, va_K.moved hW.alike hK⟩, hS.F ht⟩) hS.2.2 dX11_middle_17

set_option maxRecDepth 100000 in
set_option maxHeartbeats 4000000 in
theorem mP_apart (l : Launch) (D : va_G) (ca : Nat → ClassId) (o : Nat) (z : Nat → Nat → Int32) (y : Nat → Nat → Int64) (a1 : Int32) (a2 : Int32) (a3 : Int32) (a4 : Int32) (h0_4 : z 0 4 = 0) (h0_5 : z 0 5 = 0) (h0_6 : z 0 6 = 0) (h0_15 : z 0 15 = 0) (h0_61 : z 0 61 = 0) : qM l yX11_apart cX11_apart 10 (some .int) 4 125 (qPre D vwCl (qT6 ca) o 41 (qG (GM ca o) z y) [.ref (o + 0), .int a1, .int a2, .int a3, .int a4]) (va_Qi (fun r _ => r = A_apart a1 a2 a3 a4) (qB D vwCl (qT6 ca) o 41 (fun u : qZ => qG (GM ca o) u.1 u.2)) (qw_A o 41)) (qw_A o 41) := by
  refine Met.ofW (cc := cX11_apart) (maxL := 10) (ret := (some .int)) (by decide) rfl ?_
  intro p e s m args below meth c s₁ B hml hv
  obtain ⟨rfl, hP, hK⟩ := hv
  have hx := B.exec
  have hb := B.bytes
  have hr := B.returns
  have hts0 := atoms_spec (ws := Cond.code yX11_apart cX11_apart 10 (some .int) :: qtbl) B.pre
  have hts : ∀ w ∈ qtbl, w.before _ s = true := fun w h => hts0 w (List.mem_cons_of_mem _ h)
  have hown : s.vm.findClass RX11 = some m.cls := findClass_of_methodNamed B.named
  have hlocks := B.notSynchronized
  have hz0 : (0 : Int32).toInt = 0 := rfl
  have hS : va_S (qw_A o 41) s.heap s.heap [] := va_S.rf
  have hl := lv_entry ([.ref (o + 0), .int a1, .int a2, .int a3, .int a4]) (n := 10) (Nat.le_of_ble_eq_true rfl)
  rw [lg_entry_eq]
  generalize (lg_sl ([.ref (o + 0), .int a1, .int a2, .int a3, .int a4]) ++ List.replicate (10 - (lg_sl ([.ref (o + 0), .int a1, .int a2, .int a3, .int a4])).length) Slot.unset).toArray = ls at hl ⊢
  have hl : lv_has ls 10 [(0, .ref (o + 0)), (1, .int a1), (2, .int a2), (3, .int a3), (4, .int a4)] := hl
  refine lv_aload_n hx hb dX11_apart_0 rfl (lv_at hl 0 rfl) ?_
  refine lv_iload_n hx hb dX11_apart_1 rfl (lv_at hl 1 rfl) ?_
  refine qc_Vi (As := [.int a1]) (rest := []) (k0 := 1) (m1_areRemarks l D ca o z y a1 (h0_6)) kc_yX11_areRemarks ⟨hx, hb, hml, hown, hts⟩ wq_1324 rfl rfl ⟨Nat.le_of_ble_eq_true rfl, Nat.le_of_ble_eq_true rfl⟩ wq_all hP hK hS qw_Ai (q0 := 0) (by decide) (hgM_0 ca o _ _) rfl rfl hl.1 rfl (Nat.le_of_ble_eq_true rfl) dX11_apart_2 ⟨Nat.zero_le _, Nat.zero_le _⟩ (fun r1 u1 H locs h1 hP hS _ _ => ?_)
  rcases h1 with ⟨h1r, h1a⟩ | ⟨h1r, h1a⟩
  · subst h1r
    obtain rfl : a1 = 0 := gr_eq (y := 0) h1a
    refine lv_if_eq (tgt := 27) hx hb dX11_apart_5 (by decide) (fun q => absurd q (by decide)) (fun _ => ?_)
    refine lv_aload_n hx hb dX11_apart_8 rfl (lv_at hl 0 rfl) ?_
    refine lv_iload_n hx hb dX11_apart_9 rfl (lv_at hl 2 rfl) ?_
    refine lv_iload_n hx hb dX11_apart_10 rfl (lv_at hl 3 rfl) ?_
    refine qc_Vi (As := [.int a2, .int a3]) (rest := []) (k0 := 2) (m1_areTwo l D ca o z y a2 a3 (h0_4)) kc_yX11_areTwo ⟨hx, hb, hml, hown, hts⟩ wq_1384 rfl rfl ⟨Nat.le_of_ble_eq_true rfl, Nat.le_of_ble_eq_true rfl⟩ wq_all hP hK hS qw_Ai (q0 := 0) (by decide) (hgM_0 ca o _ _) rfl rfl hl.1 rfl (Nat.le_of_ble_eq_true rfl) dX11_apart_11 ⟨Nat.zero_le _, Nat.zero_le _⟩ (fun r2 u2 H locs h2 hP hS _ _ => ?_)
    subst h2
    refine lv_if_eq (tgt := 27) hx hb dX11_apart_14 (by decide) (fun _ => ?_) (fun q => absurd (by decide) q)
    refine lv_sipush (v := (-400)) hx hb dX11_apart_27 (by decide) ?_
    exact W.iret (v := (-400)) hx hb hr (fun t ht hW => ⟨⟨(-400), (z, y), rfl, rfl, by rw [ht]; exact hP, va_K.moved hW.alike hK⟩, hS.F ht⟩) hS.2.2 dX11_apart_30
  · subst h1r
    refine lv_if_eq (tgt := 27) hx hb dX11_apart_5 (by decide) (fun _ => ?_) (fun q => absurd (by decide) q)
    refine lv_sipush (v := (-400)) hx hb dX11_apart_27 (by decide) ?_
    exact W.iret (v := (-400)) hx hb hr (fun t ht hW => ⟨⟨(-400), (z, y), rfl, rfl, by rw [ht]; exact hP, va_K.moved hW.alike hK⟩, hS.F ht⟩) hS.2.2 dX11_apart_30

set_option maxRecDepth 100000 in
set_option maxHeartbeats 4000000 in
theorem mP_parent (l : Launch) (D : va_G) (ca : Nat → ClassId) (o : Nat) (z : Nat → Nat → Int32) (y : Nat → Nat → Int64) (a1 : Int32) (a2 : Int32) (a3 : Int32) (h0_4 : z 0 4 = 0) (h0_5 : z 0 5 = 0) (h0_6 : z 0 6 = 0) (h0_15 : z 0 15 = 0) (h0_61 : z 0 61 = 0) : qM l yX11_parent cX11_parent 4 (some .boolean) 4 125 (qPre D vwCl (qT6 ca) o 41 (qG (GM ca o) z y) [.ref (o + 0), .int a1, .int a2, .int a3]) (va_Qi (fun r _ => r = A_parent a1 a2 a3) (qB D vwCl (qT6 ca) o 41 (fun u : qZ => qG (GM ca o) u.1 u.2)) (qw_A o 41)) (qw_A o 41) := by
  refine Met.ofW (cc := cX11_parent) (maxL := 4) (ret := (some .boolean)) (by decide) rfl ?_
  intro p e s m args below meth c s₁ B hml hv
  obtain ⟨rfl, hP, hK⟩ := hv
  have hx := B.exec
  have hb := B.bytes
  have hr := B.returns
  have hts0 := atoms_spec (ws := Cond.code yX11_parent cX11_parent 4 (some .boolean) :: qtbl) B.pre
  have hts : ∀ w ∈ qtbl, w.before _ s = true := fun w h => hts0 w (List.mem_cons_of_mem _ h)
  have hown : s.vm.findClass RX11 = some m.cls := findClass_of_methodNamed B.named
  have hlocks := B.notSynchronized
  have hz0 : (0 : Int32).toInt = 0 := rfl
  have hS : va_S (qw_A o 41) s.heap s.heap [] := va_S.rf
  have hl := lv_entry ([.ref (o + 0), .int a1, .int a2, .int a3]) (n := 4) (Nat.le_of_ble_eq_true rfl)
  rw [lg_entry_eq]
  generalize (lg_sl ([.ref (o + 0), .int a1, .int a2, .int a3]) ++ List.replicate (4 - (lg_sl ([.ref (o + 0), .int a1, .int a2, .int a3])).length) Slot.unset).toArray = ls at hl ⊢
  have hl : lv_has ls 4 [(0, .ref (o + 0)), (1, .int a1), (2, .int a2), (3, .int a3)] := hl
  refine lv_aload_n hx hb dX11_parent_0 rfl (lv_at hl 0 rfl) ?_
  refine lv_iload_n hx hb dX11_parent_1 rfl (lv_at hl 1 rfl) ?_
  refine lv_iload_n hx hb dX11_parent_2 rfl (lv_at hl 2 rfl) ?_
  refine qc_Vi (As := [.int a1, .int a2]) (rest := []) (k0 := 2) (m1_areTwo l D ca o z y a1 a2 (h0_4)) kc_yX11_areTwo ⟨hx, hb, hml, hown, hts⟩ wq_1384 rfl rfl ⟨Nat.le_of_ble_eq_true rfl, Nat.le_of_ble_eq_true rfl⟩ wq_all hP hK hS qw_Ai (q0 := 0) (by decide) (hgM_0 ca o _ _) rfl rfl hl.1 rfl (Nat.le_of_ble_eq_true rfl) dX11_parent_3 ⟨Nat.zero_le _, Nat.zero_le _⟩ (fun r1 u1 H locs h1 hP hS _ _ => ?_)
  subst h1
  refine lv_if_eq (tgt := 19) hx hb dX11_parent_6 (by decide) (fun _ => ?_) (fun q => absurd (by decide) q)
  refine lv_iconst (v := 0) hx hb dX11_parent_19 (by decide) ?_
  exact W.zret (v := 0) (ty := .boolean) hx hb hr rfl (fun t ht hW => ⟨⟨0, (z, y), rfl, rfl, by rw [ht]; exact hP, va_K.moved hW.alike hK⟩, hS.F ht⟩) hS.2.2 dX11_parent_20

set_option maxRecDepth 100000 in
set_option maxHeartbeats 4000000 in
theorem mP_tree (l : Launch) (D : va_G) (ca : Nat → ClassId) (o : Nat) (z : Nat → Nat → Int32) (y : Nat → Nat → Int64) (a1 : Int32) (a2 : Int32) (h0_4 : z 0 4 = 0) (h0_5 : z 0 5 = 0) (h0_6 : z 0 6 = 0) (h0_15 : z 0 15 = 0) (h0_61 : z 0 61 = 0) : qM l yX11_tree cX11_tree 3 (some .int) 3 103 (qPre D vwCl (qT6 ca) o 41 (qG (GM ca o) z y) [.ref (o + 0), .int a1, .int a2]) (va_Qi (fun r _ => r = A_tree a1 a2) (qB D vwCl (qT6 ca) o 41 (fun u : qZ => qG (GM ca o) u.1 u.2)) (qw_A o 41)) (qw_A o 41) := by
  refine Met.ofW (cc := cX11_tree) (maxL := 3) (ret := (some .int)) (by decide) rfl ?_
  intro p e s m args below meth c s₁ B hml hv
  obtain ⟨rfl, hP, hK⟩ := hv
  have hx := B.exec
  have hb := B.bytes
  have hr := B.returns
  have hts0 := atoms_spec (ws := Cond.code yX11_tree cX11_tree 3 (some .int) :: qtbl) B.pre
  have hts : ∀ w ∈ qtbl, w.before _ s = true := fun w h => hts0 w (List.mem_cons_of_mem _ h)
  have hown : s.vm.findClass RX11 = some m.cls := findClass_of_methodNamed B.named
  have hlocks := B.notSynchronized
  have hz0 : (0 : Int32).toInt = 0 := rfl
  have hS : va_S (qw_A o 41) s.heap s.heap [] := va_S.rf
  have hl := lv_entry ([.ref (o + 0), .int a1, .int a2]) (n := 3) (Nat.le_of_ble_eq_true rfl)
  rw [lg_entry_eq]
  generalize (lg_sl ([.ref (o + 0), .int a1, .int a2]) ++ List.replicate (3 - (lg_sl ([.ref (o + 0), .int a1, .int a2])).length) Slot.unset).toArray = ls at hl ⊢
  have hl : lv_has ls 3 [(0, .ref (o + 0)), (1, .int a1), (2, .int a2)] := hl
  refine lv_aload_n hx hb dX11_tree_0 rfl (lv_at hl 0 rfl) ?_
  refine lv_iload_n hx hb dX11_tree_1 rfl (lv_at hl 1 rfl) ?_
  refine qc_Vi (As := [.int a1]) (rest := []) (k0 := 1) (m1_isPerson l D ca o z y a1 (h0_4)) kc_yX11_isPerson ⟨hx, hb, hml, hown, hts⟩ wq_1194 rfl rfl ⟨Nat.le_of_ble_eq_true rfl, Nat.le_of_ble_eq_true rfl⟩ wq_all hP hK hS qw_Ai (q0 := 0) (by decide) (hgM_0 ca o _ _) rfl rfl hl.1 rfl (Nat.le_of_ble_eq_true rfl) dX11_tree_2 ⟨Nat.zero_le _, Nat.zero_le _⟩ (fun r1 u1 H locs h1 hP hS _ _ => ?_)
  subst h1
  refine lv_if_eq (tgt := 17) hx hb dX11_tree_5 (by decide) (fun _ => ?_) (fun q => absurd (by decide) q)
  refine lv_iconst (v := (-1)) hx hb dX11_tree_17 (by decide) ?_
  exact W.iret (v := (-1)) hx hb hr (fun t ht hW => ⟨⟨(-1), (z, y), rfl, rfl, by rw [ht]; exact hP, va_K.moved hW.alike hK⟩, hS.F ht⟩) hS.2.2 dX11_tree_18

set_option maxRecDepth 100000 in
set_option maxHeartbeats 4000000 in
theorem mP_tyres (l : Launch) (D : va_G) (ca : Nat → ClassId) (o : Nat) (z : Nat → Nat → Int32) (y : Nat → Nat → Int64) (a1 : Int32) (a2 : Int32) (h0_4 : z 0 4 = 0) (h0_5 : z 0 5 = 0) (h0_6 : z 0 6 = 0) (h0_15 : z 0 15 = 0) (h0_61 : z 0 61 = 0) : qM l yX11_tyres cX11_tyres 5 (some .int) 2 82 (qPre D vwCl (qT6 ca) o 41 (qG (GM ca o) z y) [.ref (o + 0), .int a1, .int a2]) (va_Qi (fun r _ => r = A_tyres a1 a2) (qB D vwCl (qT6 ca) o 41 (fun u : qZ => qG (GM ca o) u.1 u.2)) (qw_A o 41)) (qw_A o 41) := by
  refine Met.ofW (cc := cX11_tyres) (maxL := 5) (ret := (some .int)) (by decide) rfl ?_
  intro p e s m args below meth c s₁ B hml hv
  obtain ⟨rfl, hP, hK⟩ := hv
  have hx := B.exec
  have hb := B.bytes
  have hr := B.returns
  have hts0 := atoms_spec (ws := Cond.code yX11_tyres cX11_tyres 5 (some .int) :: qtbl) B.pre
  have hts : ∀ w ∈ qtbl, w.before _ s = true := fun w h => hts0 w (List.mem_cons_of_mem _ h)
  have hown : s.vm.findClass RX11 = some m.cls := findClass_of_methodNamed B.named
  have hlocks := B.notSynchronized
  have hz0 : (0 : Int32).toInt = 0 := rfl
  have hS : va_S (qw_A o 41) s.heap s.heap [] := va_S.rf
  have hl := lv_entry ([.ref (o + 0), .int a1, .int a2]) (n := 5) (Nat.le_of_ble_eq_true rfl)
  rw [lg_entry_eq]
  generalize (lg_sl ([.ref (o + 0), .int a1, .int a2]) ++ List.replicate (5 - (lg_sl ([.ref (o + 0), .int a1, .int a2])).length) Slot.unset).toArray = ls at hl ⊢
  have hl : lv_has ls 5 [(0, .ref (o + 0)), (1, .int a1), (2, .int a2)] := hl
  refine lv_iload_n hx hb dX11_tyres_0 rfl (lv_at hl 1 rfl) ?_
  refine lv_iconst (v := 1) hx hb dX11_tyres_1 (by decide) ?_
  refine lv_bipush (v := 8) hx hb dX11_tyres_2 (by decide) ?_
  refine qc_Si (As := [.int a1, .int 1, .int 8]) (rest := []) (k0 := 3) (m1_in l D ca o z y a1 1 8) kc_yX11_in ⟨hx, hb, hml, hown, hts⟩ wq_1187 rfl rfl ⟨Nat.le_of_ble_eq_true rfl, Nat.le_of_ble_eq_true rfl⟩ wq_all hP hK hS qw_Ai rfl hl.1 rfl (Nat.le_of_ble_eq_true rfl) dX11_tyres_4 ⟨Nat.zero_le _, Nat.zero_le _⟩ (fun r1 u1 H locs h1 hP hS _ _ => ?_)
  rcases h1 with ⟨h1r, h1a, h1b⟩ | ⟨h1r, h1a⟩
  · subst h1r
    have t1a : a1.toInt ≥ (1 : Int) := h1a
    have t1b : a1.toInt ≤ (8 : Int) := h1b
    refine lv_if_eq (tgt := 28) hx hb dX11_tyres_7 (by decide) (fun q => absurd q (by decide)) (fun _ => ?_)
    refine lv_iload_n hx hb dX11_tyres_10 rfl (lv_at hl 2 rfl) ?_
    refine lv_iconst (v := 1) hx hb dX11_tyres_11 (by decide) ?_
    refine lv_bipush (v := 8) hx hb dX11_tyres_12 (by decide) ?_
    refine qc_Si (As := [.int a2, .int 1, .int 8]) (rest := []) (k0 := 3) (m1_in l D ca o z y a2 1 8) kc_yX11_in ⟨hx, hb, hml, hown, hts⟩ wq_1187 rfl rfl ⟨Nat.le_of_ble_eq_true rfl, Nat.le_of_ble_eq_true rfl⟩ wq_all hP hK hS qw_Ai rfl hl.1 rfl (Nat.le_of_ble_eq_true rfl) dX11_tyres_14 ⟨Nat.zero_le _, Nat.zero_le _⟩ (fun r2 u2 H locs h2 hP hS _ _ => ?_)
    rcases h2 with ⟨h2r, h2a, h2b⟩ | ⟨h2r, h2a⟩
    · subst h2r
      have t2a : a2.toInt ≥ (1 : Int) := h2a
      have t2b : a2.toInt ≤ (8 : Int) := h2b
      refine lv_if_eq (tgt := 28) hx hb dX11_tyres_17 (by decide) (fun q => absurd q (by decide)) (fun _ => ?_)
      refine lv_iload_n hx hb dX11_tyres_20 rfl (lv_at hl 1 rfl) ?_
      refine lv_aload_n hx hb dX11_tyres_21 rfl (lv_at hl 0 rfl) ?_
      refine qf_get hx hb hts inX11 hown hK hP (q0 := 0) (by decide) (hgM_0 ca o) rfl 15 (by decide) wq_1008 (v := .int (z 0 15)) rfl dX11_tyres_22 ?_
      refine qtop (x' := 0) h0_15 ?_
      refine lv_icmp_le (tgt := 30) hx hb dX11_tyres_25 (by decide) (fun q => absurd q (gr_nle (by show (0 : Int) < a1.toInt; omega))) (fun _ => ?_)
      refine lv_iconst (v := (-1)) hx hb dX11_tyres_28 (by decide) ?_
      exact W.iret (v := (-1)) hx hb hr (fun t ht hW => ⟨⟨(-1), (z, y), rfl, rfl, by rw [ht]; exact hP, va_K.moved hW.alike hK⟩, hS.F ht⟩) hS.2.2 dX11_tyres_29
    · subst h2r
      have t2a : a2.toInt < (1 : Int) ∨ (8 : Int) < a2.toInt := h2a
      refine lv_if_eq (tgt := 28) hx hb dX11_tyres_17 (by decide) (fun _ => ?_) (fun q => absurd (by decide) q)
      refine lv_iconst (v := (-1)) hx hb dX11_tyres_28 (by decide) ?_
      exact W.iret (v := (-1)) hx hb hr (fun t ht hW => ⟨⟨(-1), (z, y), rfl, rfl, by rw [ht]; exact hP, va_K.moved hW.alike hK⟩, hS.F ht⟩) hS.2.2 dX11_tyres_29
  · subst h1r
    have t1a : a1.toInt < (1 : Int) ∨ (8 : Int) < a1.toInt := h1a
    refine lv_if_eq (tgt := 28) hx hb dX11_tyres_7 (by decide) (fun _ => ?_) (fun q => absurd (by decide) q)
    refine lv_iconst (v := (-1)) hx hb dX11_tyres_28 (by decide) ?_
    exact W.iret (v := (-1)) hx hb hr (fun t ht hW => ⟨⟨(-1), (z, y), rfl, rfl, by rw [ht]; exact hP, va_K.moved hW.alike hK⟩, hS.F ht⟩) hS.2.2 dX11_tyres_29

set_option maxRecDepth 100000 in
set_option maxHeartbeats 4000000 in
theorem mP_butts (l : Launch) (D : va_G) (ca : Nat → ClassId) (o : Nat) (z : Nat → Nat → Int32) (y : Nat → Nat → Int64) (a1 : Int32) (h0_4 : z 0 4 = 0) (h0_5 : z 0 5 = 0) (h0_6 : z 0 6 = 0) (h0_15 : z 0 15 = 0) (h0_61 : z 0 61 = 0) : qM l yX11_butts cX11_butts 6 (some .int) 2 82 (qPre D vwCl (qT6 ca) o 41 (qG (GM ca o) z y) [.ref (o + 0), .int a1]) (va_Qi (fun r _ => r = A_butts a1) (qB D vwCl (qT6 ca) o 41 (fun u : qZ => qG (GM ca o) u.1 u.2)) (qw_A o 41)) (qw_A o 41) := by
  refine Met.ofW (cc := cX11_butts) (maxL := 6) (ret := (some .int)) (by decide) rfl ?_
  intro p e s m args below meth c s₁ B hml hv
  obtain ⟨rfl, hP, hK⟩ := hv
  have hx := B.exec
  have hb := B.bytes
  have hr := B.returns
  have hts0 := atoms_spec (ws := Cond.code yX11_butts cX11_butts 6 (some .int) :: qtbl) B.pre
  have hts : ∀ w ∈ qtbl, w.before _ s = true := fun w h => hts0 w (List.mem_cons_of_mem _ h)
  have hown : s.vm.findClass RX11 = some m.cls := findClass_of_methodNamed B.named
  have hlocks := B.notSynchronized
  have hz0 : (0 : Int32).toInt = 0 := rfl
  have hS : va_S (qw_A o 41) s.heap s.heap [] := va_S.rf
  have hl := lv_entry ([.ref (o + 0), .int a1]) (n := 6) (Nat.le_of_ble_eq_true rfl)
  rw [lg_entry_eq]
  generalize (lg_sl ([.ref (o + 0), .int a1]) ++ List.replicate (6 - (lg_sl ([.ref (o + 0), .int a1])).length) Slot.unset).toArray = ls at hl ⊢
  have hl : lv_has ls 6 [(0, .ref (o + 0)), (1, .int a1)] := hl
  refine lv_iload_n hx hb dX11_butts_0 rfl (lv_at hl 1 rfl) ?_
  refine lv_iconst (v := 0) hx hb dX11_butts_1 (by decide) ?_
  refine lv_bipush (v := 20) hx hb dX11_butts_2 (by decide) ?_
  refine qc_Si (As := [.int a1, .int 0, .int 20]) (rest := []) (k0 := 3) (m1_in l D ca o z y a1 0 20) kc_yX11_in ⟨hx, hb, hml, hown, hts⟩ wq_1187 rfl rfl ⟨Nat.le_of_ble_eq_true rfl, Nat.le_of_ble_eq_true rfl⟩ wq_all hP hK hS qw_Ai rfl hl.1 rfl (Nat.le_of_ble_eq_true rfl) dX11_butts_4 ⟨Nat.zero_le _, Nat.zero_le _⟩ (fun r1 u1 H locs h1 hP hS _ _ => ?_)
  rcases h1 with ⟨h1r, h1a, h1b⟩ | ⟨h1r, h1a⟩
  · subst h1r
    have t1a : a1.toInt ≥ (0 : Int) := h1a
    have t1b : a1.toInt ≤ (20 : Int) := h1b
    refine lv_if_eq (tgt := 19) hx hb dX11_butts_7 (by decide) (fun q => absurd q (by decide)) (fun _ => ?_)
    refine lv_aload_n hx hb dX11_butts_10 rfl (lv_at hl 0 rfl) ?_
    refine qf_get hx hb hts inX11 hown hK hP (q0 := 0) (by decide) (hgM_0 ca o) rfl 15 (by decide) wq_1008 (v := .int (z 0 15)) rfl dX11_butts_11 ?_
    refine qtop (x' := 0) h0_15 ?_
    refine lv_bipush (v := 6) hx hb dX11_butts_14 (by decide) ?_
    refine lv_icmp_ge (tgt := 21) hx hb dX11_butts_16 (by decide) (fun q => absurd q (by decide)) (fun _ => ?_)
    refine lv_iconst (v := (-1)) hx hb dX11_butts_19 (by decide) ?_
    exact W.iret (v := (-1)) hx hb hr (fun t ht hW => ⟨⟨(-1), (z, y), rfl, rfl, by rw [ht]; exact hP, va_K.moved hW.alike hK⟩, hS.F ht⟩) hS.2.2 dX11_butts_20
  · subst h1r
    have t1a : a1.toInt < (0 : Int) ∨ (20 : Int) < a1.toInt := h1a
    refine lv_if_eq (tgt := 19) hx hb dX11_butts_7 (by decide) (fun _ => ?_) (fun q => absurd (by decide) q)
    refine lv_iconst (v := (-1)) hx hb dX11_butts_19 (by decide) ?_
    exact W.iret (v := (-1)) hx hb hr (fun t ht hW => ⟨⟨(-1), (z, y), rfl, rfl, by rw [ht]; exact hP, va_K.moved hW.alike hK⟩, hS.F ht⟩) hS.2.2 dX11_butts_20

set_option maxRecDepth 100000 in
set_option maxHeartbeats 4000000 in
theorem mP_plain (l : Launch) (D : va_G) (ca : Nat → ClassId) (o : Nat) (z : Nat → Nat → Int32) (y : Nat → Nat → Int64) (a1 : Int32) (a2 : Int32) (h0_4 : z 0 4 = 0) (h0_5 : z 0 5 = 0) (h0_6 : z 0 6 = 0) (h0_15 : z 0 15 = 0) (h0_61 : z 0 61 = 0) : qM l yX11_plain cX11_plain 3 (some .int) 2 82 (qPre D vwCl (qT6 ca) o 41 (qG (GM ca o) z y) [.ref (o + 0), .int a1, .int a2]) (va_Qi (fun r _ => r = A_plain a1 a2) (qB D vwCl (qT6 ca) o 41 (fun u : qZ => qG (GM ca o) u.1 u.2)) (qw_A o 41)) (qw_A o 41) := by
  refine Met.ofW (cc := cX11_plain) (maxL := 3) (ret := (some .int)) (by decide) rfl ?_
  intro p e s m args below meth c s₁ B hml hv
  obtain ⟨rfl, hP, hK⟩ := hv
  have hx := B.exec
  have hb := B.bytes
  have hr := B.returns
  have hts0 := atoms_spec (ws := Cond.code yX11_plain cX11_plain 3 (some .int) :: qtbl) B.pre
  have hts : ∀ w ∈ qtbl, w.before _ s = true := fun w h => hts0 w (List.mem_cons_of_mem _ h)
  have hown : s.vm.findClass RX11 = some m.cls := findClass_of_methodNamed B.named
  have hlocks := B.notSynchronized
  have hz0 : (0 : Int32).toInt = 0 := rfl
  have hS : va_S (qw_A o 41) s.heap s.heap [] := va_S.rf
  have hl := lv_entry ([.ref (o + 0), .int a1, .int a2]) (n := 3) (Nat.le_of_ble_eq_true rfl)
  rw [lg_entry_eq]
  generalize (lg_sl ([.ref (o + 0), .int a1, .int a2]) ++ List.replicate (3 - (lg_sl ([.ref (o + 0), .int a1, .int a2])).length) Slot.unset).toArray = ls at hl ⊢
  have hl : lv_has ls 3 [(0, .ref (o + 0)), (1, .int a1), (2, .int a2)] := hl
  refine lv_iload_n hx hb dX11_plain_0 rfl (lv_at hl 1 rfl) ?_
  refine lv_iconst (v := 0) hx hb dX11_plain_1 (by decide) ?_
  refine lv_bipush (v := 15) hx hb dX11_plain_2 (by decide) ?_
  refine qc_Si (As := [.int a1, .int 0, .int 15]) (rest := []) (k0 := 3) (m1_in l D ca o z y a1 0 15) kc_yX11_in ⟨hx, hb, hml, hown, hts⟩ wq_1187 rfl rfl ⟨Nat.le_of_ble_eq_true rfl, Nat.le_of_ble_eq_true rfl⟩ wq_all hP hK hS qw_Ai rfl hl.1 rfl (Nat.le_of_ble_eq_true rfl) dX11_plain_4 ⟨Nat.zero_le _, Nat.zero_le _⟩ (fun r1 u1 H locs h1 hP hS _ _ => ?_)
  rcases h1 with ⟨h1r, h1a, h1b⟩ | ⟨h1r, h1a⟩
  · subst h1r
    have t1a : a1.toInt ≥ (0 : Int) := h1a
    have t1b : a1.toInt ≤ (15 : Int) := h1b
    refine lv_if_eq (tgt := 31) hx hb dX11_plain_7 (by decide) (fun q => absurd q (by decide)) (fun _ => ?_)
    refine lv_aload_n hx hb dX11_plain_10 rfl (lv_at hl 0 rfl) ?_
    refine qf_get hx hb hts inX11 hown hK hP (q0 := 0) (by decide) (hgM_0 ca o) rfl 6 (by decide) wq_999 (v := .int (z 0 6)) rfl dX11_plain_11 ?_
    refine qtop (x' := 0) h0_6 ?_
    refine lv_iload_n hx hb dX11_plain_14 rfl (lv_at hl 1 rfl) ?_
    refine qc_Si (As := [.int 0, .int a1]) (rest := []) (k0 := 2) (m1_has0 l D ca o z y a1) kc_yX11_has ⟨hx, hb, hml, hown, hts⟩ wq_1198 rfl rfl ⟨Nat.le_of_ble_eq_true rfl, Nat.le_of_ble_eq_true rfl⟩ wq_all hP hK hS qw_Ai rfl hl.1 rfl (Nat.le_of_ble_eq_true rfl) dX11_plain_15 ⟨Nat.zero_le _, Nat.zero_le _⟩ (fun r2 u2 H locs h2 hP hS _ _ => ?_)
    subst h2
    refine lv_if_eq (tgt := 31) hx hb dX11_plain_18 (by decide) (fun _ => ?_) (fun q => absurd (by decide) q)
    refine lv_iconst (v := 0) hx hb dX11_plain_31 (by decide) ?_
    exact W.iret (v := 0) hx hb hr (fun t ht hW => ⟨⟨0, (z, y), rfl, rfl, by rw [ht]; exact hP, va_K.moved hW.alike hK⟩, hS.F ht⟩) hS.2.2 dX11_plain_32
  · subst h1r
    have t1a : a1.toInt < (0 : Int) ∨ (15 : Int) < a1.toInt := h1a
    refine lv_if_eq (tgt := 31) hx hb dX11_plain_7 (by decide) (fun _ => ?_) (fun q => absurd (by decide) q)
    refine lv_iconst (v := 0) hx hb dX11_plain_31 (by decide) ?_
    exact W.iret (v := 0) hx hb hr (fun t ht hW => ⟨⟨0, (z, y), rfl, rfl, by rw [ht]; exact hP, va_K.moved hW.alike hK⟩, hS.F ht⟩) hS.2.2 dX11_plain_32

set_option maxRecDepth 100000 in
set_option maxHeartbeats 4000000 in
theorem mP_remarkIs (l : Launch) (D : va_G) (ca : Nat → ClassId) (o : Nat) (z : Nat → Nat → Int32) (y : Nat → Nat → Int64) (a1 : Int32) (a2 : Int32) (h0_4 : z 0 4 = 0) (h0_5 : z 0 5 = 0) (h0_6 : z 0 6 = 0) (h0_15 : z 0 15 = 0) (h0_61 : z 0 61 = 0) : qM l yX11_remarkIs cX11_remarkIs 3 (some .int) 2 82 (qPre D vwCl (qT6 ca) o 41 (qG (GM ca o) z y) [.ref (o + 0), .int a1, .int a2]) (va_Qi (fun r _ => r = A_remarkIs a1 a2) (qB D vwCl (qT6 ca) o 41 (fun u : qZ => qG (GM ca o) u.1 u.2)) (qw_A o 41)) (qw_A o 41) := by
  refine Met.ofW (cc := cX11_remarkIs) (maxL := 3) (ret := (some .int)) (by decide) rfl ?_
  intro p e s m args below meth c s₁ B hml hv
  obtain ⟨rfl, hP, hK⟩ := hv
  have hx := B.exec
  have hb := B.bytes
  have hr := B.returns
  have hts0 := atoms_spec (ws := Cond.code yX11_remarkIs cX11_remarkIs 3 (some .int) :: qtbl) B.pre
  have hts : ∀ w ∈ qtbl, w.before _ s = true := fun w h => hts0 w (List.mem_cons_of_mem _ h)
  have hown : s.vm.findClass RX11 = some m.cls := findClass_of_methodNamed B.named
  have hlocks := B.notSynchronized
  have hz0 : (0 : Int32).toInt = 0 := rfl
  have hS : va_S (qw_A o 41) s.heap s.heap [] := va_S.rf
  have hl := lv_entry ([.ref (o + 0), .int a1, .int a2]) (n := 3) (Nat.le_of_ble_eq_true rfl)
  rw [lg_entry_eq]
  generalize (lg_sl ([.ref (o + 0), .int a1, .int a2]) ++ List.replicate (3 - (lg_sl ([.ref (o + 0), .int a1, .int a2])).length) Slot.unset).toArray = ls at hl ⊢
  have hl : lv_has ls 3 [(0, .ref (o + 0)), (1, .int a1), (2, .int a2)] := hl
  refine lv_iload_n hx hb dX11_remarkIs_0 rfl (lv_at hl 1 rfl) ?_
  refine lv_iconst (v := 0) hx hb dX11_remarkIs_1 (by decide) ?_
  refine lv_bipush (v := 15) hx hb dX11_remarkIs_2 (by decide) ?_
  refine qc_Si (As := [.int a1, .int 0, .int 15]) (rest := []) (k0 := 3) (m1_in l D ca o z y a1 0 15) kc_yX11_in ⟨hx, hb, hml, hown, hts⟩ wq_1187 rfl rfl ⟨Nat.le_of_ble_eq_true rfl, Nat.le_of_ble_eq_true rfl⟩ wq_all hP hK hS qw_Ai rfl hl.1 rfl (Nat.le_of_ble_eq_true rfl) dX11_remarkIs_4 ⟨Nat.zero_le _, Nat.zero_le _⟩ (fun r1 u1 H locs h1 hP hS _ _ => ?_)
  rcases h1 with ⟨h1r, h1a, h1b⟩ | ⟨h1r, h1a⟩
  · subst h1r
    have t1a : a1.toInt ≥ (0 : Int) := h1a
    have t1b : a1.toInt ≤ (15 : Int) := h1b
    refine lv_if_eq (tgt := 40) hx hb dX11_remarkIs_7 (by decide) (fun q => absurd q (by decide)) (fun _ => ?_)
    refine lv_aload_n hx hb dX11_remarkIs_10 rfl (lv_at hl 0 rfl) ?_
    refine qf_get hx hb hts inX11 hown hK hP (q0 := 0) (by decide) (hgM_0 ca o) rfl 6 (by decide) wq_999 (v := .int (z 0 6)) rfl dX11_remarkIs_11 ?_
    refine qtop (x' := 0) h0_6 ?_
    refine lv_iload_n hx hb dX11_remarkIs_14 rfl (lv_at hl 1 rfl) ?_
    refine qc_Si (As := [.int 0, .int a1]) (rest := []) (k0 := 2) (m1_has0 l D ca o z y a1) kc_yX11_has ⟨hx, hb, hml, hown, hts⟩ wq_1198 rfl rfl ⟨Nat.le_of_ble_eq_true rfl, Nat.le_of_ble_eq_true rfl⟩ wq_all hP hK hS qw_Ai rfl hl.1 rfl (Nat.le_of_ble_eq_true rfl) dX11_remarkIs_15 ⟨Nat.zero_le _, Nat.zero_le _⟩ (fun r2 u2 H locs h2 hP hS _ _ => ?_)
    subst h2
    refine lv_if_eq (tgt := 40) hx hb dX11_remarkIs_18 (by decide) (fun _ => ?_) (fun q => absurd (by decide) q)
    refine lv_iconst (v := (-1)) hx hb dX11_remarkIs_40 (by decide) ?_
    exact W.iret (v := (-1)) hx hb hr (fun t ht hW => ⟨⟨(-1), (z, y), rfl, rfl, by rw [ht]; exact hP, va_K.moved hW.alike hK⟩, hS.F ht⟩) hS.2.2 dX11_remarkIs_41
  · subst h1r
    have t1a : a1.toInt < (0 : Int) ∨ (15 : Int) < a1.toInt := h1a
    refine lv_if_eq (tgt := 40) hx hb dX11_remarkIs_7 (by decide) (fun _ => ?_) (fun q => absurd (by decide) q)
    refine lv_iconst (v := (-1)) hx hb dX11_remarkIs_40 (by decide) ?_
    exact W.iret (v := (-1)) hx hb hr (fun t ht hW => ⟨⟨(-1), (z, y), rfl, rfl, by rw [ht]; exact hP, va_K.moved hW.alike hK⟩, hS.F ht⟩) hS.2.2 dX11_remarkIs_41

set_option maxRecDepth 100000 in
set_option maxHeartbeats 4000000 in
theorem mP_worth (l : Launch) (D : va_G) (ca : Nat → ClassId) (o : Nat) (z : Nat → Nat → Int32) (y : Nat → Nat → Int64) (a1 : Int32) (a2 : Int32) (h0_4 : z 0 4 = 0) (h0_5 : z 0 5 = 0) (h0_6 : z 0 6 = 0) (h0_15 : z 0 15 = 0) (h0_61 : z 0 61 = 0) : qM l yX11_worth cX11_worth 3 (some .int) 3 103 (qPre D vwCl (qT6 ca) o 41 (qG (GM ca o) z y) [.ref (o + 0), .int a1, .int a2]) (va_Qi (fun r _ => r = A_worth a1 a2) (qB D vwCl (qT6 ca) o 41 (fun u : qZ => qG (GM ca o) u.1 u.2)) (qw_A o 41)) (qw_A o 41) := by
  refine Met.ofW (cc := cX11_worth) (maxL := 3) (ret := (some .int)) (by decide) rfl ?_
  intro p e s m args below meth c s₁ B hml hv
  obtain ⟨rfl, hP, hK⟩ := hv
  have hx := B.exec
  have hb := B.bytes
  have hr := B.returns
  have hts0 := atoms_spec (ws := Cond.code yX11_worth cX11_worth 3 (some .int) :: qtbl) B.pre
  have hts : ∀ w ∈ qtbl, w.before _ s = true := fun w h => hts0 w (List.mem_cons_of_mem _ h)
  have hown : s.vm.findClass RX11 = some m.cls := findClass_of_methodNamed B.named
  have hlocks := B.notSynchronized
  have hz0 : (0 : Int32).toInt = 0 := rfl
  have hS : va_S (qw_A o 41) s.heap s.heap [] := va_S.rf
  have hl := lv_entry ([.ref (o + 0), .int a1, .int a2]) (n := 3) (Nat.le_of_ble_eq_true rfl)
  rw [lg_entry_eq]
  generalize (lg_sl ([.ref (o + 0), .int a1, .int a2]) ++ List.replicate (3 - (lg_sl ([.ref (o + 0), .int a1, .int a2])).length) Slot.unset).toArray = ls at hl ⊢
  have hl : lv_has ls 3 [(0, .ref (o + 0)), (1, .int a1), (2, .int a2)] := hl
  refine lv_aload_n hx hb dX11_worth_0 rfl (lv_at hl 0 rfl) ?_
  refine lv_iload_n hx hb dX11_worth_1 rfl (lv_at hl 1 rfl) ?_
  refine qc_Vi (As := [.int a1]) (rest := []) (k0 := 1) (m1_areRemarks l D ca o z y a1 (h0_6)) kc_yX11_areRemarks ⟨hx, hb, hml, hown, hts⟩ wq_1324 rfl rfl ⟨Nat.le_of_ble_eq_true rfl, Nat.le_of_ble_eq_true rfl⟩ wq_all hP hK hS qw_Ai (q0 := 0) (by decide) (hgM_0 ca o _ _) rfl rfl hl.1 rfl (Nat.le_of_ble_eq_true rfl) dX11_worth_2 ⟨Nat.zero_le _, Nat.zero_le _⟩ (fun r1 u1 H locs h1 hP hS _ _ => ?_)
  rcases h1 with ⟨h1r, h1a⟩ | ⟨h1r, h1a⟩
  · subst h1r
    obtain rfl : a1 = 0 := gr_eq (y := 0) h1a
    refine lv_if_eq (tgt := 26) hx hb dX11_worth_5 (by decide) (fun q => absurd q (by decide)) (fun _ => ?_)
    refine lv_aload_n hx hb dX11_worth_8 rfl (lv_at hl 0 rfl) ?_
    refine lv_iload_n hx hb dX11_worth_9 rfl (lv_at hl 2 rfl) ?_
    refine qc_Vi (As := [.int a2]) (rest := []) (k0 := 1) (m1_isForm l D ca o z y a2 (h0_6)) kc_yX11_isForm ⟨hx, hb, hml, hown, hts⟩ wq_1433 rfl rfl ⟨Nat.le_of_ble_eq_true rfl, Nat.le_of_ble_eq_true rfl⟩ wq_all hP hK hS qw_Ai (q0 := 0) (by decide) (hgM_0 ca o _ _) rfl rfl hl.1 rfl (Nat.le_of_ble_eq_true rfl) dX11_worth_10 ⟨Nat.zero_le _, Nat.zero_le _⟩ (fun r2 u2 H locs h2 hP hS _ _ => ?_)
    subst h2
    refine lv_if_eq (tgt := 26) hx hb dX11_worth_13 (by decide) (fun _ => ?_) (fun q => absurd (by decide) q)
    refine lv_iconst (v := 0) hx hb dX11_worth_26 (by decide) ?_
    exact W.iret (v := 0) hx hb hr (fun t ht hW => ⟨⟨0, (z, y), rfl, rfl, by rw [ht]; exact hP, va_K.moved hW.alike hK⟩, hS.F ht⟩) hS.2.2 dX11_worth_27
  · subst h1r
    refine lv_if_eq (tgt := 26) hx hb dX11_worth_5 (by decide) (fun _ => ?_) (fun q => absurd (by decide) q)
    refine lv_iconst (v := 0) hx hb dX11_worth_26 (by decide) ?_
    exact W.iret (v := 0) hx hb hr (fun t ht hW => ⟨⟨0, (z, y), rfl, rfl, by rw [ht]; exact hP, va_K.moved hW.alike hK⟩, hS.F ht⟩) hS.2.2 dX11_worth_27

set_option maxRecDepth 100000 in
set_option maxHeartbeats 4000000 in
theorem mP_between (l : Launch) (D : va_G) (ca : Nat → ClassId) (o : Nat) (z : Nat → Nat → Int32) (y : Nat → Nat → Int64) (a1 : Int32) (a2 : Int32) (a3 : Int32) (h0_4 : z 0 4 = 0) (h0_5 : z 0 5 = 0) (h0_6 : z 0 6 = 0) (h0_15 : z 0 15 = 0) (h0_61 : z 0 61 = 0) : qM l yX11_between cX11_between 8 (some .int) 3 103 (qPre D vwCl (qT6 ca) o 41 (qG (GM ca o) z y) [.ref (o + 0), .int a1, .int a2, .int a3]) (va_Qi (fun r _ => r = A_between a1 a2 a3) (qB D vwCl (qT6 ca) o 41 (fun u : qZ => qG (GM ca o) u.1 u.2)) (qw_A o 41)) (qw_A o 41) := by
  refine Met.ofW (cc := cX11_between) (maxL := 8) (ret := (some .int)) (by decide) rfl ?_
  intro p e s m args below meth c s₁ B hml hv
  obtain ⟨rfl, hP, hK⟩ := hv
  have hx := B.exec
  have hb := B.bytes
  have hr := B.returns
  have hts0 := atoms_spec (ws := Cond.code yX11_between cX11_between 8 (some .int) :: qtbl) B.pre
  have hts : ∀ w ∈ qtbl, w.before _ s = true := fun w h => hts0 w (List.mem_cons_of_mem _ h)
  have hown : s.vm.findClass RX11 = some m.cls := findClass_of_methodNamed B.named
  have hlocks := B.notSynchronized
  have hz0 : (0 : Int32).toInt = 0 := rfl
  have hS : va_S (qw_A o 41) s.heap s.heap [] := va_S.rf
  have hl := lv_entry ([.ref (o + 0), .int a1, .int a2, .int a3]) (n := 8) (Nat.le_of_ble_eq_true rfl)
  rw [lg_entry_eq]
  generalize (lg_sl ([.ref (o + 0), .int a1, .int a2, .int a3]) ++ List.replicate (8 - (lg_sl ([.ref (o + 0), .int a1, .int a2, .int a3])).length) Slot.unset).toArray = ls at hl ⊢
  have hl : lv_has ls 8 [(0, .ref (o + 0)), (1, .int a1), (2, .int a2), (3, .int a3)] := hl
  refine lv_aload_n hx hb dX11_between_0 rfl (lv_at hl 0 rfl) ?_
  refine lv_iload_n hx hb dX11_between_1 rfl (lv_at hl 1 rfl) ?_
  refine qc_Vi (As := [.int a1]) (rest := []) (k0 := 1) (m1_areRemarks l D ca o z y a1 (h0_6)) kc_yX11_areRemarks ⟨hx, hb, hml, hown, hts⟩ wq_1324 rfl rfl ⟨Nat.le_of_ble_eq_true rfl, Nat.le_of_ble_eq_true rfl⟩ wq_all hP hK hS qw_Ai (q0 := 0) (by decide) (hgM_0 ca o _ _) rfl rfl hl.1 rfl (Nat.le_of_ble_eq_true rfl) dX11_between_2 ⟨Nat.zero_le _, Nat.zero_le _⟩ (fun r1 u1 H locs h1 hP hS _ _ => ?_)
  rcases h1 with ⟨h1r, h1a⟩ | ⟨h1r, h1a⟩
  · subst h1r
    obtain rfl : a1 = 0 := gr_eq (y := 0) h1a
    refine lv_if_eq (tgt := 35) hx hb dX11_between_5 (by decide) (fun q => absurd q (by decide)) (fun _ => ?_)
    refine lv_aload_n hx hb dX11_between_8 rfl (lv_at hl 0 rfl) ?_
    refine lv_iload_n hx hb dX11_between_9 rfl (lv_at hl 2 rfl) ?_
    refine qc_Vi (As := [.int a2]) (rest := []) (k0 := 1) (m1_isForm l D ca o z y a2 (h0_6)) kc_yX11_isForm ⟨hx, hb, hml, hown, hts⟩ wq_1433 rfl rfl ⟨Nat.le_of_ble_eq_true rfl, Nat.le_of_ble_eq_true rfl⟩ wq_all hP hK hS qw_Ai (q0 := 0) (by decide) (hgM_0 ca o _ _) rfl rfl hl.1 rfl (Nat.le_of_ble_eq_true rfl) dX11_between_10 ⟨Nat.zero_le _, Nat.zero_le _⟩ (fun r2 u2 H locs h2 hP hS _ _ => ?_)
    subst h2
    refine lv_if_eq (tgt := 35) hx hb dX11_between_13 (by decide) (fun _ => ?_) (fun q => absurd (by decide) q)
    refine lv_iconst (v := 0) hx hb dX11_between_35 (by decide) ?_
    exact W.iret (v := 0) hx hb hr (fun t ht hW => ⟨⟨0, (z, y), rfl, rfl, by rw [ht]; exact hP, va_K.moved hW.alike hK⟩, hS.F ht⟩) hS.2.2 dX11_between_36
  · subst h1r
    refine lv_if_eq (tgt := 35) hx hb dX11_between_5 (by decide) (fun _ => ?_) (fun q => absurd (by decide) q)
    refine lv_iconst (v := 0) hx hb dX11_between_35 (by decide) ?_
    exact W.iret (v := 0) hx hb hr (fun t ht hW => ⟨⟨0, (z, y), rfl, rfl, by rw [ht]; exact hP, va_K.moved hW.alike hK⟩, hS.F ht⟩) hS.2.2 dX11_between_36

set_option maxRecDepth 100000 in
set_option maxHeartbeats 4000000 in
theorem mP_keep (l : Launch) (D : va_G) (ca : Nat → ClassId) (o : Nat) (z : Nat → Nat → Int32) (y : Nat → Nat → Int64)  (h0_4 : z 0 4 = 0) (h0_5 : z 0 5 = 0) (h0_6 : z 0 6 = 0) (h0_15 : z 0 15 = 0) (h0_61 : z 0 61 = 0) : qM l yX11_keep cX11_keep 1 (some .int) 4 127 (qPre D vwCl (qT6 ca) o 41 (qG (GM ca o) z y) [.ref (o + 0)]) (va_Qi (fun r _ => r = A_keep ) (qB D vwCl (qT6 ca) o 41 (fun u : qZ => qG (GM ca o) u.1 u.2)) (qw_A o 41)) (qw_A o 41) := by
  refine Met.ofW (cc := cX11_keep) (maxL := 1) (ret := (some .int)) (by decide) rfl ?_
  intro p e s m args below meth c s₁ B hml hv
  obtain ⟨rfl, hP, hK⟩ := hv
  have hx := B.exec
  have hb := B.bytes
  have hr := B.returns
  have hts0 := atoms_spec (ws := Cond.code yX11_keep cX11_keep 1 (some .int) :: qtbl) B.pre
  have hts : ∀ w ∈ qtbl, w.before _ s = true := fun w h => hts0 w (List.mem_cons_of_mem _ h)
  have hown : s.vm.findClass RX11 = some m.cls := findClass_of_methodNamed B.named
  have hlocks := B.notSynchronized
  have hz0 : (0 : Int32).toInt = 0 := rfl
  have hS : va_S (qw_A o 41) s.heap s.heap [] := va_S.rf
  have hl := lv_entry ([.ref (o + 0)]) (n := 1) (Nat.le_of_ble_eq_true rfl)
  rw [lg_entry_eq]
  generalize (lg_sl ([.ref (o + 0)]) ++ List.replicate (1 - (lg_sl ([.ref (o + 0)])).length) Slot.unset).toArray = ls at hl ⊢
  have hl : lv_has ls 1 [(0, .ref (o + 0))] := hl
  refine lv_aload_n hx hb dX11_keep_0 rfl (lv_at hl 0 rfl) ?_
  refine lv_iconst (v := 1) hx hb dX11_keep_1 (by decide) ?_
  refine qf_put hx hb hts inX11 tyX11 tyX11_ok nmX11 hown hK hP hS qw_Ai (q0 := 0) (by decide) (hgM_0 ca o) rfl 61 (by decide) wq_1053 rfl (x := 1) 61 rfl rfl rfl (Nat.le_of_ble_eq_true rfl) dX11_keep_2 (fun H locs hP hS => ?_)
  refine lv_aload_n hx hb dX11_keep_5 rfl (lv_at hl 0 rfl) ?_
  refine lv_iconst (v := 0) hx hb dX11_keep_6 (by decide) ?_
  refine qc_Vv (As := [.int 0]) (rest := []) (k0 := 1) (m1_moves l D ca o (qu z 0 61 1) y (h0_6)) kc_yX11_moves ⟨hx, hb, hml, hown, hts⟩ wq_1595 rfl rfl ⟨Nat.le_of_ble_eq_true rfl, Nat.le_of_ble_eq_true rfl⟩ wq_all hP hK hS qw_Ai (q0 := 0) (by decide) (hgM_0 ca o _ _) rfl rfl hl.1 rfl (Nat.le_of_ble_eq_true rfl) dX11_keep_7 ⟨Nat.zero_le _, Nat.zero_le _⟩ (fun u1 H locs h1 hP hS _ _ => ?_)
  obtain ⟨z1, y1⟩ := u1
  dsimp only at h1 hP
  refine lv_aload_n hx hb dX11_keep_10 rfl (lv_at hl 0 rfl) ?_
  refine qc_Vi (As := []) (rest := []) (k0 := 0) (m1_toldRemarks l D ca o z1 y1 (h1)) kc_yX11_toldRemarks ⟨hx, hb, hml, hown, hts⟩ wq_1328 rfl rfl ⟨Nat.le_of_ble_eq_true rfl, Nat.le_of_ble_eq_true rfl⟩ wq_all hP hK hS qw_Ai (q0 := 0) (by decide) (hgM_0 ca o _ _) rfl rfl hl.1 rfl (Nat.le_of_ble_eq_true rfl) dX11_keep_11 ⟨Nat.zero_le _, Nat.zero_le _⟩ (fun r2 u2 H locs h2 hP hS _ _ => ?_)
  subst h2
  refine qc_Si (As := [.int 0]) (rest := []) (k0 := 1) (m1_bits0 l D ca o z1 y1) kc_yX11_bits ⟨hx, hb, hml, hown, hts⟩ wq_1296 rfl rfl ⟨Nat.le_of_ble_eq_true rfl, Nat.le_of_ble_eq_true rfl⟩ wq_all hP hK hS qw_Ai rfl hl.1 rfl (Nat.le_of_ble_eq_true rfl) dX11_keep_14 ⟨Nat.zero_le _, Nat.zero_le _⟩ (fun r3 u3 H locs h3 hP hS _ _ => ?_)
  subst h3
  exact W.iret (v := 0) hx hb hr (fun t ht hW => ⟨⟨0, (z1, y1), rfl, rfl, by rw [ht]; exact hP, va_K.moved hW.alike hK⟩, hS.F ht⟩) hS.2.2 dX11_keep_17

set_option maxRecDepth 100000 in
set_option maxHeartbeats 4000000 in
theorem mP_undo (l : Launch) (D : va_G) (ca : Nat → ClassId) (o : Nat) (z : Nat → Nat → Int32) (y : Nat → Nat → Int64)  (h0_4 : z 0 4 = 0) (h0_5 : z 0 5 = 0) (h0_6 : z 0 6 = 0) (h0_15 : z 0 15 = 0) (h0_61 : z 0 61 = 0) : qM l yX11_undo cX11_undo 1 (some .boolean) 1 60 (qPre D vwCl (qT6 ca) o 41 (qG (GM ca o) z y) [.ref (o + 0)]) (va_Qi (fun r _ => r = A_undo ) (qB D vwCl (qT6 ca) o 41 (fun u : qZ => qG (GM ca o) u.1 u.2)) (qw_A o 41)) (qw_A o 41) := by
  refine Met.ofW (cc := cX11_undo) (maxL := 1) (ret := (some .boolean)) (by decide) rfl ?_
  intro p e s m args below meth c s₁ B hml hv
  obtain ⟨rfl, hP, hK⟩ := hv
  have hx := B.exec
  have hb := B.bytes
  have hr := B.returns
  have hts0 := atoms_spec (ws := Cond.code yX11_undo cX11_undo 1 (some .boolean) :: qtbl) B.pre
  have hts : ∀ w ∈ qtbl, w.before _ s = true := fun w h => hts0 w (List.mem_cons_of_mem _ h)
  have hown : s.vm.findClass RX11 = some m.cls := findClass_of_methodNamed B.named
  have hlocks := B.notSynchronized
  have hz0 : (0 : Int32).toInt = 0 := rfl
  have hS : va_S (qw_A o 41) s.heap s.heap [] := va_S.rf
  have hl := lv_entry ([.ref (o + 0)]) (n := 1) (Nat.le_of_ble_eq_true rfl)
  rw [lg_entry_eq]
  generalize (lg_sl ([.ref (o + 0)]) ++ List.replicate (1 - (lg_sl ([.ref (o + 0)])).length) Slot.unset).toArray = ls at hl ⊢
  have hl : lv_has ls 1 [(0, .ref (o + 0))] := hl
  refine lv_aload_n hx hb dX11_undo_0 rfl (lv_at hl 0 rfl) ?_
  refine qf_get hx hb hts inX11 hown hK hP (q0 := 0) (by decide) (hgM_0 ca o) rfl 61 (by decide) wq_1053 (v := .int (z 0 61)) rfl dX11_undo_1 ?_
  refine qtop (x' := 0) h0_61 ?_
  refine lv_if_ne (tgt := 9) hx hb dX11_undo_4 (by decide) (fun q => absurd q (by decide)) (fun _ => ?_)
  refine lv_iconst (v := 0) hx hb dX11_undo_7 (by decide) ?_
  exact W.zret (v := 0) (ty := .boolean) hx hb hr rfl (fun t ht hW => ⟨⟨0, (z, y), rfl, rfl, by rw [ht]; exact hP, va_K.moved hW.alike hK⟩, hS.F ht⟩) hS.2.2 dX11_undo_8

set_option maxRecDepth 100000 in
set_option maxHeartbeats 4000000 in
theorem mP_check (l : Launch) (D : va_G) (ca : Nat → ClassId) (o : Nat) (z : Nat → Nat → Int32) (y : Nat → Nat → Int64) (a1 : Int32) (h0_4 : z 0 4 = 0) (h0_5 : z 0 5 = 0) (h0_6 : z 0 6 = 0) (h0_15 : z 0 15 = 0) (h0_61 : z 0 61 = 0) : qM l yX11_check cX11_check 3 (some .int) 4 125 (qPre D vwCl (qT6 ca) o 41 (qG (GM ca o) z y) [.ref (o + 0), .int a1]) (va_Qi (fun r _ => r = A_check a1) (qB D vwCl (qT6 ca) o 41 (fun u : qZ => qG (GM ca o) u.1 u.2)) (qw_A o 41)) (qw_A o 41) := by
  refine Met.ofW (cc := cX11_check) (maxL := 3) (ret := (some .int)) (by decide) rfl ?_
  intro p e s m args below meth c s₁ B hml hv
  obtain ⟨rfl, hP, hK⟩ := hv
  have hx := B.exec
  have hb := B.bytes
  have hr := B.returns
  have hts0 := atoms_spec (ws := Cond.code yX11_check cX11_check 3 (some .int) :: qtbl) B.pre
  have hts : ∀ w ∈ qtbl, w.before _ s = true := fun w h => hts0 w (List.mem_cons_of_mem _ h)
  have hown : s.vm.findClass RX11 = some m.cls := findClass_of_methodNamed B.named
  have hlocks := B.notSynchronized
  have hz0 : (0 : Int32).toInt = 0 := rfl
  have hS : va_S (qw_A o 41) s.heap s.heap [] := va_S.rf
  have hl := lv_entry ([.ref (o + 0), .int a1]) (n := 3) (Nat.le_of_ble_eq_true rfl)
  rw [lg_entry_eq]
  generalize (lg_sl ([.ref (o + 0), .int a1]) ++ List.replicate (3 - (lg_sl ([.ref (o + 0), .int a1])).length) Slot.unset).toArray = ls at hl ⊢
  have hl : lv_has ls 3 [(0, .ref (o + 0)), (1, .int a1)] := hl
  refine lv_iload_n hx hb dX11_check_0 rfl (lv_at hl 1 rfl) ?_
  refine lv_iconst (v := 0) hx hb dX11_check_1 (by decide) ?_
  refine lv_bipush (v := 6) hx hb dX11_check_2 (by decide) ?_
  refine qc_Si (As := [.int a1, .int 0, .int 6]) (rest := []) (k0 := 3) (m1_in l D ca o z y a1 0 6) kc_yX11_in ⟨hx, hb, hml, hown, hts⟩ wq_1187 rfl rfl ⟨Nat.le_of_ble_eq_true rfl, Nat.le_of_ble_eq_true rfl⟩ wq_all hP hK hS qw_Ai rfl hl.1 rfl (Nat.le_of_ble_eq_true rfl) dX11_check_4 ⟨Nat.zero_le _, Nat.zero_le _⟩ (fun r1 u1 H locs h1 hP hS _ _ => ?_)
  rcases h1 with ⟨h1r, h1a, h1b⟩ | ⟨h1r, h1a⟩
  · subst h1r
    have t1a : a1.toInt ≥ (0 : Int) := h1a
    have t1b : a1.toInt ≤ (6 : Int) := h1b
    refine lv_if_eq (tgt := 39) hx hb dX11_check_7 (by decide) (fun q => absurd q (by decide)) (fun _ => ?_)
    refine lv_iload_n hx hb dX11_check_10 rfl (lv_at hl 1 rfl) ?_
    refine lv_aload_n hx hb dX11_check_11 rfl (lv_at hl 0 rfl) ?_
    refine qf_get hx hb hts inX11 hown hK hP (q0 := 0) (by decide) (hgM_0 ca o) rfl 15 (by decide) wq_1008 (v := .int (z 0 15)) rfl dX11_check_12 ?_
    refine qtop (x' := 0) h0_15 ?_
    refine lv_icmp_gt (tgt := 39) hx hb dX11_check_15 (by decide) (fun c2 => ?_) (fun c2 => ?_)
    · have t2 : a1.toInt > (0 : Int) := gl_lt c2
      refine lv_bipush (v := (-2)) hx hb dX11_check_39 (by decide) ?_
      exact W.iret (v := (-2)) hx hb hr (fun t ht hW => ⟨⟨(-2), (z, y), rfl, (ga_n (by omega)), by rw [ht]; exact hP, va_K.moved hW.alike hK⟩, hS.F ht⟩) hS.2.2 dX11_check_41
    · have t2 : a1.toInt ≤ (0 : Int) := gl_nlt c2
      refine lv_aload_n hx hb dX11_check_18 rfl (lv_at hl 0 rfl) ?_
      refine qc_Vi (As := []) (rest := []) (k0 := 0) (m1_rowMany l D ca o z y (h0_4)) kc_yX11_rowMany ⟨hx, hb, hml, hown, hts⟩ wq_1315 rfl rfl ⟨Nat.le_of_ble_eq_true rfl, Nat.le_of_ble_eq_true rfl⟩ wq_all hP hK hS qw_Ai (q0 := 0) (by decide) (hgM_0 ca o _ _) rfl rfl hl.1 rfl (Nat.le_of_ble_eq_true rfl) dX11_check_19 ⟨Nat.zero_le _, Nat.zero_le _⟩ (fun r3 u3 H locs h3 hP hS _ _ => ?_)
      subst h3
      refine lv_ldcw (v := 200000) hx hb hown (hts _ wq_1319) dX11_check_22 ?_
      refine lv_icmp_gt (tgt := 39) hx hb dX11_check_25 (by decide) (fun q => absurd q (by decide)) (fun _ => ?_)
      refine lv_aload_n hx hb dX11_check_28 rfl (lv_at hl 0 rfl) ?_
      refine lv_aload_n hx hb dX11_check_29 rfl (lv_at hl 0 rfl) ?_
      refine qc_Vi (As := []) (rest := [.ref (o + 0)]) (k0 := 0) (m1_toldRemarks l D ca o z y (h0_6)) kc_yX11_toldRemarks ⟨hx, hb, hml, hown, hts⟩ wq_1328 rfl rfl ⟨Nat.le_of_ble_eq_true rfl, Nat.le_of_ble_eq_true rfl⟩ wq_all hP hK hS qw_Ai (q0 := 0) (by decide) (hgM_0 ca o _ _) rfl rfl hl.1 rfl (Nat.le_of_ble_eq_true rfl) dX11_check_30 ⟨Nat.zero_le _, Nat.zero_le _⟩ (fun r4 u4 H locs h4 hP hS _ _ => ?_)
      subst h4
      refine qc_Vi (As := [.int 0]) (rest := []) (k0 := 1) (m1_findsRow l D ca o z y (h0_4)) kc_yX11_findsRow ⟨hx, hb, hml, hown, hts⟩ wq_1332 rfl rfl ⟨Nat.le_of_ble_eq_true rfl, Nat.le_of_ble_eq_true rfl⟩ wq_all hP hK hS qw_Ai (q0 := 0) (by decide) (hgM_0 ca o _ _) rfl rfl hl.1 rfl (Nat.le_of_ble_eq_true rfl) dX11_check_33 ⟨Nat.zero_le _, Nat.zero_le _⟩ (fun r5 u5 H locs h5 hP hS _ _ => ?_)
      obtain ⟨z5, y5⟩ := u5
      obtain ⟨h5r, h5f, h5y⟩ := h5
      dsimp only at h5f h5y hP
      subst h5r
      rw [h5y] at hP
      have f5_0_4 : z5 0 4 = 0 := (congrFun (h5f 0 (by decide)) 4).trans (h0_4)
      have f5_0_5 : z5 0 5 = 0 := (congrFun (h5f 0 (by decide)) 5).trans (h0_5)
      have f5_0_6 : z5 0 6 = 0 := (congrFun (h5f 0 (by decide)) 6).trans (h0_6)
      have f5_0_15 : z5 0 15 = 0 := (congrFun (h5f 0 (by decide)) 15).trans (h0_15)
      have f5_0_61 : z5 0 61 = 0 := (congrFun (h5f 0 (by decide)) 61).trans (h0_61)
      refine lv_if_ne (tgt := 42) hx hb dX11_check_36 (by decide) (fun _ => ?_) (fun q => absurd q (by decide))
      refine lv_aload_n hx hb dX11_check_42 rfl (lv_at hl 0 rfl) ?_
      refine lv_iconst (v := 0) hx hb dX11_check_43 (by decide) ?_
      refine qf_put hx hb hts inX11 tyX11 tyX11_ok nmX11 hown hK hP hS qw_Ai (q0 := 0) (by decide) (hgM_0 ca o) rfl 15 (by decide) wq_1008 rfl (x := 0) 15 rfl rfl rfl (Nat.le_of_ble_eq_true rfl) dX11_check_44 (fun H locs hP hS => ?_)
      refine lv_iconst (v := 0) hx hb dX11_check_47 (by decide) ?_
      refine lv_istore_n (lv' := [(2, .int 0), (0, .ref (o + 0)), (1, .int a1)]) hx hb dX11_check_48 rfl hl (by decide) rfl (fun ls hl => ?_)
      refine lv_iload_n hx hb dX11_check_49 rfl (lv_at hl 0 rfl) ?_
      refine lv_iload_n hx hb dX11_check_50 rfl (lv_at hl 2 rfl) ?_
      refine lv_icmp_ge (tgt := 88) hx hb dX11_check_51 (by decide) (fun _ => ?_) (fun q => absurd (gr_le (by show a1.toInt ≤ (0 : Int); omega)) q)
      refine lv_iconst (v := (-1)) hx hb dX11_check_88 (by decide) ?_
      exact W.iret (v := (-1)) hx hb hr (fun t ht hW => ⟨⟨(-1), ((qu z5 0 15 0), y), rfl, (ga_p (by omega)), by rw [ht]; exact hP, va_K.moved hW.alike hK⟩, hS.F ht⟩) hS.2.2 dX11_check_89
  · subst h1r
    have t1a : a1.toInt < (0 : Int) ∨ (6 : Int) < a1.toInt := h1a
    refine lv_if_eq (tgt := 39) hx hb dX11_check_7 (by decide) (fun _ => ?_) (fun q => absurd (by decide) q)
    refine lv_bipush (v := (-2)) hx hb dX11_check_39 (by decide) ?_
    exact W.iret (v := (-2)) hx hb hr (fun t ht hW => ⟨⟨(-2), (z, y), rfl, (ga_n (by omega)), by rw [ht]; exact hP, va_K.moved hW.alike hK⟩, hS.F ht⟩) hS.2.2 dX11_check_41

set_option maxRecDepth 100000 in
set_option maxHeartbeats 4000000 in
theorem mP_count (l : Launch) (D : va_G) (ca : Nat → ClassId) (o : Nat) (z : Nat → Nat → Int32) (y : Nat → Nat → Int64) (a1 : Int32) (h0_4 : z 0 4 = 0) (h0_5 : z 0 5 = 0) (h0_6 : z 0 6 = 0) (h0_15 : z 0 15 = 0) (h0_61 : z 0 61 = 0) : qM l yX11_count cX11_count 2 (some .int) 3 103 (qPre D vwCl (qT6 ca) o 41 (qG (GM ca o) z y) [.ref (o + 0), .int a1]) (va_Qi (fun r _ => r = A_count a1) (qB D vwCl (qT6 ca) o 41 (fun u : qZ => qG (GM ca o) u.1 u.2)) (qw_A o 41)) (qw_A o 41) := by
  refine Met.ofW (cc := cX11_count) (maxL := 2) (ret := (some .int)) (by decide) rfl ?_
  intro p e s m args below meth c s₁ B hml hv
  obtain ⟨rfl, hP, hK⟩ := hv
  have hx := B.exec
  have hb := B.bytes
  have hr := B.returns
  have hts0 := atoms_spec (ws := Cond.code yX11_count cX11_count 2 (some .int) :: qtbl) B.pre
  have hts : ∀ w ∈ qtbl, w.before _ s = true := fun w h => hts0 w (List.mem_cons_of_mem _ h)
  have hown : s.vm.findClass RX11 = some m.cls := findClass_of_methodNamed B.named
  have hlocks := B.notSynchronized
  have hz0 : (0 : Int32).toInt = 0 := rfl
  have hS : va_S (qw_A o 41) s.heap s.heap [] := va_S.rf
  have hl := lv_entry ([.ref (o + 0), .int a1]) (n := 2) (Nat.le_of_ble_eq_true rfl)
  rw [lg_entry_eq]
  generalize (lg_sl ([.ref (o + 0), .int a1]) ++ List.replicate (2 - (lg_sl ([.ref (o + 0), .int a1])).length) Slot.unset).toArray = ls at hl ⊢
  have hl : lv_has ls 2 [(0, .ref (o + 0)), (1, .int a1)] := hl
  refine lv_iload_n hx hb dX11_count_0 rfl (lv_at hl 1 rfl) ?_
  rcases (by omega : a1.toInt = 0 ∨ a1.toInt = 1 ∨ a1.toInt = 2 ∨ a1.toInt = 3 ∨ a1.toInt = 4 ∨ a1.toInt < 0 ∨ 4 < a1.toInt) with c1 | c1 | c1 | c1 | c1 | c1 | c1
  · refine lv_tableIn (tgt := 36) hx hb dX11_count_1 (by omega) (by omega) (by rw [c1]; rfl) (by decide) ?_
    refine lv_aload_n hx hb dX11_count_36 rfl (lv_at hl 0 rfl) ?_
    refine qf_get hx hb hts inX11 hown hK hP (q0 := 0) (by decide) (hgM_0 ca o) rfl 5 (by decide) wq_998 (v := .int (z 0 5)) rfl dX11_count_37 ?_
    refine qtop (x' := 0) h0_5 ?_
    exact W.iret (v := 0) hx hb hr (fun t ht hW => ⟨⟨0, (z, y), rfl, (ga_p (by omega)), by rw [ht]; exact hP, va_K.moved hW.alike hK⟩, hS.F ht⟩) hS.2.2 dX11_count_40
  · refine lv_tableIn (tgt := 41) hx hb dX11_count_1 (by omega) (by omega) (by rw [c1]; rfl) (by decide) ?_
    refine lv_aload_n hx hb dX11_count_41 rfl (lv_at hl 0 rfl) ?_
    refine qf_get hx hb hts inX11 hown hK hP (q0 := 0) (by decide) (hgM_0 ca o) rfl 4 (by decide) wq_997 (v := .int (z 0 4)) rfl dX11_count_42 ?_
    refine qtop (x' := 0) h0_4 ?_
    exact W.iret (v := 0) hx hb hr (fun t ht hW => ⟨⟨0, (z, y), rfl, (ga_p (by omega)), by rw [ht]; exact hP, va_K.moved hW.alike hK⟩, hS.F ht⟩) hS.2.2 dX11_count_45
  · refine lv_tableIn (tgt := 46) hx hb dX11_count_1 (by omega) (by omega) (by rw [c1]; rfl) (by decide) ?_
    refine lv_aload_n hx hb dX11_count_46 rfl (lv_at hl 0 rfl) ?_
    refine qc_Vi (As := []) (rest := []) (k0 := 0) (m1_toldRemarks l D ca o z y (h0_6)) kc_yX11_toldRemarks ⟨hx, hb, hml, hown, hts⟩ wq_1328 rfl rfl ⟨Nat.le_of_ble_eq_true rfl, Nat.le_of_ble_eq_true rfl⟩ wq_all hP hK hS qw_Ai (q0 := 0) (by decide) (hgM_0 ca o _ _) rfl rfl hl.1 rfl (Nat.le_of_ble_eq_true rfl) dX11_count_47 ⟨Nat.zero_le _, Nat.zero_le _⟩ (fun r2 u2 H locs h2 hP hS _ _ => ?_)
    subst h2
    exact W.iret (v := 0) hx hb hr (fun t ht hW => ⟨⟨0, (z, y), rfl, (ga_p (by omega)), by rw [ht]; exact hP, va_K.moved hW.alike hK⟩, hS.F ht⟩) hS.2.2 dX11_count_50
  · refine lv_tableIn (tgt := 51) hx hb dX11_count_1 (by omega) (by omega) (by rw [c1]; rfl) (by decide) ?_
    refine lv_aload_n hx hb dX11_count_51 rfl (lv_at hl 0 rfl) ?_
    refine qf_get hx hb hts inX11 hown hK hP (q0 := 0) (by decide) (hgM_0 ca o) rfl 6 (by decide) wq_999 (v := .int (z 0 6)) rfl dX11_count_52 ?_
    refine qtop (x' := 0) h0_6 ?_
    refine lv_bipush (v := 10) hx hb dX11_count_55 (by decide) ?_
    refine lv_ishr hx hb dX11_count_57 ?_
    refine qtop (x' := 0) (by decide) ?_
    exact W.iret (v := 0) hx hb hr (fun t ht hW => ⟨⟨0, (z, y), rfl, (ga_p (by omega)), by rw [ht]; exact hP, va_K.moved hW.alike hK⟩, hS.F ht⟩) hS.2.2 dX11_count_58
  · refine lv_tableIn (tgt := 59) hx hb dX11_count_1 (by omega) (by omega) (by rw [c1]; rfl) (by decide) ?_
    refine lv_aload_n hx hb dX11_count_59 rfl (lv_at hl 0 rfl) ?_
    refine qf_get hx hb hts inX11 hown hK hP (q0 := 0) (by decide) (hgM_0 ca o) rfl 15 (by decide) wq_1008 (v := .int (z 0 15)) rfl dX11_count_60 ?_
    refine qtop (x' := 0) h0_15 ?_
    exact W.iret (v := 0) hx hb hr (fun t ht hW => ⟨⟨0, (z, y), rfl, (ga_p (by omega)), by rw [ht]; exact hP, va_K.moved hW.alike hK⟩, hS.F ht⟩) hS.2.2 dX11_count_63
  · refine lv_tableOut (tgt := 64) hx hb dX11_count_1 (Or.inl c1) (by decide) ?_
    refine lv_aload_n hx hb dX11_count_64 rfl (lv_at hl 0 rfl) ?_
    refine lv_iload_n hx hb dX11_count_65 rfl (lv_at hl 1 rfl) ?_
    refine lv_bipush (v := 10) hx hb dX11_count_66 (by decide) ?_
    refine lv_isub hx hb dX11_count_68 ?_
    refine lv_topi (fun x3 e3 => ?_)
    refine qc_Vi (As := [.int x3]) (rest := []) (k0 := 1) (m1_isPerson l D ca o z y x3 (h0_4)) kc_yX11_isPerson ⟨hx, hb, hml, hown, hts⟩ wq_1194 rfl rfl ⟨Nat.le_of_ble_eq_true rfl, Nat.le_of_ble_eq_true rfl⟩ wq_all hP hK hS qw_Ai (q0 := 0) (by decide) (hgM_0 ca o _ _) rfl rfl hl.1 rfl (Nat.le_of_ble_eq_true rfl) dX11_count_69 ⟨Nat.zero_le _, Nat.zero_le _⟩ (fun r4 u4 H locs h4 hP hS _ _ => ?_)
    subst h4
    refine lv_if_eq (tgt := 85) hx hb dX11_count_72 (by decide) (fun _ => ?_) (fun q => absurd (by decide) q)
    refine lv_aload_n hx hb dX11_count_85 rfl (lv_at hl 0 rfl) ?_
    refine lv_iload_n hx hb dX11_count_86 rfl (lv_at hl 1 rfl) ?_
    refine lv_bipush (v := 20) hx hb dX11_count_87 (by decide) ?_
    refine lv_isub hx hb dX11_count_89 ?_
    refine lv_topi (fun x5 e5 => ?_)
    refine qc_Vi (As := [.int x5]) (rest := []) (k0 := 1) (m1_isPerson l D ca o z y x5 (h0_4)) kc_yX11_isPerson ⟨hx, hb, hml, hown, hts⟩ wq_1194 rfl rfl ⟨Nat.le_of_ble_eq_true rfl, Nat.le_of_ble_eq_true rfl⟩ wq_all hP hK hS qw_Ai (q0 := 0) (by decide) (hgM_0 ca o _ _) rfl rfl hl.1 rfl (Nat.le_of_ble_eq_true rfl) dX11_count_90 ⟨Nat.zero_le _, Nat.zero_le _⟩ (fun r6 u6 H locs h6 hP hS _ _ => ?_)
    subst h6
    refine lv_if_eq (tgt := 106) hx hb dX11_count_93 (by decide) (fun _ => ?_) (fun q => absurd (by decide) q)
    refine lv_aload_n hx hb dX11_count_106 rfl (lv_at hl 0 rfl) ?_
    refine lv_iload_n hx hb dX11_count_107 rfl (lv_at hl 1 rfl) ?_
    refine lv_bipush (v := 30) hx hb dX11_count_108 (by decide) ?_
    refine lv_isub hx hb dX11_count_110 ?_
    refine lv_topi (fun x7 e7 => ?_)
    refine qc_Vi (As := [.int x7]) (rest := []) (k0 := 1) (m1_isPerson l D ca o z y x7 (h0_4)) kc_yX11_isPerson ⟨hx, hb, hml, hown, hts⟩ wq_1194 rfl rfl ⟨Nat.le_of_ble_eq_true rfl, Nat.le_of_ble_eq_true rfl⟩ wq_all hP hK hS qw_Ai (q0 := 0) (by decide) (hgM_0 ca o _ _) rfl rfl hl.1 rfl (Nat.le_of_ble_eq_true rfl) dX11_count_111 ⟨Nat.zero_le _, Nat.zero_le _⟩ (fun r8 u8 H locs h8 hP hS _ _ => ?_)
    subst h8
    refine lv_if_ne (tgt := 119) hx hb dX11_count_114 (by decide) (fun q => absurd q (by decide)) (fun _ => ?_)
    refine lv_iconst (v := (-1)) hx hb dX11_count_117 (by decide) ?_
    exact W.iret (v := (-1)) hx hb hr (fun t ht hW => ⟨⟨(-1), (z, y), rfl, (ga_n (by omega)), by rw [ht]; exact hP, va_K.moved hW.alike hK⟩, hS.F ht⟩) hS.2.2 dX11_count_118
  · refine lv_tableOut (tgt := 64) hx hb dX11_count_1 (Or.inr c1) (by decide) ?_
    refine lv_aload_n hx hb dX11_count_64 rfl (lv_at hl 0 rfl) ?_
    refine lv_iload_n hx hb dX11_count_65 rfl (lv_at hl 1 rfl) ?_
    refine lv_bipush (v := 10) hx hb dX11_count_66 (by decide) ?_
    refine lv_isub hx hb dX11_count_68 ?_
    refine lv_topi (fun x9 e9 => ?_)
    refine qc_Vi (As := [.int x9]) (rest := []) (k0 := 1) (m1_isPerson l D ca o z y x9 (h0_4)) kc_yX11_isPerson ⟨hx, hb, hml, hown, hts⟩ wq_1194 rfl rfl ⟨Nat.le_of_ble_eq_true rfl, Nat.le_of_ble_eq_true rfl⟩ wq_all hP hK hS qw_Ai (q0 := 0) (by decide) (hgM_0 ca o _ _) rfl rfl hl.1 rfl (Nat.le_of_ble_eq_true rfl) dX11_count_69 ⟨Nat.zero_le _, Nat.zero_le _⟩ (fun r10 u10 H locs h10 hP hS _ _ => ?_)
    subst h10
    refine lv_if_eq (tgt := 85) hx hb dX11_count_72 (by decide) (fun _ => ?_) (fun q => absurd (by decide) q)
    refine lv_aload_n hx hb dX11_count_85 rfl (lv_at hl 0 rfl) ?_
    refine lv_iload_n hx hb dX11_count_86 rfl (lv_at hl 1 rfl) ?_
    refine lv_bipush (v := 20) hx hb dX11_count_87 (by decide) ?_
    refine lv_isub hx hb dX11_count_89 ?_
    refine lv_topi (fun x11 e11 => ?_)
    refine qc_Vi (As := [.int x11]) (rest := []) (k0 := 1) (m1_isPerson l D ca o z y x11 (h0_4)) kc_yX11_isPerson ⟨hx, hb, hml, hown, hts⟩ wq_1194 rfl rfl ⟨Nat.le_of_ble_eq_true rfl, Nat.le_of_ble_eq_true rfl⟩ wq_all hP hK hS qw_Ai (q0 := 0) (by decide) (hgM_0 ca o _ _) rfl rfl hl.1 rfl (Nat.le_of_ble_eq_true rfl) dX11_count_90 ⟨Nat.zero_le _, Nat.zero_le _⟩ (fun r12 u12 H locs h12 hP hS _ _ => ?_)
    subst h12
    refine lv_if_eq (tgt := 106) hx hb dX11_count_93 (by decide) (fun _ => ?_) (fun q => absurd (by decide) q)
    refine lv_aload_n hx hb dX11_count_106 rfl (lv_at hl 0 rfl) ?_
    refine lv_iload_n hx hb dX11_count_107 rfl (lv_at hl 1 rfl) ?_
    refine lv_bipush (v := 30) hx hb dX11_count_108 (by decide) ?_
    refine lv_isub hx hb dX11_count_110 ?_
    refine lv_topi (fun x13 e13 => ?_)
    refine qc_Vi (As := [.int x13]) (rest := []) (k0 := 1) (m1_isPerson l D ca o z y x13 (h0_4)) kc_yX11_isPerson ⟨hx, hb, hml, hown, hts⟩ wq_1194 rfl rfl ⟨Nat.le_of_ble_eq_true rfl, Nat.le_of_ble_eq_true rfl⟩ wq_all hP hK hS qw_Ai (q0 := 0) (by decide) (hgM_0 ca o _ _) rfl rfl hl.1 rfl (Nat.le_of_ble_eq_true rfl) dX11_count_111 ⟨Nat.zero_le _, Nat.zero_le _⟩ (fun r14 u14 H locs h14 hP hS _ _ => ?_)
    subst h14
    refine lv_if_ne (tgt := 119) hx hb dX11_count_114 (by decide) (fun q => absurd q (by decide)) (fun _ => ?_)
    refine lv_iconst (v := (-1)) hx hb dX11_count_117 (by decide) ?_
    exact W.iret (v := (-1)) hx hb hr (fun t ht hW => ⟨⟨(-1), (z, y), rfl, (ga_n (by omega)), by rw [ht]; exact hP, va_K.moved hW.alike hK⟩, hS.F ht⟩) hS.2.2 dX11_count_118
