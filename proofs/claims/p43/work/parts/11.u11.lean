set_option maxRecDepth 100000 in
set_option maxHeartbeats 8000000 in
theorem u_often (l : Launch) (D : va_G) (ca : Nat → ClassId) (o : Nat) (b z : Nat → Nat → Int32) (y : Nat → Nat → Int64) (J0 : qJU b z) (a0 : Int32) (a1 : Int32) (a2 : Int32)  : qM l yX10_often cX10_often 4 (some .int) 6 168 (qPre D vwCl (qT6 ca) o 132 (qG (GU ca o) z y) [.ref (o + 0), .int a0, .int a1, .int a2]) (va_Qi (fun r u => True ∧ qJU b u.1) (qB D vwCl (qT6 ca) o 132 (fun u : qZ => qG (GU ca o) u.1 u.2)) (qw_A o 132)) (qw_A o 132) := by
  refine Met.ofW (cc := cX10_often) (maxL := 4) (ret := (some .int)) (by decide) rfl ?_
  intro p e s m args below meth c s₁ B hml hv
  obtain ⟨rfl, hP, hK⟩ := hv
  have hx := B.exec
  have hb := B.bytes
  have hr := B.returns
  have hts0 := atoms_spec (ws := Cond.code yX10_often cX10_often 4 (some .int) :: qtbl) B.pre
  have hts : ∀ w ∈ qtbl, w.before _ s = true := fun w h => hts0 w (List.mem_cons_of_mem _ h)
  have hown : s.vm.findClass RX10 = some m.cls := findClass_of_methodNamed B.named
  have hlocks := B.notSynchronized
  have hS : va_S (qw_A o 132) s.heap s.heap [] := va_S.rf
  have hl := lv_entry ([.ref (o + 0), .int a0, .int a1, .int a2]) (n := 4) (Nat.le_of_ble_eq_true rfl)
  rw [lg_entry_eq]
  generalize (lg_sl ([.ref (o + 0), .int a0, .int a1, .int a2]) ++ List.replicate (4 - (lg_sl ([.ref (o + 0), .int a0, .int a1, .int a2])).length) Slot.unset).toArray = ls at hl ⊢
  have hl : lv_has ls 4 [(0, .ref (o + 0)), (1, .int a0), (2, .int a1), (3, .int a2)] := hl
  refine lv_aload_n hx hb dX10_often_0 rfl (lv_at hl 0 rfl) ?_
  refine lv_iload_n hx hb dX10_often_1 rfl (lv_at hl 1 rfl) ?_
  refine qc_Vip (As := [.int a0]) (rest := []) (k0 := 1) (u_areRemarks l D ca o b z y J0 a0) kc_yX10_areRemarks ⟨hx, hb, hml, hown, hts⟩ wq_583 rfl rfl ⟨Nat.le_of_ble_eq_true rfl, Nat.le_of_ble_eq_true rfl⟩ wq_all hP hK hS qw_Ai (q0 := 0) (by decide) (hgU_0 ca o _ _) rfl rfl hl.1 rfl (Nat.le_of_ble_eq_true rfl) dX10_often_2 ⟨Nat.zero_le _, Nat.zero_le _⟩ (fun r1 H locs h1 hP hS _ _ => ?_)
  have b1 : (0 : Int) ≤ r1.toInt ∧ r1.toInt ≤ 1 := h1
  refine lv_if_eq (tgt := 28) hx hb dX10_often_5 (by decide) (fun c2 => ?_) (fun c2 => ?_)
  · have t2 : r1.toInt = (0 : Int) := gl_eq c2
    refine lv_iconst (v := (-1)) hx hb dX10_often_28 (by decide) ?_
    exact W.iret (v := (-1)) hx hb hr (fun t ht hW => ⟨⟨(-1), (z, y), rfl, ⟨trivial, J0⟩, by rw [ht]; exact hP, va_K.moved hW.alike hK⟩, hS.F ht⟩) hS.2.2 dX10_often_29
  · have t2 : r1.toInt ≠ (0 : Int) := gl_ne c2
    refine lv_aload_n hx hb dX10_often_8 rfl (lv_at hl 0 rfl) ?_
    refine qf_get hx hb hts inX10 hown hK hP (q0 := 0) (by decide) (hgU_0 ca o) rfl 0 (by decide) wq_353 (v := .ref (o + 1)) rfl dX10_often_9 ?_
    refine lv_iload_n hx hb dX10_often_12 rfl (lv_at hl 2 rfl) ?_
    refine qc_Vip (As := [.int a1]) (rest := []) (k0 := 1) (u_Told_hasForm l D ca o b z y J0 a1) kc_yX9_hasForm ⟨hx, hb, hml, hown, hts⟩ wq_743 rfl rfl ⟨Nat.le_of_ble_eq_true rfl, Nat.le_of_ble_eq_true rfl⟩ wq_all hP hK hS qw_Ai (q0 := 1) (by decide) (hgU_1 ca o _ _) rfl rfl hl.1 rfl (Nat.le_of_ble_eq_true rfl) dX10_often_13 ⟨Nat.zero_le _, Nat.zero_le _⟩ (fun r3 H locs h3 hP hS _ _ => ?_)
    rcases h3 with ⟨hr3, hf3_0⟩ | hr3
    · subst hr3
      have hg3_0 : 0 ≤ a1.toInt ∧ a1.toInt ≤ 5 := hf3_0
      refine lv_if_eq (tgt := 28) hx hb dX10_often_16 (by decide) (fun q => absurd q (by decide)) (fun _ => ?_)
      refine lv_iload_n hx hb dX10_often_19 rfl (lv_at hl 3 rfl) ?_
      refine lv_if_lt (tgt := 28) hx hb dX10_often_20 (by decide) (fun c4 => ?_) (fun c4 => ?_)
      · have t4 : a2.toInt < (0 : Int) := gl_lt c4
        refine lv_iconst (v := (-1)) hx hb dX10_often_28 (by decide) ?_
        exact W.iret (v := (-1)) hx hb hr (fun t ht hW => ⟨⟨(-1), (z, y), rfl, ⟨trivial, J0⟩, by rw [ht]; exact hP, va_K.moved hW.alike hK⟩, hS.F ht⟩) hS.2.2 dX10_often_29
      · have t4 : a2.toInt ≥ (0 : Int) := gl_nlt c4
        refine lv_iload_n hx hb dX10_often_23 rfl (lv_at hl 3 rfl) ?_
        refine lv_iconst (v := 2) hx hb dX10_often_24 (by decide) ?_
        refine lv_icmp_le (tgt := 30) hx hb dX10_often_25 (by decide) (fun c5 => ?_) (fun c5 => ?_)
        · have t5 : a2.toInt ≤ (2 : Int) := gl_le c5
          refine lv_aload_n hx hb dX10_often_30 rfl (lv_at hl 0 rfl) ?_
          refine qf_get hx hb hts inX10 hown hK hP (q0 := 0) (by decide) (hgU_0 ca o) rfl 8 (by decide) wq_361 (v := .ref (o + 110)) rfl dX10_often_31 ?_
          refine lv_aload_n hx hb dX10_often_34 rfl (lv_at hl 0 rfl) ?_
          refine qf_get hx hb hts inX10 hown hK hP (q0 := 0) (by decide) (hgU_0 ca o) rfl 6 (by decide) wq_359 (v := .ref (o + 104)) rfl dX10_often_35 ?_
          refine lv_iload_n hx hb dX10_often_38 rfl (lv_at hl 1 rfl) ?_
          refine qc_Vi2 (As := [.ref (o + 104), .int a0]) (rest := []) (k0 := 2) (u_Few_gather l D ca o b z y J0 a0) kc_yX2_gather ⟨hx, hb, hml, hown, hts⟩ wq_747 rfl rfl ⟨Nat.le_of_ble_eq_true rfl, Nat.le_of_ble_eq_true rfl⟩ wq_all hP hK hS qw_Ai (q0 := 110) (by decide) (hgU_110 ca o _ _) rfl rfl hl.1 rfl (Nat.le_of_ble_eq_true rfl) dX10_often_39 ⟨Nat.zero_le _, Nat.zero_le _⟩ (fun r6 z6 y6 H locs h6 hP hS _ _ => ?_)
          have J6 : qJU b z6 := h6.2
          have b6 : (0 : Int) ≤ r6.toInt ∧ r6.toInt ≤ 1 := h6.1
          refine lv_if_ne (tgt := 48) hx hb dX10_often_42 (by decide) (fun c7 => ?_) (fun c7 => ?_)
          · have t7 : r6.toInt ≠ (0 : Int) := gl_ne c7
            refine lv_aload_n hx hb dX10_often_48 rfl (lv_at hl 0 rfl) ?_
            refine qf_get hx hb hts inX10 hown hK hP (q0 := 0) (by decide) (hgU_0 ca o) rfl 8 (by decide) wq_361 (v := .ref (o + 110)) rfl dX10_often_49 ?_
            refine lv_aload_n hx hb dX10_often_52 rfl (lv_at hl 0 rfl) ?_
            refine qf_get hx hb hts inX10 hown hK hP (q0 := 0) (by decide) (hgU_0 ca o) rfl 0 (by decide) wq_353 (v := .ref (o + 1)) rfl dX10_often_53 ?_
            refine qf_get hx hb hts inX9 hown hK hP (q0 := 1) (by decide) (hgU_1 ca o) rfl 4 (by decide) wq_97 (v := .ref (o + 6)) rfl dX10_often_56 ?_
            refine lv_bipush (v := 10) hx hb dX10_often_59 (by decide) ?_
            refine lv_iload_n hx hb dX10_often_61 rfl (lv_at hl 2 rfl) ?_
            refine lv_iadd hx hb dX10_often_62 ?_
            refine lv_topi (fun x8 e8 => ?_)
            have t8 : x8.toInt = (10 : Int) + a1.toInt := ga_add e8 rfl rfl (by omega) (by omega)
            have hi_x8 : x8.toNatClampNeg < 16 := ga_nat (by omega) (show _ < (16 : Int) from by omega)
            refine qa_aald hx hb hK hP (q0 := 6) (by decide) 4 rfl (N := 16) (hgU_6 ca o) rfl (gi_in (by omega) (by omega)) dX10_often_63 ?_
            refine qc_Vv2 (As := [.ref (o + (7 + 2 * x8.toNatClampNeg))]) (rest := []) (k0 := 1) (u_Few_hear l D ca o b z6 y6 J6 (i1_ := x8.toNatClampNeg) hi_x8) kc_yX2_hear ⟨hx, hb, hml, hown, hts⟩ wq_755 rfl rfl ⟨Nat.le_of_ble_eq_true rfl, Nat.le_of_ble_eq_true rfl⟩ wq_all hP hK hS qw_Ai (q0 := 110) (by decide) (hgU_110 ca o _ _) rfl rfl hl.1 rfl (Nat.le_of_ble_eq_true rfl) dX10_often_64 ⟨Nat.zero_le _, Nat.zero_le _⟩ (fun z9 y9 H locs h9 hP hS _ _ => ?_)
            have J9 : qJU b z9 := h9
            refine lv_aload_n hx hb dX10_often_67 rfl (lv_at hl 0 rfl) ?_
            refine qf_get hx hb hts inX10 hown hK hP (q0 := 0) (by decide) (hgU_0 ca o) rfl 8 (by decide) wq_361 (v := .ref (o + 110)) rfl dX10_often_68 ?_
            refine qc_Vv2 (As := []) (rest := []) (k0 := 0) (u_Few_countNumbers l D ca o b z9 y9 J9) kc_yX2_countNumbers ⟨hx, hb, hml, hown, hts⟩ wq_784 rfl rfl ⟨Nat.le_of_ble_eq_true rfl, Nat.le_of_ble_eq_true rfl⟩ wq_all hP hK hS qw_Ai (q0 := 110) (by decide) (hgU_110 ca o _ _) rfl rfl hl.1 rfl (Nat.le_of_ble_eq_true rfl) dX10_often_71 ⟨Nat.zero_le _, Nat.zero_le _⟩ (fun z10 y10 H locs h10 hP hS _ _ => ?_)
            have J10 : qJU b z10 := h10
            refine lv_iload_n hx hb dX10_often_74 rfl (lv_at hl 3 rfl) ?_
            refine lv_if_ne (tgt := 86) hx hb dX10_often_75 (by decide) (fun c11 => ?_) (fun c11 => ?_)
            · have t11 : a2.toInt ≠ (0 : Int) := gl_ne c11
              refine lv_iload_n hx hb dX10_often_86 rfl (lv_at hl 3 rfl) ?_
              refine lv_iconst (v := 1) hx hb dX10_often_87 (by decide) ?_
              refine lv_icmp_ne (tgt := 99) hx hb dX10_often_88 (by decide) (fun c12 => ?_) (fun c12 => ?_)
              · have t12 : a2.toInt ≠ (1 : Int) := gl_ne c12
                refine lv_aload_n hx hb dX10_often_99 rfl (lv_at hl 0 rfl) ?_
                refine qf_get hx hb hts inX10 hown hK hP (q0 := 0) (by decide) (hgU_0 ca o) rfl 8 (by decide) wq_361 (v := .ref (o + 110)) rfl dX10_often_100 ?_
                refine qf_get hx hb hts inX2 hown hK hP (q0 := 110) (by decide) (hgU_110 ca o) rfl 3 (by decide) wq_235 (v := .int (z10 110 3)) rfl dX10_often_103 ?_
                refine lv_topi (fun x13 e13 => ?_)
                have b13 := iU_110_3 J10 e13
                refine lv_if_ne (tgt := 114) hx hb dX10_often_106 (by decide) (fun c14 => ?_) (fun c14 => ?_)
                · have t14 : x13.toInt ≠ (0 : Int) := gl_ne c14
                  refine lv_aload_n hx hb dX10_often_114 rfl (lv_at hl 0 rfl) ?_
                  refine qf_get hx hb hts inX10 hown hK hP (q0 := 0) (by decide) (hgU_0 ca o) rfl 8 (by decide) wq_361 (v := .ref (o + 110)) rfl dX10_often_115 ?_
                  refine qf_get hx hb hts inX2 hown hK hP (q0 := 110) (by decide) (hgU_110 ca o) rfl 6 (by decide) wq_241 (v := .int (z10 110 6)) rfl dX10_often_118 ?_
                  refine lv_topi (fun x15 e15 => ?_)
                  exact W.iret (v := x15) hx hb hr (fun t ht hW => ⟨⟨x15, (z10, y10), rfl, ⟨trivial, J10⟩, by rw [ht]; exact hP, va_K.moved hW.alike hK⟩, hS.F ht⟩) hS.2.2 dX10_often_121
                · have t14 : x13.toInt = (0 : Int) := gl_eq c14
                  refine lv_bipush (v := (-2)) hx hb dX10_often_109 (by decide) ?_
                  refine lv_goto (tgt := 121) hx hb dX10_often_111 (by decide) ?_
                  exact W.iret (v := (-2)) hx hb hr (fun t ht hW => ⟨⟨(-2), (z10, y10), rfl, ⟨trivial, J10⟩, by rw [ht]; exact hP, va_K.moved hW.alike hK⟩, hS.F ht⟩) hS.2.2 dX10_often_121
              · have t12 : a2.toInt = (1 : Int) := gl_eq c12
                refine lv_aload_n hx hb dX10_often_91 rfl (lv_at hl 0 rfl) ?_
                refine qf_get hx hb hts inX10 hown hK hP (q0 := 0) (by decide) (hgU_0 ca o) rfl 8 (by decide) wq_361 (v := .ref (o + 110)) rfl dX10_often_92 ?_
                refine qf_get hx hb hts inX2 hown hK hP (q0 := 110) (by decide) (hgU_110 ca o) rfl 5 (by decide) wq_239 (v := .int (z10 110 5)) rfl dX10_often_95 ?_
                refine lv_topi (fun x16 e16 => ?_)
                exact W.iret (v := x16) hx hb hr (fun t ht hW => ⟨⟨x16, (z10, y10), rfl, ⟨trivial, J10⟩, by rw [ht]; exact hP, va_K.moved hW.alike hK⟩, hS.F ht⟩) hS.2.2 dX10_often_98
            · have t11 : a2.toInt = (0 : Int) := gl_eq c11
              refine lv_aload_n hx hb dX10_often_78 rfl (lv_at hl 0 rfl) ?_
              refine qf_get hx hb hts inX10 hown hK hP (q0 := 0) (by decide) (hgU_0 ca o) rfl 8 (by decide) wq_361 (v := .ref (o + 110)) rfl dX10_often_79 ?_
              refine qf_get hx hb hts inX2 hown hK hP (q0 := 110) (by decide) (hgU_110 ca o) rfl 4 (by decide) wq_237 (v := .int (z10 110 4)) rfl dX10_often_82 ?_
              refine lv_topi (fun x17 e17 => ?_)
              exact W.iret (v := x17) hx hb hr (fun t ht hW => ⟨⟨x17, (z10, y10), rfl, ⟨trivial, J10⟩, by rw [ht]; exact hP, va_K.moved hW.alike hK⟩, hS.F ht⟩) hS.2.2 dX10_often_85
          · have t7 : r6.toInt = (0 : Int) := gl_eq c7
            refine lv_bipush (v := (-3)) hx hb dX10_often_45 (by decide) ?_
            exact W.iret (v := (-3)) hx hb hr (fun t ht hW => ⟨⟨(-3), (z6, y6), rfl, ⟨trivial, J6⟩, by rw [ht]; exact hP, va_K.moved hW.alike hK⟩, hS.F ht⟩) hS.2.2 dX10_often_47
        · have t5 : a2.toInt > (2 : Int) := gl_nle c5
          refine lv_iconst (v := (-1)) hx hb dX10_often_28 (by decide) ?_
          exact W.iret (v := (-1)) hx hb hr (fun t ht hW => ⟨⟨(-1), (z, y), rfl, ⟨trivial, J0⟩, by rw [ht]; exact hP, va_K.moved hW.alike hK⟩, hS.F ht⟩) hS.2.2 dX10_often_29
    · subst hr3
      refine lv_if_eq (tgt := 28) hx hb dX10_often_16 (by decide) (fun _ => ?_) (fun q => absurd (by decide) q)
      refine lv_iconst (v := (-1)) hx hb dX10_often_28 (by decide) ?_
      exact W.iret (v := (-1)) hx hb hr (fun t ht hW => ⟨⟨(-1), (z, y), rfl, ⟨trivial, J0⟩, by rw [ht]; exact hP, va_K.moved hW.alike hK⟩, hS.F ht⟩) hS.2.2 dX10_often_29
set_option maxRecDepth 100000 in
set_option maxHeartbeats 8000000 in
theorem u_middle (l : Launch) (D : va_G) (ca : Nat → ClassId) (o : Nat) (b z : Nat → Nat → Int32) (y : Nat → Nat → Int64) (J0 : qJU b z) (a0 : Int32) (a1 : Int32)  : qM l yX10_middle cX10_middle 4 (some .int) 6 169 (qPre D vwCl (qT6 ca) o 132 (qG (GU ca o) z y) [.ref (o + 0), .int a0, .int a1]) (va_Qi (fun r u => True ∧ qJU b u.1) (qB D vwCl (qT6 ca) o 132 (fun u : qZ => qG (GU ca o) u.1 u.2)) (qw_A o 132)) (qw_A o 132) := by
  refine Met.ofW (cc := cX10_middle) (maxL := 4) (ret := (some .int)) (by decide) rfl ?_
  intro p e s m args below meth c s₁ B hml hv
  obtain ⟨rfl, hP, hK⟩ := hv
  have hx := B.exec
  have hb := B.bytes
  have hr := B.returns
  have hts0 := atoms_spec (ws := Cond.code yX10_middle cX10_middle 4 (some .int) :: qtbl) B.pre
  have hts : ∀ w ∈ qtbl, w.before _ s = true := fun w h => hts0 w (List.mem_cons_of_mem _ h)
  have hown : s.vm.findClass RX10 = some m.cls := findClass_of_methodNamed B.named
  have hlocks := B.notSynchronized
  have hS : va_S (qw_A o 132) s.heap s.heap [] := va_S.rf
  have hl := lv_entry ([.ref (o + 0), .int a0, .int a1]) (n := 4) (Nat.le_of_ble_eq_true rfl)
  rw [lg_entry_eq]
  generalize (lg_sl ([.ref (o + 0), .int a0, .int a1]) ++ List.replicate (4 - (lg_sl ([.ref (o + 0), .int a0, .int a1])).length) Slot.unset).toArray = ls at hl ⊢
  have hl : lv_has ls 4 [(0, .ref (o + 0)), (1, .int a0), (2, .int a1)] := hl
  refine lv_aload_n hx hb dX10_middle_0 rfl (lv_at hl 0 rfl) ?_
  refine lv_iload_n hx hb dX10_middle_1 rfl (lv_at hl 1 rfl) ?_
  refine qc_Vip (As := [.int a0]) (rest := []) (k0 := 1) (u_areRemarks l D ca o b z y J0 a0) kc_yX10_areRemarks ⟨hx, hb, hml, hown, hts⟩ wq_583 rfl rfl ⟨Nat.le_of_ble_eq_true rfl, Nat.le_of_ble_eq_true rfl⟩ wq_all hP hK hS qw_Ai (q0 := 0) (by decide) (hgU_0 ca o _ _) rfl rfl hl.1 rfl (Nat.le_of_ble_eq_true rfl) dX10_middle_2 ⟨Nat.zero_le _, Nat.zero_le _⟩ (fun r1 H locs h1 hP hS _ _ => ?_)
  have b1 : (0 : Int) ≤ r1.toInt ∧ r1.toInt ≤ 1 := h1
  refine lv_if_eq (tgt := 19) hx hb dX10_middle_5 (by decide) (fun c2 => ?_) (fun c2 => ?_)
  · have t2 : r1.toInt = (0 : Int) := gl_eq c2
    refine lv_iconst (v := (-1)) hx hb dX10_middle_19 (by decide) ?_
    exact W.iret (v := (-1)) hx hb hr (fun t ht hW => ⟨⟨(-1), (z, y), rfl, ⟨trivial, J0⟩, by rw [ht]; exact hP, va_K.moved hW.alike hK⟩, hS.F ht⟩) hS.2.2 dX10_middle_20
  · have t2 : r1.toInt ≠ (0 : Int) := gl_ne c2
    refine lv_aload_n hx hb dX10_middle_8 rfl (lv_at hl 0 rfl) ?_
    refine qf_get hx hb hts inX10 hown hK hP (q0 := 0) (by decide) (hgU_0 ca o) rfl 0 (by decide) wq_353 (v := .ref (o + 1)) rfl dX10_middle_9 ?_
    refine lv_iload_n hx hb dX10_middle_12 rfl (lv_at hl 2 rfl) ?_
    refine qc_Vip (As := [.int a1]) (rest := []) (k0 := 1) (u_Told_hasPerson l D ca o b z y J0 a1) kc_yX9_hasPerson ⟨hx, hb, hml, hown, hts⟩ wq_411 rfl rfl ⟨Nat.le_of_ble_eq_true rfl, Nat.le_of_ble_eq_true rfl⟩ wq_all hP hK hS qw_Ai (q0 := 1) (by decide) (hgU_1 ca o _ _) rfl rfl hl.1 rfl (Nat.le_of_ble_eq_true rfl) dX10_middle_13 ⟨Nat.zero_le _, Nat.zero_le _⟩ (fun r3 H locs h3 hP hS _ _ => ?_)
    rcases h3 with ⟨hr3, hf3_0, hf3_1⟩ | ⟨hr3, hf3_0⟩
    · subst hr3
      have hg3_0 : pHas (z 1 5) a1 := hf3_0
      have hg3_1 : 0 ≤ a1.toInt ∧ a1.toInt ≤ 5 := hf3_1
      refine lv_if_ne (tgt := 21) hx hb dX10_middle_16 (by decide) (fun _ => ?_) (fun q => absurd q (by decide))
      refine lv_aload_n hx hb dX10_middle_21 rfl (lv_at hl 0 rfl) ?_
      refine lv_iload_n hx hb dX10_middle_22 rfl (lv_at hl 1 rfl) ?_
      refine lv_iload_n hx hb dX10_middle_23 rfl (lv_at hl 2 rfl) ?_
      refine qc_Vi2 (As := [.int a0, .int a1]) (rest := []) (k0 := 2) (u_countAges l D ca o b z y J0 a0 a1 ⟨by omega, by omega⟩) kc_yX10_countAges ⟨hx, hb, hml, hown, hts⟩ wq_657 rfl rfl ⟨Nat.le_of_ble_eq_true rfl, Nat.le_of_ble_eq_true rfl⟩ wq_all hP hK hS qw_Ai (q0 := 0) (by decide) (hgU_0 ca o _ _) rfl rfl hl.1 rfl (Nat.le_of_ble_eq_true rfl) dX10_middle_24 ⟨Nat.zero_le _, Nat.zero_le _⟩ (fun r4 z4 y4 H locs h4 hP hS _ _ => ?_)
      have J4 : qJU b z4 := h4.2
      refine lv_istore_n (lv' := [(3, .int r4), (0, .ref (o + 0)), (1, .int a0), (2, .int a1)]) hx hb dX10_middle_27 rfl hl (by decide) rfl (fun ls hl => ?_)
      refine lv_iload_n hx hb dX10_middle_28 rfl (lv_at hl 0 rfl) ?_
      refine lv_if_ge (tgt := 34) hx hb dX10_middle_29 (by decide) (fun c5 => ?_) (fun c5 => ?_)
      · have t5 : r4.toInt ≥ (0 : Int) := gl_le c5
        refine lv_iload_n hx hb dX10_middle_34 rfl (lv_at hl 0 rfl) ?_
        refine lv_if_ne (tgt := 43) hx hb dX10_middle_35 (by decide) (fun c6 => ?_) (fun c6 => ?_)
        · have t6 : r4.toInt ≠ (0 : Int) := gl_ne c6
          refine lv_aload_n hx hb dX10_middle_43 rfl (lv_at hl 1 rfl) ?_
          refine lv_iload_n hx hb dX10_middle_44 rfl (lv_at hl 0 rfl) ?_
          refine lv_iconst (v := 1) hx hb dX10_middle_45 (by decide) ?_
          refine lv_isub hx hb dX10_middle_46 ?_
          refine lv_topi (fun x7 e7 => ?_)
          have gb7_0 := gl_b r4
          have gb7_1 := gl_b r1
          have t7 : x7.toInt = r4.toInt - (1 : Int) := ga_sub e7 rfl rfl (by omega) (by omega)
          refine lv_iconst (v := 2) hx hb dX10_middle_47 (by decide) ?_
          refine lv_idiv hx hb dX10_middle_48 (by decide) ?_
          refine lv_topi (fun x8 e8 => ?_)
          have t8 : x8.toInt = x7.toInt / 2 := ga_div e8 rfl (by omega) (by decide)
          refine qc_Vip (As := [.int x8]) (rest := []) (k0 := 1) (u_ageAt l D ca o b z4 y4 J4 x8) kc_yX10_ageAt ⟨hx, hb, hml, hown, hts⟩ wq_669 rfl rfl ⟨Nat.le_of_ble_eq_true rfl, Nat.le_of_ble_eq_true rfl⟩ wq_all hP hK hS qw_Ai (q0 := 0) (by decide) (hgU_0 ca o _ _) rfl rfl hl.1 rfl (Nat.le_of_ble_eq_true rfl) dX10_middle_49 ⟨Nat.zero_le _, Nat.zero_le _⟩ (fun r9 H locs h9 hP hS _ _ => ?_)
          have b9 : (-2 : Int) ≤ r9.toInt ∧ r9.toInt ≤ 99 := h9
          exact W.iret (v := r9) hx hb hr (fun t ht hW => ⟨⟨r9, (z4, y4), rfl, ⟨trivial, J4⟩, by rw [ht]; exact hP, va_K.moved hW.alike hK⟩, hS.F ht⟩) hS.2.2 dX10_middle_52
        · have t6 : r4.toInt = (0 : Int) := gl_eq c6
          refine lv_bipush (v := (-2)) hx hb dX10_middle_38 (by decide) ?_
          refine lv_goto (tgt := 52) hx hb dX10_middle_40 (by decide) ?_
          exact W.iret (v := (-2)) hx hb hr (fun t ht hW => ⟨⟨(-2), (z4, y4), rfl, ⟨trivial, J4⟩, by rw [ht]; exact hP, va_K.moved hW.alike hK⟩, hS.F ht⟩) hS.2.2 dX10_middle_52
      · have t5 : r4.toInt < (0 : Int) := gl_nle c5
        refine lv_iload_n hx hb dX10_middle_32 rfl (lv_at hl 0 rfl) ?_
        exact W.iret (v := r4) hx hb hr (fun t ht hW => ⟨⟨r4, (z4, y4), rfl, ⟨trivial, J4⟩, by rw [ht]; exact hP, va_K.moved hW.alike hK⟩, hS.F ht⟩) hS.2.2 dX10_middle_33
    · subst hr3
      have hg3_0 : ¬ pHas (z 1 5) a1 := hf3_0
      refine lv_if_ne (tgt := 21) hx hb dX10_middle_16 (by decide) (fun q => absurd q (by decide)) (fun _ => ?_)
      refine lv_iconst (v := (-1)) hx hb dX10_middle_19 (by decide) ?_
      exact W.iret (v := (-1)) hx hb hr (fun t ht hW => ⟨⟨(-1), (z, y), rfl, ⟨trivial, J0⟩, by rw [ht]; exact hP, va_K.moved hW.alike hK⟩, hS.F ht⟩) hS.2.2 dX10_middle_20
set_option maxRecDepth 100000 in
set_option maxHeartbeats 8000000 in
theorem u_apart_q (l : Launch) (D : va_G) (ca : Nat → ClassId) (o : Nat) (b z : Nat → Nat → Int32) (y : Nat → Nat → Int64) (J0 : qJU b z) (a0 : Int32) (a1 : Int32) (a2 : Int32) (a3 : Int32)  : qM l yX10_apart cX10_apart 11 (some .int) 5 145 (qPre D vwCl (qT6 ca) o 132 (qG (GU ca o) z y) [.ref (o + 0), .int a0, .int a1, .int a2, .int a3]) (va_Qi (fun r u => True ∧ qJU b u.1) (qB D vwCl (qT6 ca) o 132 (fun u : qZ => qG (GU ca o) u.1 u.2)) (qw_A o 132)) (qw_A o 132) := by
  refine Met.ofW (cc := cX10_apart) (maxL := 11) (ret := (some .int)) (by decide) rfl ?_
  intro p e s m args below meth c s₁ B hml hv
  obtain ⟨rfl, hP, hK⟩ := hv
  have hx := B.exec
  have hb := B.bytes
  have hr := B.returns
  have hts0 := atoms_spec (ws := Cond.code yX10_apart cX10_apart 11 (some .int) :: qtbl) B.pre
  have hts : ∀ w ∈ qtbl, w.before _ s = true := fun w h => hts0 w (List.mem_cons_of_mem _ h)
  have hown : s.vm.findClass RX10 = some m.cls := findClass_of_methodNamed B.named
  have hlocks := B.notSynchronized
  have hS : va_S (qw_A o 132) s.heap s.heap [] := va_S.rf
  have hl := lv_entry ([.ref (o + 0), .int a0, .int a1, .int a2, .int a3]) (n := 11) (Nat.le_of_ble_eq_true rfl)
  rw [lg_entry_eq]
  generalize (lg_sl ([.ref (o + 0), .int a0, .int a1, .int a2, .int a3]) ++ List.replicate (11 - (lg_sl ([.ref (o + 0), .int a0, .int a1, .int a2, .int a3])).length) Slot.unset).toArray = ls at hl ⊢
  have hl : lv_has ls 11 [(0, .ref (o + 0)), (1, .int a0), (2, .int a1), (3, .int a2), (4, .int a3)] := hl
  refine lv_aload_n hx hb dX10_apart_0 rfl (lv_at hl 0 rfl) ?_
  refine lv_iload_n hx hb dX10_apart_1 rfl (lv_at hl 1 rfl) ?_
  refine qc_Vip (As := [.int a0]) (rest := []) (k0 := 1) (u_areRemarks l D ca o b z y J0 a0) kc_yX10_areRemarks ⟨hx, hb, hml, hown, hts⟩ wq_583 rfl rfl ⟨Nat.le_of_ble_eq_true rfl, Nat.le_of_ble_eq_true rfl⟩ wq_all hP hK hS qw_Ai (q0 := 0) (by decide) (hgU_0 ca o _ _) rfl rfl hl.1 rfl (Nat.le_of_ble_eq_true rfl) dX10_apart_2 ⟨Nat.zero_le _, Nat.zero_le _⟩ (fun r1 H locs h1 hP hS _ _ => ?_)
  have b1 : (0 : Int) ≤ r1.toInt ∧ r1.toInt ≤ 1 := h1
  refine lv_if_eq (tgt := 46) hx hb dX10_apart_5 (by decide) (fun c2 => ?_) (fun c2 => ?_)
  · have t2 : r1.toInt = (0 : Int) := gl_eq c2
    refine lv_sipush (v := (-400)) hx hb dX10_apart_46 (by decide) ?_
    exact W.iret (v := (-400)) hx hb hr (fun t ht hW => ⟨⟨(-400), (z, y), rfl, ⟨trivial, J0⟩, by rw [ht]; exact hP, va_K.moved hW.alike hK⟩, hS.F ht⟩) hS.2.2 dX10_apart_49
  · have t2 : r1.toInt ≠ (0 : Int) := gl_ne c2
    refine lv_aload_n hx hb dX10_apart_8 rfl (lv_at hl 0 rfl) ?_
    refine qf_get hx hb hts inX10 hown hK hP (q0 := 0) (by decide) (hgU_0 ca o) rfl 0 (by decide) wq_353 (v := .ref (o + 1)) rfl dX10_apart_9 ?_
    refine lv_iload_n hx hb dX10_apart_12 rfl (lv_at hl 2 rfl) ?_
    refine qc_Vip (As := [.int a1]) (rest := []) (k0 := 1) (u_Told_hasPerson l D ca o b z y J0 a1) kc_yX9_hasPerson ⟨hx, hb, hml, hown, hts⟩ wq_411 rfl rfl ⟨Nat.le_of_ble_eq_true rfl, Nat.le_of_ble_eq_true rfl⟩ wq_all hP hK hS qw_Ai (q0 := 1) (by decide) (hgU_1 ca o _ _) rfl rfl hl.1 rfl (Nat.le_of_ble_eq_true rfl) dX10_apart_13 ⟨Nat.zero_le _, Nat.zero_le _⟩ (fun r3 H locs h3 hP hS _ _ => ?_)
    rcases h3 with ⟨hr3, hf3_0, hf3_1⟩ | ⟨hr3, hf3_0⟩
    · subst hr3
      have hg3_0 : pHas (z 1 5) a1 := hf3_0
      have hg3_1 : 0 ≤ a1.toInt ∧ a1.toInt ≤ 5 := hf3_1
      refine lv_if_eq (tgt := 46) hx hb dX10_apart_16 (by decide) (fun q => absurd q (by decide)) (fun _ => ?_)
      refine lv_aload_n hx hb dX10_apart_19 rfl (lv_at hl 0 rfl) ?_
      refine qf_get hx hb hts inX10 hown hK hP (q0 := 0) (by decide) (hgU_0 ca o) rfl 0 (by decide) wq_353 (v := .ref (o + 1)) rfl dX10_apart_20 ?_
      refine lv_iload_n hx hb dX10_apart_23 rfl (lv_at hl 3 rfl) ?_
      refine qc_Vip (As := [.int a2]) (rest := []) (k0 := 1) (u_Told_hasPerson l D ca o b z y J0 a2) kc_yX9_hasPerson ⟨hx, hb, hml, hown, hts⟩ wq_411 rfl rfl ⟨Nat.le_of_ble_eq_true rfl, Nat.le_of_ble_eq_true rfl⟩ wq_all hP hK hS qw_Ai (q0 := 1) (by decide) (hgU_1 ca o _ _) rfl rfl hl.1 rfl (Nat.le_of_ble_eq_true rfl) dX10_apart_24 ⟨Nat.zero_le _, Nat.zero_le _⟩ (fun r4 H locs h4 hP hS _ _ => ?_)
      rcases h4 with ⟨hr4, hf4_0, hf4_1⟩ | ⟨hr4, hf4_0⟩
      · subst hr4
        have hg4_0 : pHas (z 1 5) a2 := hf4_0
        have hg4_1 : 0 ≤ a2.toInt ∧ a2.toInt ≤ 5 := hf4_1
        refine lv_if_eq (tgt := 46) hx hb dX10_apart_27 (by decide) (fun q => absurd q (by decide)) (fun _ => ?_)
        refine lv_iload_n hx hb dX10_apart_30 rfl (lv_at hl 2 rfl) ?_
        refine lv_iload_n hx hb dX10_apart_31 rfl (lv_at hl 3 rfl) ?_
        refine lv_icmp_eq (tgt := 46) hx hb dX10_apart_32 (by decide) (fun c5 => ?_) (fun c5 => ?_)
        · have t5 : a1.toInt = a2.toInt := gl_eq c5
          refine lv_sipush (v := (-400)) hx hb dX10_apart_46 (by decide) ?_
          exact W.iret (v := (-400)) hx hb hr (fun t ht hW => ⟨⟨(-400), (z, y), rfl, ⟨trivial, J0⟩, by rw [ht]; exact hP, va_K.moved hW.alike hK⟩, hS.F ht⟩) hS.2.2 dX10_apart_49
        · have t5 : a1.toInt ≠ a2.toInt := gl_ne c5
          refine lv_iload hx hb dX10_apart_35 (lv_at hl 4 rfl) ?_
          refine lv_if_lt (tgt := 46) hx hb dX10_apart_37 (by decide) (fun c6 => ?_) (fun c6 => ?_)
          · have t6 : a3.toInt < (0 : Int) := gl_lt c6
            refine lv_sipush (v := (-400)) hx hb dX10_apart_46 (by decide) ?_
            exact W.iret (v := (-400)) hx hb hr (fun t ht hW => ⟨⟨(-400), (z, y), rfl, ⟨trivial, J0⟩, by rw [ht]; exact hP, va_K.moved hW.alike hK⟩, hS.F ht⟩) hS.2.2 dX10_apart_49
          · have t6 : a3.toInt ≥ (0 : Int) := gl_nlt c6
            refine lv_iload hx hb dX10_apart_40 (lv_at hl 4 rfl) ?_
            refine lv_iconst (v := 2) hx hb dX10_apart_42 (by decide) ?_
            refine lv_icmp_le (tgt := 50) hx hb dX10_apart_43 (by decide) (fun c7 => ?_) (fun c7 => ?_)
            · have t7 : a3.toInt ≤ (2 : Int) := gl_le c7
              refine lv_aload_n hx hb dX10_apart_50 rfl (lv_at hl 0 rfl) ?_
              refine qf_get hx hb hts inX10 hown hK hP (q0 := 0) (by decide) (hgU_0 ca o) rfl 6 (by decide) wq_359 (v := .ref (o + 104)) rfl dX10_apart_51 ?_
              refine lv_iload_n hx hb dX10_apart_54 rfl (lv_at hl 1 rfl) ?_
              refine qc_Vi2 (As := [.int a0]) (rest := []) (k0 := 1) (u_Rows_start l D ca o b z y J0 a0) kc_yX7_start ⟨hx, hb, hml, hown, hts⟩ wq_661 rfl rfl ⟨Nat.le_of_ble_eq_true rfl, Nat.le_of_ble_eq_true rfl⟩ wq_all hP hK hS qw_Ai (q0 := 104) (by decide) (hgU_104 ca o _ _) rfl rfl hl.1 rfl (Nat.le_of_ble_eq_true rfl) dX10_apart_55 ⟨Nat.zero_le _, Nat.zero_le _⟩ (fun r8 z8 y8 H locs h8 hP hS _ _ => ?_)
              have J8 : qJU b z8 := h8.2
              have b8 : (0 : Int) ≤ r8.toInt ∧ r8.toInt ≤ 1 := h8.1
              refine lv_if_ne (tgt := 65) hx hb dX10_apart_58 (by decide) (fun c9 => ?_) (fun c9 => ?_)
              · have t9 : r8.toInt ≠ (0 : Int) := gl_ne c9
                refine lv_iconst (v := 0) hx hb dX10_apart_65 (by decide) ?_
                refine lv_istore (lv' := [(5, .int 0), (0, .ref (o + 0)), (1, .int a0), (2, .int a1), (3, .int a2), (4, .int a3)]) hx hb dX10_apart_66 hl (by decide) rfl (fun ls hl => ?_)
                refine lv_iconst (v := 0) hx hb dX10_apart_68 (by decide) ?_
                refine lv_istore (lv' := [(6, .int 0), (5, .int 0), (0, .ref (o + 0)), (1, .int a0), (2, .int a1), (3, .int a2), (4, .int a3)]) hx hb dX10_apart_69 hl (by decide) rfl (fun ls hl => ?_)
                refine lv_iconst (v := 0) hx hb dX10_apart_71 (by decide) ?_
                refine lv_istore (lv' := [(7, .int 0), (6, .int 0), (5, .int 0), (0, .ref (o + 0)), (1, .int a0), (2, .int a1), (3, .int a2), (4, .int a3)]) hx hb dX10_apart_72 hl (by decide) rfl (fun ls hl => ?_)
                refine lv_iconst (v := 0) hx hb dX10_apart_74 (by decide) ?_
                refine lv_istore (lv' := [(8, .int 0), (7, .int 0), (6, .int 0), (5, .int 0), (0, .ref (o + 0)), (1, .int a0), (2, .int a1), (3, .int a2), (4, .int a3)]) hx hb dX10_apart_75 hl (by decide) rfl (fun ls hl => ?_)
                refine lv_iconst (v := 0) hx hb dX10_apart_77 (by decide) ?_
                refine lv_istore (lv' := [(9, .int 0), (8, .int 0), (7, .int 0), (6, .int 0), (5, .int 0), (0, .ref (o + 0)), (1, .int a0), (2, .int a1), (3, .int a2), (4, .int a3)]) hx hb dX10_apart_78 hl (by decide) rfl (fun ls hl => ?_)
                have loop10 : ∀ (n : Nat) (w10_9 : Int32) (w10_8 : Int32) (w10_7 : Int32) (w10_6 : Int32) (w10_5 : Int32) (z10 : Nat → Nat → Int32) (y10 : Nat → Nat → Int64), ((200000 - w10_9.toInt : Int) < (n : Int)) → ((0 : Int) ≤ w10_9.toInt ∧ w10_9.toInt ≤ 200000) → ((0 : Int) ≤ w10_8.toInt ∧ w10_8.toInt ≤ 1) → ((-99 : Int) ≤ w10_6.toInt ∧ w10_6.toInt ≤ 99) → ((-99 : Int) ≤ w10_5.toInt ∧ w10_5.toInt ≤ 99) → (qJU b z10) → ∀ (H : Heap) (locs : List Loc), qw_P D vwCl o 132 (qG (GU ca o) z10 y10) H → va_S (qw_A o 132) s.heap H locs → ∀ (ls : Array Slot), lv_has ls 11 [(9, .int w10_9), (8, .int w10_8), (7, .int w10_7), (6, .int w10_6), (5, .int w10_5), (0, .ref (o + 0)), (1, .int a0), (2, .int a1), (3, .int a2), (4, .int a3)] → W p l e (headSpec (Cond.code yX10_apart cX10_apart 11 (some .int) :: qtbl) ({ frames := 5, cells := 0, slots := 0, locals := 145 })).room s m (([.ref (o + 0), .int a0, .int a1, .int a2, .int a3] : List Value).toArray) below meth c H locs 0 0 (MQ below (va_Qi (fun r u => True ∧ qJU b u.1) (qB D vwCl (qT6 ca) o 132 (fun u : qZ => qG (GU ca o) u.1 u.2)) (qw_A o 132)) (([.ref (o + 0), .int a0, .int a1, .int a2, .int a3] : List Value).toArray) s 0 0 (qw_A o 132)) (F0 m 80 ls []) := by
                  intro n
                  induction n with
                  | zero => intro w10_9 w10_8 w10_7 w10_6 w10_5 z10 y10 hb10 hv10_9 hv10_8 hv10_6 hv10_5 J10; exfalso; omega
                  | succ n10 ih10 =>
                    intro w10_9 w10_8 w10_7 w10_6 w10_5 z10 y10 hb10 hv10_9 hv10_8 hv10_6 hv10_5 J10 H locs hP hS ls hl
                    refine lv_iload hx hb dX10_apart_80 (lv_at hl 0 rfl) ?_
                    refine lv_ldc (v := 200000) hx hb hown (hts _ wq_663) dX10_apart_82 ?_
                    refine lv_icmp_ge (tgt := 180) hx hb dX10_apart_84 (by decide) (fun c11 => ?_) (fun c11 => ?_)
                    · have t11 : w10_9.toInt ≥ (200000 : Int) := gl_le c11
                      refine lv_iload hx hb dX10_apart_180 (lv_at hl 9 rfl) ?_
                      refine lv_iconst (v := 2) hx hb dX10_apart_182 (by decide) ?_
                      refine lv_icmp_ne (tgt := 189) hx hb dX10_apart_183 (by decide) (fun c12 => ?_) (fun c12 => ?_)
                      · have t12 : a3.toInt ≠ (2 : Int) := gl_ne c12
                        refine lv_iload hx hb dX10_apart_189 (lv_at hl 1 rfl) ?_
                        refine lv_if_ne (tgt := 198) hx hb dX10_apart_191 (by decide) (fun c13 => ?_) (fun c13 => ?_)
                        · have t13 : w10_8.toInt ≠ (0 : Int) := gl_ne c13
                          refine lv_iload hx hb dX10_apart_198 (lv_at hl 9 rfl) ?_
                          refine lv_if_ne (tgt := 208) hx hb dX10_apart_200 (by decide) (fun c14 => ?_) (fun c14 => ?_)
                          · have t14 : a3.toInt ≠ (0 : Int) := gl_ne c14
                            refine lv_iload hx hb dX10_apart_208 (lv_at hl 3 rfl) ?_
                            exact W.iret (v := w10_6) hx hb hr (fun t ht hW => ⟨⟨w10_6, (z10, y10), rfl, ⟨trivial, J10⟩, by rw [ht]; exact hP, va_K.moved hW.alike hK⟩, hS.F ht⟩) hS.2.2 dX10_apart_210
                          · have t14 : a3.toInt = (0 : Int) := gl_eq c14
                            refine lv_iload hx hb dX10_apart_203 (lv_at hl 4 rfl) ?_
                            refine lv_goto (tgt := 210) hx hb dX10_apart_205 (by decide) ?_
                            exact W.iret (v := w10_5) hx hb hr (fun t ht hW => ⟨⟨w10_5, (z10, y10), rfl, ⟨trivial, J10⟩, by rw [ht]; exact hP, va_K.moved hW.alike hK⟩, hS.F ht⟩) hS.2.2 dX10_apart_210
                        · have t13 : w10_8.toInt = (0 : Int) := gl_eq c13
                          refine lv_sipush (v := (-200)) hx hb dX10_apart_194 (by decide) ?_
                          exact W.iret (v := (-200)) hx hb hr (fun t ht hW => ⟨⟨(-200), (z10, y10), rfl, ⟨trivial, J10⟩, by rw [ht]; exact hP, va_K.moved hW.alike hK⟩, hS.F ht⟩) hS.2.2 dX10_apart_197
                      · have t12 : a3.toInt = (2 : Int) := gl_eq c12
                        refine lv_iload hx hb dX10_apart_186 (lv_at hl 2 rfl) ?_
                        exact W.iret (v := w10_7) hx hb hr (fun t ht hW => ⟨⟨w10_7, (z10, y10), rfl, ⟨trivial, J10⟩, by rw [ht]; exact hP, va_K.moved hW.alike hK⟩, hS.F ht⟩) hS.2.2 dX10_apart_188
                    · have t11 : w10_9.toInt < (200000 : Int) := gl_nle c11
                      refine lv_aload_n hx hb dX10_apart_87 rfl (lv_at hl 5 rfl) ?_
                      refine qf_get hx hb hts inX10 hown hK hP (q0 := 0) (by decide) (hgU_0 ca o) rfl 6 (by decide) wq_359 (v := .ref (o + 104)) rfl dX10_apart_88 ?_
                      refine qc_Vi2 (As := []) (rest := []) (k0 := 0) (u_Rows_next l D ca o b z10 y10 J10) kc_yX7_next ⟨hx, hb, hml, hown, hts⟩ wq_664 rfl rfl ⟨Nat.le_of_ble_eq_true rfl, Nat.le_of_ble_eq_true rfl⟩ wq_all hP hK hS qw_Ai (q0 := 104) (by decide) (hgU_104 ca o _ _) rfl rfl hl.1 rfl (Nat.le_of_ble_eq_true rfl) dX10_apart_91 ⟨Nat.zero_le _, Nat.zero_le _⟩ (fun r15 z15 y15 H locs h15 hP hS _ _ => ?_)
                      have J15 : qJU b z15 := h15.2
                      have b15 : (0 : Int) ≤ r15.toInt ∧ r15.toInt ≤ 1 := h15.1
                      refine lv_if_eq (tgt := 180) hx hb dX10_apart_94 (by decide) (fun c16 => ?_) (fun c16 => ?_)
                      · have t16 : r15.toInt = (0 : Int) := gl_eq c16
                        refine lv_iload hx hb dX10_apart_180 (lv_at hl 9 rfl) ?_
                        refine lv_iconst (v := 2) hx hb dX10_apart_182 (by decide) ?_
                        refine lv_icmp_ne (tgt := 189) hx hb dX10_apart_183 (by decide) (fun c17 => ?_) (fun c17 => ?_)
                        · have t17 : a3.toInt ≠ (2 : Int) := gl_ne c17
                          refine lv_iload hx hb dX10_apart_189 (lv_at hl 1 rfl) ?_
                          refine lv_if_ne (tgt := 198) hx hb dX10_apart_191 (by decide) (fun c18 => ?_) (fun c18 => ?_)
                          · have t18 : w10_8.toInt ≠ (0 : Int) := gl_ne c18
                            refine lv_iload hx hb dX10_apart_198 (lv_at hl 9 rfl) ?_
                            refine lv_if_ne (tgt := 208) hx hb dX10_apart_200 (by decide) (fun c19 => ?_) (fun c19 => ?_)
                            · have t19 : a3.toInt ≠ (0 : Int) := gl_ne c19
                              refine lv_iload hx hb dX10_apart_208 (lv_at hl 3 rfl) ?_
                              exact W.iret (v := w10_6) hx hb hr (fun t ht hW => ⟨⟨w10_6, (z15, y15), rfl, ⟨trivial, J15⟩, by rw [ht]; exact hP, va_K.moved hW.alike hK⟩, hS.F ht⟩) hS.2.2 dX10_apart_210
                            · have t19 : a3.toInt = (0 : Int) := gl_eq c19
                              refine lv_iload hx hb dX10_apart_203 (lv_at hl 4 rfl) ?_
                              refine lv_goto (tgt := 210) hx hb dX10_apart_205 (by decide) ?_
                              exact W.iret (v := w10_5) hx hb hr (fun t ht hW => ⟨⟨w10_5, (z15, y15), rfl, ⟨trivial, J15⟩, by rw [ht]; exact hP, va_K.moved hW.alike hK⟩, hS.F ht⟩) hS.2.2 dX10_apart_210
                          · have t18 : w10_8.toInt = (0 : Int) := gl_eq c18
                            refine lv_sipush (v := (-200)) hx hb dX10_apart_194 (by decide) ?_
                            exact W.iret (v := (-200)) hx hb hr (fun t ht hW => ⟨⟨(-200), (z15, y15), rfl, ⟨trivial, J15⟩, by rw [ht]; exact hP, va_K.moved hW.alike hK⟩, hS.F ht⟩) hS.2.2 dX10_apart_197
                        · have t17 : a3.toInt = (2 : Int) := gl_eq c17
                          refine lv_iload hx hb dX10_apart_186 (lv_at hl 2 rfl) ?_
                          exact W.iret (v := w10_7) hx hb hr (fun t ht hW => ⟨⟨w10_7, (z15, y15), rfl, ⟨trivial, J15⟩, by rw [ht]; exact hP, va_K.moved hW.alike hK⟩, hS.F ht⟩) hS.2.2 dX10_apart_188
                      · have t16 : r15.toInt ≠ (0 : Int) := gl_ne c16
                        refine lv_aload_n hx hb dX10_apart_97 rfl (lv_at hl 5 rfl) ?_
                        refine qf_get hx hb hts inX10 hown hK hP (q0 := 0) (by decide) (hgU_0 ca o) rfl 6 (by decide) wq_359 (v := .ref (o + 104)) rfl dX10_apart_98 ?_
                        refine qf_get hx hb hts inX7 hown hK hP (q0 := 104) (by decide) (hgU_104 ca o) rfl 1 (by decide) wq_189 (v := .ref (o + 105)) rfl dX10_apart_101 ?_
                        refine lv_iload_n hx hb dX10_apart_104 rfl (lv_at hl 7 rfl) ?_
                        refine qa_iald hx hb hK hP (q0 := 105) (by decide) 0 (N := 6) (hgU_105 ca o) rfl (gi_in (by omega) (by omega)) dX10_apart_105 ?_
                        refine lv_topi (fun x20 e20 => ?_)
                        have b20 := iU_105 J15 e20
                        refine lv_aload_n hx hb dX10_apart_106 rfl (lv_at hl 5 rfl) ?_
                        refine qf_get hx hb hts inX10 hown hK hP (q0 := 0) (by decide) (hgU_0 ca o) rfl 6 (by decide) wq_359 (v := .ref (o + 104)) rfl dX10_apart_107 ?_
                        refine qf_get hx hb hts inX7 hown hK hP (q0 := 104) (by decide) (hgU_104 ca o) rfl 1 (by decide) wq_189 (v := .ref (o + 105)) rfl dX10_apart_110 ?_
                        refine lv_iload_n hx hb dX10_apart_113 rfl (lv_at hl 8 rfl) ?_
                        refine qa_iald hx hb hK hP (q0 := 105) (by decide) 0 (N := 6) (hgU_105 ca o) rfl (gi_in (by omega) (by omega)) dX10_apart_114 ?_
                        refine lv_topi (fun x21 e21 => ?_)
                        have b21 := iU_105 J15 e21
                        refine lv_isub hx hb dX10_apart_115 ?_
                        refine lv_topi (fun x22 e22 => ?_)
                        have t22 : x22.toInt = x20.toInt - x21.toInt := ga_sub e22 rfl rfl (by omega) (by omega)
                        refine lv_istore (lv' := [(10, .int x22), (9, .int w10_9), (8, .int w10_8), (7, .int w10_7), (6, .int w10_6), (5, .int w10_5), (0, .ref (o + 0)), (1, .int a0), (2, .int a1), (3, .int a2), (4, .int a3)]) hx hb dX10_apart_116 hl (by decide) rfl (fun ls hl => ?_)
                        refine lv_iload hx hb dX10_apart_118 (lv_at hl 2 rfl) ?_
                        refine lv_if_eq (tgt := 133) hx hb dX10_apart_120 (by decide) (fun c23 => ?_) (fun c23 => ?_)
                        · have t23 : w10_8.toInt = (0 : Int) := gl_eq c23
                          refine lv_iload hx hb dX10_apart_133 (lv_at hl 0 rfl) ?_
                          refine lv_istore (lv' := [(5, .int x22), (10, .int x22), (9, .int w10_9), (8, .int w10_8), (7, .int w10_7), (6, .int w10_6), (0, .ref (o + 0)), (1, .int a0), (2, .int a1), (3, .int a2), (4, .int a3)]) hx hb dX10_apart_135 hl (by decide) rfl (fun ls hl => ?_)
                          refine lv_iload hx hb dX10_apart_137 (lv_at hl 3 rfl) ?_
                          refine lv_if_eq (tgt := 152) hx hb dX10_apart_139 (by decide) (fun c24 => ?_) (fun c24 => ?_)
                          · have t24 : w10_8.toInt = (0 : Int) := gl_eq c24
                            refine lv_iload hx hb dX10_apart_152 (lv_at hl 1 rfl) ?_
                            refine lv_istore (lv' := [(6, .int x22), (5, .int x22), (10, .int x22), (9, .int w10_9), (8, .int w10_8), (7, .int w10_7), (0, .ref (o + 0)), (1, .int a0), (2, .int a1), (3, .int a2), (4, .int a3)]) hx hb dX10_apart_154 hl (by decide) rfl (fun ls hl => ?_)
                            refine lv_iload hx hb dX10_apart_156 (lv_at hl 5 rfl) ?_
                            refine lv_iload hx hb dX10_apart_158 (lv_at hl 2 rfl) ?_
                            refine lv_if_ne (tgt := 167) hx hb dX10_apart_160 (by decide) (fun c25 => ?_) (fun c25 => ?_)
                            · have t25 : x22.toInt ≠ (0 : Int) := gl_ne c25
                              refine lv_iconst (v := 0) hx hb dX10_apart_167 (by decide) ?_
                              refine lv_iadd hx hb dX10_apart_168 ?_
                              refine lv_topi (fun x26 e26 => ?_)
                              have gb26_0 := gl_b w10_7
                              have gb26_1 := gl_b r1
                              have gb26_2 := gl_b a1
                              have gb26_3 := gl_b a2
                              have gb26_4 := gl_b a3
                              have gb26_5 := gl_b r8
                              have gb26_6 := gl_b w10_9
                              have gb26_7 := gl_b r15
                              have gb26_8 := gl_b w10_8
                              have gb26_9 := gl_b x22
                              have t26 : x26.toInt = w10_7.toInt + (0 : Int) := ga_add e26 rfl rfl (by omega) (by omega)
                              refine lv_istore (lv' := [(7, .int x26), (6, .int x22), (5, .int x22), (10, .int x22), (9, .int w10_9), (8, .int w10_8), (0, .ref (o + 0)), (1, .int a0), (2, .int a1), (3, .int a2), (4, .int a3)]) hx hb dX10_apart_169 hl (by decide) rfl (fun ls hl => ?_)
                              refine lv_iconst (v := 1) hx hb dX10_apart_171 (by decide) ?_
                              refine lv_istore (lv' := [(8, .int 1), (7, .int x26), (6, .int x22), (5, .int x22), (10, .int x22), (9, .int w10_9), (0, .ref (o + 0)), (1, .int a0), (2, .int a1), (3, .int a2), (4, .int a3)]) hx hb dX10_apart_172 hl (by decide) rfl (fun ls hl => ?_)
                              obtain ⟨x27, e27⟩ : ∃ t : Int32, t = w10_9 + 1 := ⟨_, rfl⟩
                              refine lv_iinc (v := x27) (lv' := [(9, .int x27), (8, .int 1), (7, .int x26), (6, .int x22), (5, .int x22), (10, .int x22), (0, .ref (o + 0)), (1, .int a0), (2, .int a1), (3, .int a2), (4, .int a3)]) hx hb dX10_apart_174 hl (k := 5) rfl (by rw [e27]; rfl) (by decide) rfl (fun ls hl => ?_)
                              have t27 : x27.toInt = w10_9.toInt + (1 : Int) := ga_add e27 rfl rfl (by omega) (by omega)
                              refine lv_goto (tgt := 80) hx hb dX10_apart_177 (by decide) ?_
                              exact ih10 x27 1 x26 x22 x22 z15 y15 (show (200000 - x27.toInt : Int) < (n10 : Int) from by omega) ⟨by omega, by omega⟩ ⟨by decide, by decide⟩ ⟨by omega, by omega⟩ ⟨by omega, by omega⟩ J15 _ _ hP hS _ (lv_sub hl [0, 1, 2, 3, 4, 6, 7, 8, 9, 10] rfl)
                            · have t25 : x22.toInt = (0 : Int) := gl_eq c25
                              refine lv_iconst (v := 1) hx hb dX10_apart_163 (by decide) ?_
                              refine lv_goto (tgt := 168) hx hb dX10_apart_164 (by decide) ?_
                              refine lv_iadd hx hb dX10_apart_168 ?_
                              refine lv_topi (fun x28 e28 => ?_)
                              refine lv_istore (lv' := [(7, .int x28), (6, .int x22), (5, .int x22), (10, .int x22), (9, .int w10_9), (8, .int w10_8), (0, .ref (o + 0)), (1, .int a0), (2, .int a1), (3, .int a2), (4, .int a3)]) hx hb dX10_apart_169 hl (by decide) rfl (fun ls hl => ?_)
                              refine lv_iconst (v := 1) hx hb dX10_apart_171 (by decide) ?_
                              refine lv_istore (lv' := [(8, .int 1), (7, .int x28), (6, .int x22), (5, .int x22), (10, .int x22), (9, .int w10_9), (0, .ref (o + 0)), (1, .int a0), (2, .int a1), (3, .int a2), (4, .int a3)]) hx hb dX10_apart_172 hl (by decide) rfl (fun ls hl => ?_)
                              obtain ⟨x29, e29⟩ : ∃ t : Int32, t = w10_9 + 1 := ⟨_, rfl⟩
                              refine lv_iinc (v := x29) (lv' := [(9, .int x29), (8, .int 1), (7, .int x28), (6, .int x22), (5, .int x22), (10, .int x22), (0, .ref (o + 0)), (1, .int a0), (2, .int a1), (3, .int a2), (4, .int a3)]) hx hb dX10_apart_174 hl (k := 5) rfl (by rw [e29]; rfl) (by decide) rfl (fun ls hl => ?_)
                              have t29 : x29.toInt = w10_9.toInt + (1 : Int) := ga_add e29 rfl rfl (by omega) (by omega)
                              refine lv_goto (tgt := 80) hx hb dX10_apart_177 (by decide) ?_
                              exact ih10 x29 1 x28 x22 x22 z15 y15 (show (200000 - x29.toInt : Int) < (n10 : Int) from by omega) ⟨by omega, by omega⟩ ⟨by decide, by decide⟩ ⟨by omega, by omega⟩ ⟨by omega, by omega⟩ J15 _ _ hP hS _ (lv_sub hl [0, 1, 2, 3, 4, 6, 7, 8, 9, 10] rfl)
                          · have t24 : w10_8.toInt ≠ (0 : Int) := gl_ne c24
                            exfalso; omega
                        · have t23 : w10_8.toInt ≠ (0 : Int) := gl_ne c23
                          refine lv_iload hx hb dX10_apart_123 (lv_at hl 5 rfl) ?_
                          refine lv_iload hx hb dX10_apart_125 (lv_at hl 0 rfl) ?_
                          refine va_mmin hx hb (hml.trans hl.1.symm) hown (hts _ wq_685) (hts _ wq_444) (hts _ wq_14) (hts _ wq_445) (Nat.le_of_ble_eq_true rfl) (Nat.le_of_ble_eq_true rfl) (Nat.zero_le _) (Nat.zero_le _) dX10_apart_127 ?_
                          refine lv_topi (fun x30 e30 => ?_)
                          have t30 : x30.toInt = min w10_5.toInt x22.toInt := ga_min e30
                          refine lv_goto (tgt := 135) hx hb dX10_apart_130 (by decide) ?_
                          refine lv_istore (lv' := [(5, .int x30), (10, .int x22), (9, .int w10_9), (8, .int w10_8), (7, .int w10_7), (6, .int w10_6), (0, .ref (o + 0)), (1, .int a0), (2, .int a1), (3, .int a2), (4, .int a3)]) hx hb dX10_apart_135 hl (by decide) rfl (fun ls hl => ?_)
                          refine lv_iload hx hb dX10_apart_137 (lv_at hl 3 rfl) ?_
                          refine lv_if_eq (tgt := 152) hx hb dX10_apart_139 (by decide) (fun c31 => ?_) (fun c31 => ?_)
                          · have t31 : w10_8.toInt = (0 : Int) := gl_eq c31
                            exfalso; omega
                          · have t31 : w10_8.toInt ≠ (0 : Int) := gl_ne c31
                            refine lv_iload hx hb dX10_apart_142 (lv_at hl 5 rfl) ?_
                            refine lv_iload hx hb dX10_apart_144 (lv_at hl 1 rfl) ?_
                            refine va_mmax hx hb (hml.trans hl.1.symm) hown (hts _ wq_686) (hts _ wq_687) (hts _ wq_14) (hts _ wq_688) (Nat.le_of_ble_eq_true rfl) (Nat.le_of_ble_eq_true rfl) (Nat.zero_le _) (Nat.zero_le _) dX10_apart_146 ?_
                            refine lv_topi (fun x32 e32 => ?_)
                            have t32 : x32.toInt = max w10_6.toInt x22.toInt := ga_max e32
                            refine lv_goto (tgt := 154) hx hb dX10_apart_149 (by decide) ?_
                            refine lv_istore (lv' := [(6, .int x32), (5, .int x30), (10, .int x22), (9, .int w10_9), (8, .int w10_8), (7, .int w10_7), (0, .ref (o + 0)), (1, .int a0), (2, .int a1), (3, .int a2), (4, .int a3)]) hx hb dX10_apart_154 hl (by decide) rfl (fun ls hl => ?_)
                            refine lv_iload hx hb dX10_apart_156 (lv_at hl 5 rfl) ?_
                            refine lv_iload hx hb dX10_apart_158 (lv_at hl 2 rfl) ?_
                            refine lv_if_ne (tgt := 167) hx hb dX10_apart_160 (by decide) (fun c33 => ?_) (fun c33 => ?_)
                            · have t33 : x22.toInt ≠ (0 : Int) := gl_ne c33
                              refine lv_iconst (v := 0) hx hb dX10_apart_167 (by decide) ?_
                              refine lv_iadd hx hb dX10_apart_168 ?_
                              refine lv_topi (fun x34 e34 => ?_)
                              have gb34_0 := gl_b w10_7
                              have gb34_1 := gl_b r1
                              have gb34_2 := gl_b a1
                              have gb34_3 := gl_b a2
                              have gb34_4 := gl_b a3
                              have gb34_5 := gl_b r8
                              have gb34_6 := gl_b w10_9
                              have gb34_7 := gl_b r15
                              have gb34_8 := gl_b w10_8
                              have gb34_9 := gl_b x22
                              have t34 : x34.toInt = w10_7.toInt + (0 : Int) := ga_add e34 rfl rfl (by omega) (by omega)
                              refine lv_istore (lv' := [(7, .int x34), (6, .int x32), (5, .int x30), (10, .int x22), (9, .int w10_9), (8, .int w10_8), (0, .ref (o + 0)), (1, .int a0), (2, .int a1), (3, .int a2), (4, .int a3)]) hx hb dX10_apart_169 hl (by decide) rfl (fun ls hl => ?_)
                              refine lv_iconst (v := 1) hx hb dX10_apart_171 (by decide) ?_
                              refine lv_istore (lv' := [(8, .int 1), (7, .int x34), (6, .int x32), (5, .int x30), (10, .int x22), (9, .int w10_9), (0, .ref (o + 0)), (1, .int a0), (2, .int a1), (3, .int a2), (4, .int a3)]) hx hb dX10_apart_172 hl (by decide) rfl (fun ls hl => ?_)
                              obtain ⟨x35, e35⟩ : ∃ t : Int32, t = w10_9 + 1 := ⟨_, rfl⟩
                              refine lv_iinc (v := x35) (lv' := [(9, .int x35), (8, .int 1), (7, .int x34), (6, .int x32), (5, .int x30), (10, .int x22), (0, .ref (o + 0)), (1, .int a0), (2, .int a1), (3, .int a2), (4, .int a3)]) hx hb dX10_apart_174 hl (k := 5) rfl (by rw [e35]; rfl) (by decide) rfl (fun ls hl => ?_)
                              have t35 : x35.toInt = w10_9.toInt + (1 : Int) := ga_add e35 rfl rfl (by omega) (by omega)
                              refine lv_goto (tgt := 80) hx hb dX10_apart_177 (by decide) ?_
                              exact ih10 x35 1 x34 x32 x30 z15 y15 (show (200000 - x35.toInt : Int) < (n10 : Int) from by omega) ⟨by omega, by omega⟩ ⟨by decide, by decide⟩ ⟨by omega, by omega⟩ ⟨by omega, by omega⟩ J15 _ _ hP hS _ (lv_sub hl [0, 1, 2, 3, 4, 6, 7, 8, 9, 10] rfl)
                            · have t33 : x22.toInt = (0 : Int) := gl_eq c33
                              refine lv_iconst (v := 1) hx hb dX10_apart_163 (by decide) ?_
                              refine lv_goto (tgt := 168) hx hb dX10_apart_164 (by decide) ?_
                              refine lv_iadd hx hb dX10_apart_168 ?_
                              refine lv_topi (fun x36 e36 => ?_)
                              refine lv_istore (lv' := [(7, .int x36), (6, .int x32), (5, .int x30), (10, .int x22), (9, .int w10_9), (8, .int w10_8), (0, .ref (o + 0)), (1, .int a0), (2, .int a1), (3, .int a2), (4, .int a3)]) hx hb dX10_apart_169 hl (by decide) rfl (fun ls hl => ?_)
                              refine lv_iconst (v := 1) hx hb dX10_apart_171 (by decide) ?_
                              refine lv_istore (lv' := [(8, .int 1), (7, .int x36), (6, .int x32), (5, .int x30), (10, .int x22), (9, .int w10_9), (0, .ref (o + 0)), (1, .int a0), (2, .int a1), (3, .int a2), (4, .int a3)]) hx hb dX10_apart_172 hl (by decide) rfl (fun ls hl => ?_)
                              obtain ⟨x37, e37⟩ : ∃ t : Int32, t = w10_9 + 1 := ⟨_, rfl⟩
                              refine lv_iinc (v := x37) (lv' := [(9, .int x37), (8, .int 1), (7, .int x36), (6, .int x32), (5, .int x30), (10, .int x22), (0, .ref (o + 0)), (1, .int a0), (2, .int a1), (3, .int a2), (4, .int a3)]) hx hb dX10_apart_174 hl (k := 5) rfl (by rw [e37]; rfl) (by decide) rfl (fun ls hl => ?_)
                              have t37 : x37.toInt = w10_9.toInt + (1 : Int) := ga_add e37 rfl rfl (by omega) (by omega)
                              refine lv_goto (tgt := 80) hx hb dX10_apart_177 (by decide) ?_
                              exact ih10 x37 1 x36 x32 x30 z15 y15 (show (200000 - x37.toInt : Int) < (n10 : Int) from by omega) ⟨by omega, by omega⟩ ⟨by decide, by decide⟩ ⟨by omega, by omega⟩ ⟨by omega, by omega⟩ J15 _ _ hP hS _ (lv_sub hl [0, 1, 2, 3, 4, 6, 7, 8, 9, 10] rfl)
                exact loop10 200001 0 0 0 0 0 z8 y8 (show (200000 - (0 : Int) : Int) < ((200001 : Nat) : Int) from by omega) ⟨by decide, by decide⟩ ⟨by decide, by decide⟩ ⟨by decide, by decide⟩ ⟨by decide, by decide⟩ J8 _ _ hP hS _ (lv_sub hl [0, 1, 2, 3, 4, 5, 6, 7, 8, 9] rfl)
              · have t9 : r8.toInt = (0 : Int) := gl_eq c9
                refine lv_sipush (v := (-300)) hx hb dX10_apart_61 (by decide) ?_
                exact W.iret (v := (-300)) hx hb hr (fun t ht hW => ⟨⟨(-300), (z8, y8), rfl, ⟨trivial, J8⟩, by rw [ht]; exact hP, va_K.moved hW.alike hK⟩, hS.F ht⟩) hS.2.2 dX10_apart_64
            · have t7 : a3.toInt > (2 : Int) := gl_nle c7
              refine lv_sipush (v := (-400)) hx hb dX10_apart_46 (by decide) ?_
              exact W.iret (v := (-400)) hx hb hr (fun t ht hW => ⟨⟨(-400), (z, y), rfl, ⟨trivial, J0⟩, by rw [ht]; exact hP, va_K.moved hW.alike hK⟩, hS.F ht⟩) hS.2.2 dX10_apart_49
      · subst hr4
        have hg4_0 : ¬ pHas (z 1 5) a2 := hf4_0
        refine lv_if_eq (tgt := 46) hx hb dX10_apart_27 (by decide) (fun _ => ?_) (fun q => absurd (by decide) q)
        refine lv_sipush (v := (-400)) hx hb dX10_apart_46 (by decide) ?_
        exact W.iret (v := (-400)) hx hb hr (fun t ht hW => ⟨⟨(-400), (z, y), rfl, ⟨trivial, J0⟩, by rw [ht]; exact hP, va_K.moved hW.alike hK⟩, hS.F ht⟩) hS.2.2 dX10_apart_49
    · subst hr3
      have hg3_0 : ¬ pHas (z 1 5) a1 := hf3_0
      refine lv_if_eq (tgt := 46) hx hb dX10_apart_16 (by decide) (fun _ => ?_) (fun q => absurd (by decide) q)
      refine lv_sipush (v := (-400)) hx hb dX10_apart_46 (by decide) ?_
      exact W.iret (v := (-400)) hx hb hr (fun t ht hW => ⟨⟨(-400), (z, y), rfl, ⟨trivial, J0⟩, by rw [ht]; exact hP, va_K.moved hW.alike hK⟩, hS.F ht⟩) hS.2.2 dX10_apart_49
set_option maxRecDepth 100000 in
set_option maxHeartbeats 8000000 in
theorem u_parent (l : Launch) (D : va_G) (ca : Nat → ClassId) (o : Nat) (b z : Nat → Nat → Int32) (y : Nat → Nat → Int64) (J0 : qJU b z) (a0 : Int32) (a1 : Int32) (a2 : Int32)  : qM l yX10_parent cX10_parent 4 (some .boolean) 2 81 (qPre D vwCl (qT6 ca) o 132 (qG (GU ca o) z y) [.ref (o + 0), .int a0, .int a1, .int a2]) (va_Qi (fun r u => ((r = 1 ∧ (pHas (z 1 5) a0 ∧ pHas (z 1 5) a1 ∧ a0.toInt ≠ a1.toInt ∧ -1 ≤ a2.toInt ∧ a2.toInt ≤ 99) ∧ (qK kU (qu z 5 (a0.toInt * 6 + a1.toInt).toNat a2) u.1)) ∨ (r = 0 ∧ (¬ (pHas (z 1 5) a0 ∧ pHas (z 1 5) a1 ∧ a0.toInt ≠ a1.toInt ∧ -1 ≤ a2.toInt ∧ a2.toInt ≤ 99)) ∧ (qK kU z u.1))) ∧ qJU u.1 u.1) (qB D vwCl (qT6 ca) o 132 (fun u : qZ => qG (GU ca o) u.1 u.2)) (qw_A o 132)) (qw_A o 132) := by
  refine Met.ofW (cc := cX10_parent) (maxL := 4) (ret := (some .boolean)) (by decide) rfl ?_
  intro p e s m args below meth c s₁ B hml hv
  obtain ⟨rfl, hP, hK⟩ := hv
  have hx := B.exec
  have hb := B.bytes
  have hr := B.returns
  have hts0 := atoms_spec (ws := Cond.code yX10_parent cX10_parent 4 (some .boolean) :: qtbl) B.pre
  have hts : ∀ w ∈ qtbl, w.before _ s = true := fun w h => hts0 w (List.mem_cons_of_mem _ h)
  have hown : s.vm.findClass RX10 = some m.cls := findClass_of_methodNamed B.named
  have hlocks := B.notSynchronized
  have hS : va_S (qw_A o 132) s.heap s.heap [] := va_S.rf
  have hl := lv_entry ([.ref (o + 0), .int a0, .int a1, .int a2]) (n := 4) (Nat.le_of_ble_eq_true rfl)
  rw [lg_entry_eq]
  generalize (lg_sl ([.ref (o + 0), .int a0, .int a1, .int a2]) ++ List.replicate (4 - (lg_sl ([.ref (o + 0), .int a0, .int a1, .int a2])).length) Slot.unset).toArray = ls at hl ⊢
  have hl : lv_has ls 4 [(0, .ref (o + 0)), (1, .int a0), (2, .int a1), (3, .int a2)] := hl
  have Jz : qJU z z := ⟨J0.1, qK_rf⟩
  refine lv_aload_n hx hb dX10_parent_0 rfl (lv_at hl 0 rfl) ?_
  refine qf_get hx hb hts inX10 hown hK hP (q0 := 0) (by decide) (hgU_0 ca o) rfl 0 (by decide) wq_353 (v := .ref (o + 1)) rfl dX10_parent_1 ?_
  refine lv_iload_n hx hb dX10_parent_4 rfl (lv_at hl 1 rfl) ?_
  refine qc_Vip (As := [.int a0]) (rest := []) (k0 := 1) (u_Told_hasPerson l D ca o z z y Jz a0) kc_yX9_hasPerson ⟨hx, hb, hml, hown, hts⟩ wq_411 rfl rfl ⟨Nat.le_of_ble_eq_true rfl, Nat.le_of_ble_eq_true rfl⟩ wq_all hP hK hS qw_Ai (q0 := 1) (by decide) (hgU_1 ca o _ _) rfl rfl hl.1 rfl (Nat.le_of_ble_eq_true rfl) dX10_parent_5 ⟨Nat.zero_le _, Nat.zero_le _⟩ (fun r1 H locs h1 hP hS _ _ => ?_)
  rcases h1 with ⟨hr1, hf1_0, hf1_1⟩ | ⟨hr1, hf1_0⟩
  · subst hr1
    have hg1_0 : pHas (z 1 5) a0 := hf1_0
    have hg1_1 : 0 ≤ a0.toInt ∧ a0.toInt ≤ 5 := hf1_1
    refine lv_if_eq (tgt := 38) hx hb dX10_parent_8 (by decide) (fun q => absurd q (by decide)) (fun _ => ?_)
    refine lv_aload_n hx hb dX10_parent_11 rfl (lv_at hl 0 rfl) ?_
    refine qf_get hx hb hts inX10 hown hK hP (q0 := 0) (by decide) (hgU_0 ca o) rfl 0 (by decide) wq_353 (v := .ref (o + 1)) rfl dX10_parent_12 ?_
    refine lv_iload_n hx hb dX10_parent_15 rfl (lv_at hl 2 rfl) ?_
    refine qc_Vip (As := [.int a1]) (rest := []) (k0 := 1) (u_Told_hasPerson l D ca o z z y Jz a1) kc_yX9_hasPerson ⟨hx, hb, hml, hown, hts⟩ wq_411 rfl rfl ⟨Nat.le_of_ble_eq_true rfl, Nat.le_of_ble_eq_true rfl⟩ wq_all hP hK hS qw_Ai (q0 := 1) (by decide) (hgU_1 ca o _ _) rfl rfl hl.1 rfl (Nat.le_of_ble_eq_true rfl) dX10_parent_16 ⟨Nat.zero_le _, Nat.zero_le _⟩ (fun r2 H locs h2 hP hS _ _ => ?_)
    rcases h2 with ⟨hr2, hf2_0, hf2_1⟩ | ⟨hr2, hf2_0⟩
    · subst hr2
      have hg2_0 : pHas (z 1 5) a1 := hf2_0
      have hg2_1 : 0 ≤ a1.toInt ∧ a1.toInt ≤ 5 := hf2_1
      refine lv_if_eq (tgt := 38) hx hb dX10_parent_19 (by decide) (fun q => absurd q (by decide)) (fun _ => ?_)
      refine lv_iload_n hx hb dX10_parent_22 rfl (lv_at hl 1 rfl) ?_
      refine lv_iload_n hx hb dX10_parent_23 rfl (lv_at hl 2 rfl) ?_
      refine lv_icmp_eq (tgt := 38) hx hb dX10_parent_24 (by decide) (fun c3 => ?_) (fun c3 => ?_)
      · have t3 : a0.toInt = a1.toInt := gl_eq c3
        refine lv_iconst (v := 0) hx hb dX10_parent_38 (by decide) ?_
        exact W.zret (v := 0) (ty := .boolean) hx hb hr rfl (fun t ht hW => ⟨⟨0, (z, y), rfl, ⟨Or.inr ⟨rfl, (by omega), qK_rf⟩, ⟨Jz.1, qK_rf⟩⟩, by rw [ht]; exact hP, va_K.moved hW.alike hK⟩, hS.F ht⟩) hS.2.2 dX10_parent_39
      · have t3 : a0.toInt ≠ a1.toInt := gl_ne c3
        refine lv_iload_n hx hb dX10_parent_27 rfl (lv_at hl 3 rfl) ?_
        refine lv_iconst (v := (-1)) hx hb dX10_parent_28 (by decide) ?_
        refine lv_icmp_lt (tgt := 38) hx hb dX10_parent_29 (by decide) (fun c4 => ?_) (fun c4 => ?_)
        · have t4 : a2.toInt < (-1 : Int) := gl_lt c4
          refine lv_iconst (v := 0) hx hb dX10_parent_38 (by decide) ?_
          exact W.zret (v := 0) (ty := .boolean) hx hb hr rfl (fun t ht hW => ⟨⟨0, (z, y), rfl, ⟨Or.inr ⟨rfl, (by omega), qK_rf⟩, ⟨Jz.1, qK_rf⟩⟩, by rw [ht]; exact hP, va_K.moved hW.alike hK⟩, hS.F ht⟩) hS.2.2 dX10_parent_39
        · have t4 : a2.toInt ≥ (-1 : Int) := gl_nlt c4
          refine lv_iload_n hx hb dX10_parent_32 rfl (lv_at hl 3 rfl) ?_
          refine lv_bipush (v := 99) hx hb dX10_parent_33 (by decide) ?_
          refine lv_icmp_le (tgt := 40) hx hb dX10_parent_35 (by decide) (fun c5 => ?_) (fun c5 => ?_)
          · have t5 : a2.toInt ≤ (99 : Int) := gl_le c5
            refine lv_aload_n hx hb dX10_parent_40 rfl (lv_at hl 0 rfl) ?_
            refine qf_get hx hb hts inX10 hown hK hP (q0 := 0) (by decide) (hgU_0 ca o) rfl 0 (by decide) wq_353 (v := .ref (o + 1)) rfl dX10_parent_41 ?_
            refine qf_get hx hb hts inX9 hown hK hP (q0 := 1) (by decide) (hgU_1 ca o) rfl 3 (by decide) wq_93 (v := .ref (o + 5)) rfl dX10_parent_44 ?_
            refine lv_iload_n hx hb dX10_parent_47 rfl (lv_at hl 1 rfl) ?_
            refine lv_bipush (v := 6) hx hb dX10_parent_48 (by decide) ?_
            refine lv_imul hx hb dX10_parent_50 ?_
            refine lv_topi (fun x6 e6 => ?_)
            have t6 : x6.toInt = a0.toInt * (6 : Int) := ga_mul e6 rfl rfl (by omega) (by omega)
            refine lv_iload_n hx hb dX10_parent_51 rfl (lv_at hl 2 rfl) ?_
            refine lv_iadd hx hb dX10_parent_52 ?_
            refine lv_topi (fun x7 e7 => ?_)
            have t7 : x7.toInt = x6.toInt + a1.toInt := ga_add e7 rfl rfl (by omega) (by omega)
            refine lv_iload_n hx hb dX10_parent_53 rfl (lv_at hl 3 rfl) ?_
            refine qa_iast2 hx hb hK hP hS qw_Ai (q0 := 5) (by decide) 0 (N := 36) (hgU_5 ca o) rfl (i := x7) (x := a2) (gi_in (by omega) (by omega)) dX10_parent_54 (fun z8 H locs hz8 hP hS => ?_)
            have J8 := jU_5 Jz hz8
            refine lv_iconst (v := 1) hx hb dX10_parent_55 (by decide) ?_
            exact W.zret (v := 1) (ty := .boolean) hx hb hr rfl (fun t ht hW => ⟨⟨1, (z8, y), rfl, ⟨Or.inl ⟨rfl, ⟨hg1_0, hg2_0, by omega, by omega, by omega⟩, by have h := J8.2; rw [show x7.toNatClampNeg = (a0.toInt * 6 + a1.toInt).toNat from by show x7.toInt.toNat = _; congr 1; omega] at h; exact h⟩, ⟨J8.1, qK_rf⟩⟩, by rw [ht]; exact hP, va_K.moved hW.alike hK⟩, hS.F ht⟩) hS.2.2 dX10_parent_56
          · have t5 : a2.toInt > (99 : Int) := gl_nle c5
            refine lv_iconst (v := 0) hx hb dX10_parent_38 (by decide) ?_
            exact W.zret (v := 0) (ty := .boolean) hx hb hr rfl (fun t ht hW => ⟨⟨0, (z, y), rfl, ⟨Or.inr ⟨rfl, (by omega), qK_rf⟩, ⟨Jz.1, qK_rf⟩⟩, by rw [ht]; exact hP, va_K.moved hW.alike hK⟩, hS.F ht⟩) hS.2.2 dX10_parent_39
    · subst hr2
      have hg2_0 : ¬ pHas (z 1 5) a1 := hf2_0
      refine lv_if_eq (tgt := 38) hx hb dX10_parent_19 (by decide) (fun _ => ?_) (fun q => absurd (by decide) q)
      refine lv_iconst (v := 0) hx hb dX10_parent_38 (by decide) ?_
      exact W.zret (v := 0) (ty := .boolean) hx hb hr rfl (fun t ht hW => ⟨⟨0, (z, y), rfl, ⟨Or.inr ⟨rfl, (fun h => hg2_0 h.2.1), qK_rf⟩, ⟨Jz.1, qK_rf⟩⟩, by rw [ht]; exact hP, va_K.moved hW.alike hK⟩, hS.F ht⟩) hS.2.2 dX10_parent_39
  · subst hr1
    have hg1_0 : ¬ pHas (z 1 5) a0 := hf1_0
    refine lv_if_eq (tgt := 38) hx hb dX10_parent_8 (by decide) (fun _ => ?_) (fun q => absurd (by decide) q)
    refine lv_iconst (v := 0) hx hb dX10_parent_38 (by decide) ?_
    exact W.zret (v := 0) (ty := .boolean) hx hb hr rfl (fun t ht hW => ⟨⟨0, (z, y), rfl, ⟨Or.inr ⟨rfl, (fun h => hg1_0 h.1), qK_rf⟩, ⟨Jz.1, qK_rf⟩⟩, by rw [ht]; exact hP, va_K.moved hW.alike hK⟩, hS.F ht⟩) hS.2.2 dX10_parent_39
set_option maxRecDepth 100000 in
set_option maxHeartbeats 8000000 in
theorem u_Family_tighten (l : Launch) (D : va_G) (ca : Nat → ClassId) (o : Nat) (b z : Nat → Nat → Int32) (y : Nat → Nat → Int64) (J0 : qJU b z)   : qM l yX1_tighten cX1_tighten 6 (some .boolean) 1 60 (qPre D vwCl (qT6 ca) o 132 (qG (GU ca o) z y) [.ref (o + 120), .ref (o + 1)]) (va_Qi (fun r u => ((0 : Int) ≤ r.toInt ∧ r.toInt ≤ 1) ∧ qJU b u.1) (qB D vwCl (qT6 ca) o 132 (fun u : qZ => qG (GU ca o) u.1 u.2)) (qw_A o 132)) (qw_A o 132) := by
  refine Met.ofW (cc := cX1_tighten) (maxL := 6) (ret := (some .boolean)) (by decide) rfl ?_
  intro p e s m args below meth c s₁ B hml hv
  obtain ⟨rfl, hP, hK⟩ := hv
  have hx := B.exec
  have hb := B.bytes
  have hr := B.returns
  have hts0 := atoms_spec (ws := Cond.code yX1_tighten cX1_tighten 6 (some .boolean) :: qtbl) B.pre
  have hts : ∀ w ∈ qtbl, w.before _ s = true := fun w h => hts0 w (List.mem_cons_of_mem _ h)
  have hown : s.vm.findClass RX1 = some m.cls := findClass_of_methodNamed B.named
  have hlocks := B.notSynchronized
  have hS : va_S (qw_A o 132) s.heap s.heap [] := va_S.rf
  have hl := lv_entry ([.ref (o + 120), .ref (o + 1)]) (n := 6) (Nat.le_of_ble_eq_true rfl)
  rw [lg_entry_eq]
  generalize (lg_sl ([.ref (o + 120), .ref (o + 1)]) ++ List.replicate (6 - (lg_sl ([.ref (o + 120), .ref (o + 1)])).length) Slot.unset).toArray = ls at hl ⊢
  have hl : lv_has ls 6 [(0, .ref (o + 120)), (1, .ref (o + 1))] := hl
  refine lv_iconst (v := 0) hx hb dX1_tighten_0 (by decide) ?_
  refine lv_istore_n (lv' := [(2, .int 0), (0, .ref (o + 120)), (1, .ref (o + 1))]) hx hb dX1_tighten_1 rfl hl (by decide) rfl (fun ls hl => ?_)
  refine lv_iconst (v := 0) hx hb dX1_tighten_2 (by decide) ?_
  refine lv_istore_n (lv' := [(3, .int 0), (2, .int 0), (0, .ref (o + 120)), (1, .ref (o + 1))]) hx hb dX1_tighten_3 rfl hl (by decide) rfl (fun ls hl => ?_)
  have loop1 : ∀ (n : Nat) (w1_3 : Int32) (w1_2 : Int32) (z1 : Nat → Nat → Int32) (y1 : Nat → Nat → Int64), ((6 - w1_3.toInt : Int) < (n : Int)) → ((0 : Int) ≤ w1_3.toInt ∧ w1_3.toInt ≤ 6) → ((0 : Int) ≤ w1_2.toInt ∧ w1_2.toInt ≤ 1) → (qJU b z1) → ∀ (H : Heap) (locs : List Loc), qw_P D vwCl o 132 (qG (GU ca o) z1 y1) H → va_S (qw_A o 132) s.heap H locs → ∀ (ls : Array Slot), lv_has ls 6 [(3, .int w1_3), (2, .int w1_2), (0, .ref (o + 120)), (1, .ref (o + 1))] → W p l e (headSpec (Cond.code yX1_tighten cX1_tighten 6 (some .boolean) :: qtbl) ({ frames := 1, cells := 0, slots := 0, locals := 60 })).room s m (([.ref (o + 120), .ref (o + 1)] : List Value).toArray) below meth c H locs 0 0 (MQ below (va_Qi (fun r u => ((0 : Int) ≤ r.toInt ∧ r.toInt ≤ 1) ∧ qJU b u.1) (qB D vwCl (qT6 ca) o 132 (fun u : qZ => qG (GU ca o) u.1 u.2)) (qw_A o 132)) (([.ref (o + 120), .ref (o + 1)] : List Value).toArray) s 0 0 (qw_A o 132)) (F0 m 4 ls []) := by
    intro n
    induction n with
    | zero => intro w1_3 w1_2 z1 y1 hb1 hv1_3 hv1_2 J1; exfalso; omega
    | succ n1 ih1 =>
      intro w1_3 w1_2 z1 y1 hb1 hv1_3 hv1_2 J1 H locs hP hS ls hl
      refine lv_iload_n hx hb dX1_tighten_4 rfl (lv_at hl 0 rfl) ?_
      refine lv_bipush (v := 6) hx hb dX1_tighten_5 (by decide) ?_
      refine lv_icmp_ge (tgt := 130) hx hb dX1_tighten_7 (by decide) (fun c2 => ?_) (fun c2 => ?_)
      · have t2 : w1_3.toInt ≥ (6 : Int) := gl_le c2
        refine lv_iload_n hx hb dX1_tighten_130 rfl (lv_at hl 1 rfl) ?_
        exact W.zret (v := w1_2) (ty := .boolean) hx hb hr (nb_ok ⟨by omega, by omega⟩) (fun t ht hW => ⟨⟨w1_2, (z1, y1), rfl, ⟨⟨by omega, by omega⟩, J1⟩, by rw [ht]; exact hP, va_K.moved hW.alike hK⟩, hS.F ht⟩) hS.2.2 dX1_tighten_131
      · have t2 : w1_3.toInt < (6 : Int) := gl_nle c2
        refine lv_iconst (v := 0) hx hb dX1_tighten_10 (by decide) ?_
        refine lv_istore (lv' := [(4, .int 0), (3, .int w1_3), (2, .int w1_2), (0, .ref (o + 120)), (1, .ref (o + 1))]) hx hb dX1_tighten_11 hl (by decide) rfl (fun ls hl => ?_)
        have loop3 : ∀ (n : Nat) (w3_4 : Int32) (w3_2 : Int32) (z3 : Nat → Nat → Int32) (y3 : Nat → Nat → Int64), ((6 - w3_4.toInt : Int) < (n : Int)) → ((0 : Int) ≤ w3_4.toInt ∧ w3_4.toInt ≤ 6) → ((0 : Int) ≤ w3_2.toInt ∧ w3_2.toInt ≤ 1) → (qJU b z3) → ∀ (H : Heap) (locs : List Loc), qw_P D vwCl o 132 (qG (GU ca o) z3 y3) H → va_S (qw_A o 132) s.heap H locs → ∀ (ls : Array Slot), lv_has ls 6 [(4, .int w3_4), (3, .int w1_3), (2, .int w3_2), (0, .ref (o + 120)), (1, .ref (o + 1))] → W p l e (headSpec (Cond.code yX1_tighten cX1_tighten 6 (some .boolean) :: qtbl) ({ frames := 1, cells := 0, slots := 0, locals := 60 })).room s m (([.ref (o + 120), .ref (o + 1)] : List Value).toArray) below meth c H locs 0 0 (MQ below (va_Qi (fun r u => ((0 : Int) ≤ r.toInt ∧ r.toInt ≤ 1) ∧ qJU b u.1) (qB D vwCl (qT6 ca) o 132 (fun u : qZ => qG (GU ca o) u.1 u.2)) (qw_A o 132)) (([.ref (o + 120), .ref (o + 1)] : List Value).toArray) s 0 0 (qw_A o 132)) (F0 m 13 ls []) := by
          intro n
          induction n with
          | zero => intro w3_4 w3_2 z3 y3 hb3 hv3_4 hv3_2 J3; exfalso; omega
          | succ n3 ih3 =>
            intro w3_4 w3_2 z3 y3 hb3 hv3_4 hv3_2 J3 H locs hP hS ls hl
            refine lv_iload hx hb dX1_tighten_13 (lv_at hl 0 rfl) ?_
            refine lv_bipush (v := 6) hx hb dX1_tighten_15 (by decide) ?_
            refine lv_icmp_ge (tgt := 124) hx hb dX1_tighten_17 (by decide) (fun c4 => ?_) (fun c4 => ?_)
            · have t4 : w3_4.toInt ≥ (6 : Int) := gl_le c4
              obtain ⟨x5, e5⟩ : ∃ t : Int32, t = w1_3 + 1 := ⟨_, rfl⟩
              refine lv_iinc (v := x5) (lv' := [(3, .int x5), (4, .int w3_4), (2, .int w3_2), (0, .ref (o + 120)), (1, .ref (o + 1))]) hx hb dX1_tighten_124 hl (k := 1) rfl (by rw [e5]; rfl) (by decide) rfl (fun ls hl => ?_)
              have t5 : x5.toInt = w1_3.toInt + (1 : Int) := ga_add e5 rfl rfl (by omega) (by omega)
              refine lv_goto (tgt := 4) hx hb dX1_tighten_127 (by decide) ?_
              exact ih1 x5 w3_2 z3 y3 (show (6 - x5.toInt : Int) < (n1 : Int) from by omega) ⟨by omega, by omega⟩ ⟨by omega, by omega⟩ J3 _ _ hP hS _ (lv_sub hl [0, 2, 3, 4] rfl)
            · have t4 : w3_4.toInt < (6 : Int) := gl_nle c4
              refine lv_aload_n hx hb dX1_tighten_20 rfl (lv_at hl 4 rfl) ?_
              refine qf_get hx hb hts inX9 hown hK hP (q0 := 1) (by decide) (hgU_1 ca o) rfl 3 (by decide) wq_92 (v := .ref (o + 5)) rfl dX1_tighten_21 ?_
              refine lv_iload_n hx hb dX1_tighten_24 rfl (lv_at hl 1 rfl) ?_
              refine lv_bipush (v := 6) hx hb dX1_tighten_25 (by decide) ?_
              refine lv_imul hx hb dX1_tighten_27 ?_
              refine lv_topi (fun x6 e6 => ?_)
              have t6 : x6.toInt = w1_3.toInt * (6 : Int) := ga_mul e6 rfl rfl (by omega) (by omega)
              refine lv_iload hx hb dX1_tighten_28 (lv_at hl 0 rfl) ?_
              refine lv_iadd hx hb dX1_tighten_30 ?_
              refine lv_topi (fun x7 e7 => ?_)
              have t7 : x7.toInt = x6.toInt + w3_4.toInt := ga_add e7 rfl rfl (by omega) (by omega)
              refine qa_iald hx hb hK hP (q0 := 5) (by decide) 0 (N := 36) (hgU_5 ca o) rfl (gi_in (by omega) (by omega)) dX1_tighten_31 ?_
              refine lv_topi (fun x8 e8 => ?_)
              refine lv_istore (lv' := [(5, .int x8), (4, .int w3_4), (3, .int w1_3), (2, .int w3_2), (0, .ref (o + 120)), (1, .ref (o + 1))]) hx hb dX1_tighten_32 hl (by decide) rfl (fun ls hl => ?_)
              refine lv_iload hx hb dX1_tighten_34 (lv_at hl 0 rfl) ?_
              refine lv_if_lt (tgt := 76) hx hb dX1_tighten_36 (by decide) (fun c9 => ?_) (fun c9 => ?_)
              · have t9 : x8.toInt < (0 : Int) := gl_lt c9
                refine lv_iload hx hb dX1_tighten_76 (lv_at hl 0 rfl) ?_
                refine lv_if_lt (tgt := 118) hx hb dX1_tighten_78 (by decide) (fun c10 => ?_) (fun c10 => ?_)
                · have t10 : x8.toInt < (0 : Int) := gl_lt c10
                  obtain ⟨x11, e11⟩ : ∃ t : Int32, t = w3_4 + 1 := ⟨_, rfl⟩
                  refine lv_iinc (v := x11) (lv' := [(4, .int x11), (5, .int x8), (3, .int w1_3), (2, .int w3_2), (0, .ref (o + 120)), (1, .ref (o + 1))]) hx hb dX1_tighten_118 hl (k := 1) rfl (by rw [e11]; rfl) (by decide) rfl (fun ls hl => ?_)
                  have t11 : x11.toInt = w3_4.toInt + (1 : Int) := ga_add e11 rfl rfl (by omega) (by omega)
                  refine lv_goto (tgt := 13) hx hb dX1_tighten_121 (by decide) ?_
                  exact ih3 x11 w3_2 z3 y3 (show (6 - x11.toInt : Int) < (n3 : Int) from by omega) ⟨by omega, by omega⟩ ⟨by omega, by omega⟩ J3 _ _ hP hS _ (lv_sub hl [0, 2, 3, 4, 5] rfl)
                · have t10 : x8.toInt ≥ (0 : Int) := gl_nlt c10
                  exfalso; omega
              · have t9 : x8.toInt ≥ (0 : Int) := gl_nlt c9
                refine lv_aload_n hx hb dX1_tighten_39 rfl (lv_at hl 4 rfl) ?_
                refine qf_get hx hb hts inX1 hown hK hP (q0 := 120) (by decide) (hgU_120 ca o) rfl 0 (by decide) wq_316 (v := .ref (o + 121)) rfl dX1_tighten_40 ?_
                refine lv_iload_n hx hb dX1_tighten_43 rfl (lv_at hl 2 rfl) ?_
                refine qa_iald hx hb hK hP (q0 := 121) (by decide) 0 (N := 6) (hgU_121 ca o) rfl (gi_in (by omega) (by omega)) dX1_tighten_44 ?_
                refine lv_topi (fun x12 e12 => ?_)
                refine lv_aload_n hx hb dX1_tighten_45 rfl (lv_at hl 4 rfl) ?_
                refine qf_get hx hb hts inX1 hown hK hP (q0 := 120) (by decide) (hgU_120 ca o) rfl 0 (by decide) wq_316 (v := .ref (o + 121)) rfl dX1_tighten_46 ?_
                refine lv_iload hx hb dX1_tighten_49 (lv_at hl 1 rfl) ?_
                refine qa_iald hx hb hK hP (q0 := 121) (by decide) 0 (N := 6) (hgU_121 ca o) rfl (gi_in (by omega) (by omega)) dX1_tighten_51 ?_
                refine lv_topi (fun x13 e13 => ?_)
                refine lv_iload hx hb dX1_tighten_52 (lv_at hl 0 rfl) ?_
                refine lv_iadd hx hb dX1_tighten_54 ?_
                refine lv_topi (fun x14 e14 => ?_)
                refine lv_icmp_ge (tgt := 76) hx hb dX1_tighten_55 (by decide) (fun c15 => ?_) (fun c15 => ?_)
                · have t15 : x12.toInt ≥ x14.toInt := gl_le c15
                  refine lv_iload hx hb dX1_tighten_76 (lv_at hl 0 rfl) ?_
                  refine lv_if_lt (tgt := 118) hx hb dX1_tighten_78 (by decide) (fun c16 => ?_) (fun c16 => ?_)
                  · have t16 : x8.toInt < (0 : Int) := gl_lt c16
                    exfalso; omega
                  · have t16 : x8.toInt ≥ (0 : Int) := gl_nlt c16
                    refine lv_aload_n hx hb dX1_tighten_81 rfl (lv_at hl 4 rfl) ?_
                    refine qf_get hx hb hts inX1 hown hK hP (q0 := 120) (by decide) (hgU_120 ca o) rfl 1 (by decide) wq_318 (v := .ref (o + 122)) rfl dX1_tighten_82 ?_
                    refine lv_iload hx hb dX1_tighten_85 (lv_at hl 1 rfl) ?_
                    refine qa_iald hx hb hK hP (q0 := 122) (by decide) 0 (N := 6) (hgU_122 ca o) rfl (gi_in (by omega) (by omega)) dX1_tighten_87 ?_
                    refine lv_topi (fun x17 e17 => ?_)
                    refine lv_aload_n hx hb dX1_tighten_88 rfl (lv_at hl 4 rfl) ?_
                    refine qf_get hx hb hts inX1 hown hK hP (q0 := 120) (by decide) (hgU_120 ca o) rfl 1 (by decide) wq_318 (v := .ref (o + 122)) rfl dX1_tighten_89 ?_
                    refine lv_iload_n hx hb dX1_tighten_92 rfl (lv_at hl 2 rfl) ?_
                    refine qa_iald hx hb hK hP (q0 := 122) (by decide) 0 (N := 6) (hgU_122 ca o) rfl (gi_in (by omega) (by omega)) dX1_tighten_93 ?_
                    refine lv_topi (fun x18 e18 => ?_)
                    refine lv_iload hx hb dX1_tighten_94 (lv_at hl 0 rfl) ?_
                    refine lv_isub hx hb dX1_tighten_96 ?_
                    refine lv_topi (fun x19 e19 => ?_)
                    refine lv_icmp_le (tgt := 118) hx hb dX1_tighten_97 (by decide) (fun c20 => ?_) (fun c20 => ?_)
                    · have t20 : x17.toInt ≤ x19.toInt := gl_le c20
                      obtain ⟨x21, e21⟩ : ∃ t : Int32, t = w3_4 + 1 := ⟨_, rfl⟩
                      refine lv_iinc (v := x21) (lv' := [(4, .int x21), (5, .int x8), (3, .int w1_3), (2, .int w3_2), (0, .ref (o + 120)), (1, .ref (o + 1))]) hx hb dX1_tighten_118 hl (k := 1) rfl (by rw [e21]; rfl) (by decide) rfl (fun ls hl => ?_)
                      have t21 : x21.toInt = w3_4.toInt + (1 : Int) := ga_add e21 rfl rfl (by omega) (by omega)
                      refine lv_goto (tgt := 13) hx hb dX1_tighten_121 (by decide) ?_
                      exact ih3 x21 w3_2 z3 y3 (show (6 - x21.toInt : Int) < (n3 : Int) from by omega) ⟨by omega, by omega⟩ ⟨by omega, by omega⟩ J3 _ _ hP hS _ (lv_sub hl [0, 2, 3, 4, 5] rfl)
                    · have t20 : x17.toInt > x19.toInt := gl_nle c20
                      refine lv_aload_n hx hb dX1_tighten_100 rfl (lv_at hl 4 rfl) ?_
                      refine qf_get hx hb hts inX1 hown hK hP (q0 := 120) (by decide) (hgU_120 ca o) rfl 1 (by decide) wq_318 (v := .ref (o + 122)) rfl dX1_tighten_101 ?_
                      refine lv_iload hx hb dX1_tighten_104 (lv_at hl 1 rfl) ?_
                      refine lv_aload_n hx hb dX1_tighten_106 rfl (lv_at hl 4 rfl) ?_
                      refine qf_get hx hb hts inX1 hown hK hP (q0 := 120) (by decide) (hgU_120 ca o) rfl 1 (by decide) wq_318 (v := .ref (o + 122)) rfl dX1_tighten_107 ?_
                      refine lv_iload_n hx hb dX1_tighten_110 rfl (lv_at hl 2 rfl) ?_
                      refine qa_iald hx hb hK hP (q0 := 122) (by decide) 0 (N := 6) (hgU_122 ca o) rfl (gi_in (by omega) (by omega)) dX1_tighten_111 ?_
                      refine lv_topi (fun x22 e22 => ?_)
                      have ag22 : x22.toInt = x18.toInt := congrArg Int32.toInt (e22.trans e18.symm)
                      refine lv_iload hx hb dX1_tighten_112 (lv_at hl 0 rfl) ?_
                      refine lv_isub hx hb dX1_tighten_114 ?_
                      refine lv_topi (fun x23 e23 => ?_)
                      refine qa_iast2 hx hb hK hP hS qw_Ai (q0 := 122) (by decide) 0 (N := 6) (hgU_122 ca o) rfl (i := w3_4) (x := x23) (gi_in (by omega) (by omega)) dX1_tighten_115 (fun z24 H locs hz24 hP hS => ?_)
                      have J24 := jU_122 J3 hz24
                      refine lv_iconst (v := 1) hx hb dX1_tighten_116 (by decide) ?_
                      refine lv_istore_n (lv' := [(2, .int 1), (5, .int x8), (4, .int w3_4), (3, .int w1_3), (0, .ref (o + 120)), (1, .ref (o + 1))]) hx hb dX1_tighten_117 rfl hl (by decide) rfl (fun ls hl => ?_)
                      obtain ⟨x25, e25⟩ : ∃ t : Int32, t = w3_4 + 1 := ⟨_, rfl⟩
                      refine lv_iinc (v := x25) (lv' := [(4, .int x25), (2, .int 1), (5, .int x8), (3, .int w1_3), (0, .ref (o + 120)), (1, .ref (o + 1))]) hx hb dX1_tighten_118 hl (k := 2) rfl (by rw [e25]; rfl) (by decide) rfl (fun ls hl => ?_)
                      have t25 : x25.toInt = w3_4.toInt + (1 : Int) := ga_add e25 rfl rfl (by omega) (by omega)
                      refine lv_goto (tgt := 13) hx hb dX1_tighten_121 (by decide) ?_
                      exact ih3 x25 1 z24 y3 (show (6 - x25.toInt : Int) < (n3 : Int) from by omega) ⟨by omega, by omega⟩ ⟨by decide, by decide⟩ J24 _ _ hP hS _ (lv_sub hl [0, 3, 1, 4, 5] rfl)
                · have t15 : x12.toInt < x14.toInt := gl_nle c15
                  refine lv_aload_n hx hb dX1_tighten_58 rfl (lv_at hl 4 rfl) ?_
                  refine qf_get hx hb hts inX1 hown hK hP (q0 := 120) (by decide) (hgU_120 ca o) rfl 0 (by decide) wq_316 (v := .ref (o + 121)) rfl dX1_tighten_59 ?_
                  refine lv_iload_n hx hb dX1_tighten_62 rfl (lv_at hl 2 rfl) ?_
                  refine lv_aload_n hx hb dX1_tighten_63 rfl (lv_at hl 4 rfl) ?_
                  refine qf_get hx hb hts inX1 hown hK hP (q0 := 120) (by decide) (hgU_120 ca o) rfl 0 (by decide) wq_316 (v := .ref (o + 121)) rfl dX1_tighten_64 ?_
                  refine lv_iload hx hb dX1_tighten_67 (lv_at hl 1 rfl) ?_
                  refine qa_iald hx hb hK hP (q0 := 121) (by decide) 0 (N := 6) (hgU_121 ca o) rfl (gi_in (by omega) (by omega)) dX1_tighten_69 ?_
                  refine lv_topi (fun x26 e26 => ?_)
                  have ag26 : x26.toInt = x13.toInt := congrArg Int32.toInt (e26.trans e13.symm)
                  refine lv_iload hx hb dX1_tighten_70 (lv_at hl 0 rfl) ?_
                  refine lv_iadd hx hb dX1_tighten_72 ?_
                  refine lv_topi (fun x27 e27 => ?_)
                  refine qa_iast2 hx hb hK hP hS qw_Ai (q0 := 121) (by decide) 0 (N := 6) (hgU_121 ca o) rfl (i := w1_3) (x := x27) (gi_in (by omega) (by omega)) dX1_tighten_73 (fun z28 H locs hz28 hP hS => ?_)
                  have J28 := jU_121 J3 hz28
                  refine lv_iconst (v := 1) hx hb dX1_tighten_74 (by decide) ?_
                  refine lv_istore_n (lv' := [(2, .int 1), (5, .int x8), (4, .int w3_4), (3, .int w1_3), (0, .ref (o + 120)), (1, .ref (o + 1))]) hx hb dX1_tighten_75 rfl hl (by decide) rfl (fun ls hl => ?_)
                  refine lv_iload hx hb dX1_tighten_76 (lv_at hl 1 rfl) ?_
                  refine lv_if_lt (tgt := 118) hx hb dX1_tighten_78 (by decide) (fun c29 => ?_) (fun c29 => ?_)
                  · have t29 : x8.toInt < (0 : Int) := gl_lt c29
                    exfalso; omega
                  · have t29 : x8.toInt ≥ (0 : Int) := gl_nlt c29
                    refine lv_aload_n hx hb dX1_tighten_81 rfl (lv_at hl 4 rfl) ?_
                    refine qf_get hx hb hts inX1 hown hK hP (q0 := 120) (by decide) (hgU_120 ca o) rfl 1 (by decide) wq_318 (v := .ref (o + 122)) rfl dX1_tighten_82 ?_
                    refine lv_iload hx hb dX1_tighten_85 (lv_at hl 2 rfl) ?_
                    refine qa_iald hx hb hK hP (q0 := 122) (by decide) 0 (N := 6) (hgU_122 ca o) rfl (gi_in (by omega) (by omega)) dX1_tighten_87 ?_
                    refine lv_topi (fun x30 e30 => ?_)
                    refine lv_aload_n hx hb dX1_tighten_88 rfl (lv_at hl 4 rfl) ?_
                    refine qf_get hx hb hts inX1 hown hK hP (q0 := 120) (by decide) (hgU_120 ca o) rfl 1 (by decide) wq_318 (v := .ref (o + 122)) rfl dX1_tighten_89 ?_
                    refine lv_iload_n hx hb dX1_tighten_92 rfl (lv_at hl 3 rfl) ?_
                    refine qa_iald hx hb hK hP (q0 := 122) (by decide) 0 (N := 6) (hgU_122 ca o) rfl (gi_in (by omega) (by omega)) dX1_tighten_93 ?_
                    refine lv_topi (fun x31 e31 => ?_)
                    refine lv_iload hx hb dX1_tighten_94 (lv_at hl 1 rfl) ?_
                    refine lv_isub hx hb dX1_tighten_96 ?_
                    refine lv_topi (fun x32 e32 => ?_)
                    refine lv_icmp_le (tgt := 118) hx hb dX1_tighten_97 (by decide) (fun c33 => ?_) (fun c33 => ?_)
                    · have t33 : x30.toInt ≤ x32.toInt := gl_le c33
                      obtain ⟨x34, e34⟩ : ∃ t : Int32, t = w3_4 + 1 := ⟨_, rfl⟩
                      refine lv_iinc (v := x34) (lv' := [(4, .int x34), (2, .int 1), (5, .int x8), (3, .int w1_3), (0, .ref (o + 120)), (1, .ref (o + 1))]) hx hb dX1_tighten_118 hl (k := 2) rfl (by rw [e34]; rfl) (by decide) rfl (fun ls hl => ?_)
                      have t34 : x34.toInt = w3_4.toInt + (1 : Int) := ga_add e34 rfl rfl (by omega) (by omega)
                      refine lv_goto (tgt := 13) hx hb dX1_tighten_121 (by decide) ?_
                      exact ih3 x34 1 z28 y3 (show (6 - x34.toInt : Int) < (n3 : Int) from by omega) ⟨by omega, by omega⟩ ⟨by decide, by decide⟩ J28 _ _ hP hS _ (lv_sub hl [0, 3, 1, 4, 5] rfl)
                    · have t33 : x30.toInt > x32.toInt := gl_nle c33
                      refine lv_aload_n hx hb dX1_tighten_100 rfl (lv_at hl 4 rfl) ?_
                      refine qf_get hx hb hts inX1 hown hK hP (q0 := 120) (by decide) (hgU_120 ca o) rfl 1 (by decide) wq_318 (v := .ref (o + 122)) rfl dX1_tighten_101 ?_
                      refine lv_iload hx hb dX1_tighten_104 (lv_at hl 2 rfl) ?_
                      refine lv_aload_n hx hb dX1_tighten_106 rfl (lv_at hl 4 rfl) ?_
                      refine qf_get hx hb hts inX1 hown hK hP (q0 := 120) (by decide) (hgU_120 ca o) rfl 1 (by decide) wq_318 (v := .ref (o + 122)) rfl dX1_tighten_107 ?_
                      refine lv_iload_n hx hb dX1_tighten_110 rfl (lv_at hl 3 rfl) ?_
                      refine qa_iald hx hb hK hP (q0 := 122) (by decide) 0 (N := 6) (hgU_122 ca o) rfl (gi_in (by omega) (by omega)) dX1_tighten_111 ?_
                      refine lv_topi (fun x35 e35 => ?_)
                      have ag35 : x35.toInt = x31.toInt := congrArg Int32.toInt (e35.trans e31.symm)
                      refine lv_iload hx hb dX1_tighten_112 (lv_at hl 1 rfl) ?_
                      refine lv_isub hx hb dX1_tighten_114 ?_
                      refine lv_topi (fun x36 e36 => ?_)
                      refine qa_iast2 hx hb hK hP hS qw_Ai (q0 := 122) (by decide) 0 (N := 6) (hgU_122 ca o) rfl (i := w3_4) (x := x36) (gi_in (by omega) (by omega)) dX1_tighten_115 (fun z37 H locs hz37 hP hS => ?_)
                      have J37 := jU_122 J28 hz37
                      refine lv_iconst (v := 1) hx hb dX1_tighten_116 (by decide) ?_
                      refine lv_istore_n (lv' := [(2, .int 1), (5, .int x8), (4, .int w3_4), (3, .int w1_3), (0, .ref (o + 120)), (1, .ref (o + 1))]) hx hb dX1_tighten_117 rfl hl (by decide) rfl (fun ls hl => ?_)
                      obtain ⟨x38, e38⟩ : ∃ t : Int32, t = w3_4 + 1 := ⟨_, rfl⟩
                      refine lv_iinc (v := x38) (lv' := [(4, .int x38), (2, .int 1), (5, .int x8), (3, .int w1_3), (0, .ref (o + 120)), (1, .ref (o + 1))]) hx hb dX1_tighten_118 hl (k := 2) rfl (by rw [e38]; rfl) (by decide) rfl (fun ls hl => ?_)
                      have t38 : x38.toInt = w3_4.toInt + (1 : Int) := ga_add e38 rfl rfl (by omega) (by omega)
                      refine lv_goto (tgt := 13) hx hb dX1_tighten_121 (by decide) ?_
                      exact ih3 x38 1 z37 y3 (show (6 - x38.toInt : Int) < (n3 : Int) from by omega) ⟨by omega, by omega⟩ ⟨by decide, by decide⟩ J37 _ _ hP hS _ (lv_sub hl [0, 3, 1, 4, 5] rfl)
        exact loop3 7 0 w1_2 z1 y1 (show (6 - (0 : Int) : Int) < ((7 : Nat) : Int) from by omega) ⟨by decide, by decide⟩ ⟨by omega, by omega⟩ J1 _ _ hP hS _ (lv_sub hl [0, 1, 2, 3, 4] rfl)
  exact loop1 7 0 0 z y (show (6 - (0 : Int) : Int) < ((7 : Nat) : Int) from by omega) ⟨by decide, by decide⟩ ⟨by decide, by decide⟩ J0 _ _ hP hS _ (lv_sub hl [0, 1, 2, 3] rfl)
set_option maxRecDepth 100000 in
set_option maxHeartbeats 8000000 in
theorem u_Family_canBe (l : Launch) (D : va_G) (ca : Nat → ClassId) (o : Nat) (b z : Nat → Nat → Int32) (y : Nat → Nat → Int64) (J0 : qJU b z)   : qM l yX1_canBe cX1_canBe 3 (some .boolean) 2 85 (qPre D vwCl (qT6 ca) o 132 (qG (GU ca o) z y) [.ref (o + 120), .ref (o + 1)]) (va_Qi (fun r u => ((0 : Int) ≤ r.toInt ∧ r.toInt ≤ 1) ∧ qJU b u.1) (qB D vwCl (qT6 ca) o 132 (fun u : qZ => qG (GU ca o) u.1 u.2)) (qw_A o 132)) (qw_A o 132) := by
  refine Met.ofW (cc := cX1_canBe) (maxL := 3) (ret := (some .boolean)) (by decide) rfl ?_
  intro p e s m args below meth c s₁ B hml hv
  obtain ⟨rfl, hP, hK⟩ := hv
  have hx := B.exec
  have hb := B.bytes
  have hr := B.returns
  have hts0 := atoms_spec (ws := Cond.code yX1_canBe cX1_canBe 3 (some .boolean) :: qtbl) B.pre
  have hts : ∀ w ∈ qtbl, w.before _ s = true := fun w h => hts0 w (List.mem_cons_of_mem _ h)
  have hown : s.vm.findClass RX1 = some m.cls := findClass_of_methodNamed B.named
  have hlocks := B.notSynchronized
  have hS : va_S (qw_A o 132) s.heap s.heap [] := va_S.rf
  have hl := lv_entry ([.ref (o + 120), .ref (o + 1)]) (n := 3) (Nat.le_of_ble_eq_true rfl)
  rw [lg_entry_eq]
  generalize (lg_sl ([.ref (o + 120), .ref (o + 1)]) ++ List.replicate (3 - (lg_sl ([.ref (o + 120), .ref (o + 1)])).length) Slot.unset).toArray = ls at hl ⊢
  have hl : lv_has ls 3 [(0, .ref (o + 120)), (1, .ref (o + 1))] := hl
  refine lv_aload_n hx hb dX1_canBe_0 rfl (lv_at hl 1 rfl) ?_
  refine qf_get hx hb hts inX9 hown hK hP (q0 := 1) (by decide) (hgU_1 ca o) rfl 0 (by decide) wq_82 (v := .ref (o + 2)) rfl dX1_canBe_1 ?_
  refine lv_iconst (v := 0) hx hb dX1_canBe_4 (by decide) ?_
  refine lv_aload_n hx hb dX1_canBe_5 rfl (lv_at hl 0 rfl) ?_
  refine qf_get hx hb hts inX1 hown hK hP (q0 := 120) (by decide) (hgU_120 ca o) rfl 0 (by decide) wq_316 (v := .ref (o + 121)) rfl dX1_canBe_6 ?_
  refine lv_iconst (v := 0) hx hb dX1_canBe_9 (by decide) ?_
  refine lv_bipush (v := 6) hx hb dX1_canBe_10 (by decide) ?_
  refine qa_copy2 hx hb (hml.trans hl.1.symm) hown (hts _ wq_929) (hts _ wq_485) (hts _ wq_484) (hts _ wq_15) hK hP hS qw_Ai (q0 := 2) (q1 := 121) (by decide) (by decide) 0 (hgU_2 ca o) (hgU_121 ca o) rfl (sp := 0) (dp := 0) (k := 6) (by decide) (by decide) (by decide) (by decide) (by decide) (Nat.le_of_ble_eq_true rfl) (Nat.le_of_ble_eq_true rfl) dX1_canBe_12 (fun z1 H locs hz1 hP hS => ?_)
  have J1 := jfU_121 J0 hz1
  refine lv_aload_n hx hb dX1_canBe_15 rfl (lv_at hl 1 rfl) ?_
  refine qf_get hx hb hts inX9 hown hK hP (q0 := 1) (by decide) (hgU_1 ca o) rfl 1 (by decide) wq_86 (v := .ref (o + 3)) rfl dX1_canBe_16 ?_
  refine lv_iconst (v := 0) hx hb dX1_canBe_19 (by decide) ?_
  refine lv_aload_n hx hb dX1_canBe_20 rfl (lv_at hl 0 rfl) ?_
  refine qf_get hx hb hts inX1 hown hK hP (q0 := 120) (by decide) (hgU_120 ca o) rfl 1 (by decide) wq_318 (v := .ref (o + 122)) rfl dX1_canBe_21 ?_
  refine lv_iconst (v := 0) hx hb dX1_canBe_24 (by decide) ?_
  refine lv_bipush (v := 6) hx hb dX1_canBe_25 (by decide) ?_
  refine qa_copy2 hx hb (hml.trans hl.1.symm) hown (hts _ wq_929) (hts _ wq_485) (hts _ wq_484) (hts _ wq_15) hK hP hS qw_Ai (q0 := 3) (q1 := 122) (by decide) (by decide) 0 (hgU_3 ca o) (hgU_122 ca o) rfl (sp := 0) (dp := 0) (k := 6) (by decide) (by decide) (by decide) (by decide) (by decide) (Nat.le_of_ble_eq_true rfl) (Nat.le_of_ble_eq_true rfl) dX1_canBe_27 (fun z2 H locs hz2 hP hS => ?_)
  have J2 := jfU_122 J1 hz2
  refine lv_iconst (v := 0) hx hb dX1_canBe_30 (by decide) ?_
  refine lv_istore_n (lv' := [(2, .int 0), (0, .ref (o + 120)), (1, .ref (o + 1))]) hx hb dX1_canBe_31 rfl hl (by decide) rfl (fun ls hl => ?_)
  have loop3 : ∀ (n : Nat) (w3_2 : Int32) (z3 : Nat → Nat → Int32) (y3 : Nat → Nat → Int64), ((6 - w3_2.toInt : Int) < (n : Int)) → ((0 : Int) ≤ w3_2.toInt ∧ w3_2.toInt ≤ 6) → (qJU b z3) → ∀ (H : Heap) (locs : List Loc), qw_P D vwCl o 132 (qG (GU ca o) z3 y3) H → va_S (qw_A o 132) s.heap H locs → ∀ (ls : Array Slot), lv_has ls 3 [(2, .int w3_2), (0, .ref (o + 120)), (1, .ref (o + 1))] → W p l e (headSpec (Cond.code yX1_canBe cX1_canBe 3 (some .boolean) :: qtbl) ({ frames := 2, cells := 0, slots := 0, locals := 85 })).room s m (([.ref (o + 120), .ref (o + 1)] : List Value).toArray) below meth c H locs 0 0 (MQ below (va_Qi (fun r u => ((0 : Int) ≤ r.toInt ∧ r.toInt ≤ 1) ∧ qJU b u.1) (qB D vwCl (qT6 ca) o 132 (fun u : qZ => qG (GU ca o) u.1 u.2)) (qw_A o 132)) (([.ref (o + 120), .ref (o + 1)] : List Value).toArray) s 0 0 (qw_A o 132)) (F0 m 32 ls []) := by
    intro n
    induction n with
    | zero => intro w3_2 z3 y3 hb3 hv3_2 J3; exfalso; omega
    | succ n3 ih3 =>
      intro w3_2 z3 y3 hb3 hv3_2 J3 H locs hP hS ls hl
      refine lv_iload_n hx hb dX1_canBe_32 rfl (lv_at hl 0 rfl) ?_
      refine lv_bipush (v := 6) hx hb dX1_canBe_33 (by decide) ?_
      refine lv_icmp_ge (tgt := 50) hx hb dX1_canBe_35 (by decide) (fun c4 => ?_) (fun c4 => ?_)
      · have t4 : w3_2.toInt ≥ (6 : Int) := gl_le c4
        refine lv_aload_n hx hb dX1_canBe_50 rfl (lv_at hl 1 rfl) ?_
        refine lv_aload_n hx hb dX1_canBe_51 rfl (lv_at hl 2 rfl) ?_
        refine qc_Vi2 (As := [.ref (o + 1)]) (rest := []) (k0 := 1) (u_Family_tighten l D ca o b z3 y3 J3) kc_yX1_tighten ⟨hx, hb, hml, hown, hts⟩ wq_930 rfl rfl ⟨Nat.le_of_ble_eq_true rfl, Nat.le_of_ble_eq_true rfl⟩ wq_all hP hK hS qw_Ai (q0 := 120) (by decide) (hgU_120 ca o _ _) rfl rfl hl.1 rfl (Nat.le_of_ble_eq_true rfl) dX1_canBe_52 ⟨Nat.zero_le _, Nat.zero_le _⟩ (fun r5 z5 y5 H locs h5 hP hS _ _ => ?_)
        have J5 : qJU b z5 := h5.2
        have b5 : (0 : Int) ≤ r5.toInt ∧ r5.toInt ≤ 1 := h5.1
        refine lv_if_eq (tgt := 60) hx hb dX1_canBe_55 (by decide) (fun c6 => ?_) (fun c6 => ?_)
        · have t6 : r5.toInt = (0 : Int) := gl_eq c6
          refine lv_iconst (v := 0) hx hb dX1_canBe_60 (by decide) ?_
          refine lv_istore_n (lv' := [(2, .int 0), (0, .ref (o + 120)), (1, .ref (o + 1))]) hx hb dX1_canBe_61 rfl hl (by decide) rfl (fun ls hl => ?_)
          have loop7 : ∀ (n : Nat) (w7_2 : Int32), ((6 - w7_2.toInt : Int) < (n : Int)) → ((0 : Int) ≤ w7_2.toInt ∧ w7_2.toInt ≤ 6) → ∀ (H : Heap) (locs : List Loc), qw_P D vwCl o 132 (qG (GU ca o) z5 y5) H → va_S (qw_A o 132) s.heap H locs → ∀ (ls : Array Slot), lv_has ls 3 [(2, .int w7_2), (0, .ref (o + 120)), (1, .ref (o + 1))] → W p l e (headSpec (Cond.code yX1_canBe cX1_canBe 3 (some .boolean) :: qtbl) ({ frames := 2, cells := 0, slots := 0, locals := 85 })).room s m (([.ref (o + 120), .ref (o + 1)] : List Value).toArray) below meth c H locs 0 0 (MQ below (va_Qi (fun r u => ((0 : Int) ≤ r.toInt ∧ r.toInt ≤ 1) ∧ qJU b u.1) (qB D vwCl (qT6 ca) o 132 (fun u : qZ => qG (GU ca o) u.1 u.2)) (qw_A o 132)) (([.ref (o + 120), .ref (o + 1)] : List Value).toArray) s 0 0 (qw_A o 132)) (F0 m 62 ls []) := by
            intro n
            induction n with
            | zero => intro w7_2 hb7 hv7_2; exfalso; omega
            | succ n7 ih7 =>
              intro w7_2 hb7 hv7_2 H locs hP hS ls hl
              refine lv_iload_n hx hb dX1_canBe_62 rfl (lv_at hl 0 rfl) ?_
              refine lv_bipush (v := 6) hx hb dX1_canBe_63 (by decide) ?_
              refine lv_icmp_ge (tgt := 99) hx hb dX1_canBe_65 (by decide) (fun c8 => ?_) (fun c8 => ?_)
              · have t8 : w7_2.toInt ≥ (6 : Int) := gl_le c8
                refine lv_iconst (v := 1) hx hb dX1_canBe_99 (by decide) ?_
                exact W.zret (v := 1) (ty := .boolean) hx hb hr rfl (fun t ht hW => ⟨⟨1, (z5, y5), rfl, ⟨⟨by decide, by decide⟩, J5⟩, by rw [ht]; exact hP, va_K.moved hW.alike hK⟩, hS.F ht⟩) hS.2.2 dX1_canBe_100
              · have t8 : w7_2.toInt < (6 : Int) := gl_nle c8
                refine lv_aload_n hx hb dX1_canBe_68 rfl (lv_at hl 2 rfl) ?_
                refine lv_iload_n hx hb dX1_canBe_69 rfl (lv_at hl 0 rfl) ?_
                refine qc_Vip (As := [.int w7_2]) (rest := []) (k0 := 1) (u_Told_hasPerson l D ca o b z5 y5 J5 w7_2) kc_yX9_hasPerson ⟨hx, hb, hml, hown, hts⟩ wq_934 rfl rfl ⟨Nat.le_of_ble_eq_true rfl, Nat.le_of_ble_eq_true rfl⟩ wq_all hP hK hS qw_Ai (q0 := 1) (by decide) (hgU_1 ca o _ _) rfl rfl hl.1 rfl (Nat.le_of_ble_eq_true rfl) dX1_canBe_70 ⟨Nat.zero_le _, Nat.zero_le _⟩ (fun r9 H locs h9 hP hS _ _ => ?_)
                rcases h9 with ⟨hr9, hf9_0, hf9_1⟩ | ⟨hr9, hf9_0⟩
                · subst hr9
                  have hg9_0 : pHas (z5 1 5) w7_2 := hf9_0
                  have hg9_1 : 0 ≤ w7_2.toInt ∧ w7_2.toInt ≤ 5 := hf9_1
                  refine lv_if_eq (tgt := 93) hx hb dX1_canBe_73 (by decide) (fun q => absurd q (by decide)) (fun _ => ?_)
                  refine lv_aload_n hx hb dX1_canBe_76 rfl (lv_at hl 1 rfl) ?_
                  refine qf_get hx hb hts inX1 hown hK hP (q0 := 120) (by decide) (hgU_120 ca o) rfl 0 (by decide) wq_316 (v := .ref (o + 121)) rfl dX1_canBe_77 ?_
                  refine lv_iload_n hx hb dX1_canBe_80 rfl (lv_at hl 0 rfl) ?_
                  refine qa_iald hx hb hK hP (q0 := 121) (by decide) 0 (N := 6) (hgU_121 ca o) rfl (gi_in (by omega) (by omega)) dX1_canBe_81 ?_
                  refine lv_topi (fun x10 e10 => ?_)
                  refine lv_aload_n hx hb dX1_canBe_82 rfl (lv_at hl 1 rfl) ?_
                  refine qf_get hx hb hts inX1 hown hK hP (q0 := 120) (by decide) (hgU_120 ca o) rfl 1 (by decide) wq_318 (v := .ref (o + 122)) rfl dX1_canBe_83 ?_
                  refine lv_iload_n hx hb dX1_canBe_86 rfl (lv_at hl 0 rfl) ?_
                  refine qa_iald hx hb hK hP (q0 := 122) (by decide) 0 (N := 6) (hgU_122 ca o) rfl (gi_in (by omega) (by omega)) dX1_canBe_87 ?_
                  refine lv_topi (fun x11 e11 => ?_)
                  refine lv_icmp_le (tgt := 93) hx hb dX1_canBe_88 (by decide) (fun c12 => ?_) (fun c12 => ?_)
                  · have t12 : x10.toInt ≤ x11.toInt := gl_le c12
                    obtain ⟨x13, e13⟩ : ∃ t : Int32, t = w7_2 + 1 := ⟨_, rfl⟩
                    refine lv_iinc (v := x13) (lv' := [(2, .int x13), (0, .ref (o + 120)), (1, .ref (o + 1))]) hx hb dX1_canBe_93 hl (k := 0) rfl (by rw [e13]; rfl) (by decide) rfl (fun ls hl => ?_)
                    have t13 : x13.toInt = w7_2.toInt + (1 : Int) := ga_add e13 rfl rfl (by omega) (by omega)
                    refine lv_goto (tgt := 62) hx hb dX1_canBe_96 (by decide) ?_
                    exact ih7 x13 (show (6 - x13.toInt : Int) < (n7 : Int) from by omega) ⟨by omega, by omega⟩ _ _ hP hS _ (lv_sub hl [0, 1, 2] rfl)
                  · have t12 : x10.toInt > x11.toInt := gl_nle c12
                    refine lv_iconst (v := 0) hx hb dX1_canBe_91 (by decide) ?_
                    exact W.zret (v := 0) (ty := .boolean) hx hb hr rfl (fun t ht hW => ⟨⟨0, (z5, y5), rfl, ⟨⟨by decide, by decide⟩, J5⟩, by rw [ht]; exact hP, va_K.moved hW.alike hK⟩, hS.F ht⟩) hS.2.2 dX1_canBe_92
                · subst hr9
                  have hg9_0 : ¬ pHas (z5 1 5) w7_2 := hf9_0
                  refine lv_if_eq (tgt := 93) hx hb dX1_canBe_73 (by decide) (fun _ => ?_) (fun q => absurd (by decide) q)
                  obtain ⟨x14, e14⟩ : ∃ t : Int32, t = w7_2 + 1 := ⟨_, rfl⟩
                  refine lv_iinc (v := x14) (lv' := [(2, .int x14), (0, .ref (o + 120)), (1, .ref (o + 1))]) hx hb dX1_canBe_93 hl (k := 0) rfl (by rw [e14]; rfl) (by decide) rfl (fun ls hl => ?_)
                  have t14 : x14.toInt = w7_2.toInt + (1 : Int) := ga_add e14 rfl rfl (by omega) (by omega)
                  refine lv_goto (tgt := 62) hx hb dX1_canBe_96 (by decide) ?_
                  exact ih7 x14 (show (6 - x14.toInt : Int) < (n7 : Int) from by omega) ⟨by omega, by omega⟩ _ _ hP hS _ (lv_sub hl [0, 1, 2] rfl)
          exact loop7 7 0 (show (6 - (0 : Int) : Int) < ((7 : Nat) : Int) from by omega) ⟨by decide, by decide⟩ _ _ hP hS _ (lv_sub hl [0, 1, 2] rfl)
        · have t6 : r5.toInt ≠ (0 : Int) := gl_ne c6
          refine lv_iconst (v := 0) hx hb dX1_canBe_58 (by decide) ?_
          exact W.zret (v := 0) (ty := .boolean) hx hb hr rfl (fun t ht hW => ⟨⟨0, (z5, y5), rfl, ⟨⟨by decide, by decide⟩, J5⟩, by rw [ht]; exact hP, va_K.moved hW.alike hK⟩, hS.F ht⟩) hS.2.2 dX1_canBe_59
      · have t4 : w3_2.toInt < (6 : Int) := gl_nle c4
        refine lv_aload_n hx hb dX1_canBe_38 rfl (lv_at hl 1 rfl) ?_
        refine lv_aload_n hx hb dX1_canBe_39 rfl (lv_at hl 2 rfl) ?_
        refine qc_Vi2 (As := [.ref (o + 1)]) (rest := []) (k0 := 1) (u_Family_tighten l D ca o b z3 y3 J3) kc_yX1_tighten ⟨hx, hb, hml, hown, hts⟩ wq_930 rfl rfl ⟨Nat.le_of_ble_eq_true rfl, Nat.le_of_ble_eq_true rfl⟩ wq_all hP hK hS qw_Ai (q0 := 120) (by decide) (hgU_120 ca o _ _) rfl rfl hl.1 rfl (Nat.le_of_ble_eq_true rfl) dX1_canBe_40 ⟨Nat.zero_le _, Nat.zero_le _⟩ (fun r15 z15 y15 H locs h15 hP hS _ _ => ?_)
        have J15 : qJU b z15 := h15.2
        have b15 : (0 : Int) ≤ r15.toInt ∧ r15.toInt ≤ 1 := h15.1
        refine lv_pop hx hb dX1_canBe_43 rfl ?_
        obtain ⟨x16, e16⟩ : ∃ t : Int32, t = w3_2 + 1 := ⟨_, rfl⟩
        refine lv_iinc (v := x16) (lv' := [(2, .int x16), (0, .ref (o + 120)), (1, .ref (o + 1))]) hx hb dX1_canBe_44 hl (k := 0) rfl (by rw [e16]; rfl) (by decide) rfl (fun ls hl => ?_)
        have t16 : x16.toInt = w3_2.toInt + (1 : Int) := ga_add e16 rfl rfl (by omega) (by omega)
        refine lv_goto (tgt := 32) hx hb dX1_canBe_47 (by decide) ?_
        exact ih3 x16 z15 y15 (show (6 - x16.toInt : Int) < (n3 : Int) from by omega) ⟨by omega, by omega⟩ J15 _ _ hP hS _ (lv_sub hl [0, 1, 2] rfl)
  exact loop3 7 0 z2 y (show (6 - (0 : Int) : Int) < ((7 : Nat) : Int) from by omega) ⟨by decide, by decide⟩ J2 _ _ hP hS _ (lv_sub hl [0, 1, 2] rfl)
set_option maxRecDepth 100000 in
set_option maxHeartbeats 8000000 in
theorem u_tree (l : Launch) (D : va_G) (ca : Nat → ClassId) (o : Nat) (b z : Nat → Nat → Int32) (y : Nat → Nat → Int64) (J0 : qJU b z) (a0 : Int32) (a1 : Int32)  : qM l yX10_tree cX10_tree 3 (some .int) 3 107 (qPre D vwCl (qT6 ca) o 132 (qG (GU ca o) z y) [.ref (o + 0), .int a0, .int a1]) (va_Qi (fun r u => True ∧ qJU b u.1) (qB D vwCl (qT6 ca) o 132 (fun u : qZ => qG (GU ca o) u.1 u.2)) (qw_A o 132)) (qw_A o 132) := by
  refine Met.ofW (cc := cX10_tree) (maxL := 3) (ret := (some .int)) (by decide) rfl ?_
  intro p e s m args below meth c s₁ B hml hv
  obtain ⟨rfl, hP, hK⟩ := hv
  have hx := B.exec
  have hb := B.bytes
  have hr := B.returns
  have hts0 := atoms_spec (ws := Cond.code yX10_tree cX10_tree 3 (some .int) :: qtbl) B.pre
  have hts : ∀ w ∈ qtbl, w.before _ s = true := fun w h => hts0 w (List.mem_cons_of_mem _ h)
  have hown : s.vm.findClass RX10 = some m.cls := findClass_of_methodNamed B.named
  have hlocks := B.notSynchronized
  have hS : va_S (qw_A o 132) s.heap s.heap [] := va_S.rf
  have hl := lv_entry ([.ref (o + 0), .int a0, .int a1]) (n := 3) (Nat.le_of_ble_eq_true rfl)
  rw [lg_entry_eq]
  generalize (lg_sl ([.ref (o + 0), .int a0, .int a1]) ++ List.replicate (3 - (lg_sl ([.ref (o + 0), .int a0, .int a1])).length) Slot.unset).toArray = ls at hl ⊢
  have hl : lv_has ls 3 [(0, .ref (o + 0)), (1, .int a0), (2, .int a1)] := hl
  refine lv_aload_n hx hb dX10_tree_0 rfl (lv_at hl 0 rfl) ?_
  refine qf_get hx hb hts inX10 hown hK hP (q0 := 0) (by decide) (hgU_0 ca o) rfl 0 (by decide) wq_353 (v := .ref (o + 1)) rfl dX10_tree_1 ?_
  refine lv_iload_n hx hb dX10_tree_4 rfl (lv_at hl 1 rfl) ?_
  refine qc_Vip (As := [.int a0]) (rest := []) (k0 := 1) (u_Told_hasPerson l D ca o b z y J0 a0) kc_yX9_hasPerson ⟨hx, hb, hml, hown, hts⟩ wq_411 rfl rfl ⟨Nat.le_of_ble_eq_true rfl, Nat.le_of_ble_eq_true rfl⟩ wq_all hP hK hS qw_Ai (q0 := 1) (by decide) (hgU_1 ca o _ _) rfl rfl hl.1 rfl (Nat.le_of_ble_eq_true rfl) dX10_tree_5 ⟨Nat.zero_le _, Nat.zero_le _⟩ (fun r1 H locs h1 hP hS _ _ => ?_)
  rcases h1 with ⟨hr1, hf1_0, hf1_1⟩ | ⟨hr1, hf1_0⟩
  · subst hr1
    have hg1_0 : pHas (z 1 5) a0 := hf1_0
    have hg1_1 : 0 ≤ a0.toInt ∧ a0.toInt ≤ 5 := hf1_1
    refine lv_if_eq (tgt := 20) hx hb dX10_tree_8 (by decide) (fun q => absurd q (by decide)) (fun _ => ?_)
    refine lv_iload_n hx hb dX10_tree_11 rfl (lv_at hl 2 rfl) ?_
    refine lv_if_lt (tgt := 20) hx hb dX10_tree_12 (by decide) (fun c2 => ?_) (fun c2 => ?_)
    · have t2 : a1.toInt < (0 : Int) := gl_lt c2
      refine lv_iconst (v := (-1)) hx hb dX10_tree_20 (by decide) ?_
      exact W.iret (v := (-1)) hx hb hr (fun t ht hW => ⟨⟨(-1), (z, y), rfl, ⟨trivial, J0⟩, by rw [ht]; exact hP, va_K.moved hW.alike hK⟩, hS.F ht⟩) hS.2.2 dX10_tree_21
    · have t2 : a1.toInt ≥ (0 : Int) := gl_nlt c2
      refine lv_iload_n hx hb dX10_tree_15 rfl (lv_at hl 2 rfl) ?_
      refine lv_iconst (v := 1) hx hb dX10_tree_16 (by decide) ?_
      refine lv_icmp_le (tgt := 22) hx hb dX10_tree_17 (by decide) (fun c3 => ?_) (fun c3 => ?_)
      · have t3 : a1.toInt ≤ (1 : Int) := gl_le c3
        refine lv_aload_n hx hb dX10_tree_22 rfl (lv_at hl 0 rfl) ?_
        refine qf_get hx hb hts inX10 hown hK hP (q0 := 0) (by decide) (hgU_0 ca o) rfl 11 (by decide) wq_364 (v := .ref (o + 120)) rfl dX10_tree_23 ?_
        refine lv_aload_n hx hb dX10_tree_26 rfl (lv_at hl 0 rfl) ?_
        refine qf_get hx hb hts inX10 hown hK hP (q0 := 0) (by decide) (hgU_0 ca o) rfl 0 (by decide) wq_353 (v := .ref (o + 1)) rfl dX10_tree_27 ?_
        refine qc_Vi2 (As := [.ref (o + 1)]) (rest := []) (k0 := 1) (u_Family_canBe l D ca o b z y J0) kc_yX1_canBe ⟨hx, hb, hml, hown, hts⟩ wq_925 rfl rfl ⟨Nat.le_of_ble_eq_true rfl, Nat.le_of_ble_eq_true rfl⟩ wq_all hP hK hS qw_Ai (q0 := 120) (by decide) (hgU_120 ca o _ _) rfl rfl hl.1 rfl (Nat.le_of_ble_eq_true rfl) dX10_tree_30 ⟨Nat.zero_le _, Nat.zero_le _⟩ (fun r4 z4 y4 H locs h4 hP hS _ _ => ?_)
        have J4 : qJU b z4 := h4.2
        have b4 : (0 : Int) ≤ r4.toInt ∧ r4.toInt ≤ 1 := h4.1
        refine lv_if_ne (tgt := 39) hx hb dX10_tree_33 (by decide) (fun c5 => ?_) (fun c5 => ?_)
        · have t5 : r4.toInt ≠ (0 : Int) := gl_ne c5
          refine lv_iload_n hx hb dX10_tree_39 rfl (lv_at hl 2 rfl) ?_
          refine lv_if_ne (tgt := 55) hx hb dX10_tree_40 (by decide) (fun c6 => ?_) (fun c6 => ?_)
          · have t6 : a1.toInt ≠ (0 : Int) := gl_ne c6
            refine lv_aload_n hx hb dX10_tree_55 rfl (lv_at hl 0 rfl) ?_
            refine qf_get hx hb hts inX10 hown hK hP (q0 := 0) (by decide) (hgU_0 ca o) rfl 11 (by decide) wq_364 (v := .ref (o + 120)) rfl dX10_tree_56 ?_
            refine qf_get hx hb hts inX1 hown hK hP (q0 := 120) (by decide) (hgU_120 ca o) rfl 1 (by decide) wq_319 (v := .ref (o + 122)) rfl dX10_tree_59 ?_
            refine lv_iload_n hx hb dX10_tree_62 rfl (lv_at hl 1 rfl) ?_
            refine qa_iald hx hb hK hP (q0 := 122) (by decide) 0 (N := 6) (hgU_122 ca o) rfl (gi_in (by omega) (by omega)) dX10_tree_63 ?_
            refine lv_topi (fun x7 e7 => ?_)
            exact W.iret (v := x7) hx hb hr (fun t ht hW => ⟨⟨x7, (z4, y4), rfl, ⟨trivial, J4⟩, by rw [ht]; exact hP, va_K.moved hW.alike hK⟩, hS.F ht⟩) hS.2.2 dX10_tree_64
          · have t6 : a1.toInt = (0 : Int) := gl_eq c6
            refine lv_aload_n hx hb dX10_tree_43 rfl (lv_at hl 0 rfl) ?_
            refine qf_get hx hb hts inX10 hown hK hP (q0 := 0) (by decide) (hgU_0 ca o) rfl 11 (by decide) wq_364 (v := .ref (o + 120)) rfl dX10_tree_44 ?_
            refine qf_get hx hb hts inX1 hown hK hP (q0 := 120) (by decide) (hgU_120 ca o) rfl 0 (by decide) wq_317 (v := .ref (o + 121)) rfl dX10_tree_47 ?_
            refine lv_iload_n hx hb dX10_tree_50 rfl (lv_at hl 1 rfl) ?_
            refine qa_iald hx hb hK hP (q0 := 121) (by decide) 0 (N := 6) (hgU_121 ca o) rfl (gi_in (by omega) (by omega)) dX10_tree_51 ?_
            refine lv_topi (fun x8 e8 => ?_)
            refine lv_goto (tgt := 64) hx hb dX10_tree_52 (by decide) ?_
            exact W.iret (v := x8) hx hb hr (fun t ht hW => ⟨⟨x8, (z4, y4), rfl, ⟨trivial, J4⟩, by rw [ht]; exact hP, va_K.moved hW.alike hK⟩, hS.F ht⟩) hS.2.2 dX10_tree_64
        · have t5 : r4.toInt = (0 : Int) := gl_eq c5
          refine lv_bipush (v := (-2)) hx hb dX10_tree_36 (by decide) ?_
          exact W.iret (v := (-2)) hx hb hr (fun t ht hW => ⟨⟨(-2), (z4, y4), rfl, ⟨trivial, J4⟩, by rw [ht]; exact hP, va_K.moved hW.alike hK⟩, hS.F ht⟩) hS.2.2 dX10_tree_38
      · have t3 : a1.toInt > (1 : Int) := gl_nle c3
        refine lv_iconst (v := (-1)) hx hb dX10_tree_20 (by decide) ?_
        exact W.iret (v := (-1)) hx hb hr (fun t ht hW => ⟨⟨(-1), (z, y), rfl, ⟨trivial, J0⟩, by rw [ht]; exact hP, va_K.moved hW.alike hK⟩, hS.F ht⟩) hS.2.2 dX10_tree_21
  · subst hr1
    have hg1_0 : ¬ pHas (z 1 5) a0 := hf1_0
    refine lv_if_eq (tgt := 20) hx hb dX10_tree_8 (by decide) (fun _ => ?_) (fun q => absurd (by decide) q)
    refine lv_iconst (v := (-1)) hx hb dX10_tree_20 (by decide) ?_
    exact W.iret (v := (-1)) hx hb hr (fun t ht hW => ⟨⟨(-1), (z, y), rfl, ⟨trivial, J0⟩, by rw [ht]; exact hP, va_K.moved hW.alike hK⟩, hS.F ht⟩) hS.2.2 dX10_tree_21
set_option maxRecDepth 100000 in
set_option maxHeartbeats 8000000 in
theorem u_milesInAll (l : Launch) (D : va_G) (ca : Nat → ClassId) (o : Nat) (b z : Nat → Nat → Int32) (y : Nat → Nat → Int64) (J0 : qJU b z) (a0 : Int32) (a1 : Int32)  : qM l yX10_milesInAll cX10_milesInAll 5 (some .int) 2 60 (qPre D vwCl (qT6 ca) o 132 (qG (GU ca o) z y) [.ref (o + 0), .int a0, .int a1]) (va_Qi (fun r (_ : Unit) => True) (qB D vwCl (qT6 ca) o 132 (fun _ : Unit => qG (GU ca o) z y)) (qw_A o 132)) (qw_A o 132) := by
  refine Met.ofW (cc := cX10_milesInAll) (maxL := 5) (ret := (some .int)) (by decide) rfl ?_
  intro p e s m args below meth c s₁ B hml hv
  obtain ⟨rfl, hP, hK⟩ := hv
  have hx := B.exec
  have hb := B.bytes
  have hr := B.returns
  have hts0 := atoms_spec (ws := Cond.code yX10_milesInAll cX10_milesInAll 5 (some .int) :: qtbl) B.pre
  have hts : ∀ w ∈ qtbl, w.before _ s = true := fun w h => hts0 w (List.mem_cons_of_mem _ h)
  have hown : s.vm.findClass RX10 = some m.cls := findClass_of_methodNamed B.named
  have hlocks := B.notSynchronized
  have hS : va_S (qw_A o 132) s.heap s.heap [] := va_S.rf
  have hl := lv_entry ([.ref (o + 0), .int a0, .int a1]) (n := 5) (Nat.le_of_ble_eq_true rfl)
  rw [lg_entry_eq]
  generalize (lg_sl ([.ref (o + 0), .int a0, .int a1]) ++ List.replicate (5 - (lg_sl ([.ref (o + 0), .int a0, .int a1])).length) Slot.unset).toArray = ls at hl ⊢
  have hl : lv_has ls 5 [(0, .ref (o + 0)), (1, .int a0), (2, .int a1)] := hl
  refine lv_iconst (v := 0) hx hb dX10_milesInAll_0 (by decide) ?_
  refine lv_istore_n (lv' := [(3, .int 0), (0, .ref (o + 0)), (1, .int a0), (2, .int a1)]) hx hb dX10_milesInAll_1 rfl hl (by decide) rfl (fun ls hl => ?_)
  refine lv_iconst (v := 0) hx hb dX10_milesInAll_2 (by decide) ?_
  refine lv_istore (lv' := [(4, .int 0), (3, .int 0), (0, .ref (o + 0)), (1, .int a0), (2, .int a1)]) hx hb dX10_milesInAll_3 hl (by decide) rfl (fun ls hl => ?_)
  have loop1 : ∀ (n : Nat) (w1_4 : Int32) (w1_3 : Int32), ((260 - w1_4.toInt : Int) < (n : Int)) → ((0 : Int) ≤ w1_4.toInt ∧ w1_4.toInt ≤ 260) → ∀ (H : Heap) (locs : List Loc), qw_P D vwCl o 132 (qG (GU ca o) z y) H → va_S (qw_A o 132) s.heap H locs → ∀ (ls : Array Slot), lv_has ls 5 [(4, .int w1_4), (3, .int w1_3), (0, .ref (o + 0)), (1, .int a0), (2, .int a1)] → W p l e (headSpec (Cond.code yX10_milesInAll cX10_milesInAll 5 (some .int) :: qtbl) ({ frames := 2, cells := 0, slots := 0, locals := 60 })).room s m (([.ref (o + 0), .int a0, .int a1] : List Value).toArray) below meth c H locs 0 0 (MQ below (va_Qi (fun r (_ : Unit) => True) (qB D vwCl (qT6 ca) o 132 (fun _ : Unit => qG (GU ca o) z y)) (qw_A o 132)) (([.ref (o + 0), .int a0, .int a1] : List Value).toArray) s 0 0 (qw_A o 132)) (F0 m 5 ls []) := by
    intro n
    induction n with
    | zero => intro w1_4 w1_3 hb1 hv1_4; exfalso; omega
    | succ n1 ih1 =>
      intro w1_4 w1_3 hb1 hv1_4 H locs hP hS ls hl
      refine lv_iload hx hb dX10_milesInAll_5 (lv_at hl 0 rfl) ?_
      refine lv_iload_n hx hb dX10_milesInAll_7 rfl (lv_at hl 3 rfl) ?_
      refine lv_icmp_ge (tgt := 39) hx hb dX10_milesInAll_8 (by decide) (fun c2 => ?_) (fun c2 => ?_)
      · have t2 : w1_4.toInt ≥ a0.toInt := gl_le c2
        refine lv_iload_n hx hb dX10_milesInAll_39 rfl (lv_at hl 1 rfl) ?_
        exact W.iret (v := w1_3) hx hb hr (fun t ht hW => ⟨⟨w1_3, (), rfl, trivial, by rw [ht]; exact hP, va_K.moved hW.alike hK⟩, hS.F ht⟩) hS.2.2 dX10_milesInAll_40
      · have t2 : w1_4.toInt < a0.toInt := gl_nle c2
        refine lv_iload hx hb dX10_milesInAll_11 (lv_at hl 0 rfl) ?_
        refine lv_sipush (v := 260) hx hb dX10_milesInAll_13 (by decide) ?_
        refine lv_icmp_ge (tgt := 39) hx hb dX10_milesInAll_16 (by decide) (fun c3 => ?_) (fun c3 => ?_)
        · have t3 : w1_4.toInt ≥ (260 : Int) := gl_le c3
          refine lv_iload_n hx hb dX10_milesInAll_39 rfl (lv_at hl 1 rfl) ?_
          exact W.iret (v := w1_3) hx hb hr (fun t ht hW => ⟨⟨w1_3, (), rfl, trivial, by rw [ht]; exact hP, va_K.moved hW.alike hK⟩, hS.F ht⟩) hS.2.2 dX10_milesInAll_40
        · have t3 : w1_4.toInt < (260 : Int) := gl_nle c3
          refine lv_iload_n hx hb dX10_milesInAll_19 rfl (lv_at hl 1 rfl) ?_
          refine lv_aload_n hx hb dX10_milesInAll_20 rfl (lv_at hl 2 rfl) ?_
          refine qf_get hx hb hts inX10 hown hK hP (q0 := 0) (by decide) (hgU_0 ca o) rfl 3 (by decide) wq_356 (v := .ref (o + 77)) rfl dX10_milesInAll_21 ?_
          refine lv_iload hx hb dX10_milesInAll_24 (lv_at hl 0 rfl) ?_
          refine qa_iald hx hb hK hP (q0 := 77) (by decide) 0 (N := 260) (hgU_77 ca o) rfl (gi_in (by omega) (by omega)) dX10_milesInAll_26 ?_
          refine lv_topi (fun x4 e4 => ?_)
          refine lv_iload_n hx hb dX10_milesInAll_27 rfl (lv_at hl 4 rfl) ?_
          refine va_mmin hx hb (hml.trans hl.1.symm) hown (hts _ wq_685) (hts _ wq_444) (hts _ wq_14) (hts _ wq_445) (Nat.le_of_ble_eq_true rfl) (Nat.le_of_ble_eq_true rfl) (Nat.zero_le _) (Nat.zero_le _) dX10_milesInAll_28 ?_
          refine lv_topi (fun x5 e5 => ?_)
          have t5 : x5.toInt = min x4.toInt a1.toInt := ga_min e5
          refine lv_iadd hx hb dX10_milesInAll_31 ?_
          refine lv_topi (fun x6 e6 => ?_)
          refine lv_istore_n (lv' := [(3, .int x6), (4, .int w1_4), (0, .ref (o + 0)), (1, .int a0), (2, .int a1)]) hx hb dX10_milesInAll_32 rfl hl (by decide) rfl (fun ls hl => ?_)
          obtain ⟨x7, e7⟩ : ∃ t : Int32, t = w1_4 + 1 := ⟨_, rfl⟩
          refine lv_iinc (v := x7) (lv' := [(4, .int x7), (3, .int x6), (0, .ref (o + 0)), (1, .int a0), (2, .int a1)]) hx hb dX10_milesInAll_33 hl (k := 1) rfl (by rw [e7]; rfl) (by decide) rfl (fun ls hl => ?_)
          have t7 : x7.toInt = w1_4.toInt + (1 : Int) := ga_add e7 rfl rfl (by omega) (by omega)
          refine lv_goto (tgt := 5) hx hb dX10_milesInAll_36 (by decide) ?_
          exact ih1 x7 x6 (show (260 - x7.toInt : Int) < (n1 : Int) from by omega) ⟨by omega, by omega⟩ _ _ hP hS _ (lv_sub hl [0, 1, 2, 3, 4] rfl)
  exact loop1 261 0 0 (show (260 - (0 : Int) : Int) < ((261 : Nat) : Int) from by omega) ⟨by decide, by decide⟩ _ _ hP hS _ (lv_sub hl [0, 1, 2, 3, 4] rfl)
set_option maxRecDepth 100000 in
set_option maxHeartbeats 8000000 in
theorem u_tyres (l : Launch) (D : va_G) (ca : Nat → ClassId) (o : Nat) (b z : Nat → Nat → Int32) (y : Nat → Nat → Int64) (J0 : qJU b z) (a0 : Int32) (a1 : Int32)  : qM l yX10_tyres cX10_tyres 4 (some .int) 3 84 (qPre D vwCl (qT6 ca) o 132 (qG (GU ca o) z y) [.ref (o + 0), .int a0, .int a1]) (va_Qi (fun r u => ((-3 : Int) ≤ r.toInt ∧ r.toInt ≤ 2040) ∧ qJU b u.1) (qB D vwCl (qT6 ca) o 132 (fun u : qZ => qG (GU ca o) u.1 u.2)) (qw_A o 132)) (qw_A o 132) := by
  refine Met.ofW (cc := cX10_tyres) (maxL := 4) (ret := (some .int)) (by decide) rfl ?_
  intro p e s m args below meth c s₁ B hml hv
  obtain ⟨rfl, hP, hK⟩ := hv
  have hx := B.exec
  have hb := B.bytes
  have hr := B.returns
  have hts0 := atoms_spec (ws := Cond.code yX10_tyres cX10_tyres 4 (some .int) :: qtbl) B.pre
  have hts : ∀ w ∈ qtbl, w.before _ s = true := fun w h => hts0 w (List.mem_cons_of_mem _ h)
  have hown : s.vm.findClass RX10 = some m.cls := findClass_of_methodNamed B.named
  have hlocks := B.notSynchronized
  have hS : va_S (qw_A o 132) s.heap s.heap [] := va_S.rf
  have hl := lv_entry ([.ref (o + 0), .int a0, .int a1]) (n := 4) (Nat.le_of_ble_eq_true rfl)
  rw [lg_entry_eq]
  generalize (lg_sl ([.ref (o + 0), .int a0, .int a1]) ++ List.replicate (4 - (lg_sl ([.ref (o + 0), .int a0, .int a1])).length) Slot.unset).toArray = ls at hl ⊢
  have hl : lv_has ls 4 [(0, .ref (o + 0)), (1, .int a0), (2, .int a1)] := hl
  refine lv_aload_n hx hb dX10_tyres_0 rfl (lv_at hl 0 rfl) ?_
  refine lv_iload_n hx hb dX10_tyres_1 rfl (lv_at hl 1 rfl) ?_
  refine lv_bipush (v := 8) hx hb dX10_tyres_2 (by decide) ?_
  refine qc_Vip (As := [.int a0, .int 8]) (rest := []) (k0 := 2) (u_isText l D ca o b z y J0 a0 8) kc_yX10_isText ⟨hx, hb, hml, hown, hts⟩ wq_431 rfl rfl ⟨Nat.le_of_ble_eq_true rfl, Nat.le_of_ble_eq_true rfl⟩ wq_all hP hK hS qw_Ai (q0 := 0) (by decide) (hgU_0 ca o _ _) rfl rfl hl.1 rfl (Nat.le_of_ble_eq_true rfl) dX10_tyres_4 ⟨Nat.zero_le _, Nat.zero_le _⟩ (fun r1 H locs h1 hP hS _ _ => ?_)
  rcases h1 with ⟨hr1, hf1_0⟩ | hr1
  · subst hr1
    have hg1_0 : 1 ≤ a0.toInt ∧ a0.toInt ≤ (8 : Int) := hf1_0
    refine lv_if_eq (tgt := 21) hx hb dX10_tyres_7 (by decide) (fun q => absurd q (by decide)) (fun _ => ?_)
    refine lv_iload_n hx hb dX10_tyres_10 rfl (lv_at hl 2 rfl) ?_
    refine lv_iconst (v := 1) hx hb dX10_tyres_11 (by decide) ?_
    refine lv_icmp_lt (tgt := 21) hx hb dX10_tyres_12 (by decide) (fun c2 => ?_) (fun c2 => ?_)
    · have t2 : a1.toInt < (1 : Int) := gl_lt c2
      refine lv_iconst (v := (-1)) hx hb dX10_tyres_21 (by decide) ?_
      exact W.iret (v := (-1)) hx hb hr (fun t ht hW => ⟨⟨(-1), (z, y), rfl, ⟨⟨by decide, by decide⟩, J0⟩, by rw [ht]; exact hP, va_K.moved hW.alike hK⟩, hS.F ht⟩) hS.2.2 dX10_tyres_22
    · have t2 : a1.toInt ≥ (1 : Int) := gl_nlt c2
      refine lv_iload_n hx hb dX10_tyres_15 rfl (lv_at hl 2 rfl) ?_
      refine lv_bipush (v := 8) hx hb dX10_tyres_16 (by decide) ?_
      refine lv_icmp_le (tgt := 23) hx hb dX10_tyres_18 (by decide) (fun c3 => ?_) (fun c3 => ?_)
      · have t3 : a1.toInt ≤ (8 : Int) := gl_le c3
        refine lv_aload_n hx hb dX10_tyres_23 rfl (lv_at hl 0 rfl) ?_
        refine lv_iconst (v := 0) hx hb dX10_tyres_24 (by decide) ?_
        refine qf_put2 hx hb hts inX10 tyX10 tyX10_ok nmX10 hown hK hP hS qw_Ai (q0 := 0) (by decide) (hgU_0 ca o) rfl 4 (by decide) wq_357 rfl (x := 0) 4 rfl rfl rfl (Nat.le_of_ble_eq_true rfl) dX10_tyres_25 (fun z4 H locs hz4 hP hS => ?_)
        have J4 := jU_0_4 J0 hz4 ⟨by decide, by decide⟩
        refine lv_iconst (v := 0) hx hb dX10_tyres_28 (by decide) ?_
        refine lv_istore_n (lv' := [(3, .int 0), (0, .ref (o + 0)), (1, .int a0), (2, .int a1)]) hx hb dX10_tyres_29 rfl hl (by decide) rfl (fun ls hl => ?_)
        have loop5 : ∀ (n : Nat) (w5_3 : Int32), ((8 - w5_3.toInt : Int) < (n : Int)) → ((0 : Int) ≤ w5_3.toInt ∧ w5_3.toInt ≤ 8) → ∀ (H : Heap) (locs : List Loc), qw_P D vwCl o 132 (qG (GU ca o) z4 y) H → va_S (qw_A o 132) s.heap H locs → ∀ (ls : Array Slot), lv_has ls 4 [(3, .int w5_3), (0, .ref (o + 0)), (1, .int a0), (2, .int a1)] → W p l e (headSpec (Cond.code yX10_tyres cX10_tyres 4 (some .int) :: qtbl) ({ frames := 3, cells := 0, slots := 0, locals := 84 })).room s m (([.ref (o + 0), .int a0, .int a1] : List Value).toArray) below meth c H locs 0 0 (MQ below (va_Qi (fun r u => ((-3 : Int) ≤ r.toInt ∧ r.toInt ≤ 2040) ∧ qJU b u.1) (qB D vwCl (qT6 ca) o 132 (fun u : qZ => qG (GU ca o) u.1 u.2)) (qw_A o 132)) (([.ref (o + 0), .int a0, .int a1] : List Value).toArray) s 0 0 (qw_A o 132)) (F0 m 30 ls []) := by
          intro n
          induction n with
          | zero => intro w5_3 hb5 hv5_3; exfalso; omega
          | succ n5 ih5 =>
            intro w5_3 hb5 hv5_3 H locs hP hS ls hl
            refine lv_iload_n hx hb dX10_tyres_30 rfl (lv_at hl 0 rfl) ?_
            refine lv_iload_n hx hb dX10_tyres_31 rfl (lv_at hl 2 rfl) ?_
            refine lv_icmp_ge (tgt := 60) hx hb dX10_tyres_32 (by decide) (fun c6 => ?_) (fun c6 => ?_)
            · have t6 : w5_3.toInt ≥ a0.toInt := gl_le c6
              refine lv_iload_n hx hb dX10_tyres_60 rfl (lv_at hl 2 rfl) ?_
              refine lv_iload_n hx hb dX10_tyres_61 rfl (lv_at hl 3 rfl) ?_
              refine lv_icmp_ge (tgt := 68) hx hb dX10_tyres_62 (by decide) (fun c7 => ?_) (fun c7 => ?_)
              · have t7 : a0.toInt ≥ a1.toInt := gl_le c7
                refine lv_sipush (v := 2040) hx hb dX10_tyres_68 (by decide) ?_
                refine lv_istore_n (lv' := [(3, .int 2040), (0, .ref (o + 0)), (1, .int a0), (2, .int a1)]) hx hb dX10_tyres_71 rfl hl (by decide) rfl (fun ls hl => ?_)
                have loop8 : ∀ (n : Nat) (w8_3 : Int32), ((w8_3.toInt - 0 : Int) < (n : Int)) → ((0 : Int) ≤ w8_3.toInt ∧ w8_3.toInt ≤ 2040) → ∀ (H : Heap) (locs : List Loc), qw_P D vwCl o 132 (qG (GU ca o) z4 y) H → va_S (qw_A o 132) s.heap H locs → ∀ (ls : Array Slot), lv_has ls 4 [(3, .int w8_3), (0, .ref (o + 0)), (1, .int a0), (2, .int a1)] → W p l e (headSpec (Cond.code yX10_tyres cX10_tyres 4 (some .int) :: qtbl) ({ frames := 3, cells := 0, slots := 0, locals := 84 })).room s m (([.ref (o + 0), .int a0, .int a1] : List Value).toArray) below meth c H locs 0 0 (MQ below (va_Qi (fun r u => ((-3 : Int) ≤ r.toInt ∧ r.toInt ≤ 2040) ∧ qJU b u.1) (qB D vwCl (qT6 ca) o 132 (fun u : qZ => qG (GU ca o) u.1 u.2)) (qw_A o 132)) (([.ref (o + 0), .int a0, .int a1] : List Value).toArray) s 0 0 (qw_A o 132)) (F0 m 72 ls []) := by
                  intro n
                  induction n with
                  | zero => intro w8_3 hb8 hv8_3; exfalso; omega
                  | succ n8 ih8 =>
                    intro w8_3 hb8 hv8_3 H locs hP hS ls hl
                    refine lv_iload_n hx hb dX10_tyres_72 rfl (lv_at hl 0 rfl) ?_
                    refine lv_if_le (tgt := 96) hx hb dX10_tyres_73 (by decide) (fun c9 => ?_) (fun c9 => ?_)
                    · have t9 : w8_3.toInt ≤ (0 : Int) := gl_le c9
                      refine lv_iconst (v := 0) hx hb dX10_tyres_96 (by decide) ?_
                      exact W.iret (v := 0) hx hb hr (fun t ht hW => ⟨⟨0, (z4, y), rfl, ⟨⟨by decide, by decide⟩, J4⟩, by rw [ht]; exact hP, va_K.moved hW.alike hK⟩, hS.F ht⟩) hS.2.2 dX10_tyres_97
                    · have t9 : w8_3.toInt > (0 : Int) := gl_nle c9
                      refine lv_aload_n hx hb dX10_tyres_76 rfl (lv_at hl 1 rfl) ?_
                      refine lv_iload_n hx hb dX10_tyres_77 rfl (lv_at hl 2 rfl) ?_
                      refine lv_iload_n hx hb dX10_tyres_78 rfl (lv_at hl 0 rfl) ?_
                      refine qc_Vip (As := [.int a0, .int w8_3]) (rest := []) (k0 := 2) (u_milesInAll l D ca o b z4 y J4 a0 w8_3) kc_yX10_milesInAll ⟨hx, hb, hml, hown, hts⟩ wq_939 rfl rfl ⟨Nat.le_of_ble_eq_true rfl, Nat.le_of_ble_eq_true rfl⟩ wq_all hP hK hS qw_Ai (q0 := 0) (by decide) (hgU_0 ca o _ _) rfl rfl hl.1 rfl (Nat.le_of_ble_eq_true rfl) dX10_tyres_79 ⟨Nat.zero_le _, Nat.zero_le _⟩ (fun r10 H locs h10 hP hS _ _ => ?_)
                      refine lv_iload_n hx hb dX10_tyres_82 rfl (lv_at hl 3 rfl) ?_
                      refine lv_iload_n hx hb dX10_tyres_83 rfl (lv_at hl 0 rfl) ?_
                      refine lv_imul hx hb dX10_tyres_84 ?_
                      refine lv_topi (fun x11 e11 => ?_)
                      refine lv_icmp_lt (tgt := 90) hx hb dX10_tyres_85 (by decide) (fun c12 => ?_) (fun c12 => ?_)
                      · have t12 : r10.toInt < x11.toInt := gl_lt c12
                        obtain ⟨x13, e13⟩ : ∃ t : Int32, t = w8_3 + (-1) := ⟨_, rfl⟩
                        refine lv_iinc (v := x13) (lv' := [(3, .int x13), (0, .ref (o + 0)), (1, .int a0), (2, .int a1)]) hx hb dX10_tyres_90 hl (k := 0) rfl (by rw [e13]; rfl) (by decide) rfl (fun ls hl => ?_)
                        have t13 : x13.toInt = w8_3.toInt + (-1 : Int) := ga_add e13 rfl rfl (by omega) (by omega)
                        refine lv_goto (tgt := 72) hx hb dX10_tyres_93 (by decide) ?_
                        exact ih8 x13 (show (x13.toInt - 0 : Int) < (n8 : Int) from by omega) ⟨by omega, by omega⟩ _ _ hP hS _ (lv_sub hl [0, 1, 2, 3] rfl)
                      · have t12 : r10.toInt ≥ x11.toInt := gl_nlt c12
                        refine lv_iload_n hx hb dX10_tyres_88 rfl (lv_at hl 0 rfl) ?_
                        exact W.iret (v := w8_3) hx hb hr (fun t ht hW => ⟨⟨w8_3, (z4, y), rfl, ⟨⟨by omega, by omega⟩, J4⟩, by rw [ht]; exact hP, va_K.moved hW.alike hK⟩, hS.F ht⟩) hS.2.2 dX10_tyres_89
                exact loop8 2041 2040 (show ((2040 : Int) - 0 : Int) < ((2041 : Nat) : Int) from by omega) ⟨by decide, by decide⟩ _ _ hP hS _ (lv_sub hl [0, 1, 2, 3] rfl)
              · have t7 : a0.toInt < a1.toInt := gl_nle c7
                refine lv_bipush (v := (-3)) hx hb dX10_tyres_65 (by decide) ?_
                exact W.iret (v := (-3)) hx hb hr (fun t ht hW => ⟨⟨(-3), (z4, y), rfl, ⟨⟨by decide, by decide⟩, J4⟩, by rw [ht]; exact hP, va_K.moved hW.alike hK⟩, hS.F ht⟩) hS.2.2 dX10_tyres_67
            · have t6 : w5_3.toInt < a0.toInt := gl_nle c6
              refine lv_iload_n hx hb dX10_tyres_35 rfl (lv_at hl 0 rfl) ?_
              refine lv_sipush (v := 260) hx hb dX10_tyres_36 (by decide) ?_
              refine lv_icmp_ge (tgt := 60) hx hb dX10_tyres_39 (by decide) (fun c14 => ?_) (fun c14 => ?_)
              · have t14 : w5_3.toInt ≥ (260 : Int) := gl_le c14
                exfalso; omega
              · have t14 : w5_3.toInt < (260 : Int) := gl_nle c14
                refine lv_aload_n hx hb dX10_tyres_42 rfl (lv_at hl 1 rfl) ?_
                refine qf_get hx hb hts inX10 hown hK hP (q0 := 0) (by decide) (hgU_0 ca o) rfl 3 (by decide) wq_356 (v := .ref (o + 77)) rfl dX10_tyres_43 ?_
                refine lv_iload_n hx hb dX10_tyres_46 rfl (lv_at hl 0 rfl) ?_
                refine qa_iald hx hb hK hP (q0 := 77) (by decide) 0 (N := 260) (hgU_77 ca o) rfl (gi_in (by omega) (by omega)) dX10_tyres_47 ?_
                refine lv_topi (fun x15 e15 => ?_)
                refine lv_if_ne (tgt := 54) hx hb dX10_tyres_48 (by decide) (fun c16 => ?_) (fun c16 => ?_)
                · have t16 : x15.toInt ≠ (0 : Int) := gl_ne c16
                  obtain ⟨x17, e17⟩ : ∃ t : Int32, t = w5_3 + 1 := ⟨_, rfl⟩
                  refine lv_iinc (v := x17) (lv' := [(3, .int x17), (0, .ref (o + 0)), (1, .int a0), (2, .int a1)]) hx hb dX10_tyres_54 hl (k := 0) rfl (by rw [e17]; rfl) (by decide) rfl (fun ls hl => ?_)
                  have t17 : x17.toInt = w5_3.toInt + (1 : Int) := ga_add e17 rfl rfl (by omega) (by omega)
                  refine lv_goto (tgt := 30) hx hb dX10_tyres_57 (by decide) ?_
                  exact ih5 x17 (show (8 - x17.toInt : Int) < (n5 : Int) from by omega) ⟨by omega, by omega⟩ _ _ hP hS _ (lv_sub hl [0, 1, 2, 3] rfl)
                · have t16 : x15.toInt = (0 : Int) := gl_eq c16
                  refine lv_bipush (v := (-2)) hx hb dX10_tyres_51 (by decide) ?_
                  exact W.iret (v := (-2)) hx hb hr (fun t ht hW => ⟨⟨(-2), (z4, y), rfl, ⟨⟨by decide, by decide⟩, J4⟩, by rw [ht]; exact hP, va_K.moved hW.alike hK⟩, hS.F ht⟩) hS.2.2 dX10_tyres_53
        exact loop5 9 0 (show (8 - (0 : Int) : Int) < ((9 : Nat) : Int) from by omega) ⟨by decide, by decide⟩ _ _ hP hS _ (lv_sub hl [0, 1, 2, 3] rfl)
      · have t3 : a1.toInt > (8 : Int) := gl_nle c3
        refine lv_iconst (v := (-1)) hx hb dX10_tyres_21 (by decide) ?_
        exact W.iret (v := (-1)) hx hb hr (fun t ht hW => ⟨⟨(-1), (z, y), rfl, ⟨⟨by decide, by decide⟩, J0⟩, by rw [ht]; exact hP, va_K.moved hW.alike hK⟩, hS.F ht⟩) hS.2.2 dX10_tyres_22
  · subst hr1
    refine lv_if_eq (tgt := 21) hx hb dX10_tyres_7 (by decide) (fun _ => ?_) (fun q => absurd (by decide) q)
    refine lv_iconst (v := (-1)) hx hb dX10_tyres_21 (by decide) ?_
    exact W.iret (v := (-1)) hx hb hr (fun t ht hW => ⟨⟨(-1), (z, y), rfl, ⟨⟨by decide, by decide⟩, J0⟩, by rw [ht]; exact hP, va_K.moved hW.alike hK⟩, hS.F ht⟩) hS.2.2 dX10_tyres_22
set_option maxRecDepth 100000 in
set_option maxHeartbeats 8000000 in
theorem u_Casks_fill (l : Launch) (D : va_G) (ca : Nat → ClassId) (o : Nat) (b z : Nat → Nat → Int32) (y : Nat → Nat → Int64) (J0 : qJU b z)   : qM l yX0_fill cX0_fill 3 (some .boolean) 1 60 (qPre D vwCl (qT6 ca) o 132 (qG (GU ca o) z y) [.ref (o + 123), .ref (o + 77)]) (va_Qi (fun r u => ((0 : Int) ≤ r.toInt ∧ r.toInt ≤ 1) ∧ qJU b u.1) (qB D vwCl (qT6 ca) o 132 (fun u : qZ => qG (GU ca o) u.1 u.2)) (qw_A o 132)) (qw_A o 132) := by
  refine Met.ofW (cc := cX0_fill) (maxL := 3) (ret := (some .boolean)) (by decide) rfl ?_
  intro p e s m args below meth c s₁ B hml hv
  obtain ⟨rfl, hP, hK⟩ := hv
  have hx := B.exec
  have hb := B.bytes
  have hr := B.returns
  have hts0 := atoms_spec (ws := Cond.code yX0_fill cX0_fill 3 (some .boolean) :: qtbl) B.pre
  have hts : ∀ w ∈ qtbl, w.before _ s = true := fun w h => hts0 w (List.mem_cons_of_mem _ h)
  have hown : s.vm.findClass RX0 = some m.cls := findClass_of_methodNamed B.named
  have hlocks := B.notSynchronized
  have hS : va_S (qw_A o 132) s.heap s.heap [] := va_S.rf
  have hl := lv_entry ([.ref (o + 123), .ref (o + 77)]) (n := 3) (Nat.le_of_ble_eq_true rfl)
  rw [lg_entry_eq]
  generalize (lg_sl ([.ref (o + 123), .ref (o + 77)]) ++ List.replicate (3 - (lg_sl ([.ref (o + 123), .ref (o + 77)])).length) Slot.unset).toArray = ls at hl ⊢
  have hl : lv_has ls 3 [(0, .ref (o + 123)), (1, .ref (o + 77))] := hl
  refine lv_iconst (v := 0) hx hb dX0_fill_0 (by decide) ?_
  refine lv_istore_n (lv' := [(2, .int 0), (0, .ref (o + 123)), (1, .ref (o + 77))]) hx hb dX0_fill_1 rfl hl (by decide) rfl (fun ls hl => ?_)
  have loop1 : ∀ (n : Nat) (w1_2 : Int32) (z1 : Nat → Nat → Int32) (y1 : Nat → Nat → Int64), ((3 - w1_2.toInt : Int) < (n : Int)) → ((0 : Int) ≤ w1_2.toInt ∧ w1_2.toInt ≤ 3) → (qJU b z1) → ∀ (H : Heap) (locs : List Loc), qw_P D vwCl o 132 (qG (GU ca o) z1 y1) H → va_S (qw_A o 132) s.heap H locs → ∀ (ls : Array Slot), lv_has ls 3 [(2, .int w1_2), (0, .ref (o + 123)), (1, .ref (o + 77))] → W p l e (headSpec (Cond.code yX0_fill cX0_fill 3 (some .boolean) :: qtbl) ({ frames := 1, cells := 0, slots := 0, locals := 60 })).room s m (([.ref (o + 123), .ref (o + 77)] : List Value).toArray) below meth c H locs 0 0 (MQ below (va_Qi (fun r u => ((0 : Int) ≤ r.toInt ∧ r.toInt ≤ 1) ∧ qJU b u.1) (qB D vwCl (qT6 ca) o 132 (fun u : qZ => qG (GU ca o) u.1 u.2)) (qw_A o 132)) (([.ref (o + 123), .ref (o + 77)] : List Value).toArray) s 0 0 (qw_A o 132)) (F0 m 2 ls []) := by
    intro n
    induction n with
    | zero => intro w1_2 z1 y1 hb1 hv1_2 J1; exfalso; omega
    | succ n1 ih1 =>
      intro w1_2 z1 y1 hb1 hv1_2 J1 H locs hP hS ls hl
      refine lv_iload_n hx hb dX0_fill_2 rfl (lv_at hl 0 rfl) ?_
      refine lv_iconst (v := 3) hx hb dX0_fill_3 (by decide) ?_
      refine lv_icmp_ge (tgt := 61) hx hb dX0_fill_4 (by decide) (fun c2 => ?_) (fun c2 => ?_)
      · have t2 : w1_2.toInt ≥ (3 : Int) := gl_le c2
        refine lv_iconst (v := 1) hx hb dX0_fill_61 (by decide) ?_
        exact W.zret (v := 1) (ty := .boolean) hx hb hr rfl (fun t ht hW => ⟨⟨1, (z1, y1), rfl, ⟨⟨by decide, by decide⟩, J1⟩, by rw [ht]; exact hP, va_K.moved hW.alike hK⟩, hS.F ht⟩) hS.2.2 dX0_fill_62
      · have t2 : w1_2.toInt < (3 : Int) := gl_nle c2
        refine lv_aload_n hx hb dX0_fill_7 rfl (lv_at hl 1 rfl) ?_
        refine qf_get hx hb hts inX0 hown hK hP (q0 := 123) (by decide) (hgU_123 ca o) rfl 0 (by decide) wq_331 (v := .ref (o + 124)) rfl dX0_fill_8 ?_
        refine lv_iload_n hx hb dX0_fill_11 rfl (lv_at hl 0 rfl) ?_
        refine lv_aload_n hx hb dX0_fill_12 rfl (lv_at hl 2 rfl) ?_
        refine lv_iload_n hx hb dX0_fill_13 rfl (lv_at hl 0 rfl) ?_
        refine qa_iald hx hb hK hP (q0 := 77) (by decide) 0 (N := 260) (hgU_77 ca o) rfl (gi_in (by omega) (by omega)) dX0_fill_14 ?_
        refine lv_topi (fun x3 e3 => ?_)
        refine qa_iast2 hx hb hK hP hS qw_Ai (q0 := 124) (by decide) 0 (N := 3) (hgU_124 ca o) rfl (i := w1_2) (x := x3) (gi_in (by omega) (by omega)) dX0_fill_15 (fun z4 H locs hz4 hP hS => ?_)
        have J4 := jU_124 J1 hz4
        refine lv_aload_n hx hb dX0_fill_16 rfl (lv_at hl 1 rfl) ?_
        refine qf_get hx hb hts inX0 hown hK hP (q0 := 123) (by decide) (hgU_123 ca o) rfl 1 (by decide) wq_332 (v := .ref (o + 125)) rfl dX0_fill_17 ?_
        refine lv_iload_n hx hb dX0_fill_20 rfl (lv_at hl 0 rfl) ?_
        refine lv_aload_n hx hb dX0_fill_21 rfl (lv_at hl 2 rfl) ?_
        refine lv_iconst (v := 3) hx hb dX0_fill_22 (by decide) ?_
        refine lv_iload_n hx hb dX0_fill_23 rfl (lv_at hl 0 rfl) ?_
        refine lv_iadd hx hb dX0_fill_24 ?_
        refine lv_topi (fun x5 e5 => ?_)
        have t5 : x5.toInt = (3 : Int) + w1_2.toInt := ga_add e5 rfl rfl (by omega) (by omega)
        refine qa_iald hx hb hK hP (q0 := 77) (by decide) 0 (N := 260) (hgU_77 ca o) rfl (gi_in (by omega) (by omega)) dX0_fill_25 ?_
        refine lv_topi (fun x6 e6 => ?_)
        refine qa_iast2 hx hb hK hP hS qw_Ai (q0 := 125) (by decide) 0 (N := 3) (hgU_125 ca o) rfl (i := w1_2) (x := x6) (gi_in (by omega) (by omega)) dX0_fill_26 (fun z7 H locs hz7 hP hS => ?_)
        have J7 := jU_125 J4 hz7
        refine lv_aload_n hx hb dX0_fill_27 rfl (lv_at hl 1 rfl) ?_
        refine qf_get hx hb hts inX0 hown hK hP (q0 := 123) (by decide) (hgU_123 ca o) rfl 0 (by decide) wq_331 (v := .ref (o + 124)) rfl dX0_fill_28 ?_
        refine lv_iload_n hx hb dX0_fill_31 rfl (lv_at hl 0 rfl) ?_
        refine qa_iald hx hb hK hP (q0 := 124) (by decide) 0 (N := 3) (hgU_124 ca o) rfl (gi_in (by omega) (by omega)) dX0_fill_32 ?_
        refine lv_topi (fun x8 e8 => ?_)
        refine lv_bipush (v := 20) hx hb dX0_fill_33 (by decide) ?_
        refine lv_icmp_gt (tgt := 53) hx hb dX0_fill_35 (by decide) (fun c9 => ?_) (fun c9 => ?_)
        · have t9 : x8.toInt > (20 : Int) := gl_lt c9
          refine lv_iconst (v := 0) hx hb dX0_fill_53 (by decide) ?_
          exact W.zret (v := 0) (ty := .boolean) hx hb hr rfl (fun t ht hW => ⟨⟨0, (z7, y1), rfl, ⟨⟨by decide, by decide⟩, J7⟩, by rw [ht]; exact hP, va_K.moved hW.alike hK⟩, hS.F ht⟩) hS.2.2 dX0_fill_54
        · have t9 : x8.toInt ≤ (20 : Int) := gl_nlt c9
          refine lv_aload_n hx hb dX0_fill_38 rfl (lv_at hl 1 rfl) ?_
          refine qf_get hx hb hts inX0 hown hK hP (q0 := 123) (by decide) (hgU_123 ca o) rfl 1 (by decide) wq_332 (v := .ref (o + 125)) rfl dX0_fill_39 ?_
          refine lv_iload_n hx hb dX0_fill_42 rfl (lv_at hl 0 rfl) ?_
          refine qa_iald hx hb hK hP (q0 := 125) (by decide) 0 (N := 3) (hgU_125 ca o) rfl (gi_in (by omega) (by omega)) dX0_fill_43 ?_
          refine lv_topi (fun x10 e10 => ?_)
          refine lv_aload_n hx hb dX0_fill_44 rfl (lv_at hl 1 rfl) ?_
          refine qf_get hx hb hts inX0 hown hK hP (q0 := 123) (by decide) (hgU_123 ca o) rfl 0 (by decide) wq_331 (v := .ref (o + 124)) rfl dX0_fill_45 ?_
          refine lv_iload_n hx hb dX0_fill_48 rfl (lv_at hl 0 rfl) ?_
          refine qa_iald hx hb hK hP (q0 := 124) (by decide) 0 (N := 3) (hgU_124 ca o) rfl (gi_in (by omega) (by omega)) dX0_fill_49 ?_
          refine lv_topi (fun x11 e11 => ?_)
          have ag11 : x11.toInt = x8.toInt := congrArg Int32.toInt (e11.trans e8.symm)
          refine lv_icmp_le (tgt := 55) hx hb dX0_fill_50 (by decide) (fun c12 => ?_) (fun c12 => ?_)
          · have t12 : x10.toInt ≤ x11.toInt := gl_le c12
            obtain ⟨x13, e13⟩ : ∃ t : Int32, t = w1_2 + 1 := ⟨_, rfl⟩
            refine lv_iinc (v := x13) (lv' := [(2, .int x13), (0, .ref (o + 123)), (1, .ref (o + 77))]) hx hb dX0_fill_55 hl (k := 0) rfl (by rw [e13]; rfl) (by decide) rfl (fun ls hl => ?_)
            have t13 : x13.toInt = w1_2.toInt + (1 : Int) := ga_add e13 rfl rfl (by omega) (by omega)
            refine lv_goto (tgt := 2) hx hb dX0_fill_58 (by decide) ?_
            exact ih1 x13 z7 y1 (show (3 - x13.toInt : Int) < (n1 : Int) from by omega) ⟨by omega, by omega⟩ J7 _ _ hP hS _ (lv_sub hl [0, 1, 2] rfl)
          · have t12 : x10.toInt > x11.toInt := gl_nle c12
            refine lv_iconst (v := 0) hx hb dX0_fill_53 (by decide) ?_
            exact W.zret (v := 0) (ty := .boolean) hx hb hr rfl (fun t ht hW => ⟨⟨0, (z7, y1), rfl, ⟨⟨by decide, by decide⟩, J7⟩, by rw [ht]; exact hP, va_K.moved hW.alike hK⟩, hS.F ht⟩) hS.2.2 dX0_fill_54
  exact loop1 4 0 z y (show (3 - (0 : Int) : Int) < ((4 : Nat) : Int) from by omega) ⟨by decide, by decide⟩ J0 _ _ hP hS _ (lv_sub hl [0, 1, 2] rfl)
set_option maxRecDepth 100000 in
set_option maxHeartbeats 8000000 in
theorem u_Arrays_fill_v23 (l : Launch) (D : va_G) (ca : Nat → ClassId) (o : Nat) (b z : Nat → Nat → Int32) (y : Nat → Nat → Int64) (J0 : qJU b z) (a1 : Int32)  : qM l yJ7_fill_53178 cJ7_fill_53178 4 none 1 60 (qPre D vwCl (qT6 ca) o 132 (qG (GU ca o) z y) [.ref (o + 128), .int a1]) (va_Qv (fun u => qJU b u.1) (qB D vwCl (qT6 ca) o 132 (fun u : qZ => qG (GU ca o) u.1 u.2)) (qw_A o 132)) (qw_A o 132) := by
  refine Met.ofW (cc := cJ7_fill_53178) (maxL := 4) (ret := none) (by decide) rfl ?_
  intro p e s m args below meth c s₁ B hml hv
  obtain ⟨rfl, hP, hK⟩ := hv
  have hx := B.exec
  have hb := B.bytes
  have hr := B.returns
  have hts0 := atoms_spec (ws := Cond.code yJ7_fill_53178 cJ7_fill_53178 4 none :: qtbl) B.pre
  have hts : ∀ w ∈ qtbl, w.before _ s = true := fun w h => hts0 w (List.mem_cons_of_mem _ h)
  have hown : s.vm.findClass RJ7 = some m.cls := findClass_of_methodNamed B.named
  have hlocks := B.notSynchronized
  have hS : va_S (qw_A o 132) s.heap s.heap [] := va_S.rf
  have hl := lv_entry ([.ref (o + 128), .int a1]) (n := 4) (Nat.le_of_ble_eq_true rfl)
  rw [lg_entry_eq]
  generalize (lg_sl ([.ref (o + 128), .int a1]) ++ List.replicate (4 - (lg_sl ([.ref (o + 128), .int a1])).length) Slot.unset).toArray = ls at hl ⊢
  have hl : lv_has ls 4 [(0, .ref (o + 128)), (1, .int a1)] := hl
  refine lv_iconst (v := 0) hx hb dJ7_fill_53178_0 (by decide) ?_
  refine lv_istore_n (lv' := [(2, .int 0), (0, .ref (o + 128)), (1, .int a1)]) hx hb dJ7_fill_53178_1 rfl hl (by decide) rfl (fun ls hl => ?_)
  refine lv_aload_n hx hb dJ7_fill_53178_2 rfl (lv_at hl 1 rfl) ?_
  refine qa_len hx hb hK hP (q0 := 128) (by decide) 0 (hgU_128 ca o) rfl (v := 441) rfl dJ7_fill_53178_3 ?_
  refine lv_istore_n (lv' := [(3, .int 441), (2, .int 0), (0, .ref (o + 128)), (1, .int a1)]) hx hb dJ7_fill_53178_4 rfl hl (by decide) rfl (fun ls hl => ?_)
  have loop1 : ∀ (n : Nat) (w1_2 : Int32) (z1 : Nat → Nat → Int32) (y1 : Nat → Nat → Int64), ((441 - w1_2.toInt : Int) < (n : Int)) → ((0 : Int) ≤ w1_2.toInt ∧ w1_2.toInt ≤ 441) → (qJU b z1) → ∀ (H : Heap) (locs : List Loc), qw_P D vwCl o 132 (qG (GU ca o) z1 y1) H → va_S (qw_A o 132) s.heap H locs → ∀ (ls : Array Slot), lv_has ls 4 [(3, .int 441), (2, .int w1_2), (0, .ref (o + 128)), (1, .int a1)] → W p l e (headSpec (Cond.code yJ7_fill_53178 cJ7_fill_53178 4 none :: qtbl) ({ frames := 1, cells := 0, slots := 0, locals := 60 })).room s m (([.ref (o + 128), .int a1] : List Value).toArray) below meth c H locs 0 0 (MQ below (va_Qv (fun u => qJU b u.1) (qB D vwCl (qT6 ca) o 132 (fun u : qZ => qG (GU ca o) u.1 u.2)) (qw_A o 132)) (([.ref (o + 128), .int a1] : List Value).toArray) s 0 0 (qw_A o 132)) (F0 m 5 ls []) := by
    intro n
    induction n with
    | zero => intro w1_2 z1 y1 hb1 hv1_2 J1; exfalso; omega
    | succ n1 ih1 =>
      intro w1_2 z1 y1 hb1 hv1_2 J1 H locs hP hS ls hl
      refine lv_iload_n hx hb dJ7_fill_53178_5 rfl (lv_at hl 1 rfl) ?_
      refine lv_iload_n hx hb dJ7_fill_53178_6 rfl (lv_at hl 0 rfl) ?_
      refine lv_icmp_ge (tgt := 20) hx hb dJ7_fill_53178_7 (by decide) (fun c2 => ?_) (fun c2 => ?_)
      · have t2 : w1_2.toInt ≥ (441 : Int) := gl_le c2
        exact W.vret hx hb hr (fun t ht hW => ⟨⟨(z1, y1), rfl, J1, by rw [ht]; exact hP, va_K.moved hW.alike hK⟩, hS.F ht⟩) hS.2.2 dJ7_fill_53178_20
      · have t2 : w1_2.toInt < (441 : Int) := gl_nle c2
        refine lv_aload_n hx hb dJ7_fill_53178_10 rfl (lv_at hl 2 rfl) ?_
        refine lv_iload_n hx hb dJ7_fill_53178_11 rfl (lv_at hl 1 rfl) ?_
        refine lv_iload_n hx hb dJ7_fill_53178_12 rfl (lv_at hl 3 rfl) ?_
        refine qa_iast2 hx hb hK hP hS qw_Ai (q0 := 128) (by decide) 0 (N := 441) (hgU_128 ca o) rfl (i := w1_2) (x := a1) (gi_in (by omega) (by omega)) dJ7_fill_53178_13 (fun z3 H locs hz3 hP hS => ?_)
        have J3 := jU_128 J1 hz3
        obtain ⟨x4, e4⟩ : ∃ t : Int32, t = w1_2 + 1 := ⟨_, rfl⟩
        refine lv_iinc (v := x4) (lv' := [(2, .int x4), (3, .int 441), (0, .ref (o + 128)), (1, .int a1)]) hx hb dJ7_fill_53178_14 hl (k := 1) rfl (by rw [e4]; rfl) (by decide) rfl (fun ls hl => ?_)
        have t4 : x4.toInt = w1_2.toInt + (1 : Int) := ga_add e4 rfl rfl (by omega) (by omega)
        refine lv_goto (tgt := 5) hx hb dJ7_fill_53178_17 (by decide) ?_
        exact ih1 x4 z3 y1 (show (441 - x4.toInt : Int) < (n1 : Int) from by omega) ⟨by omega, by omega⟩ J3 _ _ hP hS _ (lv_sub hl [1, 0, 2, 3] rfl)
  exact loop1 442 0 z y (show (441 - (0 : Int) : Int) < ((442 : Nat) : Int) from by omega) ⟨by decide, by decide⟩ J0 _ _ hP hS _ (lv_sub hl [0, 1, 2, 3] rfl)
set_option maxRecDepth 100000 in
set_option maxHeartbeats 8000000 in
theorem u_Casks_reach (l : Launch) (D : va_G) (ca : Nat → ClassId) (o : Nat) (b z : Nat → Nat → Int32) (y : Nat → Nat → Int64) (J0 : qJU b z) (a1 : Int32)  : qM l yX0_reach cX0_reach 4 none 1 60 (qPre D vwCl (qT6 ca) o 132 (qG (GU ca o) z y) [.ref (o + 123), .ref (o + 125), .int a1]) (va_Qv (fun u => qJU b u.1) (qB D vwCl (qT6 ca) o 132 (fun u : qZ => qG (GU ca o) u.1 u.2)) (qw_A o 132)) (qw_A o 132) := by
  refine Met.ofW (cc := cX0_reach) (maxL := 4) (ret := none) (by decide) rfl ?_
  intro p e s m args below meth c s₁ B hml hv
  obtain ⟨rfl, hP, hK⟩ := hv
  have hx := B.exec
  have hb := B.bytes
  have hr := B.returns
  have hts0 := atoms_spec (ws := Cond.code yX0_reach cX0_reach 4 none :: qtbl) B.pre
  have hts : ∀ w ∈ qtbl, w.before _ s = true := fun w h => hts0 w (List.mem_cons_of_mem _ h)
  have hown : s.vm.findClass RX0 = some m.cls := findClass_of_methodNamed B.named
  have hlocks := B.notSynchronized
  have hS : va_S (qw_A o 132) s.heap s.heap [] := va_S.rf
  have hl := lv_entry ([.ref (o + 123), .ref (o + 125), .int a1]) (n := 4) (Nat.le_of_ble_eq_true rfl)
  rw [lg_entry_eq]
  generalize (lg_sl ([.ref (o + 123), .ref (o + 125), .int a1]) ++ List.replicate (4 - (lg_sl ([.ref (o + 123), .ref (o + 125), .int a1])).length) Slot.unset).toArray = ls at hl ⊢
  have hl : lv_has ls 4 [(0, .ref (o + 123)), (1, .ref (o + 125)), (2, .int a1)] := hl
  refine lv_aload_n hx hb dX0_reach_0 rfl (lv_at hl 1 rfl) ?_
  refine lv_iconst (v := 0) hx hb dX0_reach_1 (by decide) ?_
  refine qa_iald hx hb hK hP (q0 := 125) (by decide) 0 (N := 3) (hgU_125 ca o) rfl (gi_in (by decide) (by decide)) dX0_reach_2 ?_
  refine lv_topi (fun x1 e1 => ?_)
  refine lv_bipush (v := 21) hx hb dX0_reach_3 (by decide) ?_
  refine lv_imul hx hb dX0_reach_5 ?_
  refine lv_topi (fun x2 e2 => ?_)
  refine lv_aload_n hx hb dX0_reach_6 rfl (lv_at hl 1 rfl) ?_
  refine lv_iconst (v := 1) hx hb dX0_reach_7 (by decide) ?_
  refine qa_iald hx hb hK hP (q0 := 125) (by decide) 0 (N := 3) (hgU_125 ca o) rfl (gi_in (by decide) (by decide)) dX0_reach_8 ?_
  refine lv_topi (fun x3 e3 => ?_)
  refine lv_iadd hx hb dX0_reach_9 ?_
  refine lv_topi (fun x4 e4 => ?_)
  refine lv_istore_n (lv' := [(3, .int x4), (0, .ref (o + 123)), (1, .ref (o + 125)), (2, .int a1)]) hx hb dX0_reach_10 rfl hl (by decide) rfl (fun ls hl => ?_)
  refine lv_iload_n hx hb dX0_reach_11 rfl (lv_at hl 0 rfl) ?_
  refine lv_if_lt (tgt := 68) hx hb dX0_reach_12 (by decide) (fun c5 => ?_) (fun c5 => ?_)
  · have t5 : x4.toInt < (0 : Int) := gl_lt c5
    exact W.vret hx hb hr (fun t ht hW => ⟨⟨(z, y), rfl, J0, by rw [ht]; exact hP, va_K.moved hW.alike hK⟩, hS.F ht⟩) hS.2.2 dX0_reach_68
  · have t5 : x4.toInt ≥ (0 : Int) := gl_nlt c5
    refine lv_iload_n hx hb dX0_reach_15 rfl (lv_at hl 0 rfl) ?_
    refine lv_sipush (v := 441) hx hb dX0_reach_16 (by decide) ?_
    refine lv_icmp_ge (tgt := 68) hx hb dX0_reach_19 (by decide) (fun c6 => ?_) (fun c6 => ?_)
    · have t6 : x4.toInt ≥ (441 : Int) := gl_le c6
      exact W.vret hx hb hr (fun t ht hW => ⟨⟨(z, y), rfl, J0, by rw [ht]; exact hP, va_K.moved hW.alike hK⟩, hS.F ht⟩) hS.2.2 dX0_reach_68
    · have t6 : x4.toInt < (441 : Int) := gl_nle c6
      refine lv_aload_n hx hb dX0_reach_22 rfl (lv_at hl 1 rfl) ?_
      refine qf_get hx hb hts inX0 hown hK hP (q0 := 123) (by decide) (hgU_123 ca o) rfl 6 (by decide) wq_337 (v := .int (z 123 6)) rfl dX0_reach_23 ?_
      refine lv_topi (fun x7 e7 => ?_)
      have b7 := iU_123_6 J0 e7
      have k7 : x7.toInt = (z 123 6).toInt := congrArg Int32.toInt e7
      refine lv_sipush (v := 441) hx hb dX0_reach_26 (by decide) ?_
      refine lv_icmp_ge (tgt := 68) hx hb dX0_reach_29 (by decide) (fun c8 => ?_) (fun c8 => ?_)
      · have t8 : x7.toInt ≥ (441 : Int) := gl_le c8
        exact W.vret hx hb hr (fun t ht hW => ⟨⟨(z, y), rfl, J0, by rw [ht]; exact hP, va_K.moved hW.alike hK⟩, hS.F ht⟩) hS.2.2 dX0_reach_68
      · have t8 : x7.toInt < (441 : Int) := gl_nle c8
        refine lv_aload_n hx hb dX0_reach_32 rfl (lv_at hl 1 rfl) ?_
        refine qf_get hx hb hts inX0 hown hK hP (q0 := 123) (by decide) (hgU_123 ca o) rfl 4 (by decide) wq_335 (v := .ref (o + 128)) rfl dX0_reach_33 ?_
        refine lv_iload_n hx hb dX0_reach_36 rfl (lv_at hl 0 rfl) ?_
        refine qa_iald hx hb hK hP (q0 := 128) (by decide) 0 (N := 441) (hgU_128 ca o) rfl (gi_in (by omega) (by omega)) dX0_reach_37 ?_
        refine lv_topi (fun x9 e9 => ?_)
        refine lv_if_ge (tgt := 68) hx hb dX0_reach_38 (by decide) (fun c10 => ?_) (fun c10 => ?_)
        · have t10 : x9.toInt ≥ (0 : Int) := gl_le c10
          exact W.vret hx hb hr (fun t ht hW => ⟨⟨(z, y), rfl, J0, by rw [ht]; exact hP, va_K.moved hW.alike hK⟩, hS.F ht⟩) hS.2.2 dX0_reach_68
        · have t10 : x9.toInt < (0 : Int) := gl_nle c10
          refine lv_aload_n hx hb dX0_reach_41 rfl (lv_at hl 1 rfl) ?_
          refine qf_get hx hb hts inX0 hown hK hP (q0 := 123) (by decide) (hgU_123 ca o) rfl 4 (by decide) wq_335 (v := .ref (o + 128)) rfl dX0_reach_42 ?_
          refine lv_iload_n hx hb dX0_reach_45 rfl (lv_at hl 0 rfl) ?_
          refine lv_iload_n hx hb dX0_reach_46 rfl (lv_at hl 3 rfl) ?_
          refine qa_iast2 hx hb hK hP hS qw_Ai (q0 := 128) (by decide) 0 (N := 441) (hgU_128 ca o) rfl (i := x4) (x := a1) (gi_in (by omega) (by omega)) dX0_reach_47 (fun z11 H locs hz11 hP hS => ?_)
          have J11 := jU_128 J0 hz11
          have k11_0 : (z11 123 6).toInt = (z 123 6).toInt := congrArg Int32.toInt (qt_ne hz11 6 (by decide))
          refine lv_aload_n hx hb dX0_reach_48 rfl (lv_at hl 1 rfl) ?_
          refine qf_get hx hb hts inX0 hown hK hP (q0 := 123) (by decide) (hgU_123 ca o) rfl 5 (by decide) wq_336 (v := .ref (o + 129)) rfl dX0_reach_49 ?_
          refine lv_aload_n hx hb dX0_reach_52 rfl (lv_at hl 1 rfl) ?_
          refine qf_get hx hb hts inX0 hown hK hP (q0 := 123) (by decide) (hgU_123 ca o) rfl 6 (by decide) wq_337 (v := .int (z11 123 6)) rfl dX0_reach_53 ?_
          refine lv_topi (fun x12 e12 => ?_)
          have b12 := iU_123_6 J11 e12
          have k12 : x12.toInt = (z11 123 6).toInt := congrArg Int32.toInt e12
          refine lv_iload_n hx hb dX0_reach_56 rfl (lv_at hl 0 rfl) ?_
          refine qa_iast2 hx hb hK hP hS qw_Ai (q0 := 129) (by decide) 0 (N := 441) (hgU_129 ca o) rfl (i := x12) (x := x4) (gi_in (by omega) (by omega)) dX0_reach_57 (fun z13 H locs hz13 hP hS => ?_)
          have J13 := jU_129 J11 hz13 ⟨by omega, by omega⟩
          have k13_0 : (z13 123 6).toInt = (z11 123 6).toInt := congrArg Int32.toInt (qt_ne hz13 6 (by decide))
          refine lv_aload_n hx hb dX0_reach_58 rfl (lv_at hl 1 rfl) ?_
          refine lv_dup hx hb dX0_reach_59 rfl ?_
          refine qf_get hx hb hts inX0 hown hK hP (q0 := 123) (by decide) (hgU_123 ca o) rfl 6 (by decide) wq_337 (v := .int (z13 123 6)) rfl dX0_reach_60 ?_
          refine lv_topi (fun x14 e14 => ?_)
          have b14 := iU_123_6 J13 e14
          have k14 : x14.toInt = (z13 123 6).toInt := congrArg Int32.toInt e14
          refine lv_iconst (v := 1) hx hb dX0_reach_63 (by decide) ?_
          refine lv_iadd hx hb dX0_reach_64 ?_
          refine lv_topi (fun x15 e15 => ?_)
          have t15 : x15.toInt = x14.toInt + (1 : Int) := ga_add e15 rfl rfl (by omega) (by omega)
          refine qf_put2 hx hb hts inX0 tyX0 tyX0_ok nmX0 hown hK hP hS qw_Ai (q0 := 123) (by decide) (hgU_123 ca o) rfl 6 (by decide) wq_337 rfl (x := x15) 6 rfl rfl rfl (Nat.le_of_ble_eq_true rfl) dX0_reach_65 (fun z16 H locs hz16 hP hS => ?_)
          have J16 := jU_123_6 J13 hz16 ⟨by omega, by omega⟩
          have k16_0 : (z16 123 6).toInt = x15.toInt := congrArg Int32.toInt (qt_at hz16)
          exact W.vret hx hb hr (fun t ht hW => ⟨⟨(z16, y), rfl, J16, by rw [ht]; exact hP, va_K.moved hW.alike hK⟩, hS.F ht⟩) hS.2.2 dX0_reach_68
set_option maxRecDepth 100000 in
set_option maxHeartbeats 8000000 in
theorem u_Casks_setNow (l : Launch) (D : va_G) (ca : Nat → ClassId) (o : Nat) (b z : Nat → Nat → Int32) (y : Nat → Nat → Int64) (J0 : qJU b z) (a0 : Int32)  : qM l yX0_setNow cX0_setNow 2 none 1 60 (qPre D vwCl (qT6 ca) o 132 (qG (GU ca o) z y) [.ref (o + 123), .int a0]) (va_Qv (fun u => qJU b u.1) (qB D vwCl (qT6 ca) o 132 (fun u : qZ => qG (GU ca o) u.1 u.2)) (qw_A o 132)) (qw_A o 132) := by
  refine Met.ofW (cc := cX0_setNow) (maxL := 2) (ret := none) (by decide) rfl ?_
  intro p e s m args below meth c s₁ B hml hv
  obtain ⟨rfl, hP, hK⟩ := hv
  have hx := B.exec
  have hb := B.bytes
  have hr := B.returns
  have hts0 := atoms_spec (ws := Cond.code yX0_setNow cX0_setNow 2 none :: qtbl) B.pre
  have hts : ∀ w ∈ qtbl, w.before _ s = true := fun w h => hts0 w (List.mem_cons_of_mem _ h)
  have hown : s.vm.findClass RX0 = some m.cls := findClass_of_methodNamed B.named
  have hlocks := B.notSynchronized
  have hS : va_S (qw_A o 132) s.heap s.heap [] := va_S.rf
  have hl := lv_entry ([.ref (o + 123), .int a0]) (n := 2) (Nat.le_of_ble_eq_true rfl)
  rw [lg_entry_eq]
  generalize (lg_sl ([.ref (o + 123), .int a0]) ++ List.replicate (2 - (lg_sl ([.ref (o + 123), .int a0])).length) Slot.unset).toArray = ls at hl ⊢
  have hl : lv_has ls 2 [(0, .ref (o + 123)), (1, .int a0)] := hl
  refine lv_aload_n hx hb dX0_setNow_0 rfl (lv_at hl 0 rfl) ?_
  refine qf_get hx hb hts inX0 hown hK hP (q0 := 123) (by decide) (hgU_123 ca o) rfl 2 (by decide) wq_333 (v := .ref (o + 126)) rfl dX0_setNow_1 ?_
  refine lv_iconst (v := 0) hx hb dX0_setNow_4 (by decide) ?_
  refine lv_iload_n hx hb dX0_setNow_5 rfl (lv_at hl 1 rfl) ?_
  refine lv_bipush (v := 21) hx hb dX0_setNow_6 (by decide) ?_
  refine lv_idiv hx hb dX0_setNow_8 (by decide) ?_
  refine lv_topi (fun x1 e1 => ?_)
  refine qa_iast2 hx hb hK hP hS qw_Ai (q0 := 126) (by decide) 0 (N := 3) (hgU_126 ca o) rfl (i := 0) (x := x1) (gi_in (by decide) (by decide)) dX0_setNow_9 (fun z2 H locs hz2 hP hS => ?_)
  have J2 := jU_126 J0 hz2
  refine lv_aload_n hx hb dX0_setNow_10 rfl (lv_at hl 0 rfl) ?_
  refine qf_get hx hb hts inX0 hown hK hP (q0 := 123) (by decide) (hgU_123 ca o) rfl 2 (by decide) wq_333 (v := .ref (o + 126)) rfl dX0_setNow_11 ?_
  refine lv_iconst (v := 1) hx hb dX0_setNow_14 (by decide) ?_
  refine lv_iload_n hx hb dX0_setNow_15 rfl (lv_at hl 1 rfl) ?_
  refine lv_bipush (v := 21) hx hb dX0_setNow_16 (by decide) ?_
  refine lv_irem hx hb dX0_setNow_18 (by decide) ?_
  refine lv_topi (fun x3 e3 => ?_)
  refine qa_iast2 hx hb hK hP hS qw_Ai (q0 := 126) (by decide) 0 (N := 3) (hgU_126 ca o) rfl (i := 1) (x := x3) (gi_in (by decide) (by decide)) dX0_setNow_19 (fun z4 H locs hz4 hP hS => ?_)
  have J4 := jU_126 J2 hz4
  refine lv_aload_n hx hb dX0_setNow_20 rfl (lv_at hl 0 rfl) ?_
  refine qf_get hx hb hts inX0 hown hK hP (q0 := 123) (by decide) (hgU_123 ca o) rfl 2 (by decide) wq_333 (v := .ref (o + 126)) rfl dX0_setNow_21 ?_
  refine lv_iconst (v := 2) hx hb dX0_setNow_24 (by decide) ?_
  refine lv_aload_n hx hb dX0_setNow_25 rfl (lv_at hl 0 rfl) ?_
  refine qf_get hx hb hts inX0 hown hK hP (q0 := 123) (by decide) (hgU_123 ca o) rfl 1 (by decide) wq_332 (v := .ref (o + 125)) rfl dX0_setNow_26 ?_
  refine lv_iconst (v := 0) hx hb dX0_setNow_29 (by decide) ?_
  refine qa_iald hx hb hK hP (q0 := 125) (by decide) 0 (N := 3) (hgU_125 ca o) rfl (gi_in (by decide) (by decide)) dX0_setNow_30 ?_
  refine lv_topi (fun x5 e5 => ?_)
  refine lv_aload_n hx hb dX0_setNow_31 rfl (lv_at hl 0 rfl) ?_
  refine qf_get hx hb hts inX0 hown hK hP (q0 := 123) (by decide) (hgU_123 ca o) rfl 1 (by decide) wq_332 (v := .ref (o + 125)) rfl dX0_setNow_32 ?_
  refine lv_iconst (v := 1) hx hb dX0_setNow_35 (by decide) ?_
  refine qa_iald hx hb hK hP (q0 := 125) (by decide) 0 (N := 3) (hgU_125 ca o) rfl (gi_in (by decide) (by decide)) dX0_setNow_36 ?_
  refine lv_topi (fun x6 e6 => ?_)
  refine lv_iadd hx hb dX0_setNow_37 ?_
  refine lv_topi (fun x7 e7 => ?_)
  refine lv_aload_n hx hb dX0_setNow_38 rfl (lv_at hl 0 rfl) ?_
  refine qf_get hx hb hts inX0 hown hK hP (q0 := 123) (by decide) (hgU_123 ca o) rfl 1 (by decide) wq_332 (v := .ref (o + 125)) rfl dX0_setNow_39 ?_
  refine lv_iconst (v := 2) hx hb dX0_setNow_42 (by decide) ?_
  refine qa_iald hx hb hK hP (q0 := 125) (by decide) 0 (N := 3) (hgU_125 ca o) rfl (gi_in (by decide) (by decide)) dX0_setNow_43 ?_
  refine lv_topi (fun x8 e8 => ?_)
  refine lv_iadd hx hb dX0_setNow_44 ?_
  refine lv_topi (fun x9 e9 => ?_)
  refine lv_aload_n hx hb dX0_setNow_45 rfl (lv_at hl 0 rfl) ?_
  refine qf_get hx hb hts inX0 hown hK hP (q0 := 123) (by decide) (hgU_123 ca o) rfl 2 (by decide) wq_333 (v := .ref (o + 126)) rfl dX0_setNow_46 ?_
  refine lv_iconst (v := 0) hx hb dX0_setNow_49 (by decide) ?_
  refine qa_iald hx hb hK hP (q0 := 126) (by decide) 0 (N := 3) (hgU_126 ca o) rfl (gi_in (by decide) (by decide)) dX0_setNow_50 ?_
  refine lv_topi (fun x10 e10 => ?_)
  refine lv_isub hx hb dX0_setNow_51 ?_
  refine lv_topi (fun x11 e11 => ?_)
  refine lv_aload_n hx hb dX0_setNow_52 rfl (lv_at hl 0 rfl) ?_
  refine qf_get hx hb hts inX0 hown hK hP (q0 := 123) (by decide) (hgU_123 ca o) rfl 2 (by decide) wq_333 (v := .ref (o + 126)) rfl dX0_setNow_53 ?_
  refine lv_iconst (v := 1) hx hb dX0_setNow_56 (by decide) ?_
  refine qa_iald hx hb hK hP (q0 := 126) (by decide) 0 (N := 3) (hgU_126 ca o) rfl (gi_in (by decide) (by decide)) dX0_setNow_57 ?_
  refine lv_topi (fun x12 e12 => ?_)
  refine lv_isub hx hb dX0_setNow_58 ?_
  refine lv_topi (fun x13 e13 => ?_)
  refine qa_iast2 hx hb hK hP hS qw_Ai (q0 := 126) (by decide) 0 (N := 3) (hgU_126 ca o) rfl (i := 2) (x := x13) (gi_in (by decide) (by decide)) dX0_setNow_59 (fun z14 H locs hz14 hP hS => ?_)
  have J14 := jU_126 J4 hz14
  exact W.vret hx hb hr (fun t ht hW => ⟨⟨(z14, y), rfl, J14, by rw [ht]; exact hP, va_K.moved hW.alike hK⟩, hS.F ht⟩) hS.2.2 dX0_setNow_60
set_option maxRecDepth 100000 in
set_option maxHeartbeats 8000000 in
theorem u_Casks_reach_v1 (l : Launch) (D : va_G) (ca : Nat → ClassId) (o : Nat) (b z : Nat → Nat → Int32) (y : Nat → Nat → Int64) (J0 : qJU b z) (a1 : Int32)  : qM l yX0_reach cX0_reach 4 none 1 60 (qPre D vwCl (qT6 ca) o 132 (qG (GU ca o) z y) [.ref (o + 123), .ref (o + 127), .int a1]) (va_Qv (fun u => qJU b u.1) (qB D vwCl (qT6 ca) o 132 (fun u : qZ => qG (GU ca o) u.1 u.2)) (qw_A o 132)) (qw_A o 132) := by
  refine Met.ofW (cc := cX0_reach) (maxL := 4) (ret := none) (by decide) rfl ?_
  intro p e s m args below meth c s₁ B hml hv
  obtain ⟨rfl, hP, hK⟩ := hv
  have hx := B.exec
  have hb := B.bytes
  have hr := B.returns
  have hts0 := atoms_spec (ws := Cond.code yX0_reach cX0_reach 4 none :: qtbl) B.pre
  have hts : ∀ w ∈ qtbl, w.before _ s = true := fun w h => hts0 w (List.mem_cons_of_mem _ h)
  have hown : s.vm.findClass RX0 = some m.cls := findClass_of_methodNamed B.named
  have hlocks := B.notSynchronized
  have hS : va_S (qw_A o 132) s.heap s.heap [] := va_S.rf
  have hl := lv_entry ([.ref (o + 123), .ref (o + 127), .int a1]) (n := 4) (Nat.le_of_ble_eq_true rfl)
  rw [lg_entry_eq]
  generalize (lg_sl ([.ref (o + 123), .ref (o + 127), .int a1]) ++ List.replicate (4 - (lg_sl ([.ref (o + 123), .ref (o + 127), .int a1])).length) Slot.unset).toArray = ls at hl ⊢
  have hl : lv_has ls 4 [(0, .ref (o + 123)), (1, .ref (o + 127)), (2, .int a1)] := hl
  refine lv_aload_n hx hb dX0_reach_0 rfl (lv_at hl 1 rfl) ?_
  refine lv_iconst (v := 0) hx hb dX0_reach_1 (by decide) ?_
  refine qa_iald hx hb hK hP (q0 := 127) (by decide) 0 (N := 3) (hgU_127 ca o) rfl (gi_in (by decide) (by decide)) dX0_reach_2 ?_
  refine lv_topi (fun x1 e1 => ?_)
  refine lv_bipush (v := 21) hx hb dX0_reach_3 (by decide) ?_
  refine lv_imul hx hb dX0_reach_5 ?_
  refine lv_topi (fun x2 e2 => ?_)
  refine lv_aload_n hx hb dX0_reach_6 rfl (lv_at hl 1 rfl) ?_
  refine lv_iconst (v := 1) hx hb dX0_reach_7 (by decide) ?_
  refine qa_iald hx hb hK hP (q0 := 127) (by decide) 0 (N := 3) (hgU_127 ca o) rfl (gi_in (by decide) (by decide)) dX0_reach_8 ?_
  refine lv_topi (fun x3 e3 => ?_)
  refine lv_iadd hx hb dX0_reach_9 ?_
  refine lv_topi (fun x4 e4 => ?_)
  refine lv_istore_n (lv' := [(3, .int x4), (0, .ref (o + 123)), (1, .ref (o + 127)), (2, .int a1)]) hx hb dX0_reach_10 rfl hl (by decide) rfl (fun ls hl => ?_)
  refine lv_iload_n hx hb dX0_reach_11 rfl (lv_at hl 0 rfl) ?_
  refine lv_if_lt (tgt := 68) hx hb dX0_reach_12 (by decide) (fun c5 => ?_) (fun c5 => ?_)
  · have t5 : x4.toInt < (0 : Int) := gl_lt c5
    exact W.vret hx hb hr (fun t ht hW => ⟨⟨(z, y), rfl, J0, by rw [ht]; exact hP, va_K.moved hW.alike hK⟩, hS.F ht⟩) hS.2.2 dX0_reach_68
  · have t5 : x4.toInt ≥ (0 : Int) := gl_nlt c5
    refine lv_iload_n hx hb dX0_reach_15 rfl (lv_at hl 0 rfl) ?_
    refine lv_sipush (v := 441) hx hb dX0_reach_16 (by decide) ?_
    refine lv_icmp_ge (tgt := 68) hx hb dX0_reach_19 (by decide) (fun c6 => ?_) (fun c6 => ?_)
    · have t6 : x4.toInt ≥ (441 : Int) := gl_le c6
      exact W.vret hx hb hr (fun t ht hW => ⟨⟨(z, y), rfl, J0, by rw [ht]; exact hP, va_K.moved hW.alike hK⟩, hS.F ht⟩) hS.2.2 dX0_reach_68
    · have t6 : x4.toInt < (441 : Int) := gl_nle c6
      refine lv_aload_n hx hb dX0_reach_22 rfl (lv_at hl 1 rfl) ?_
      refine qf_get hx hb hts inX0 hown hK hP (q0 := 123) (by decide) (hgU_123 ca o) rfl 6 (by decide) wq_337 (v := .int (z 123 6)) rfl dX0_reach_23 ?_
      refine lv_topi (fun x7 e7 => ?_)
      have b7 := iU_123_6 J0 e7
      have k7 : x7.toInt = (z 123 6).toInt := congrArg Int32.toInt e7
      refine lv_sipush (v := 441) hx hb dX0_reach_26 (by decide) ?_
      refine lv_icmp_ge (tgt := 68) hx hb dX0_reach_29 (by decide) (fun c8 => ?_) (fun c8 => ?_)
      · have t8 : x7.toInt ≥ (441 : Int) := gl_le c8
        exact W.vret hx hb hr (fun t ht hW => ⟨⟨(z, y), rfl, J0, by rw [ht]; exact hP, va_K.moved hW.alike hK⟩, hS.F ht⟩) hS.2.2 dX0_reach_68
      · have t8 : x7.toInt < (441 : Int) := gl_nle c8
        refine lv_aload_n hx hb dX0_reach_32 rfl (lv_at hl 1 rfl) ?_
        refine qf_get hx hb hts inX0 hown hK hP (q0 := 123) (by decide) (hgU_123 ca o) rfl 4 (by decide) wq_335 (v := .ref (o + 128)) rfl dX0_reach_33 ?_
        refine lv_iload_n hx hb dX0_reach_36 rfl (lv_at hl 0 rfl) ?_
        refine qa_iald hx hb hK hP (q0 := 128) (by decide) 0 (N := 441) (hgU_128 ca o) rfl (gi_in (by omega) (by omega)) dX0_reach_37 ?_
        refine lv_topi (fun x9 e9 => ?_)
        refine lv_if_ge (tgt := 68) hx hb dX0_reach_38 (by decide) (fun c10 => ?_) (fun c10 => ?_)
        · have t10 : x9.toInt ≥ (0 : Int) := gl_le c10
          exact W.vret hx hb hr (fun t ht hW => ⟨⟨(z, y), rfl, J0, by rw [ht]; exact hP, va_K.moved hW.alike hK⟩, hS.F ht⟩) hS.2.2 dX0_reach_68
        · have t10 : x9.toInt < (0 : Int) := gl_nle c10
          refine lv_aload_n hx hb dX0_reach_41 rfl (lv_at hl 1 rfl) ?_
          refine qf_get hx hb hts inX0 hown hK hP (q0 := 123) (by decide) (hgU_123 ca o) rfl 4 (by decide) wq_335 (v := .ref (o + 128)) rfl dX0_reach_42 ?_
          refine lv_iload_n hx hb dX0_reach_45 rfl (lv_at hl 0 rfl) ?_
          refine lv_iload_n hx hb dX0_reach_46 rfl (lv_at hl 3 rfl) ?_
          refine qa_iast2 hx hb hK hP hS qw_Ai (q0 := 128) (by decide) 0 (N := 441) (hgU_128 ca o) rfl (i := x4) (x := a1) (gi_in (by omega) (by omega)) dX0_reach_47 (fun z11 H locs hz11 hP hS => ?_)
          have J11 := jU_128 J0 hz11
          have k11_0 : (z11 123 6).toInt = (z 123 6).toInt := congrArg Int32.toInt (qt_ne hz11 6 (by decide))
          refine lv_aload_n hx hb dX0_reach_48 rfl (lv_at hl 1 rfl) ?_
          refine qf_get hx hb hts inX0 hown hK hP (q0 := 123) (by decide) (hgU_123 ca o) rfl 5 (by decide) wq_336 (v := .ref (o + 129)) rfl dX0_reach_49 ?_
          refine lv_aload_n hx hb dX0_reach_52 rfl (lv_at hl 1 rfl) ?_
          refine qf_get hx hb hts inX0 hown hK hP (q0 := 123) (by decide) (hgU_123 ca o) rfl 6 (by decide) wq_337 (v := .int (z11 123 6)) rfl dX0_reach_53 ?_
          refine lv_topi (fun x12 e12 => ?_)
          have b12 := iU_123_6 J11 e12
          have k12 : x12.toInt = (z11 123 6).toInt := congrArg Int32.toInt e12
          refine lv_iload_n hx hb dX0_reach_56 rfl (lv_at hl 0 rfl) ?_
          refine qa_iast2 hx hb hK hP hS qw_Ai (q0 := 129) (by decide) 0 (N := 441) (hgU_129 ca o) rfl (i := x12) (x := x4) (gi_in (by omega) (by omega)) dX0_reach_57 (fun z13 H locs hz13 hP hS => ?_)
          have J13 := jU_129 J11 hz13 ⟨by omega, by omega⟩
          have k13_0 : (z13 123 6).toInt = (z11 123 6).toInt := congrArg Int32.toInt (qt_ne hz13 6 (by decide))
          refine lv_aload_n hx hb dX0_reach_58 rfl (lv_at hl 1 rfl) ?_
          refine lv_dup hx hb dX0_reach_59 rfl ?_
          refine qf_get hx hb hts inX0 hown hK hP (q0 := 123) (by decide) (hgU_123 ca o) rfl 6 (by decide) wq_337 (v := .int (z13 123 6)) rfl dX0_reach_60 ?_
          refine lv_topi (fun x14 e14 => ?_)
          have b14 := iU_123_6 J13 e14
          have k14 : x14.toInt = (z13 123 6).toInt := congrArg Int32.toInt e14
          refine lv_iconst (v := 1) hx hb dX0_reach_63 (by decide) ?_
          refine lv_iadd hx hb dX0_reach_64 ?_
          refine lv_topi (fun x15 e15 => ?_)
          have t15 : x15.toInt = x14.toInt + (1 : Int) := ga_add e15 rfl rfl (by omega) (by omega)
          refine qf_put2 hx hb hts inX0 tyX0 tyX0_ok nmX0 hown hK hP hS qw_Ai (q0 := 123) (by decide) (hgU_123 ca o) rfl 6 (by decide) wq_337 rfl (x := x15) 6 rfl rfl rfl (Nat.le_of_ble_eq_true rfl) dX0_reach_65 (fun z16 H locs hz16 hP hS => ?_)
          have J16 := jU_123_6 J13 hz16 ⟨by omega, by omega⟩
          have k16_0 : (z16 123 6).toInt = x15.toInt := congrArg Int32.toInt (qt_at hz16)
          exact W.vret hx hb hr (fun t ht hW => ⟨⟨(z16, y), rfl, J16, by rw [ht]; exact hP, va_K.moved hW.alike hK⟩, hS.F ht⟩) hS.2.2 dX0_reach_68
