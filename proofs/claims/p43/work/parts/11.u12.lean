set_option maxRecDepth 100000 in
set_option maxHeartbeats 8000000 in
theorem u_Casks_pourOne (l : Launch) (D : va_G) (ca : Nat → ClassId) (o : Nat) (b z : Nat → Nat → Int32) (y : Nat → Nat → Int64) (J0 : qJU b z) (a0 : Int32) (a1 : Int32) (a2 : Int32) (ha0 : (0 : Int) ≤ a0.toInt ∧ a0.toInt ≤ 2) (ha1 : (0 : Int) ≤ a1.toInt ∧ a1.toInt ≤ 2) : qM l yX0_pourOne cX0_pourOne 5 none 2 83 (qPre D vwCl (qT6 ca) o 132 (qG (GU ca o) z y) [.ref (o + 123), .int a0, .int a1, .int a2]) (va_Qv (fun u => qJU b u.1) (qB D vwCl (qT6 ca) o 132 (fun u : qZ => qG (GU ca o) u.1 u.2)) (qw_A o 132)) (qw_A o 132) := by
  refine Met.ofW (cc := cX0_pourOne) (maxL := 5) (ret := none) (by decide) rfl ?_
  intro p e s m args below meth c s₁ B hml hv
  obtain ⟨rfl, hP, hK⟩ := hv
  have hx := B.exec
  have hb := B.bytes
  have hr := B.returns
  have hts0 := atoms_spec (ws := Cond.code yX0_pourOne cX0_pourOne 5 none :: qtbl) B.pre
  have hts : ∀ w ∈ qtbl, w.before _ s = true := fun w h => hts0 w (List.mem_cons_of_mem _ h)
  have hown : s.vm.findClass RX0 = some m.cls := findClass_of_methodNamed B.named
  have hlocks := B.notSynchronized
  have hS : va_S (qw_A o 132) s.heap s.heap [] := va_S.rf
  have hl := lv_entry ([.ref (o + 123), .int a0, .int a1, .int a2]) (n := 5) (Nat.le_of_ble_eq_true rfl)
  rw [lg_entry_eq]
  generalize (lg_sl ([.ref (o + 123), .int a0, .int a1, .int a2]) ++ List.replicate (5 - (lg_sl ([.ref (o + 123), .int a0, .int a1, .int a2])).length) Slot.unset).toArray = ls at hl ⊢
  have hl : lv_has ls 5 [(0, .ref (o + 123)), (1, .int a0), (2, .int a1), (3, .int a2)] := hl
  refine lv_aload_n hx hb dX0_pourOne_0 rfl (lv_at hl 0 rfl) ?_
  refine qf_get hx hb hts inX0 hown hK hP (q0 := 123) (by decide) (hgU_123 ca o) rfl 2 (by decide) wq_333 (v := .ref (o + 126)) rfl dX0_pourOne_1 ?_
  refine lv_iload_n hx hb dX0_pourOne_4 rfl (lv_at hl 1 rfl) ?_
  refine qa_iald hx hb hK hP (q0 := 126) (by decide) 0 (N := 3) (hgU_126 ca o) rfl (gi_in (by omega) (by omega)) dX0_pourOne_5 ?_
  refine lv_topi (fun x1 e1 => ?_)
  refine lv_aload_n hx hb dX0_pourOne_6 rfl (lv_at hl 0 rfl) ?_
  refine qf_get hx hb hts inX0 hown hK hP (q0 := 123) (by decide) (hgU_123 ca o) rfl 0 (by decide) wq_331 (v := .ref (o + 124)) rfl dX0_pourOne_7 ?_
  refine lv_iload_n hx hb dX0_pourOne_10 rfl (lv_at hl 2 rfl) ?_
  refine qa_iald hx hb hK hP (q0 := 124) (by decide) 0 (N := 3) (hgU_124 ca o) rfl (gi_in (by omega) (by omega)) dX0_pourOne_11 ?_
  refine lv_topi (fun x2 e2 => ?_)
  refine lv_aload_n hx hb dX0_pourOne_12 rfl (lv_at hl 0 rfl) ?_
  refine qf_get hx hb hts inX0 hown hK hP (q0 := 123) (by decide) (hgU_123 ca o) rfl 2 (by decide) wq_333 (v := .ref (o + 126)) rfl dX0_pourOne_13 ?_
  refine lv_iload_n hx hb dX0_pourOne_16 rfl (lv_at hl 2 rfl) ?_
  refine qa_iald hx hb hK hP (q0 := 126) (by decide) 0 (N := 3) (hgU_126 ca o) rfl (gi_in (by omega) (by omega)) dX0_pourOne_17 ?_
  refine lv_topi (fun x3 e3 => ?_)
  refine lv_isub hx hb dX0_pourOne_18 ?_
  refine lv_topi (fun x4 e4 => ?_)
  refine va_mmin hx hb (hml.trans hl.1.symm) hown (hts _ wq_968) (hts _ wq_444) (hts _ wq_14) (hts _ wq_445) (Nat.le_of_ble_eq_true rfl) (Nat.le_of_ble_eq_true rfl) (Nat.zero_le _) (Nat.zero_le _) dX0_pourOne_19 ?_
  refine lv_topi (fun x5 e5 => ?_)
  have t5 : x5.toInt = min x1.toInt x4.toInt := ga_min e5
  refine lv_istore (lv' := [(4, .int x5), (0, .ref (o + 123)), (1, .int a0), (2, .int a1), (3, .int a2)]) hx hb dX0_pourOne_22 hl (by decide) rfl (fun ls hl => ?_)
  refine lv_aload_n hx hb dX0_pourOne_24 rfl (lv_at hl 1 rfl) ?_
  refine qf_get hx hb hts inX0 hown hK hP (q0 := 123) (by decide) (hgU_123 ca o) rfl 2 (by decide) wq_333 (v := .ref (o + 126)) rfl dX0_pourOne_25 ?_
  refine lv_iconst (v := 0) hx hb dX0_pourOne_28 (by decide) ?_
  refine lv_aload_n hx hb dX0_pourOne_29 rfl (lv_at hl 1 rfl) ?_
  refine qf_get hx hb hts inX0 hown hK hP (q0 := 123) (by decide) (hgU_123 ca o) rfl 3 (by decide) wq_334 (v := .ref (o + 127)) rfl dX0_pourOne_30 ?_
  refine lv_iconst (v := 0) hx hb dX0_pourOne_33 (by decide) ?_
  refine lv_iconst (v := 3) hx hb dX0_pourOne_34 (by decide) ?_
  refine qa_copy2 hx hb (hml.trans hl.1.symm) hown (hts _ wq_969) (hts _ wq_485) (hts _ wq_484) (hts _ wq_15) hK hP hS qw_Ai (q0 := 126) (q1 := 127) (by decide) (by decide) 0 (hgU_126 ca o) (hgU_127 ca o) rfl (sp := 0) (dp := 0) (k := 3) (by decide) (by decide) (by decide) (by decide) (by decide) (Nat.le_of_ble_eq_true rfl) (Nat.le_of_ble_eq_true rfl) dX0_pourOne_35 (fun z6 H locs hz6 hP hS => ?_)
  have J6 := jfU_127 J0 hz6
  refine lv_aload_n hx hb dX0_pourOne_38 rfl (lv_at hl 1 rfl) ?_
  refine qf_get hx hb hts inX0 hown hK hP (q0 := 123) (by decide) (hgU_123 ca o) rfl 3 (by decide) wq_334 (v := .ref (o + 127)) rfl dX0_pourOne_39 ?_
  refine lv_iload_n hx hb dX0_pourOne_42 rfl (lv_at hl 2 rfl) ?_
  refine lv_dup2_11 hx hb dX0_pourOne_43 rfl rfl ?_
  refine qa_iald hx hb hK hP (q0 := 127) (by decide) 0 (N := 3) (hgU_127 ca o) rfl (gi_in (by omega) (by omega)) dX0_pourOne_44 ?_
  refine lv_topi (fun x7 e7 => ?_)
  refine lv_iload hx hb dX0_pourOne_45 (lv_at hl 0 rfl) ?_
  refine lv_isub hx hb dX0_pourOne_47 ?_
  refine lv_topi (fun x8 e8 => ?_)
  refine qa_iast2 hx hb hK hP hS qw_Ai (q0 := 127) (by decide) 0 (N := 3) (hgU_127 ca o) rfl (i := a0) (x := x8) (gi_in (by omega) (by omega)) dX0_pourOne_48 (fun z9 H locs hz9 hP hS => ?_)
  have J9 := jU_127 J6 hz9
  refine lv_aload_n hx hb dX0_pourOne_49 rfl (lv_at hl 1 rfl) ?_
  refine qf_get hx hb hts inX0 hown hK hP (q0 := 123) (by decide) (hgU_123 ca o) rfl 3 (by decide) wq_334 (v := .ref (o + 127)) rfl dX0_pourOne_50 ?_
  refine lv_iload_n hx hb dX0_pourOne_53 rfl (lv_at hl 3 rfl) ?_
  refine lv_dup2_11 hx hb dX0_pourOne_54 rfl rfl ?_
  refine qa_iald hx hb hK hP (q0 := 127) (by decide) 0 (N := 3) (hgU_127 ca o) rfl (gi_in (by omega) (by omega)) dX0_pourOne_55 ?_
  refine lv_topi (fun x10 e10 => ?_)
  refine lv_iload hx hb dX0_pourOne_56 (lv_at hl 0 rfl) ?_
  refine lv_iadd hx hb dX0_pourOne_58 ?_
  refine lv_topi (fun x11 e11 => ?_)
  refine qa_iast2 hx hb hK hP hS qw_Ai (q0 := 127) (by decide) 0 (N := 3) (hgU_127 ca o) rfl (i := a1) (x := x11) (gi_in (by omega) (by omega)) dX0_pourOne_59 (fun z12 H locs hz12 hP hS => ?_)
  have J12 := jU_127 J9 hz12
  refine lv_aload_n hx hb dX0_pourOne_60 rfl (lv_at hl 1 rfl) ?_
  refine lv_aload_n hx hb dX0_pourOne_61 rfl (lv_at hl 1 rfl) ?_
  refine qf_get hx hb hts inX0 hown hK hP (q0 := 123) (by decide) (hgU_123 ca o) rfl 3 (by decide) wq_334 (v := .ref (o + 127)) rfl dX0_pourOne_62 ?_
  refine lv_iload_n hx hb dX0_pourOne_65 rfl (lv_at hl 4 rfl) ?_
  refine qc_Vv2 (As := [.ref (o + 127), .int a2]) (rest := []) (k0 := 2) (u_Casks_reach_v1 l D ca o b z12 y J12 a2) kc_yX0_reach ⟨hx, hb, hml, hown, hts⟩ wq_956 rfl rfl ⟨Nat.le_of_ble_eq_true rfl, Nat.le_of_ble_eq_true rfl⟩ wq_all hP hK hS qw_Ai (q0 := 123) (by decide) (hgU_123 ca o _ _) rfl rfl hl.1 rfl (Nat.le_of_ble_eq_true rfl) dX0_pourOne_66 ⟨Nat.zero_le _, Nat.zero_le _⟩ (fun z13 y13 H locs h13 hP hS _ _ => ?_)
  have J13 : qJU b z13 := h13
  exact W.vret hx hb hr (fun t ht hW => ⟨⟨(z13, y13), rfl, J13, by rw [ht]; exact hP, va_K.moved hW.alike hK⟩, hS.F ht⟩) hS.2.2 dX0_pourOne_69
set_option maxRecDepth 100000 in
set_option maxHeartbeats 8000000 in
theorem u_Casks_pour (l : Launch) (D : va_G) (ca : Nat → ClassId) (o : Nat) (b z : Nat → Nat → Int32) (y : Nat → Nat → Int64) (J0 : qJU b z) (a0 : Int32)  : qM l yX0_pour cX0_pour 6 (some .int) 3 107 (qPre D vwCl (qT6 ca) o 132 (qG (GU ca o) z y) [.ref (o + 123), .int a0]) (va_Qi (fun r u => True ∧ qJU b u.1) (qB D vwCl (qT6 ca) o 132 (fun u : qZ => qG (GU ca o) u.1 u.2)) (qw_A o 132)) (qw_A o 132) := by
  refine Met.ofW (cc := cX0_pour) (maxL := 6) (ret := (some .int)) (by decide) rfl ?_
  intro p e s m args below meth c s₁ B hml hv
  obtain ⟨rfl, hP, hK⟩ := hv
  have hx := B.exec
  have hb := B.bytes
  have hr := B.returns
  have hts0 := atoms_spec (ws := Cond.code yX0_pour cX0_pour 6 (some .int) :: qtbl) B.pre
  have hts : ∀ w ∈ qtbl, w.before _ s = true := fun w h => hts0 w (List.mem_cons_of_mem _ h)
  have hown : s.vm.findClass RX0 = some m.cls := findClass_of_methodNamed B.named
  have hlocks := B.notSynchronized
  have hS : va_S (qw_A o 132) s.heap s.heap [] := va_S.rf
  have hl := lv_entry ([.ref (o + 123), .int a0]) (n := 6) (Nat.le_of_ble_eq_true rfl)
  rw [lg_entry_eq]
  generalize (lg_sl ([.ref (o + 123), .int a0]) ++ List.replicate (6 - (lg_sl ([.ref (o + 123), .int a0])).length) Slot.unset).toArray = ls at hl ⊢
  have hl : lv_has ls 6 [(0, .ref (o + 123)), (1, .int a0)] := hl
  refine lv_aload_n hx hb dX0_pour_0 rfl (lv_at hl 0 rfl) ?_
  refine qf_get hx hb hts inX0 hown hK hP (q0 := 123) (by decide) (hgU_123 ca o) rfl 4 (by decide) wq_335 (v := .ref (o + 128)) rfl dX0_pour_1 ?_
  refine lv_iconst (v := (-1)) hx hb dX0_pour_4 (by decide) ?_
  refine qc_Sv2 (As := [.ref (o + 128), .int ((-1))]) (rest := []) (k0 := 2) (u_Arrays_fill_v23 l D ca o b z y J0 (-1)) kc_yJ7_fill_53178 ⟨hx, hb, hml, hown, hts⟩ wq_955 rfl rfl ⟨Nat.le_of_ble_eq_true rfl, Nat.le_of_ble_eq_true rfl⟩ wq_all hP hK hS qw_Ai rfl hl.1 rfl (Nat.le_of_ble_eq_true rfl) dX0_pour_5 ⟨Nat.zero_le _, Nat.zero_le _⟩ (fun z1 y1 H locs h1 hP hS _ _ => ?_)
  have J1 : qJU b z1 := h1
  refine lv_aload_n hx hb dX0_pour_8 rfl (lv_at hl 0 rfl) ?_
  refine lv_iconst (v := 0) hx hb dX0_pour_9 (by decide) ?_
  refine qf_put2 hx hb hts inX0 tyX0 tyX0_ok nmX0 hown hK hP hS qw_Ai (q0 := 123) (by decide) (hgU_123 ca o) rfl 6 (by decide) wq_337 rfl (x := 0) 6 rfl rfl rfl (Nat.le_of_ble_eq_true rfl) dX0_pour_10 (fun z2 H locs hz2 hP hS => ?_)
  have J2 := jU_123_6 J1 hz2 ⟨by decide, by decide⟩
  refine lv_aload_n hx hb dX0_pour_13 rfl (lv_at hl 0 rfl) ?_
  refine lv_aload_n hx hb dX0_pour_14 rfl (lv_at hl 0 rfl) ?_
  refine qf_get hx hb hts inX0 hown hK hP (q0 := 123) (by decide) (hgU_123 ca o) rfl 1 (by decide) wq_332 (v := .ref (o + 125)) rfl dX0_pour_15 ?_
  refine lv_iconst (v := 0) hx hb dX0_pour_18 (by decide) ?_
  refine qc_Vv2 (As := [.ref (o + 125), .int 0]) (rest := []) (k0 := 2) (u_Casks_reach l D ca o b z2 y1 J2 0) kc_yX0_reach ⟨hx, hb, hml, hown, hts⟩ wq_956 rfl rfl ⟨Nat.le_of_ble_eq_true rfl, Nat.le_of_ble_eq_true rfl⟩ wq_all hP hK hS qw_Ai (q0 := 123) (by decide) (hgU_123 ca o _ _) rfl rfl hl.1 rfl (Nat.le_of_ble_eq_true rfl) dX0_pour_19 ⟨Nat.zero_le _, Nat.zero_le _⟩ (fun z3 y3 H locs h3 hP hS _ _ => ?_)
  have J3 : qJU b z3 := h3
  refine lv_iconst (v := 0) hx hb dX0_pour_22 (by decide) ?_
  refine lv_istore_n (lv' := [(2, .int 0), (0, .ref (o + 123)), (1, .int a0)]) hx hb dX0_pour_23 rfl hl (by decide) rfl (fun ls hl => ?_)
  have loop4 : ∀ (n : Nat) (w4_2 : Int32) (z4 : Nat → Nat → Int32) (y4 : Nat → Nat → Int64), ((441 - w4_2.toInt : Int) < (n : Int)) → ((0 : Int) ≤ w4_2.toInt ∧ w4_2.toInt ≤ 441) → (qJU b z4) → ∀ (H : Heap) (locs : List Loc), qw_P D vwCl o 132 (qG (GU ca o) z4 y4) H → va_S (qw_A o 132) s.heap H locs → ∀ (ls : Array Slot), lv_has ls 6 [(2, .int w4_2), (0, .ref (o + 123)), (1, .int a0)] → W p l e (headSpec (Cond.code yX0_pour cX0_pour 6 (some .int) :: qtbl) ({ frames := 3, cells := 0, slots := 0, locals := 107 })).room s m (([.ref (o + 123), .int a0] : List Value).toArray) below meth c H locs 0 0 (MQ below (va_Qi (fun r u => True ∧ qJU b u.1) (qB D vwCl (qT6 ca) o 132 (fun u : qZ => qG (GU ca o) u.1 u.2)) (qw_A o 132)) (([.ref (o + 123), .int a0] : List Value).toArray) s 0 0 (qw_A o 132)) (F0 m 24 ls []) := by
    intro n
    induction n with
    | zero => intro w4_2 z4 y4 hb4 hv4_2 J4; exfalso; omega
    | succ n4 ih4 =>
      intro w4_2 z4 y4 hb4 hv4_2 J4 H locs hP hS ls hl
      refine lv_iload_n hx hb dX0_pour_24 rfl (lv_at hl 0 rfl) ?_
      refine lv_sipush (v := 441) hx hb dX0_pour_25 (by decide) ?_
      refine lv_icmp_ge (tgt := 147) hx hb dX0_pour_28 (by decide) (fun c5 => ?_) (fun c5 => ?_)
      · have t5 : w4_2.toInt ≥ (441 : Int) := gl_le c5
        refine lv_bipush (v := (-2)) hx hb dX0_pour_147 (by decide) ?_
        exact W.iret (v := (-2)) hx hb hr (fun t ht hW => ⟨⟨(-2), (z4, y4), rfl, ⟨trivial, J4⟩, by rw [ht]; exact hP, va_K.moved hW.alike hK⟩, hS.F ht⟩) hS.2.2 dX0_pour_149
      · have t5 : w4_2.toInt < (441 : Int) := gl_nle c5
        refine lv_iload_n hx hb dX0_pour_31 rfl (lv_at hl 0 rfl) ?_
        refine lv_aload_n hx hb dX0_pour_32 rfl (lv_at hl 1 rfl) ?_
        refine qf_get hx hb hts inX0 hown hK hP (q0 := 123) (by decide) (hgU_123 ca o) rfl 6 (by decide) wq_337 (v := .int (z4 123 6)) rfl dX0_pour_33 ?_
        refine lv_topi (fun x6 e6 => ?_)
        have b6 := iU_123_6 J4 e6
        refine lv_icmp_ge (tgt := 147) hx hb dX0_pour_36 (by decide) (fun c7 => ?_) (fun c7 => ?_)
        · have t7 : w4_2.toInt ≥ x6.toInt := gl_le c7
          refine lv_bipush (v := (-2)) hx hb dX0_pour_147 (by decide) ?_
          exact W.iret (v := (-2)) hx hb hr (fun t ht hW => ⟨⟨(-2), (z4, y4), rfl, ⟨trivial, J4⟩, by rw [ht]; exact hP, va_K.moved hW.alike hK⟩, hS.F ht⟩) hS.2.2 dX0_pour_149
        · have t7 : w4_2.toInt < x6.toInt := gl_nle c7
          refine lv_aload_n hx hb dX0_pour_39 rfl (lv_at hl 1 rfl) ?_
          refine qf_get hx hb hts inX0 hown hK hP (q0 := 123) (by decide) (hgU_123 ca o) rfl 5 (by decide) wq_336 (v := .ref (o + 129)) rfl dX0_pour_40 ?_
          refine lv_iload_n hx hb dX0_pour_43 rfl (lv_at hl 0 rfl) ?_
          refine qa_iald hx hb hK hP (q0 := 129) (by decide) 0 (N := 441) (hgU_129 ca o) rfl (gi_in (by omega) (by omega)) dX0_pour_44 ?_
          refine lv_topi (fun x8 e8 => ?_)
          have b8 := iU_129 J4 e8
          refine lv_istore_n (lv' := [(3, .int x8), (2, .int w4_2), (0, .ref (o + 123)), (1, .int a0)]) hx hb dX0_pour_45 rfl hl (by decide) rfl (fun ls hl => ?_)
          refine lv_aload_n hx hb dX0_pour_46 rfl (lv_at hl 2 rfl) ?_
          refine lv_iload_n hx hb dX0_pour_47 rfl (lv_at hl 0 rfl) ?_
          refine qc_Vv2 (As := [.int x8]) (rest := []) (k0 := 1) (u_Casks_setNow l D ca o b z4 y4 J4 x8) kc_yX0_setNow ⟨hx, hb, hml, hown, hts⟩ wq_960 rfl rfl ⟨Nat.le_of_ble_eq_true rfl, Nat.le_of_ble_eq_true rfl⟩ wq_all hP hK hS qw_Ai (q0 := 123) (by decide) (hgU_123 ca o _ _) rfl rfl hl.1 rfl (Nat.le_of_ble_eq_true rfl) dX0_pour_48 ⟨Nat.zero_le _, Nat.zero_le _⟩ (fun z9 y9 H locs h9 hP hS _ _ => ?_)
          have J9 : qJU b z9 := h9
          refine lv_aload_n hx hb dX0_pour_51 rfl (lv_at hl 2 rfl) ?_
          refine qf_get hx hb hts inX0 hown hK hP (q0 := 123) (by decide) (hgU_123 ca o) rfl 2 (by decide) wq_333 (v := .ref (o + 126)) rfl dX0_pour_52 ?_
          refine lv_iconst (v := 0) hx hb dX0_pour_55 (by decide) ?_
          refine qa_iald hx hb hK hP (q0 := 126) (by decide) 0 (N := 3) (hgU_126 ca o) rfl (gi_in (by decide) (by decide)) dX0_pour_56 ?_
          refine lv_topi (fun x10 e10 => ?_)
          refine lv_iload_n hx hb dX0_pour_57 rfl (lv_at hl 3 rfl) ?_
          refine lv_icmp_eq (tgt := 81) hx hb dX0_pour_58 (by decide) (fun c11 => ?_) (fun c11 => ?_)
          · have t11 : x10.toInt = a0.toInt := gl_eq c11
            refine lv_aload_n hx hb dX0_pour_81 rfl (lv_at hl 2 rfl) ?_
            refine qf_get hx hb hts inX0 hown hK hP (q0 := 123) (by decide) (hgU_123 ca o) rfl 4 (by decide) wq_335 (v := .ref (o + 128)) rfl dX0_pour_82 ?_
            refine lv_iload_n hx hb dX0_pour_85 rfl (lv_at hl 0 rfl) ?_
            refine qa_iald hx hb hK hP (q0 := 128) (by decide) 0 (N := 441) (hgU_128 ca o) rfl (gi_in (by omega) (by omega)) dX0_pour_86 ?_
            refine lv_topi (fun x12 e12 => ?_)
            exact W.iret (v := x12) hx hb hr (fun t ht hW => ⟨⟨x12, (z9, y9), rfl, ⟨trivial, J9⟩, by rw [ht]; exact hP, va_K.moved hW.alike hK⟩, hS.F ht⟩) hS.2.2 dX0_pour_87
          · have t11 : x10.toInt ≠ a0.toInt := gl_ne c11
            refine lv_aload_n hx hb dX0_pour_61 rfl (lv_at hl 2 rfl) ?_
            refine qf_get hx hb hts inX0 hown hK hP (q0 := 123) (by decide) (hgU_123 ca o) rfl 2 (by decide) wq_333 (v := .ref (o + 126)) rfl dX0_pour_62 ?_
            refine lv_iconst (v := 1) hx hb dX0_pour_65 (by decide) ?_
            refine qa_iald hx hb hK hP (q0 := 126) (by decide) 0 (N := 3) (hgU_126 ca o) rfl (gi_in (by decide) (by decide)) dX0_pour_66 ?_
            refine lv_topi (fun x13 e13 => ?_)
            refine lv_iload_n hx hb dX0_pour_67 rfl (lv_at hl 3 rfl) ?_
            refine lv_icmp_eq (tgt := 81) hx hb dX0_pour_68 (by decide) (fun c14 => ?_) (fun c14 => ?_)
            · have t14 : x13.toInt = a0.toInt := gl_eq c14
              refine lv_aload_n hx hb dX0_pour_81 rfl (lv_at hl 2 rfl) ?_
              refine qf_get hx hb hts inX0 hown hK hP (q0 := 123) (by decide) (hgU_123 ca o) rfl 4 (by decide) wq_335 (v := .ref (o + 128)) rfl dX0_pour_82 ?_
              refine lv_iload_n hx hb dX0_pour_85 rfl (lv_at hl 0 rfl) ?_
              refine qa_iald hx hb hK hP (q0 := 128) (by decide) 0 (N := 441) (hgU_128 ca o) rfl (gi_in (by omega) (by omega)) dX0_pour_86 ?_
              refine lv_topi (fun x15 e15 => ?_)
              exact W.iret (v := x15) hx hb hr (fun t ht hW => ⟨⟨x15, (z9, y9), rfl, ⟨trivial, J9⟩, by rw [ht]; exact hP, va_K.moved hW.alike hK⟩, hS.F ht⟩) hS.2.2 dX0_pour_87
            · have t14 : x13.toInt ≠ a0.toInt := gl_ne c14
              refine lv_aload_n hx hb dX0_pour_71 rfl (lv_at hl 2 rfl) ?_
              refine qf_get hx hb hts inX0 hown hK hP (q0 := 123) (by decide) (hgU_123 ca o) rfl 2 (by decide) wq_333 (v := .ref (o + 126)) rfl dX0_pour_72 ?_
              refine lv_iconst (v := 2) hx hb dX0_pour_75 (by decide) ?_
              refine qa_iald hx hb hK hP (q0 := 126) (by decide) 0 (N := 3) (hgU_126 ca o) rfl (gi_in (by decide) (by decide)) dX0_pour_76 ?_
              refine lv_topi (fun x16 e16 => ?_)
              refine lv_iload_n hx hb dX0_pour_77 rfl (lv_at hl 3 rfl) ?_
              refine lv_icmp_ne (tgt := 88) hx hb dX0_pour_78 (by decide) (fun c17 => ?_) (fun c17 => ?_)
              · have t17 : x16.toInt ≠ a0.toInt := gl_ne c17
                refine lv_iconst (v := 0) hx hb dX0_pour_88 (by decide) ?_
                refine lv_istore (lv' := [(4, .int 0), (3, .int x8), (2, .int w4_2), (0, .ref (o + 123)), (1, .int a0)]) hx hb dX0_pour_89 hl (by decide) rfl (fun ls hl => ?_)
                have loop18 : ∀ (n : Nat) (w18_4 : Int32) (z18 : Nat → Nat → Int32) (y18 : Nat → Nat → Int64), ((3 - w18_4.toInt : Int) < (n : Int)) → ((0 : Int) ≤ w18_4.toInt ∧ w18_4.toInt ≤ 3) → (qJU b z18) → ∀ (H : Heap) (locs : List Loc), qw_P D vwCl o 132 (qG (GU ca o) z18 y18) H → va_S (qw_A o 132) s.heap H locs → ∀ (ls : Array Slot), lv_has ls 6 [(4, .int w18_4), (3, .int x8), (2, .int w4_2), (0, .ref (o + 123)), (1, .int a0)] → W p l e (headSpec (Cond.code yX0_pour cX0_pour 6 (some .int) :: qtbl) ({ frames := 3, cells := 0, slots := 0, locals := 107 })).room s m (([.ref (o + 123), .int a0] : List Value).toArray) below meth c H locs 0 0 (MQ below (va_Qi (fun r u => True ∧ qJU b u.1) (qB D vwCl (qT6 ca) o 132 (fun u : qZ => qG (GU ca o) u.1 u.2)) (qw_A o 132)) (([.ref (o + 123), .int a0] : List Value).toArray) s 0 0 (qw_A o 132)) (F0 m 91 ls []) := by
                  intro n
                  induction n with
                  | zero => intro w18_4 z18 y18 hb18 hv18_4 J18; exfalso; omega
                  | succ n18 ih18 =>
                    intro w18_4 z18 y18 hb18 hv18_4 J18 H locs hP hS ls hl
                    refine lv_iload hx hb dX0_pour_91 (lv_at hl 0 rfl) ?_
                    refine lv_iconst (v := 3) hx hb dX0_pour_93 (by decide) ?_
                    refine lv_icmp_ge (tgt := 141) hx hb dX0_pour_94 (by decide) (fun c19 => ?_) (fun c19 => ?_)
                    · have t19 : w18_4.toInt ≥ (3 : Int) := gl_le c19
                      obtain ⟨x20, e20⟩ : ∃ t : Int32, t = w4_2 + 1 := ⟨_, rfl⟩
                      refine lv_iinc (v := x20) (lv' := [(2, .int x20), (4, .int w18_4), (3, .int x8), (0, .ref (o + 123)), (1, .int a0)]) hx hb dX0_pour_141 hl (k := 2) rfl (by rw [e20]; rfl) (by decide) rfl (fun ls hl => ?_)
                      have t20 : x20.toInt = w4_2.toInt + (1 : Int) := ga_add e20 rfl rfl (by omega) (by omega)
                      refine lv_goto (tgt := 24) hx hb dX0_pour_144 (by decide) ?_
                      exact ih4 x20 z18 y18 (show (441 - x20.toInt : Int) < (n4 : Int) from by omega) ⟨by omega, by omega⟩ J18 _ _ hP hS _ (lv_sub hl [0, 3, 4] rfl)
                    · have t19 : w18_4.toInt < (3 : Int) := gl_nle c19
                      refine lv_iconst (v := 0) hx hb dX0_pour_97 (by decide) ?_
                      refine lv_istore (lv' := [(5, .int 0), (4, .int w18_4), (3, .int x8), (2, .int w4_2), (0, .ref (o + 123)), (1, .int a0)]) hx hb dX0_pour_98 hl (by decide) rfl (fun ls hl => ?_)
                      have loop21 : ∀ (n : Nat) (w21_5 : Int32) (z21 : Nat → Nat → Int32) (y21 : Nat → Nat → Int64), ((3 - w21_5.toInt : Int) < (n : Int)) → ((0 : Int) ≤ w21_5.toInt ∧ w21_5.toInt ≤ 3) → (qJU b z21) → ∀ (H : Heap) (locs : List Loc), qw_P D vwCl o 132 (qG (GU ca o) z21 y21) H → va_S (qw_A o 132) s.heap H locs → ∀ (ls : Array Slot), lv_has ls 6 [(5, .int w21_5), (4, .int w18_4), (3, .int x8), (2, .int w4_2), (0, .ref (o + 123)), (1, .int a0)] → W p l e (headSpec (Cond.code yX0_pour cX0_pour 6 (some .int) :: qtbl) ({ frames := 3, cells := 0, slots := 0, locals := 107 })).room s m (([.ref (o + 123), .int a0] : List Value).toArray) below meth c H locs 0 0 (MQ below (va_Qi (fun r u => True ∧ qJU b u.1) (qB D vwCl (qT6 ca) o 132 (fun u : qZ => qG (GU ca o) u.1 u.2)) (qw_A o 132)) (([.ref (o + 123), .int a0] : List Value).toArray) s 0 0 (qw_A o 132)) (F0 m 100 ls []) := by
                        intro n
                        induction n with
                        | zero => intro w21_5 z21 y21 hb21 hv21_5 J21; exfalso; omega
                        | succ n21 ih21 =>
                          intro w21_5 z21 y21 hb21 hv21_5 J21 H locs hP hS ls hl
                          refine lv_iload hx hb dX0_pour_100 (lv_at hl 0 rfl) ?_
                          refine lv_iconst (v := 3) hx hb dX0_pour_102 (by decide) ?_
                          refine lv_icmp_ge (tgt := 135) hx hb dX0_pour_103 (by decide) (fun c22 => ?_) (fun c22 => ?_)
                          · have t22 : w21_5.toInt ≥ (3 : Int) := gl_le c22
                            obtain ⟨x23, e23⟩ : ∃ t : Int32, t = w18_4 + 1 := ⟨_, rfl⟩
                            refine lv_iinc (v := x23) (lv' := [(4, .int x23), (5, .int w21_5), (3, .int x8), (2, .int w4_2), (0, .ref (o + 123)), (1, .int a0)]) hx hb dX0_pour_135 hl (k := 1) rfl (by rw [e23]; rfl) (by decide) rfl (fun ls hl => ?_)
                            have t23 : x23.toInt = w18_4.toInt + (1 : Int) := ga_add e23 rfl rfl (by omega) (by omega)
                            refine lv_goto (tgt := 91) hx hb dX0_pour_138 (by decide) ?_
                            exact ih18 x23 z21 y21 (show (3 - x23.toInt : Int) < (n18 : Int) from by omega) ⟨by omega, by omega⟩ J21 _ _ hP hS _ (lv_sub hl [0, 2, 3, 4, 5] rfl)
                          · have t22 : w21_5.toInt < (3 : Int) := gl_nle c22
                            refine lv_iload hx hb dX0_pour_106 (lv_at hl 1 rfl) ?_
                            refine lv_iload hx hb dX0_pour_108 (lv_at hl 0 rfl) ?_
                            refine lv_icmp_eq (tgt := 129) hx hb dX0_pour_110 (by decide) (fun c24 => ?_) (fun c24 => ?_)
                            · have t24 : w18_4.toInt = w21_5.toInt := gl_eq c24
                              obtain ⟨x25, e25⟩ : ∃ t : Int32, t = w21_5 + 1 := ⟨_, rfl⟩
                              refine lv_iinc (v := x25) (lv' := [(5, .int x25), (4, .int w18_4), (3, .int x8), (2, .int w4_2), (0, .ref (o + 123)), (1, .int a0)]) hx hb dX0_pour_129 hl (k := 0) rfl (by rw [e25]; rfl) (by decide) rfl (fun ls hl => ?_)
                              have t25 : x25.toInt = w21_5.toInt + (1 : Int) := ga_add e25 rfl rfl (by omega) (by omega)
                              refine lv_goto (tgt := 100) hx hb dX0_pour_132 (by decide) ?_
                              exact ih21 x25 z21 y21 (show (3 - x25.toInt : Int) < (n21 : Int) from by omega) ⟨by omega, by omega⟩ J21 _ _ hP hS _ (lv_sub hl [0, 1, 2, 3, 4, 5] rfl)
                            · have t24 : w18_4.toInt ≠ w21_5.toInt := gl_ne c24
                              refine lv_aload_n hx hb dX0_pour_113 rfl (lv_at hl 4 rfl) ?_
                              refine lv_iload hx hb dX0_pour_114 (lv_at hl 1 rfl) ?_
                              refine lv_iload hx hb dX0_pour_116 (lv_at hl 0 rfl) ?_
                              refine lv_aload_n hx hb dX0_pour_118 rfl (lv_at hl 4 rfl) ?_
                              refine qf_get hx hb hts inX0 hown hK hP (q0 := 123) (by decide) (hgU_123 ca o) rfl 4 (by decide) wq_335 (v := .ref (o + 128)) rfl dX0_pour_119 ?_
                              refine lv_iload_n hx hb dX0_pour_122 rfl (lv_at hl 2 rfl) ?_
                              refine qa_iald hx hb hK hP (q0 := 128) (by decide) 0 (N := 441) (hgU_128 ca o) rfl (gi_in (by omega) (by omega)) dX0_pour_123 ?_
                              refine lv_topi (fun x26 e26 => ?_)
                              refine lv_iconst (v := 1) hx hb dX0_pour_124 (by decide) ?_
                              refine lv_iadd hx hb dX0_pour_125 ?_
                              refine lv_topi (fun x27 e27 => ?_)
                              refine qc_Vv2 (As := [.int w18_4, .int w21_5, .int x27]) (rest := []) (k0 := 3) (u_Casks_pourOne l D ca o b z21 y21 J21 w18_4 w21_5 x27 ⟨by omega, by omega⟩ ⟨by omega, by omega⟩) kc_yX0_pourOne ⟨hx, hb, hml, hown, hts⟩ wq_964 rfl rfl ⟨Nat.le_of_ble_eq_true rfl, Nat.le_of_ble_eq_true rfl⟩ wq_all hP hK hS qw_Ai (q0 := 123) (by decide) (hgU_123 ca o _ _) rfl rfl hl.1 rfl (Nat.le_of_ble_eq_true rfl) dX0_pour_126 ⟨Nat.zero_le _, Nat.zero_le _⟩ (fun z28 y28 H locs h28 hP hS _ _ => ?_)
                              have J28 : qJU b z28 := h28
                              obtain ⟨x29, e29⟩ : ∃ t : Int32, t = w21_5 + 1 := ⟨_, rfl⟩
                              refine lv_iinc (v := x29) (lv' := [(5, .int x29), (4, .int w18_4), (3, .int x8), (2, .int w4_2), (0, .ref (o + 123)), (1, .int a0)]) hx hb dX0_pour_129 hl (k := 0) rfl (by rw [e29]; rfl) (by decide) rfl (fun ls hl => ?_)
                              have t29 : x29.toInt = w21_5.toInt + (1 : Int) := ga_add e29 rfl rfl (by omega) (by omega)
                              refine lv_goto (tgt := 100) hx hb dX0_pour_132 (by decide) ?_
                              exact ih21 x29 z28 y28 (show (3 - x29.toInt : Int) < (n21 : Int) from by omega) ⟨by omega, by omega⟩ J28 _ _ hP hS _ (lv_sub hl [0, 1, 2, 3, 4, 5] rfl)
                      exact loop21 4 0 z18 y18 (show (3 - (0 : Int) : Int) < ((4 : Nat) : Int) from by omega) ⟨by decide, by decide⟩ J18 _ _ hP hS _ (lv_sub hl [0, 1, 2, 3, 4, 5] rfl)
                exact loop18 4 0 z9 y9 (show (3 - (0 : Int) : Int) < ((4 : Nat) : Int) from by omega) ⟨by decide, by decide⟩ J9 _ _ hP hS _ (lv_sub hl [0, 1, 2, 3, 4] rfl)
              · have t17 : x16.toInt = a0.toInt := gl_eq c17
                refine lv_aload_n hx hb dX0_pour_81 rfl (lv_at hl 2 rfl) ?_
                refine qf_get hx hb hts inX0 hown hK hP (q0 := 123) (by decide) (hgU_123 ca o) rfl 4 (by decide) wq_335 (v := .ref (o + 128)) rfl dX0_pour_82 ?_
                refine lv_iload_n hx hb dX0_pour_85 rfl (lv_at hl 0 rfl) ?_
                refine qa_iald hx hb hK hP (q0 := 128) (by decide) 0 (N := 441) (hgU_128 ca o) rfl (gi_in (by omega) (by omega)) dX0_pour_86 ?_
                refine lv_topi (fun x30 e30 => ?_)
                exact W.iret (v := x30) hx hb hr (fun t ht hW => ⟨⟨x30, (z9, y9), rfl, ⟨trivial, J9⟩, by rw [ht]; exact hP, va_K.moved hW.alike hK⟩, hS.F ht⟩) hS.2.2 dX0_pour_87
  exact loop4 442 0 z3 y3 (show (441 - (0 : Int) : Int) < ((442 : Nat) : Int) from by omega) ⟨by decide, by decide⟩ J3 _ _ hP hS _ (lv_sub hl [0, 1, 2] rfl)
set_option maxRecDepth 100000 in
set_option maxHeartbeats 8000000 in
theorem u_butts (l : Launch) (D : va_G) (ca : Nat → ClassId) (o : Nat) (b z : Nat → Nat → Int32) (y : Nat → Nat → Int64) (J0 : qJU b z) (a0 : Int32)  : qM l yX10_butts cX10_butts 2 (some .int) 4 132 (qPre D vwCl (qT6 ca) o 132 (qG (GU ca o) z y) [.ref (o + 0), .int a0]) (va_Qi (fun r u => True ∧ qJU b u.1) (qB D vwCl (qT6 ca) o 132 (fun u : qZ => qG (GU ca o) u.1 u.2)) (qw_A o 132)) (qw_A o 132) := by
  refine Met.ofW (cc := cX10_butts) (maxL := 2) (ret := (some .int)) (by decide) rfl ?_
  intro p e s m args below meth c s₁ B hml hv
  obtain ⟨rfl, hP, hK⟩ := hv
  have hx := B.exec
  have hb := B.bytes
  have hr := B.returns
  have hts0 := atoms_spec (ws := Cond.code yX10_butts cX10_butts 2 (some .int) :: qtbl) B.pre
  have hts : ∀ w ∈ qtbl, w.before _ s = true := fun w h => hts0 w (List.mem_cons_of_mem _ h)
  have hown : s.vm.findClass RX10 = some m.cls := findClass_of_methodNamed B.named
  have hlocks := B.notSynchronized
  have hS : va_S (qw_A o 132) s.heap s.heap [] := va_S.rf
  have hl := lv_entry ([.ref (o + 0), .int a0]) (n := 2) (Nat.le_of_ble_eq_true rfl)
  rw [lg_entry_eq]
  generalize (lg_sl ([.ref (o + 0), .int a0]) ++ List.replicate (2 - (lg_sl ([.ref (o + 0), .int a0])).length) Slot.unset).toArray = ls at hl ⊢
  have hl : lv_has ls 2 [(0, .ref (o + 0)), (1, .int a0)] := hl
  refine lv_iload_n hx hb dX10_butts_0 rfl (lv_at hl 1 rfl) ?_
  refine lv_if_lt (tgt := 19) hx hb dX10_butts_1 (by decide) (fun c1 => ?_) (fun c1 => ?_)
  · have t1 : a0.toInt < (0 : Int) := gl_lt c1
    refine lv_iconst (v := (-1)) hx hb dX10_butts_19 (by decide) ?_
    exact W.iret (v := (-1)) hx hb hr (fun t ht hW => ⟨⟨(-1), (z, y), rfl, ⟨trivial, J0⟩, by rw [ht]; exact hP, va_K.moved hW.alike hK⟩, hS.F ht⟩) hS.2.2 dX10_butts_20
  · have t1 : a0.toInt ≥ (0 : Int) := gl_nlt c1
    refine lv_iload_n hx hb dX10_butts_4 rfl (lv_at hl 1 rfl) ?_
    refine lv_bipush (v := 20) hx hb dX10_butts_5 (by decide) ?_
    refine lv_icmp_gt (tgt := 19) hx hb dX10_butts_7 (by decide) (fun c2 => ?_) (fun c2 => ?_)
    · have t2 : a0.toInt > (20 : Int) := gl_lt c2
      refine lv_iconst (v := (-1)) hx hb dX10_butts_19 (by decide) ?_
      exact W.iret (v := (-1)) hx hb hr (fun t ht hW => ⟨⟨(-1), (z, y), rfl, ⟨trivial, J0⟩, by rw [ht]; exact hP, va_K.moved hW.alike hK⟩, hS.F ht⟩) hS.2.2 dX10_butts_20
    · have t2 : a0.toInt ≤ (20 : Int) := gl_nlt c2
      refine lv_aload_n hx hb dX10_butts_10 rfl (lv_at hl 0 rfl) ?_
      refine qf_get hx hb hts inX10 hown hK hP (q0 := 0) (by decide) (hgU_0 ca o) rfl 4 (by decide) wq_357 (v := .int (z 0 4)) rfl dX10_butts_11 ?_
      refine lv_topi (fun x3 e3 => ?_)
      have b3 := iU_0_4 J0 e3
      refine lv_bipush (v := 6) hx hb dX10_butts_14 (by decide) ?_
      refine lv_icmp_ge (tgt := 21) hx hb dX10_butts_16 (by decide) (fun c4 => ?_) (fun c4 => ?_)
      · have t4 : x3.toInt ≥ (6 : Int) := gl_le c4
        refine lv_aload_n hx hb dX10_butts_21 rfl (lv_at hl 0 rfl) ?_
        refine lv_iconst (v := 0) hx hb dX10_butts_22 (by decide) ?_
        refine qf_put2 hx hb hts inX10 tyX10 tyX10_ok nmX10 hown hK hP hS qw_Ai (q0 := 0) (by decide) (hgU_0 ca o) rfl 4 (by decide) wq_357 rfl (x := 0) 4 rfl rfl rfl (Nat.le_of_ble_eq_true rfl) dX10_butts_23 (fun z5 H locs hz5 hP hS => ?_)
        have J5 := jU_0_4 J0 hz5 ⟨by decide, by decide⟩
        refine lv_aload_n hx hb dX10_butts_26 rfl (lv_at hl 0 rfl) ?_
        refine qf_get hx hb hts inX10 hown hK hP (q0 := 0) (by decide) (hgU_0 ca o) rfl 12 (by decide) wq_365 (v := .ref (o + 123)) rfl dX10_butts_27 ?_
        refine lv_aload_n hx hb dX10_butts_30 rfl (lv_at hl 0 rfl) ?_
        refine qf_get hx hb hts inX10 hown hK hP (q0 := 0) (by decide) (hgU_0 ca o) rfl 3 (by decide) wq_356 (v := .ref (o + 77)) rfl dX10_butts_31 ?_
        refine qc_Vi2 (As := [.ref (o + 77)]) (rest := []) (k0 := 1) (u_Casks_fill l D ca o b z5 y J5) kc_yX0_fill ⟨hx, hb, hml, hown, hts⟩ wq_947 rfl rfl ⟨Nat.le_of_ble_eq_true rfl, Nat.le_of_ble_eq_true rfl⟩ wq_all hP hK hS qw_Ai (q0 := 123) (by decide) (hgU_123 ca o _ _) rfl rfl hl.1 rfl (Nat.le_of_ble_eq_true rfl) dX10_butts_34 ⟨Nat.zero_le _, Nat.zero_le _⟩ (fun r6 z6 y6 H locs h6 hP hS _ _ => ?_)
        have J6 : qJU b z6 := h6.2
        have b6 : (0 : Int) ≤ r6.toInt ∧ r6.toInt ≤ 1 := h6.1
        refine lv_if_eq (tgt := 51) hx hb dX10_butts_37 (by decide) (fun c7 => ?_) (fun c7 => ?_)
        · have t7 : r6.toInt = (0 : Int) := gl_eq c7
          refine lv_bipush (v := (-3)) hx hb dX10_butts_51 (by decide) ?_
          exact W.iret (v := (-3)) hx hb hr (fun t ht hW => ⟨⟨(-3), (z6, y6), rfl, ⟨trivial, J6⟩, by rw [ht]; exact hP, va_K.moved hW.alike hK⟩, hS.F ht⟩) hS.2.2 dX10_butts_53
        · have t7 : r6.toInt ≠ (0 : Int) := gl_ne c7
          refine lv_aload_n hx hb dX10_butts_40 rfl (lv_at hl 0 rfl) ?_
          refine qf_get hx hb hts inX10 hown hK hP (q0 := 0) (by decide) (hgU_0 ca o) rfl 12 (by decide) wq_365 (v := .ref (o + 123)) rfl dX10_butts_41 ?_
          refine lv_iload_n hx hb dX10_butts_44 rfl (lv_at hl 1 rfl) ?_
          refine qc_Vi2 (As := [.int a0]) (rest := []) (k0 := 1) (u_Casks_pour l D ca o b z6 y6 J6 a0) kc_yX0_pour ⟨hx, hb, hml, hown, hts⟩ wq_951 rfl rfl ⟨Nat.le_of_ble_eq_true rfl, Nat.le_of_ble_eq_true rfl⟩ wq_all hP hK hS qw_Ai (q0 := 123) (by decide) (hgU_123 ca o _ _) rfl rfl hl.1 rfl (Nat.le_of_ble_eq_true rfl) dX10_butts_45 ⟨Nat.zero_le _, Nat.zero_le _⟩ (fun r8 z8 y8 H locs h8 hP hS _ _ => ?_)
          have J8 : qJU b z8 := h8.2
          refine lv_goto (tgt := 53) hx hb dX10_butts_48 (by decide) ?_
          exact W.iret (v := r8) hx hb hr (fun t ht hW => ⟨⟨r8, (z8, y8), rfl, ⟨trivial, J8⟩, by rw [ht]; exact hP, va_K.moved hW.alike hK⟩, hS.F ht⟩) hS.2.2 dX10_butts_53
      · have t4 : x3.toInt < (6 : Int) := gl_nle c4
        refine lv_iconst (v := (-1)) hx hb dX10_butts_19 (by decide) ?_
        exact W.iret (v := (-1)) hx hb hr (fun t ht hW => ⟨⟨(-1), (z, y), rfl, ⟨trivial, J0⟩, by rw [ht]; exact hP, va_K.moved hW.alike hK⟩, hS.F ht⟩) hS.2.2 dX10_butts_20
set_option maxRecDepth 100000 in
set_option maxHeartbeats 8000000 in
theorem u_plain (l : Launch) (D : va_G) (ca : Nat → ClassId) (o : Nat) (b z : Nat → Nat → Int32) (y : Nat → Nat → Int64) (J0 : qJU b z) (a0 : Int32) (a1 : Int32)  : qM l yX10_plain cX10_plain 4 (some .int) 2 81 (qPre D vwCl (qT6 ca) o 132 (qG (GU ca o) z y) [.ref (o + 0), .int a0, .int a1]) (va_Qi (fun r (_ : Unit) => True) (qB D vwCl (qT6 ca) o 132 (fun _ : Unit => qG (GU ca o) z y)) (qw_A o 132)) (qw_A o 132) := by
  refine Met.ofW (cc := cX10_plain) (maxL := 4) (ret := (some .int)) (by decide) rfl ?_
  intro p e s m args below meth c s₁ B hml hv
  obtain ⟨rfl, hP, hK⟩ := hv
  have hx := B.exec
  have hb := B.bytes
  have hr := B.returns
  have hts0 := atoms_spec (ws := Cond.code yX10_plain cX10_plain 4 (some .int) :: qtbl) B.pre
  have hts : ∀ w ∈ qtbl, w.before _ s = true := fun w h => hts0 w (List.mem_cons_of_mem _ h)
  have hown : s.vm.findClass RX10 = some m.cls := findClass_of_methodNamed B.named
  have hlocks := B.notSynchronized
  have hS : va_S (qw_A o 132) s.heap s.heap [] := va_S.rf
  have hl := lv_entry ([.ref (o + 0), .int a0, .int a1]) (n := 4) (Nat.le_of_ble_eq_true rfl)
  rw [lg_entry_eq]
  generalize (lg_sl ([.ref (o + 0), .int a0, .int a1]) ++ List.replicate (4 - (lg_sl ([.ref (o + 0), .int a0, .int a1])).length) Slot.unset).toArray = ls at hl ⊢
  have hl : lv_has ls 4 [(0, .ref (o + 0)), (1, .int a0), (2, .int a1)] := hl
  refine lv_aload_n hx hb dX10_plain_0 rfl (lv_at hl 0 rfl) ?_
  refine qf_get hx hb hts inX10 hown hK hP (q0 := 0) (by decide) (hgU_0 ca o) rfl 0 (by decide) wq_353 (v := .ref (o + 1)) rfl dX10_plain_1 ?_
  refine lv_iload_n hx hb dX10_plain_4 rfl (lv_at hl 1 rfl) ?_
  refine qc_Vip (As := [.int a0]) (rest := []) (k0 := 1) (u_Told_hasLine l D ca o b z y J0 a0) kc_yX9_hasLine ⟨hx, hb, hml, hown, hts⟩ wq_982 rfl rfl ⟨Nat.le_of_ble_eq_true rfl, Nat.le_of_ble_eq_true rfl⟩ wq_all hP hK hS qw_Ai (q0 := 1) (by decide) (hgU_1 ca o _ _) rfl rfl hl.1 rfl (Nat.le_of_ble_eq_true rfl) dX10_plain_5 ⟨Nat.zero_le _, Nat.zero_le _⟩ (fun r1 H locs h1 hP hS _ _ => ?_)
  rcases h1 with ⟨hr1, hf1_0⟩ | hr1
  · subst hr1
    have hg1_0 : 0 ≤ a0.toInt ∧ a0.toInt ≤ 15 := hf1_0
    refine lv_if_eq (tgt := 21) hx hb dX10_plain_8 (by decide) (fun q => absurd q (by decide)) (fun _ => ?_)
    refine lv_iload_n hx hb dX10_plain_11 rfl (lv_at hl 2 rfl) ?_
    refine lv_if_lt (tgt := 21) hx hb dX10_plain_12 (by decide) (fun c2 => ?_) (fun c2 => ?_)
    · have t2 : a1.toInt < (0 : Int) := gl_lt c2
      refine lv_iconst (v := 0) hx hb dX10_plain_21 (by decide) ?_
      exact W.iret (v := 0) hx hb hr (fun t ht hW => ⟨⟨0, (), rfl, trivial, by rw [ht]; exact hP, va_K.moved hW.alike hK⟩, hS.F ht⟩) hS.2.2 dX10_plain_22
    · have t2 : a1.toInt ≥ (0 : Int) := gl_nlt c2
      refine lv_iload_n hx hb dX10_plain_15 rfl (lv_at hl 2 rfl) ?_
      refine lv_bipush (v := 6) hx hb dX10_plain_16 (by decide) ?_
      refine lv_icmp_le (tgt := 23) hx hb dX10_plain_18 (by decide) (fun c3 => ?_) (fun c3 => ?_)
      · have t3 : a1.toInt ≤ (6 : Int) := gl_le c3
        refine lv_aload_n hx hb dX10_plain_23 rfl (lv_at hl 0 rfl) ?_
        refine qf_get hx hb hts inX10 hown hK hP (q0 := 0) (by decide) (hgU_0 ca o) rfl 0 (by decide) wq_353 (v := .ref (o + 1)) rfl dX10_plain_24 ?_
        refine qf_get hx hb hts inX9 hown hK hP (q0 := 1) (by decide) (hgU_1 ca o) rfl 4 (by decide) wq_97 (v := .ref (o + 6)) rfl dX10_plain_27 ?_
        refine lv_iload_n hx hb dX10_plain_30 rfl (lv_at hl 1 rfl) ?_
        have hi_a0 : a0.toNatClampNeg < 16 := ga_nat (by omega) (show _ < (16 : Int) from by omega)
        refine qa_aald hx hb hK hP (q0 := 6) (by decide) 4 rfl (N := 16) (hgU_6 ca o) rfl (gi_in (by omega) (by omega)) dX10_plain_31 ?_
        refine lv_astore_n (lv' := [(3, .ref (o + (7 + 2 * a0.toNatClampNeg))), (0, .ref (o + 0)), (1, .int a0), (2, .int a1)]) hx hb dX10_plain_32 rfl hl (by decide) rfl (fun ls hl => ?_)
        refine lv_iload_n hx hb dX10_plain_33 rfl (lv_at hl 3 rfl) ?_
        refine lv_bipush (v := 6) hx hb dX10_plain_34 (by decide) ?_
        refine lv_icmp_ne (tgt := 46) hx hb dX10_plain_36 (by decide) (fun c4 => ?_) (fun c4 => ?_)
        · have t4 : a1.toInt ≠ (6 : Int) := gl_ne c4
          refine lv_aload_n hx hb dX10_plain_46 rfl (lv_at hl 0 rfl) ?_
          refine qf_get hx hb hts inX5 hown hK hP (q0 := 7 + 2 * a0.toNatClampNeg) (show _ < _ from by have := hi_a0; omega) (hgU_LT ca o hi_a0) rfl 0 (by decide) wq_45 (v := .ref (o + (7 + 2 * a0.toNatClampNeg + 1))) rfl dX10_plain_47 ?_
          refine lv_iload_n hx hb dX10_plain_50 rfl (lv_at hl 3 rfl) ?_
          refine qa_iald hx hb hK hP (q0 := 7 + 2 * a0.toNatClampNeg + 1) (show _ < _ from by have := hi_a0; omega) 0 (N := 6) (hgU_AT ca o hi_a0) rfl (gi_in (by omega) (by omega)) dX10_plain_51 ?_
          refine lv_topi (fun x5 e5 => ?_)
          exact W.iret (v := x5) hx hb hr (fun t ht hW => ⟨⟨x5, (), rfl, trivial, by rw [ht]; exact hP, va_K.moved hW.alike hK⟩, hS.F ht⟩) hS.2.2 dX10_plain_52
        · have t4 : a1.toInt = (6 : Int) := gl_eq c4
          refine lv_aload_n hx hb dX10_plain_39 rfl (lv_at hl 0 rfl) ?_
          refine qf_get hx hb hts inX5 hown hK hP (q0 := 7 + 2 * a0.toNatClampNeg) (show _ < _ from by have := hi_a0; omega) (hgU_LT ca o hi_a0) rfl 2 (by decide) wq_51 (v := .int (z (7 + 2 * a0.toNatClampNeg) 2)) rfl dX10_plain_40 ?_
          refine lv_topi (fun x6 e6 => ?_)
          refine lv_goto (tgt := 52) hx hb dX10_plain_43 (by decide) ?_
          exact W.iret (v := x6) hx hb hr (fun t ht hW => ⟨⟨x6, (), rfl, trivial, by rw [ht]; exact hP, va_K.moved hW.alike hK⟩, hS.F ht⟩) hS.2.2 dX10_plain_52
      · have t3 : a1.toInt > (6 : Int) := gl_nle c3
        refine lv_iconst (v := 0) hx hb dX10_plain_21 (by decide) ?_
        exact W.iret (v := 0) hx hb hr (fun t ht hW => ⟨⟨0, (), rfl, trivial, by rw [ht]; exact hP, va_K.moved hW.alike hK⟩, hS.F ht⟩) hS.2.2 dX10_plain_22
  · subst hr1
    refine lv_if_eq (tgt := 21) hx hb dX10_plain_8 (by decide) (fun _ => ?_) (fun q => absurd (by decide) q)
    refine lv_iconst (v := 0) hx hb dX10_plain_21 (by decide) ?_
    exact W.iret (v := 0) hx hb hr (fun t ht hW => ⟨⟨0, (), rfl, trivial, by rw [ht]; exact hP, va_K.moved hW.alike hK⟩, hS.F ht⟩) hS.2.2 dX10_plain_22
set_option maxRecDepth 100000 in
set_option maxHeartbeats 8000000 in
theorem u_remarkIs (l : Launch) (D : va_G) (ca : Nat → ClassId) (o : Nat) (b z : Nat → Nat → Int32) (y : Nat → Nat → Int64) (J0 : qJU b z) (a0 : Int32) (a1 : Int32)  : qM l yX10_remarkIs cX10_remarkIs 4 (some .int) 2 81 (qPre D vwCl (qT6 ca) o 132 (qG (GU ca o) z y) [.ref (o + 0), .int a0, .int a1]) (va_Qi (fun r (_ : Unit) => True) (qB D vwCl (qT6 ca) o 132 (fun _ : Unit => qG (GU ca o) z y)) (qw_A o 132)) (qw_A o 132) := by
  refine Met.ofW (cc := cX10_remarkIs) (maxL := 4) (ret := (some .int)) (by decide) rfl ?_
  intro p e s m args below meth c s₁ B hml hv
  obtain ⟨rfl, hP, hK⟩ := hv
  have hx := B.exec
  have hb := B.bytes
  have hr := B.returns
  have hts0 := atoms_spec (ws := Cond.code yX10_remarkIs cX10_remarkIs 4 (some .int) :: qtbl) B.pre
  have hts : ∀ w ∈ qtbl, w.before _ s = true := fun w h => hts0 w (List.mem_cons_of_mem _ h)
  have hown : s.vm.findClass RX10 = some m.cls := findClass_of_methodNamed B.named
  have hlocks := B.notSynchronized
  have hS : va_S (qw_A o 132) s.heap s.heap [] := va_S.rf
  have hl := lv_entry ([.ref (o + 0), .int a0, .int a1]) (n := 4) (Nat.le_of_ble_eq_true rfl)
  rw [lg_entry_eq]
  generalize (lg_sl ([.ref (o + 0), .int a0, .int a1]) ++ List.replicate (4 - (lg_sl ([.ref (o + 0), .int a0, .int a1])).length) Slot.unset).toArray = ls at hl ⊢
  have hl : lv_has ls 4 [(0, .ref (o + 0)), (1, .int a0), (2, .int a1)] := hl
  refine lv_aload_n hx hb dX10_remarkIs_0 rfl (lv_at hl 0 rfl) ?_
  refine qf_get hx hb hts inX10 hown hK hP (q0 := 0) (by decide) (hgU_0 ca o) rfl 0 (by decide) wq_353 (v := .ref (o + 1)) rfl dX10_remarkIs_1 ?_
  refine lv_iload_n hx hb dX10_remarkIs_4 rfl (lv_at hl 1 rfl) ?_
  refine qc_Vip (As := [.int a0]) (rest := []) (k0 := 1) (u_Told_hasLine l D ca o b z y J0 a0) kc_yX9_hasLine ⟨hx, hb, hml, hown, hts⟩ wq_982 rfl rfl ⟨Nat.le_of_ble_eq_true rfl, Nat.le_of_ble_eq_true rfl⟩ wq_all hP hK hS qw_Ai (q0 := 1) (by decide) (hgU_1 ca o _ _) rfl rfl hl.1 rfl (Nat.le_of_ble_eq_true rfl) dX10_remarkIs_5 ⟨Nat.zero_le _, Nat.zero_le _⟩ (fun r1 H locs h1 hP hS _ _ => ?_)
  rcases h1 with ⟨hr1, hf1_0⟩ | hr1
  · subst hr1
    have hg1_0 : 0 ≤ a0.toInt ∧ a0.toInt ≤ 15 := hf1_0
    refine lv_if_ne (tgt := 13) hx hb dX10_remarkIs_8 (by decide) (fun _ => ?_) (fun q => absurd q (by decide))
    refine lv_aload_n hx hb dX10_remarkIs_13 rfl (lv_at hl 0 rfl) ?_
    refine qf_get hx hb hts inX10 hown hK hP (q0 := 0) (by decide) (hgU_0 ca o) rfl 0 (by decide) wq_353 (v := .ref (o + 1)) rfl dX10_remarkIs_14 ?_
    refine qf_get hx hb hts inX9 hown hK hP (q0 := 1) (by decide) (hgU_1 ca o) rfl 4 (by decide) wq_97 (v := .ref (o + 6)) rfl dX10_remarkIs_17 ?_
    refine lv_iload_n hx hb dX10_remarkIs_20 rfl (lv_at hl 1 rfl) ?_
    have hi_a0 : a0.toNatClampNeg < 16 := ga_nat (by omega) (show _ < (16 : Int) from by omega)
    refine qa_aald hx hb hK hP (q0 := 6) (by decide) 4 rfl (N := 16) (hgU_6 ca o) rfl (gi_in (by omega) (by omega)) dX10_remarkIs_21 ?_
    refine lv_astore_n (lv' := [(3, .ref (o + (7 + 2 * a0.toNatClampNeg))), (0, .ref (o + 0)), (1, .int a0), (2, .int a1)]) hx hb dX10_remarkIs_22 rfl hl (by decide) rfl (fun ls hl => ?_)
    refine lv_iload_n hx hb dX10_remarkIs_23 rfl (lv_at hl 3 rfl) ?_
    refine lv_iconst (v := 2) hx hb dX10_remarkIs_24 (by decide) ?_
    refine lv_icmp_ne (tgt := 33) hx hb dX10_remarkIs_25 (by decide) (fun c2 => ?_) (fun c2 => ?_)
    · have t2 : a1.toInt ≠ (2 : Int) := gl_ne c2
      refine lv_iload_n hx hb dX10_remarkIs_33 rfl (lv_at hl 3 rfl) ?_
      refine lv_iconst (v := 3) hx hb dX10_remarkIs_34 (by decide) ?_
      refine lv_icmp_ne (tgt := 43) hx hb dX10_remarkIs_35 (by decide) (fun c3 => ?_) (fun c3 => ?_)
      · have t3 : a1.toInt ≠ (3 : Int) := gl_ne c3
        refine lv_iload_n hx hb dX10_remarkIs_43 rfl (lv_at hl 2 rfl) ?_
        refine lv_bipush (v := 10) hx hb dX10_remarkIs_44 (by decide) ?_
        refine lv_icmp_ge (tgt := 58) hx hb dX10_remarkIs_46 (by decide) (fun c4 => ?_) (fun c4 => ?_)
        · have t4 : a0.toInt ≥ (10 : Int) := gl_le c4
          refine lv_iconst (v := (-1)) hx hb dX10_remarkIs_58 (by decide) ?_
          exact W.iret (v := (-1)) hx hb hr (fun t ht hW => ⟨⟨(-1), (), rfl, trivial, by rw [ht]; exact hP, va_K.moved hW.alike hK⟩, hS.F ht⟩) hS.2.2 dX10_remarkIs_59
        · have t4 : a0.toInt < (10 : Int) := gl_nle c4
          refine lv_iload_n hx hb dX10_remarkIs_49 rfl (lv_at hl 3 rfl) ?_
          refine lv_if_lt (tgt := 58) hx hb dX10_remarkIs_50 (by decide) (fun c5 => ?_) (fun c5 => ?_)
          · have t5 : a1.toInt < (0 : Int) := gl_lt c5
            refine lv_iconst (v := (-1)) hx hb dX10_remarkIs_58 (by decide) ?_
            exact W.iret (v := (-1)) hx hb hr (fun t ht hW => ⟨⟨(-1), (), rfl, trivial, by rw [ht]; exact hP, va_K.moved hW.alike hK⟩, hS.F ht⟩) hS.2.2 dX10_remarkIs_59
          · have t5 : a1.toInt ≥ (0 : Int) := gl_nlt c5
            refine lv_iload_n hx hb dX10_remarkIs_53 rfl (lv_at hl 3 rfl) ?_
            refine lv_iconst (v := 1) hx hb dX10_remarkIs_54 (by decide) ?_
            refine lv_icmp_le (tgt := 60) hx hb dX10_remarkIs_55 (by decide) (fun c6 => ?_) (fun c6 => ?_)
            · have t6 : a1.toInt ≤ (1 : Int) := gl_le c6
              refine lv_iload_n hx hb dX10_remarkIs_60 rfl (lv_at hl 3 rfl) ?_
              refine lv_if_ne (tgt := 71) hx hb dX10_remarkIs_61 (by decide) (fun c7 => ?_) (fun c7 => ?_)
              · have t7 : a1.toInt ≠ (0 : Int) := gl_ne c7
                refine lv_aload_n hx hb dX10_remarkIs_71 rfl (lv_at hl 0 rfl) ?_
                refine qf_get hx hb hts inX5 hown hK hP (q0 := 7 + 2 * a0.toNatClampNeg) (show _ < _ from by have := hi_a0; omega) (hgU_LT ca o hi_a0) rfl 4 (by decide) wq_58 (v := .int (z (7 + 2 * a0.toNatClampNeg) 4)) rfl dX10_remarkIs_72 ?_
                refine lv_topi (fun x8 e8 => ?_)
                exact W.iret (v := x8) hx hb hr (fun t ht hW => ⟨⟨x8, (), rfl, trivial, by rw [ht]; exact hP, va_K.moved hW.alike hK⟩, hS.F ht⟩) hS.2.2 dX10_remarkIs_75
              · have t7 : a1.toInt = (0 : Int) := gl_eq c7
                refine lv_aload_n hx hb dX10_remarkIs_64 rfl (lv_at hl 0 rfl) ?_
                refine qf_get hx hb hts inX5 hown hK hP (q0 := 7 + 2 * a0.toNatClampNeg) (show _ < _ from by have := hi_a0; omega) (hgU_LT ca o hi_a0) rfl 3 (by decide) wq_55 (v := .int (z (7 + 2 * a0.toNatClampNeg) 3)) rfl dX10_remarkIs_65 ?_
                refine lv_topi (fun x9 e9 => ?_)
                refine lv_goto (tgt := 75) hx hb dX10_remarkIs_68 (by decide) ?_
                exact W.iret (v := x9) hx hb hr (fun t ht hW => ⟨⟨x9, (), rfl, trivial, by rw [ht]; exact hP, va_K.moved hW.alike hK⟩, hS.F ht⟩) hS.2.2 dX10_remarkIs_75
            · have t6 : a1.toInt > (1 : Int) := gl_nle c6
              refine lv_iconst (v := (-1)) hx hb dX10_remarkIs_58 (by decide) ?_
              exact W.iret (v := (-1)) hx hb hr (fun t ht hW => ⟨⟨(-1), (), rfl, trivial, by rw [ht]; exact hP, va_K.moved hW.alike hK⟩, hS.F ht⟩) hS.2.2 dX10_remarkIs_59
      · have t3 : a1.toInt = (3 : Int) := gl_eq c3
        refine lv_aload_n hx hb dX10_remarkIs_38 rfl (lv_at hl 0 rfl) ?_
        refine qf_get hx hb hts inX5 hown hK hP (q0 := 7 + 2 * a0.toNatClampNeg) (show _ < _ from by have := hi_a0; omega) (hgU_LT ca o hi_a0) rfl 6 (by decide) wq_64 (v := .int (z (7 + 2 * a0.toNatClampNeg) 6)) rfl dX10_remarkIs_39 ?_
        refine lv_topi (fun x10 e10 => ?_)
        exact W.iret (v := x10) hx hb hr (fun t ht hW => ⟨⟨x10, (), rfl, trivial, by rw [ht]; exact hP, va_K.moved hW.alike hK⟩, hS.F ht⟩) hS.2.2 dX10_remarkIs_42
    · have t2 : a1.toInt = (2 : Int) := gl_eq c2
      refine lv_aload_n hx hb dX10_remarkIs_28 rfl (lv_at hl 0 rfl) ?_
      refine qf_get hx hb hts inX5 hown hK hP (q0 := 7 + 2 * a0.toNatClampNeg) (show _ < _ from by have := hi_a0; omega) (hgU_LT ca o hi_a0) rfl 5 (by decide) wq_61 (v := .int (z (7 + 2 * a0.toNatClampNeg) 5)) rfl dX10_remarkIs_29 ?_
      refine lv_topi (fun x11 e11 => ?_)
      exact W.iret (v := x11) hx hb hr (fun t ht hW => ⟨⟨x11, (), rfl, trivial, by rw [ht]; exact hP, va_K.moved hW.alike hK⟩, hS.F ht⟩) hS.2.2 dX10_remarkIs_32
  · subst hr1
    refine lv_if_ne (tgt := 13) hx hb dX10_remarkIs_8 (by decide) (fun q => absurd q (by decide)) (fun _ => ?_)
    refine lv_iconst (v := (-1)) hx hb dX10_remarkIs_11 (by decide) ?_
    exact W.iret (v := (-1)) hx hb hr (fun t ht hW => ⟨⟨(-1), (), rfl, trivial, by rw [ht]; exact hP, va_K.moved hW.alike hK⟩, hS.F ht⟩) hS.2.2 dX10_remarkIs_12
set_option maxRecDepth 100000 in
set_option maxHeartbeats 8000000 in
theorem u_worth (l : Launch) (D : va_G) (ca : Nat → ClassId) (o : Nat) (b z : Nat → Nat → Int32) (y : Nat → Nat → Int64) (J0 : qJU b z) (a0 : Int32) (a1 : Int32)  : qM l yX10_worth cX10_worth 3 (some .int) 6 166 (qPre D vwCl (qT6 ca) o 132 (qG (GU ca o) z y) [.ref (o + 0), .int a0, .int a1]) (va_Qi (fun r u => True ∧ qJU b u.1) (qB D vwCl (qT6 ca) o 132 (fun u : qZ => qG (GU ca o) u.1 u.2)) (qw_A o 132)) (qw_A o 132) := by
  refine Met.ofW (cc := cX10_worth) (maxL := 3) (ret := (some .int)) (by decide) rfl ?_
  intro p e s m args below meth c s₁ B hml hv
  obtain ⟨rfl, hP, hK⟩ := hv
  have hx := B.exec
  have hb := B.bytes
  have hr := B.returns
  have hts0 := atoms_spec (ws := Cond.code yX10_worth cX10_worth 3 (some .int) :: qtbl) B.pre
  have hts : ∀ w ∈ qtbl, w.before _ s = true := fun w h => hts0 w (List.mem_cons_of_mem _ h)
  have hown : s.vm.findClass RX10 = some m.cls := findClass_of_methodNamed B.named
  have hlocks := B.notSynchronized
  have hS : va_S (qw_A o 132) s.heap s.heap [] := va_S.rf
  have hl := lv_entry ([.ref (o + 0), .int a0, .int a1]) (n := 3) (Nat.le_of_ble_eq_true rfl)
  rw [lg_entry_eq]
  generalize (lg_sl ([.ref (o + 0), .int a0, .int a1]) ++ List.replicate (3 - (lg_sl ([.ref (o + 0), .int a0, .int a1])).length) Slot.unset).toArray = ls at hl ⊢
  have hl : lv_has ls 3 [(0, .ref (o + 0)), (1, .int a0), (2, .int a1)] := hl
  refine lv_aload_n hx hb dX10_worth_0 rfl (lv_at hl 0 rfl) ?_
  refine lv_iload_n hx hb dX10_worth_1 rfl (lv_at hl 1 rfl) ?_
  refine qc_Vip (As := [.int a0]) (rest := []) (k0 := 1) (u_areRemarks l D ca o b z y J0 a0) kc_yX10_areRemarks ⟨hx, hb, hml, hown, hts⟩ wq_583 rfl rfl ⟨Nat.le_of_ble_eq_true rfl, Nat.le_of_ble_eq_true rfl⟩ wq_all hP hK hS qw_Ai (q0 := 0) (by decide) (hgU_0 ca o _ _) rfl rfl hl.1 rfl (Nat.le_of_ble_eq_true rfl) dX10_worth_2 ⟨Nat.zero_le _, Nat.zero_le _⟩ (fun r1 H locs h1 hP hS _ _ => ?_)
  have b1 : (0 : Int) ≤ r1.toInt ∧ r1.toInt ≤ 1 := h1
  refine lv_if_eq (tgt := 30) hx hb dX10_worth_5 (by decide) (fun c2 => ?_) (fun c2 => ?_)
  · have t2 : r1.toInt = (0 : Int) := gl_eq c2
    refine lv_iconst (v := 0) hx hb dX10_worth_30 (by decide) ?_
    exact W.iret (v := 0) hx hb hr (fun t ht hW => ⟨⟨0, (z, y), rfl, ⟨trivial, J0⟩, by rw [ht]; exact hP, va_K.moved hW.alike hK⟩, hS.F ht⟩) hS.2.2 dX10_worth_31
  · have t2 : r1.toInt ≠ (0 : Int) := gl_ne c2
    refine lv_aload_n hx hb dX10_worth_8 rfl (lv_at hl 0 rfl) ?_
    refine qf_get hx hb hts inX10 hown hK hP (q0 := 0) (by decide) (hgU_0 ca o) rfl 0 (by decide) wq_353 (v := .ref (o + 1)) rfl dX10_worth_9 ?_
    refine lv_iload_n hx hb dX10_worth_12 rfl (lv_at hl 2 rfl) ?_
    refine qc_Vip (As := [.int a1]) (rest := []) (k0 := 1) (u_Told_hasForm l D ca o b z y J0 a1) kc_yX9_hasForm ⟨hx, hb, hml, hown, hts⟩ wq_743 rfl rfl ⟨Nat.le_of_ble_eq_true rfl, Nat.le_of_ble_eq_true rfl⟩ wq_all hP hK hS qw_Ai (q0 := 1) (by decide) (hgU_1 ca o _ _) rfl rfl hl.1 rfl (Nat.le_of_ble_eq_true rfl) dX10_worth_13 ⟨Nat.zero_le _, Nat.zero_le _⟩ (fun r3 H locs h3 hP hS _ _ => ?_)
    rcases h3 with ⟨hr3, hf3_0⟩ | hr3
    · subst hr3
      have hg3_0 : 0 ≤ a1.toInt ∧ a1.toInt ≤ 5 := hf3_0
      refine lv_if_eq (tgt := 30) hx hb dX10_worth_16 (by decide) (fun q => absurd q (by decide)) (fun _ => ?_)
      refine lv_aload_n hx hb dX10_worth_19 rfl (lv_at hl 0 rfl) ?_
      refine qf_get hx hb hts inX10 hown hK hP (q0 := 0) (by decide) (hgU_0 ca o) rfl 6 (by decide) wq_359 (v := .ref (o + 104)) rfl dX10_worth_20 ?_
      refine lv_iload_n hx hb dX10_worth_23 rfl (lv_at hl 1 rfl) ?_
      refine qc_Vi2 (As := [.int a0]) (rest := []) (k0 := 1) (u_Rows_seek l D ca o b z y J0 a0) kc_yX7_seek ⟨hx, hb, hml, hown, hts⟩ wq_587 rfl rfl ⟨Nat.le_of_ble_eq_true rfl, Nat.le_of_ble_eq_true rfl⟩ wq_all hP hK hS qw_Ai (q0 := 104) (by decide) (hgU_104 ca o _ _) rfl rfl hl.1 rfl (Nat.le_of_ble_eq_true rfl) dX10_worth_24 ⟨Nat.zero_le _, Nat.zero_le _⟩ (fun r4 z4 y4 H locs h4 hP hS _ _ => ?_)
      have J4 : qJU b z4 := h4.2
      have b4 : (-3 : Int) ≤ r4.toInt ∧ r4.toInt ≤ 0 := h4.1
      refine lv_if_ge (tgt := 32) hx hb dX10_worth_27 (by decide) (fun c5 => ?_) (fun c5 => ?_)
      · have t5 : r4.toInt ≥ (0 : Int) := gl_le c5
        refine lv_aload_n hx hb dX10_worth_32 rfl (lv_at hl 0 rfl) ?_
        refine qf_get hx hb hts inX10 hown hK hP (q0 := 0) (by decide) (hgU_0 ca o) rfl 0 (by decide) wq_353 (v := .ref (o + 1)) rfl dX10_worth_33 ?_
        refine qf_get hx hb hts inX9 hown hK hP (q0 := 1) (by decide) (hgU_1 ca o) rfl 4 (by decide) wq_97 (v := .ref (o + 6)) rfl dX10_worth_36 ?_
        refine lv_bipush (v := 10) hx hb dX10_worth_39 (by decide) ?_
        refine lv_iload_n hx hb dX10_worth_41 rfl (lv_at hl 2 rfl) ?_
        refine lv_iadd hx hb dX10_worth_42 ?_
        refine lv_topi (fun x6 e6 => ?_)
        have t6 : x6.toInt = (10 : Int) + a1.toInt := ga_add e6 rfl rfl (by omega) (by omega)
        have hi_x6 : x6.toNatClampNeg < 16 := ga_nat (by omega) (show _ < (16 : Int) from by omega)
        refine qa_aald hx hb hK hP (q0 := 6) (by decide) 4 rfl (N := 16) (hgU_6 ca o) rfl (gi_in (by omega) (by omega)) dX10_worth_43 ?_
        refine lv_aload_n hx hb dX10_worth_44 rfl (lv_at hl 0 rfl) ?_
        refine qf_get hx hb hts inX10 hown hK hP (q0 := 0) (by decide) (hgU_0 ca o) rfl 6 (by decide) wq_359 (v := .ref (o + 104)) rfl dX10_worth_45 ?_
        refine qf_get hx hb hts inX7 hown hK hP (q0 := 104) (by decide) (hgU_104 ca o) rfl 1 (by decide) wq_189 (v := .ref (o + 105)) rfl dX10_worth_48 ?_
        refine qc_Vip (As := [.ref (o + 105)]) (rest := []) (k0 := 1) (u_Line_tells l D ca o b z4 y4 J4 (i0_ := x6.toNatClampNeg) hi_x6) kc_yX5_tells ⟨hx, hb, hml, hown, hts⟩ wq_804 rfl rfl ⟨Nat.le_of_ble_eq_true rfl, Nat.le_of_ble_eq_true rfl⟩ wq_all hP hK hS qw_Ai (q0 := 7 + 2 * x6.toNatClampNeg) (show _ < _ from by have := hi_x6; omega) (hgU_LT ca o hi_x6 _ _) rfl rfl hl.1 rfl (Nat.le_of_ble_eq_true rfl) dX10_worth_51 ⟨Nat.zero_le _, Nat.zero_le _⟩ (fun r7 H locs h7 hP hS _ _ => ?_)
        exact W.iret (v := r7) hx hb hr (fun t ht hW => ⟨⟨r7, (z4, y4), rfl, ⟨trivial, J4⟩, by rw [ht]; exact hP, va_K.moved hW.alike hK⟩, hS.F ht⟩) hS.2.2 dX10_worth_54
      · have t5 : r4.toInt < (0 : Int) := gl_nle c5
        refine lv_iconst (v := 0) hx hb dX10_worth_30 (by decide) ?_
        exact W.iret (v := 0) hx hb hr (fun t ht hW => ⟨⟨0, (z4, y4), rfl, ⟨trivial, J4⟩, by rw [ht]; exact hP, va_K.moved hW.alike hK⟩, hS.F ht⟩) hS.2.2 dX10_worth_31
    · subst hr3
      refine lv_if_eq (tgt := 30) hx hb dX10_worth_16 (by decide) (fun _ => ?_) (fun q => absurd (by decide) q)
      refine lv_iconst (v := 0) hx hb dX10_worth_30 (by decide) ?_
      exact W.iret (v := 0) hx hb hr (fun t ht hW => ⟨⟨0, (z, y), rfl, ⟨trivial, J0⟩, by rw [ht]; exact hP, va_K.moved hW.alike hK⟩, hS.F ht⟩) hS.2.2 dX10_worth_31
set_option maxRecDepth 100000 in
set_option maxHeartbeats 8000000 in
theorem u_between (l : Launch) (D : va_G) (ca : Nat → ClassId) (o : Nat) (b z : Nat → Nat → Int32) (y : Nat → Nat → Int64) (J0 : qJU b z) (a0 : Int32) (a1 : Int32) (a2 : Int32)  : qM l yX10_between cX10_between 9 (some .int) 5 145 (qPre D vwCl (qT6 ca) o 132 (qG (GU ca o) z y) [.ref (o + 0), .int a0, .int a1, .int a2]) (va_Qi (fun r u => True ∧ qJU b u.1) (qB D vwCl (qT6 ca) o 132 (fun u : qZ => qG (GU ca o) u.1 u.2)) (qw_A o 132)) (qw_A o 132) := by
  refine Met.ofW (cc := cX10_between) (maxL := 9) (ret := (some .int)) (by decide) rfl ?_
  intro p e s m args below meth c s₁ B hml hv
  obtain ⟨rfl, hP, hK⟩ := hv
  have hx := B.exec
  have hb := B.bytes
  have hr := B.returns
  have hts0 := atoms_spec (ws := Cond.code yX10_between cX10_between 9 (some .int) :: qtbl) B.pre
  have hts : ∀ w ∈ qtbl, w.before _ s = true := fun w h => hts0 w (List.mem_cons_of_mem _ h)
  have hown : s.vm.findClass RX10 = some m.cls := findClass_of_methodNamed B.named
  have hlocks := B.notSynchronized
  have hS : va_S (qw_A o 132) s.heap s.heap [] := va_S.rf
  have hl := lv_entry ([.ref (o + 0), .int a0, .int a1, .int a2]) (n := 9) (Nat.le_of_ble_eq_true rfl)
  rw [lg_entry_eq]
  generalize (lg_sl ([.ref (o + 0), .int a0, .int a1, .int a2]) ++ List.replicate (9 - (lg_sl ([.ref (o + 0), .int a0, .int a1, .int a2])).length) Slot.unset).toArray = ls at hl ⊢
  have hl : lv_has ls 9 [(0, .ref (o + 0)), (1, .int a0), (2, .int a1), (3, .int a2)] := hl
  refine lv_aload_n hx hb dX10_between_0 rfl (lv_at hl 0 rfl) ?_
  refine lv_iload_n hx hb dX10_between_1 rfl (lv_at hl 1 rfl) ?_
  refine qc_Vip (As := [.int a0]) (rest := []) (k0 := 1) (u_areRemarks l D ca o b z y J0 a0) kc_yX10_areRemarks ⟨hx, hb, hml, hown, hts⟩ wq_583 rfl rfl ⟨Nat.le_of_ble_eq_true rfl, Nat.le_of_ble_eq_true rfl⟩ wq_all hP hK hS qw_Ai (q0 := 0) (by decide) (hgU_0 ca o _ _) rfl rfl hl.1 rfl (Nat.le_of_ble_eq_true rfl) dX10_between_2 ⟨Nat.zero_le _, Nat.zero_le _⟩ (fun r1 H locs h1 hP hS _ _ => ?_)
  have b1 : (0 : Int) ≤ r1.toInt ∧ r1.toInt ≤ 1 := h1
  refine lv_if_eq (tgt := 39) hx hb dX10_between_5 (by decide) (fun c2 => ?_) (fun c2 => ?_)
  · have t2 : r1.toInt = (0 : Int) := gl_eq c2
    refine lv_iconst (v := 0) hx hb dX10_between_39 (by decide) ?_
    exact W.iret (v := 0) hx hb hr (fun t ht hW => ⟨⟨0, (z, y), rfl, ⟨trivial, J0⟩, by rw [ht]; exact hP, va_K.moved hW.alike hK⟩, hS.F ht⟩) hS.2.2 dX10_between_40
  · have t2 : r1.toInt ≠ (0 : Int) := gl_ne c2
    refine lv_aload_n hx hb dX10_between_8 rfl (lv_at hl 0 rfl) ?_
    refine qf_get hx hb hts inX10 hown hK hP (q0 := 0) (by decide) (hgU_0 ca o) rfl 0 (by decide) wq_353 (v := .ref (o + 1)) rfl dX10_between_9 ?_
    refine lv_iload_n hx hb dX10_between_12 rfl (lv_at hl 2 rfl) ?_
    refine qc_Vip (As := [.int a1]) (rest := []) (k0 := 1) (u_Told_hasForm l D ca o b z y J0 a1) kc_yX9_hasForm ⟨hx, hb, hml, hown, hts⟩ wq_743 rfl rfl ⟨Nat.le_of_ble_eq_true rfl, Nat.le_of_ble_eq_true rfl⟩ wq_all hP hK hS qw_Ai (q0 := 1) (by decide) (hgU_1 ca o _ _) rfl rfl hl.1 rfl (Nat.le_of_ble_eq_true rfl) dX10_between_13 ⟨Nat.zero_le _, Nat.zero_le _⟩ (fun r3 H locs h3 hP hS _ _ => ?_)
    rcases h3 with ⟨hr3, hf3_0⟩ | hr3
    · subst hr3
      have hg3_0 : 0 ≤ a1.toInt ∧ a1.toInt ≤ 5 := hf3_0
      refine lv_if_eq (tgt := 39) hx hb dX10_between_16 (by decide) (fun q => absurd q (by decide)) (fun _ => ?_)
      refine lv_iload_n hx hb dX10_between_19 rfl (lv_at hl 3 rfl) ?_
      refine lv_if_lt (tgt := 39) hx hb dX10_between_20 (by decide) (fun c4 => ?_) (fun c4 => ?_)
      · have t4 : a2.toInt < (0 : Int) := gl_lt c4
        refine lv_iconst (v := 0) hx hb dX10_between_39 (by decide) ?_
        exact W.iret (v := 0) hx hb hr (fun t ht hW => ⟨⟨0, (z, y), rfl, ⟨trivial, J0⟩, by rw [ht]; exact hP, va_K.moved hW.alike hK⟩, hS.F ht⟩) hS.2.2 dX10_between_40
      · have t4 : a2.toInt ≥ (0 : Int) := gl_nlt c4
        refine lv_iload_n hx hb dX10_between_23 rfl (lv_at hl 3 rfl) ?_
        refine lv_iconst (v := 1) hx hb dX10_between_24 (by decide) ?_
        refine lv_icmp_gt (tgt := 39) hx hb dX10_between_25 (by decide) (fun c5 => ?_) (fun c5 => ?_)
        · have t5 : a2.toInt > (1 : Int) := gl_lt c5
          refine lv_iconst (v := 0) hx hb dX10_between_39 (by decide) ?_
          exact W.iret (v := 0) hx hb hr (fun t ht hW => ⟨⟨0, (z, y), rfl, ⟨trivial, J0⟩, by rw [ht]; exact hP, va_K.moved hW.alike hK⟩, hS.F ht⟩) hS.2.2 dX10_between_40
        · have t5 : a2.toInt ≤ (1 : Int) := gl_nlt c5
          refine lv_aload_n hx hb dX10_between_28 rfl (lv_at hl 0 rfl) ?_
          refine qf_get hx hb hts inX10 hown hK hP (q0 := 0) (by decide) (hgU_0 ca o) rfl 6 (by decide) wq_359 (v := .ref (o + 104)) rfl dX10_between_29 ?_
          refine lv_iload_n hx hb dX10_between_32 rfl (lv_at hl 1 rfl) ?_
          refine qc_Vi2 (As := [.int a0]) (rest := []) (k0 := 1) (u_Rows_start l D ca o b z y J0 a0) kc_yX7_start ⟨hx, hb, hml, hown, hts⟩ wq_661 rfl rfl ⟨Nat.le_of_ble_eq_true rfl, Nat.le_of_ble_eq_true rfl⟩ wq_all hP hK hS qw_Ai (q0 := 104) (by decide) (hgU_104 ca o _ _) rfl rfl hl.1 rfl (Nat.le_of_ble_eq_true rfl) dX10_between_33 ⟨Nat.zero_le _, Nat.zero_le _⟩ (fun r6 z6 y6 H locs h6 hP hS _ _ => ?_)
          have J6 : qJU b z6 := h6.2
          have b6 : (0 : Int) ≤ r6.toInt ∧ r6.toInt ≤ 1 := h6.1
          refine lv_if_ne (tgt := 41) hx hb dX10_between_36 (by decide) (fun c7 => ?_) (fun c7 => ?_)
          · have t7 : r6.toInt ≠ (0 : Int) := gl_ne c7
            refine lv_aload_n hx hb dX10_between_41 rfl (lv_at hl 0 rfl) ?_
            refine qf_get hx hb hts inX10 hown hK hP (q0 := 0) (by decide) (hgU_0 ca o) rfl 0 (by decide) wq_353 (v := .ref (o + 1)) rfl dX10_between_42 ?_
            refine qf_get hx hb hts inX9 hown hK hP (q0 := 1) (by decide) (hgU_1 ca o) rfl 4 (by decide) wq_97 (v := .ref (o + 6)) rfl dX10_between_45 ?_
            refine lv_bipush (v := 10) hx hb dX10_between_48 (by decide) ?_
            refine lv_iload_n hx hb dX10_between_50 rfl (lv_at hl 2 rfl) ?_
            refine lv_iadd hx hb dX10_between_51 ?_
            refine lv_topi (fun x8 e8 => ?_)
            have t8 : x8.toInt = (10 : Int) + a1.toInt := ga_add e8 rfl rfl (by omega) (by omega)
            have hi_x8 : x8.toNatClampNeg < 16 := ga_nat (by omega) (show _ < (16 : Int) from by omega)
            refine qa_aald hx hb hK hP (q0 := 6) (by decide) 4 rfl (N := 16) (hgU_6 ca o) rfl (gi_in (by omega) (by omega)) dX10_between_52 ?_
            refine lv_astore (lv' := [(4, .ref (o + (7 + 2 * x8.toNatClampNeg))), (0, .ref (o + 0)), (1, .int a0), (2, .int a1), (3, .int a2)]) hx hb dX10_between_53 hl (by decide) rfl (fun ls hl => ?_)
            refine lv_iconst (v := 0) hx hb dX10_between_55 (by decide) ?_
            refine lv_istore (lv' := [(5, .int 0), (4, .ref (o + (7 + 2 * x8.toNatClampNeg))), (0, .ref (o + 0)), (1, .int a0), (2, .int a1), (3, .int a2)]) hx hb dX10_between_56 hl (by decide) rfl (fun ls hl => ?_)
            refine lv_iconst (v := 0) hx hb dX10_between_58 (by decide) ?_
            refine lv_istore (lv' := [(6, .int 0), (5, .int 0), (4, .ref (o + (7 + 2 * x8.toNatClampNeg))), (0, .ref (o + 0)), (1, .int a0), (2, .int a1), (3, .int a2)]) hx hb dX10_between_59 hl (by decide) rfl (fun ls hl => ?_)
            refine lv_iconst (v := 0) hx hb dX10_between_61 (by decide) ?_
            refine lv_istore (lv' := [(7, .int 0), (6, .int 0), (5, .int 0), (4, .ref (o + (7 + 2 * x8.toNatClampNeg))), (0, .ref (o + 0)), (1, .int a0), (2, .int a1), (3, .int a2)]) hx hb dX10_between_62 hl (by decide) rfl (fun ls hl => ?_)
            have loop9 : ∀ (n : Nat) (w9_7 : Int32) (w9_6 : Int32) (w9_5 : Int32) (z9 : Nat → Nat → Int32) (y9 : Nat → Nat → Int64), ((200000 - w9_7.toInt : Int) < (n : Int)) → ((0 : Int) ≤ w9_7.toInt ∧ w9_7.toInt ≤ 200000) → ((0 : Int) ≤ w9_6.toInt ∧ w9_6.toInt ≤ 1) → (qJU b z9) → ∀ (H : Heap) (locs : List Loc), qw_P D vwCl o 132 (qG (GU ca o) z9 y9) H → va_S (qw_A o 132) s.heap H locs → ∀ (ls : Array Slot), lv_has ls 9 [(7, .int w9_7), (6, .int w9_6), (5, .int w9_5), (4, .ref (o + (7 + 2 * x8.toNatClampNeg))), (0, .ref (o + 0)), (1, .int a0), (2, .int a1), (3, .int a2)] → W p l e (headSpec (Cond.code yX10_between cX10_between 9 (some .int) :: qtbl) ({ frames := 5, cells := 0, slots := 0, locals := 145 })).room s m (([.ref (o + 0), .int a0, .int a1, .int a2] : List Value).toArray) below meth c H locs 0 0 (MQ below (va_Qi (fun r u => True ∧ qJU b u.1) (qB D vwCl (qT6 ca) o 132 (fun u : qZ => qG (GU ca o) u.1 u.2)) (qw_A o 132)) (([.ref (o + 0), .int a0, .int a1, .int a2] : List Value).toArray) s 0 0 (qw_A o 132)) (F0 m 64 ls []) := by
              intro n
              induction n with
              | zero => intro w9_7 w9_6 w9_5 z9 y9 hb9 hv9_7 hv9_6 J9; exfalso; omega
              | succ n9 ih9 =>
                intro w9_7 w9_6 w9_5 z9 y9 hb9 hv9_7 hv9_6 J9 H locs hP hS ls hl
                refine lv_iload hx hb dX10_between_64 (lv_at hl 0 rfl) ?_
                refine lv_ldc (v := 200000) hx hb hown (hts _ wq_663) dX10_between_66 ?_
                refine lv_icmp_ge (tgt := 134) hx hb dX10_between_68 (by decide) (fun c10 => ?_) (fun c10 => ?_)
                · have t10 : w9_7.toInt ≥ (200000 : Int) := gl_le c10
                  refine lv_iload hx hb dX10_between_134 (lv_at hl 2 rfl) ?_
                  exact W.iret (v := w9_5) hx hb hr (fun t ht hW => ⟨⟨w9_5, (z9, y9), rfl, ⟨trivial, J9⟩, by rw [ht]; exact hP, va_K.moved hW.alike hK⟩, hS.F ht⟩) hS.2.2 dX10_between_136
                · have t10 : w9_7.toInt < (200000 : Int) := gl_nle c10
                  refine lv_aload_n hx hb dX10_between_71 rfl (lv_at hl 4 rfl) ?_
                  refine qf_get hx hb hts inX10 hown hK hP (q0 := 0) (by decide) (hgU_0 ca o) rfl 6 (by decide) wq_359 (v := .ref (o + 104)) rfl dX10_between_72 ?_
                  refine qc_Vi2 (As := []) (rest := []) (k0 := 0) (u_Rows_next l D ca o b z9 y9 J9) kc_yX7_next ⟨hx, hb, hml, hown, hts⟩ wq_664 rfl rfl ⟨Nat.le_of_ble_eq_true rfl, Nat.le_of_ble_eq_true rfl⟩ wq_all hP hK hS qw_Ai (q0 := 104) (by decide) (hgU_104 ca o _ _) rfl rfl hl.1 rfl (Nat.le_of_ble_eq_true rfl) dX10_between_75 ⟨Nat.zero_le _, Nat.zero_le _⟩ (fun r11 z11 y11 H locs h11 hP hS _ _ => ?_)
                  have J11 : qJU b z11 := h11.2
                  have b11 : (0 : Int) ≤ r11.toInt ∧ r11.toInt ≤ 1 := h11.1
                  refine lv_if_eq (tgt := 134) hx hb dX10_between_78 (by decide) (fun c12 => ?_) (fun c12 => ?_)
                  · have t12 : r11.toInt = (0 : Int) := gl_eq c12
                    refine lv_iload hx hb dX10_between_134 (lv_at hl 2 rfl) ?_
                    exact W.iret (v := w9_5) hx hb hr (fun t ht hW => ⟨⟨w9_5, (z11, y11), rfl, ⟨trivial, J11⟩, by rw [ht]; exact hP, va_K.moved hW.alike hK⟩, hS.F ht⟩) hS.2.2 dX10_between_136
                  · have t12 : r11.toInt ≠ (0 : Int) := gl_ne c12
                    refine lv_aload hx hb dX10_between_81 (lv_at hl 3 rfl) ?_
                    refine lv_aload_n hx hb dX10_between_83 rfl (lv_at hl 4 rfl) ?_
                    refine qf_get hx hb hts inX10 hown hK hP (q0 := 0) (by decide) (hgU_0 ca o) rfl 6 (by decide) wq_359 (v := .ref (o + 104)) rfl dX10_between_84 ?_
                    refine qf_get hx hb hts inX7 hown hK hP (q0 := 104) (by decide) (hgU_104 ca o) rfl 1 (by decide) wq_189 (v := .ref (o + 105)) rfl dX10_between_87 ?_
                    refine qc_Vip (As := [.ref (o + 105)]) (rest := []) (k0 := 1) (u_Line_tells l D ca o b z11 y11 J11 (i0_ := x8.toNatClampNeg) hi_x8) kc_yX5_tells ⟨hx, hb, hml, hown, hts⟩ wq_804 rfl rfl ⟨Nat.le_of_ble_eq_true rfl, Nat.le_of_ble_eq_true rfl⟩ wq_all hP hK hS qw_Ai (q0 := 7 + 2 * x8.toNatClampNeg) (show _ < _ from by have := hi_x8; omega) (hgU_LT ca o hi_x8 _ _) rfl rfl hl.1 rfl (Nat.le_of_ble_eq_true rfl) dX10_between_90 ⟨Nat.zero_le _, Nat.zero_le _⟩ (fun r13 H locs h13 hP hS _ _ => ?_)
                    refine lv_istore (lv' := [(8, .int r13), (7, .int w9_7), (6, .int w9_6), (5, .int w9_5), (4, .ref (o + (7 + 2 * x8.toNatClampNeg))), (0, .ref (o + 0)), (1, .int a0), (2, .int a1), (3, .int a2)]) hx hb dX10_between_93 hl (by decide) rfl (fun ls hl => ?_)
                    refine lv_iload hx hb dX10_between_95 (lv_at hl 2 rfl) ?_
                    refine lv_if_eq (tgt := 121) hx hb dX10_between_97 (by decide) (fun c14 => ?_) (fun c14 => ?_)
                    · have t14 : w9_6.toInt = (0 : Int) := gl_eq c14
                      refine lv_iload hx hb dX10_between_121 (lv_at hl 0 rfl) ?_
                      refine lv_istore (lv' := [(5, .int r13), (8, .int r13), (7, .int w9_7), (6, .int w9_6), (4, .ref (o + (7 + 2 * x8.toNatClampNeg))), (0, .ref (o + 0)), (1, .int a0), (2, .int a1), (3, .int a2)]) hx hb dX10_between_123 hl (by decide) rfl (fun ls hl => ?_)
                      refine lv_iconst (v := 1) hx hb dX10_between_125 (by decide) ?_
                      refine lv_istore (lv' := [(6, .int 1), (5, .int r13), (8, .int r13), (7, .int w9_7), (4, .ref (o + (7 + 2 * x8.toNatClampNeg))), (0, .ref (o + 0)), (1, .int a0), (2, .int a1), (3, .int a2)]) hx hb dX10_between_126 hl (by decide) rfl (fun ls hl => ?_)
                      obtain ⟨x15, e15⟩ : ∃ t : Int32, t = w9_7 + 1 := ⟨_, rfl⟩
                      refine lv_iinc (v := x15) (lv' := [(7, .int x15), (6, .int 1), (5, .int r13), (8, .int r13), (4, .ref (o + (7 + 2 * x8.toNatClampNeg))), (0, .ref (o + 0)), (1, .int a0), (2, .int a1), (3, .int a2)]) hx hb dX10_between_128 hl (k := 3) rfl (by rw [e15]; rfl) (by decide) rfl (fun ls hl => ?_)
                      have t15 : x15.toInt = w9_7.toInt + (1 : Int) := ga_add e15 rfl rfl (by omega) (by omega)
                      refine lv_goto (tgt := 64) hx hb dX10_between_131 (by decide) ?_
                      exact ih9 x15 1 r13 z11 y11 (show (200000 - x15.toInt : Int) < (n9 : Int) from by omega) ⟨by omega, by omega⟩ ⟨by decide, by decide⟩ J11 _ _ hP hS _ (lv_sub hl [0, 1, 2, 4, 5, 6, 7, 8] rfl)
                    · have t14 : w9_6.toInt ≠ (0 : Int) := gl_ne c14
                      refine lv_iload_n hx hb dX10_between_100 rfl (lv_at hl 8 rfl) ?_
                      refine lv_if_ne (tgt := 114) hx hb dX10_between_101 (by decide) (fun c16 => ?_) (fun c16 => ?_)
                      · have t16 : a2.toInt ≠ (0 : Int) := gl_ne c16
                        refine lv_iload hx hb dX10_between_114 (lv_at hl 0 rfl) ?_
                        refine lv_iload hx hb dX10_between_116 (lv_at hl 3 rfl) ?_
                        refine lv_icmp_le (tgt := 125) hx hb dX10_between_118 (by decide) (fun c17 => ?_) (fun c17 => ?_)
                        · have t17 : r13.toInt ≤ w9_5.toInt := gl_le c17
                          refine lv_iconst (v := 1) hx hb dX10_between_125 (by decide) ?_
                          refine lv_istore (lv' := [(6, .int 1), (8, .int r13), (7, .int w9_7), (5, .int w9_5), (4, .ref (o + (7 + 2 * x8.toNatClampNeg))), (0, .ref (o + 0)), (1, .int a0), (2, .int a1), (3, .int a2)]) hx hb dX10_between_126 hl (by decide) rfl (fun ls hl => ?_)
                          obtain ⟨x18, e18⟩ : ∃ t : Int32, t = w9_7 + 1 := ⟨_, rfl⟩
                          refine lv_iinc (v := x18) (lv' := [(7, .int x18), (6, .int 1), (8, .int r13), (5, .int w9_5), (4, .ref (o + (7 + 2 * x8.toNatClampNeg))), (0, .ref (o + 0)), (1, .int a0), (2, .int a1), (3, .int a2)]) hx hb dX10_between_128 hl (k := 2) rfl (by rw [e18]; rfl) (by decide) rfl (fun ls hl => ?_)
                          have t18 : x18.toInt = w9_7.toInt + (1 : Int) := ga_add e18 rfl rfl (by omega) (by omega)
                          refine lv_goto (tgt := 64) hx hb dX10_between_131 (by decide) ?_
                          exact ih9 x18 1 w9_5 z11 y11 (show (200000 - x18.toInt : Int) < (n9 : Int) from by omega) ⟨by omega, by omega⟩ ⟨by decide, by decide⟩ J11 _ _ hP hS _ (lv_sub hl [0, 1, 3, 4, 5, 6, 7, 8] rfl)
                        · have t17 : r13.toInt > w9_5.toInt := gl_nle c17
                          refine lv_iload hx hb dX10_between_121 (lv_at hl 0 rfl) ?_
                          refine lv_istore (lv' := [(5, .int r13), (8, .int r13), (7, .int w9_7), (6, .int w9_6), (4, .ref (o + (7 + 2 * x8.toNatClampNeg))), (0, .ref (o + 0)), (1, .int a0), (2, .int a1), (3, .int a2)]) hx hb dX10_between_123 hl (by decide) rfl (fun ls hl => ?_)
                          refine lv_iconst (v := 1) hx hb dX10_between_125 (by decide) ?_
                          refine lv_istore (lv' := [(6, .int 1), (5, .int r13), (8, .int r13), (7, .int w9_7), (4, .ref (o + (7 + 2 * x8.toNatClampNeg))), (0, .ref (o + 0)), (1, .int a0), (2, .int a1), (3, .int a2)]) hx hb dX10_between_126 hl (by decide) rfl (fun ls hl => ?_)
                          obtain ⟨x19, e19⟩ : ∃ t : Int32, t = w9_7 + 1 := ⟨_, rfl⟩
                          refine lv_iinc (v := x19) (lv' := [(7, .int x19), (6, .int 1), (5, .int r13), (8, .int r13), (4, .ref (o + (7 + 2 * x8.toNatClampNeg))), (0, .ref (o + 0)), (1, .int a0), (2, .int a1), (3, .int a2)]) hx hb dX10_between_128 hl (k := 3) rfl (by rw [e19]; rfl) (by decide) rfl (fun ls hl => ?_)
                          have t19 : x19.toInt = w9_7.toInt + (1 : Int) := ga_add e19 rfl rfl (by omega) (by omega)
                          refine lv_goto (tgt := 64) hx hb dX10_between_131 (by decide) ?_
                          exact ih9 x19 1 r13 z11 y11 (show (200000 - x19.toInt : Int) < (n9 : Int) from by omega) ⟨by omega, by omega⟩ ⟨by decide, by decide⟩ J11 _ _ hP hS _ (lv_sub hl [0, 1, 2, 4, 5, 6, 7, 8] rfl)
                      · have t16 : a2.toInt = (0 : Int) := gl_eq c16
                        refine lv_iload hx hb dX10_between_104 (lv_at hl 0 rfl) ?_
                        refine lv_iload hx hb dX10_between_106 (lv_at hl 3 rfl) ?_
                        refine lv_icmp_ge (tgt := 125) hx hb dX10_between_108 (by decide) (fun c20 => ?_) (fun c20 => ?_)
                        · have t20 : r13.toInt ≥ w9_5.toInt := gl_le c20
                          refine lv_iconst (v := 1) hx hb dX10_between_125 (by decide) ?_
                          refine lv_istore (lv' := [(6, .int 1), (8, .int r13), (7, .int w9_7), (5, .int w9_5), (4, .ref (o + (7 + 2 * x8.toNatClampNeg))), (0, .ref (o + 0)), (1, .int a0), (2, .int a1), (3, .int a2)]) hx hb dX10_between_126 hl (by decide) rfl (fun ls hl => ?_)
                          obtain ⟨x21, e21⟩ : ∃ t : Int32, t = w9_7 + 1 := ⟨_, rfl⟩
                          refine lv_iinc (v := x21) (lv' := [(7, .int x21), (6, .int 1), (8, .int r13), (5, .int w9_5), (4, .ref (o + (7 + 2 * x8.toNatClampNeg))), (0, .ref (o + 0)), (1, .int a0), (2, .int a1), (3, .int a2)]) hx hb dX10_between_128 hl (k := 2) rfl (by rw [e21]; rfl) (by decide) rfl (fun ls hl => ?_)
                          have t21 : x21.toInt = w9_7.toInt + (1 : Int) := ga_add e21 rfl rfl (by omega) (by omega)
                          refine lv_goto (tgt := 64) hx hb dX10_between_131 (by decide) ?_
                          exact ih9 x21 1 w9_5 z11 y11 (show (200000 - x21.toInt : Int) < (n9 : Int) from by omega) ⟨by omega, by omega⟩ ⟨by decide, by decide⟩ J11 _ _ hP hS _ (lv_sub hl [0, 1, 3, 4, 5, 6, 7, 8] rfl)
                        · have t20 : r13.toInt < w9_5.toInt := gl_nle c20
                          refine lv_goto (tgt := 121) hx hb dX10_between_111 (by decide) ?_
                          refine lv_iload hx hb dX10_between_121 (lv_at hl 0 rfl) ?_
                          refine lv_istore (lv' := [(5, .int r13), (8, .int r13), (7, .int w9_7), (6, .int w9_6), (4, .ref (o + (7 + 2 * x8.toNatClampNeg))), (0, .ref (o + 0)), (1, .int a0), (2, .int a1), (3, .int a2)]) hx hb dX10_between_123 hl (by decide) rfl (fun ls hl => ?_)
                          refine lv_iconst (v := 1) hx hb dX10_between_125 (by decide) ?_
                          refine lv_istore (lv' := [(6, .int 1), (5, .int r13), (8, .int r13), (7, .int w9_7), (4, .ref (o + (7 + 2 * x8.toNatClampNeg))), (0, .ref (o + 0)), (1, .int a0), (2, .int a1), (3, .int a2)]) hx hb dX10_between_126 hl (by decide) rfl (fun ls hl => ?_)
                          obtain ⟨x22, e22⟩ : ∃ t : Int32, t = w9_7 + 1 := ⟨_, rfl⟩
                          refine lv_iinc (v := x22) (lv' := [(7, .int x22), (6, .int 1), (5, .int r13), (8, .int r13), (4, .ref (o + (7 + 2 * x8.toNatClampNeg))), (0, .ref (o + 0)), (1, .int a0), (2, .int a1), (3, .int a2)]) hx hb dX10_between_128 hl (k := 3) rfl (by rw [e22]; rfl) (by decide) rfl (fun ls hl => ?_)
                          have t22 : x22.toInt = w9_7.toInt + (1 : Int) := ga_add e22 rfl rfl (by omega) (by omega)
                          refine lv_goto (tgt := 64) hx hb dX10_between_131 (by decide) ?_
                          exact ih9 x22 1 r13 z11 y11 (show (200000 - x22.toInt : Int) < (n9 : Int) from by omega) ⟨by omega, by omega⟩ ⟨by decide, by decide⟩ J11 _ _ hP hS _ (lv_sub hl [0, 1, 2, 4, 5, 6, 7, 8] rfl)
            exact loop9 200001 0 0 0 z6 y6 (show (200000 - (0 : Int) : Int) < ((200001 : Nat) : Int) from by omega) ⟨by decide, by decide⟩ ⟨by decide, by decide⟩ J6 _ _ hP hS _ (lv_sub hl [0, 1, 2, 3, 4, 5, 6, 7] rfl)
          · have t7 : r6.toInt = (0 : Int) := gl_eq c7
            refine lv_iconst (v := 0) hx hb dX10_between_39 (by decide) ?_
            exact W.iret (v := 0) hx hb hr (fun t ht hW => ⟨⟨0, (z6, y6), rfl, ⟨trivial, J6⟩, by rw [ht]; exact hP, va_K.moved hW.alike hK⟩, hS.F ht⟩) hS.2.2 dX10_between_40
    · subst hr3
      refine lv_if_eq (tgt := 39) hx hb dX10_between_16 (by decide) (fun _ => ?_) (fun q => absurd (by decide) q)
      refine lv_iconst (v := 0) hx hb dX10_between_39 (by decide) ?_
      exact W.iret (v := 0) hx hb hr (fun t ht hW => ⟨⟨0, (z, y), rfl, ⟨trivial, J0⟩, by rw [ht]; exact hP, va_K.moved hW.alike hK⟩, hS.F ht⟩) hS.2.2 dX10_between_40
set_option maxRecDepth 100000 in
set_option maxHeartbeats 8000000 in
theorem u_Line_become (l : Launch) (D : va_G) (ca : Nat → ClassId) (o : Nat) (b z : Nat → Nat → Int32) (y : Nat → Nat → Int64) (J0 : qJU b z) {i0_ : Nat} (hi0_ : i0_ < 16) {i1_ : Nat} (hi1_ : i1_ < 16)  : qM l yX5_become cX5_become 2 none 2 80 (qPre D vwCl (qT6 ca) o 132 (qG (GU ca o) z y) [.ref (o + (45 + 2 * i0_)), .ref (o + (7 + 2 * i1_))]) (va_Qv (fun u => qJU b u.1) (qB D vwCl (qT6 ca) o 132 (fun u : qZ => qG (GU ca o) u.1 u.2)) (qw_A o 132)) (qw_A o 132) := by
  refine Met.ofW (cc := cX5_become) (maxL := 2) (ret := none) (by decide) rfl ?_
  intro p e s m args below meth c s₁ B hml hv
  obtain ⟨rfl, hP, hK⟩ := hv
  have hx := B.exec
  have hb := B.bytes
  have hr := B.returns
  have hts0 := atoms_spec (ws := Cond.code yX5_become cX5_become 2 none :: qtbl) B.pre
  have hts : ∀ w ∈ qtbl, w.before _ s = true := fun w h => hts0 w (List.mem_cons_of_mem _ h)
  have hown : s.vm.findClass RX5 = some m.cls := findClass_of_methodNamed B.named
  have hlocks := B.notSynchronized
  have hS : va_S (qw_A o 132) s.heap s.heap [] := va_S.rf
  have hl := lv_entry ([.ref (o + (45 + 2 * i0_)), .ref (o + (7 + 2 * i1_))]) (n := 2) (Nat.le_of_ble_eq_true rfl)
  rw [lg_entry_eq]
  generalize (lg_sl ([.ref (o + (45 + 2 * i0_)), .ref (o + (7 + 2 * i1_))]) ++ List.replicate (2 - (lg_sl ([.ref (o + (45 + 2 * i0_)), .ref (o + (7 + 2 * i1_))])).length) Slot.unset).toArray = ls at hl ⊢
  have hl : lv_has ls 2 [(0, .ref (o + (45 + 2 * i0_))), (1, .ref (o + (7 + 2 * i1_)))] := hl
  refine lv_aload_n hx hb dX5_become_0 rfl (lv_at hl 1 rfl) ?_
  refine qf_get hx hb hts inX5 hown hK hP (q0 := 7 + 2 * i1_) (show _ < _ from by have := hi1_; omega) (hgU_LT ca o hi1_) rfl 0 (by decide) wq_41 (v := .ref (o + (7 + 2 * i1_ + 1))) rfl dX5_become_1 ?_
  refine lv_iconst (v := 0) hx hb dX5_become_4 (by decide) ?_
  refine lv_aload_n hx hb dX5_become_5 rfl (lv_at hl 0 rfl) ?_
  refine qf_get hx hb hts inX5 hown hK hP (q0 := 45 + 2 * i0_) (show _ < _ from by have := hi0_; omega) (hgU_LK ca o hi0_) rfl 0 (by decide) wq_41 (v := .ref (o + (45 + 2 * i0_ + 1))) rfl dX5_become_6 ?_
  refine lv_iconst (v := 0) hx hb dX5_become_9 (by decide) ?_
  refine lv_bipush (v := 6) hx hb dX5_become_10 (by decide) ?_
  refine qa_copy2 hx hb (hml.trans hl.1.symm) hown (hts _ wq_552) (hts _ wq_485) (hts _ wq_484) (hts _ wq_15) hK hP hS qw_Ai (q0 := 7 + 2 * i1_ + 1) (q1 := 45 + 2 * i0_ + 1) (show _ < _ from by have := hi1_; omega) (show _ < _ from by have := hi0_; omega) 0 (hgU_AT ca o hi1_) (hgU_AK ca o hi0_) rfl (sp := 0) (dp := 0) (k := 6) (by decide) (by decide) (by decide) (by decide) (by decide) (Nat.le_of_ble_eq_true rfl) (Nat.le_of_ble_eq_true rfl) dX5_become_12 (fun z1 H locs hz1 hP hS => ?_)
  have J1 := jfU_L (c := 45 + 2 * i0_ + 1) (by have := hi0_; omega) J0 hz1
  refine lv_aload_n hx hb dX5_become_15 rfl (lv_at hl 0 rfl) ?_
  refine lv_aload_n hx hb dX5_become_16 rfl (lv_at hl 1 rfl) ?_
  refine qf_get hx hb hts inX5 hown hK hP (q0 := 7 + 2 * i1_) (show _ < _ from by have := hi1_; omega) (hgU_LT ca o hi1_) rfl 1 (by decide) wq_46 (v := .int (z1 (7 + 2 * i1_) 1)) rfl dX5_become_17 ?_
  refine lv_topi (fun x2 e2 => ?_)
  refine qf_put2 hx hb hts inX5 tyX5 tyX5_ok nmX5 hown hK hP hS qw_Ai (q0 := 45 + 2 * i0_) (show _ < _ from by have := hi0_; omega) (hgU_LK ca o hi0_) rfl 1 (by decide) wq_46 rfl (x := x2) 1 rfl rfl rfl (Nat.le_of_ble_eq_true rfl) dX5_become_20 (fun z3 H locs hz3 hP hS => ?_)
  have J3 := jU_L (c := 45 + 2 * i0_) (by have := hi0_; omega) J1 hz3
  refine lv_aload_n hx hb dX5_become_23 rfl (lv_at hl 0 rfl) ?_
  refine lv_aload_n hx hb dX5_become_24 rfl (lv_at hl 1 rfl) ?_
  refine qf_get hx hb hts inX5 hown hK hP (q0 := 7 + 2 * i1_) (show _ < _ from by have := hi1_; omega) (hgU_LT ca o hi1_) rfl 2 (by decide) wq_48 (v := .int (z3 (7 + 2 * i1_) 2)) rfl dX5_become_25 ?_
  refine lv_topi (fun x4 e4 => ?_)
  refine qf_put2 hx hb hts inX5 tyX5 tyX5_ok nmX5 hown hK hP hS qw_Ai (q0 := 45 + 2 * i0_) (show _ < _ from by have := hi0_; omega) (hgU_LK ca o hi0_) rfl 2 (by decide) wq_48 rfl (x := x4) 2 rfl rfl rfl (Nat.le_of_ble_eq_true rfl) dX5_become_28 (fun z5 H locs hz5 hP hS => ?_)
  have J5 := jU_L (c := 45 + 2 * i0_) (by have := hi0_; omega) J3 hz5
  refine lv_aload_n hx hb dX5_become_31 rfl (lv_at hl 0 rfl) ?_
  refine lv_aload_n hx hb dX5_become_32 rfl (lv_at hl 1 rfl) ?_
  refine qf_get hx hb hts inX5 hown hK hP (q0 := 7 + 2 * i1_) (show _ < _ from by have := hi1_; omega) (hgU_LT ca o hi1_) rfl 3 (by decide) wq_52 (v := .int (z5 (7 + 2 * i1_) 3)) rfl dX5_become_33 ?_
  refine lv_topi (fun x6 e6 => ?_)
  refine qf_put2 hx hb hts inX5 tyX5 tyX5_ok nmX5 hown hK hP hS qw_Ai (q0 := 45 + 2 * i0_) (show _ < _ from by have := hi0_; omega) (hgU_LK ca o hi0_) rfl 3 (by decide) wq_52 rfl (x := x6) 3 rfl rfl rfl (Nat.le_of_ble_eq_true rfl) dX5_become_36 (fun z7 H locs hz7 hP hS => ?_)
  have J7 := jU_L (c := 45 + 2 * i0_) (by have := hi0_; omega) J5 hz7
  refine lv_aload_n hx hb dX5_become_39 rfl (lv_at hl 0 rfl) ?_
  refine lv_aload_n hx hb dX5_become_40 rfl (lv_at hl 1 rfl) ?_
  refine qf_get hx hb hts inX5 hown hK hP (q0 := 7 + 2 * i1_) (show _ < _ from by have := hi1_; omega) (hgU_LT ca o hi1_) rfl 4 (by decide) wq_56 (v := .int (z7 (7 + 2 * i1_) 4)) rfl dX5_become_41 ?_
  refine lv_topi (fun x8 e8 => ?_)
  refine qf_put2 hx hb hts inX5 tyX5 tyX5_ok nmX5 hown hK hP hS qw_Ai (q0 := 45 + 2 * i0_) (show _ < _ from by have := hi0_; omega) (hgU_LK ca o hi0_) rfl 4 (by decide) wq_56 rfl (x := x8) 4 rfl rfl rfl (Nat.le_of_ble_eq_true rfl) dX5_become_44 (fun z9 H locs hz9 hP hS => ?_)
  have J9 := jU_L (c := 45 + 2 * i0_) (by have := hi0_; omega) J7 hz9
  refine lv_aload_n hx hb dX5_become_47 rfl (lv_at hl 0 rfl) ?_
  refine lv_aload_n hx hb dX5_become_48 rfl (lv_at hl 1 rfl) ?_
  refine qf_get hx hb hts inX5 hown hK hP (q0 := 7 + 2 * i1_) (show _ < _ from by have := hi1_; omega) (hgU_LT ca o hi1_) rfl 5 (by decide) wq_59 (v := .int (z9 (7 + 2 * i1_) 5)) rfl dX5_become_49 ?_
  refine lv_topi (fun x10 e10 => ?_)
  refine qf_put2 hx hb hts inX5 tyX5 tyX5_ok nmX5 hown hK hP hS qw_Ai (q0 := 45 + 2 * i0_) (show _ < _ from by have := hi0_; omega) (hgU_LK ca o hi0_) rfl 5 (by decide) wq_59 rfl (x := x10) 5 rfl rfl rfl (Nat.le_of_ble_eq_true rfl) dX5_become_52 (fun z11 H locs hz11 hP hS => ?_)
  have J11 := jU_L (c := 45 + 2 * i0_) (by have := hi0_; omega) J9 hz11
  refine lv_aload_n hx hb dX5_become_55 rfl (lv_at hl 0 rfl) ?_
  refine lv_aload_n hx hb dX5_become_56 rfl (lv_at hl 1 rfl) ?_
  refine qf_get hx hb hts inX5 hown hK hP (q0 := 7 + 2 * i1_) (show _ < _ from by have := hi1_; omega) (hgU_LT ca o hi1_) rfl 6 (by decide) wq_62 (v := .int (z11 (7 + 2 * i1_) 6)) rfl dX5_become_57 ?_
  refine lv_topi (fun x12 e12 => ?_)
  refine qf_put2 hx hb hts inX5 tyX5 tyX5_ok nmX5 hown hK hP hS qw_Ai (q0 := 45 + 2 * i0_) (show _ < _ from by have := hi0_; omega) (hgU_LK ca o hi0_) rfl 6 (by decide) wq_62 rfl (x := x12) 6 rfl rfl rfl (Nat.le_of_ble_eq_true rfl) dX5_become_60 (fun z13 H locs hz13 hP hS => ?_)
  have J13 := jU_L (c := 45 + 2 * i0_) (by have := hi0_; omega) J11 hz13
  exact W.vret hx hb hr (fun t ht hW => ⟨⟨(z13, y), rfl, J13, by rw [ht]; exact hP, va_K.moved hW.alike hK⟩, hS.F ht⟩) hS.2.2 dX5_become_63
set_option maxRecDepth 100000 in
set_option maxHeartbeats 8000000 in
theorem u_Told_become (l : Launch) (D : va_G) (ca : Nat → ClassId) (o : Nat) (b z : Nat → Nat → Int32) (y : Nat → Nat → Int64) (J0 : qJU b z)   : qM l yX9_become cX9_become 3 none 3 101 (qPre D vwCl (qT6 ca) o 132 (qG (GU ca o) z y) [.ref (o + 39), .ref (o + 1)]) (va_Qv (fun u => qJU u.1 u.1 ∧ (qK kU (bec39 z) u.1)) (qB D vwCl (qT6 ca) o 132 (fun u : qZ => qG (GU ca o) u.1 u.2)) (qw_A o 132)) (qw_A o 132) := by
  refine Met.ofW (cc := cX9_become) (maxL := 3) (ret := none) (by decide) rfl ?_
  intro p e s m args below meth c s₁ B hml hv
  obtain ⟨rfl, hP, hK⟩ := hv
  have hx := B.exec
  have hb := B.bytes
  have hr := B.returns
  have hts0 := atoms_spec (ws := Cond.code yX9_become cX9_become 3 none :: qtbl) B.pre
  have hts : ∀ w ∈ qtbl, w.before _ s = true := fun w h => hts0 w (List.mem_cons_of_mem _ h)
  have hown : s.vm.findClass RX9 = some m.cls := findClass_of_methodNamed B.named
  have hlocks := B.notSynchronized
  have hS : va_S (qw_A o 132) s.heap s.heap [] := va_S.rf
  have hl := lv_entry ([.ref (o + 39), .ref (o + 1)]) (n := 3) (Nat.le_of_ble_eq_true rfl)
  rw [lg_entry_eq]
  generalize (lg_sl ([.ref (o + 39), .ref (o + 1)]) ++ List.replicate (3 - (lg_sl ([.ref (o + 39), .ref (o + 1)])).length) Slot.unset).toArray = ls at hl ⊢
  have hl : lv_has ls 3 [(0, .ref (o + 39)), (1, .ref (o + 1))] := hl
  have Jz : qJU z z := ⟨J0.1, qK_rf⟩
  refine lv_aload_n hx hb dX9_become_0 rfl (lv_at hl 1 rfl) ?_
  refine qf_get hx hb hts inX9 hown hK hP (q0 := 1) (by decide) (hgU_1 ca o) rfl 0 (by decide) wq_81 (v := .ref (o + 2)) rfl dX9_become_1 ?_
  refine lv_iconst (v := 0) hx hb dX9_become_4 (by decide) ?_
  refine lv_aload_n hx hb dX9_become_5 rfl (lv_at hl 0 rfl) ?_
  refine qf_get hx hb hts inX9 hown hK hP (q0 := 39) (by decide) (hgU_39 ca o) rfl 0 (by decide) wq_81 (v := .ref (o + 40)) rfl dX9_become_6 ?_
  refine lv_iconst (v := 0) hx hb dX9_become_9 (by decide) ?_
  refine lv_bipush (v := 6) hx hb dX9_become_10 (by decide) ?_
  refine qa_copy2 hx hb (hml.trans hl.1.symm) hown (hts _ wq_547) (hts _ wq_485) (hts _ wq_484) (hts _ wq_15) hK hP hS qw_Ai (q0 := 2) (q1 := 40) (by decide) (by decide) 0 (hgU_2 ca o) (hgU_40 ca o) rfl (sp := 0) (dp := 0) (k := 6) (by decide) (by decide) (by decide) (by decide) (by decide) (Nat.le_of_ble_eq_true rfl) (Nat.le_of_ble_eq_true rfl) dX9_become_12 (fun z1 H locs hz1 hP hS => ?_)
  have J1 := jfU_40 Jz hz1 (cpy_b (fun j => iU_2 Jz rfl) (fun j => iU_40 Jz rfl))
  refine lv_aload_n hx hb dX9_become_15 rfl (lv_at hl 1 rfl) ?_
  refine qf_get hx hb hts inX9 hown hK hP (q0 := 1) (by decide) (hgU_1 ca o) rfl 1 (by decide) wq_85 (v := .ref (o + 3)) rfl dX9_become_16 ?_
  refine lv_iconst (v := 0) hx hb dX9_become_19 (by decide) ?_
  refine lv_aload_n hx hb dX9_become_20 rfl (lv_at hl 0 rfl) ?_
  refine qf_get hx hb hts inX9 hown hK hP (q0 := 39) (by decide) (hgU_39 ca o) rfl 1 (by decide) wq_85 (v := .ref (o + 41)) rfl dX9_become_21 ?_
  refine lv_iconst (v := 0) hx hb dX9_become_24 (by decide) ?_
  refine lv_bipush (v := 6) hx hb dX9_become_25 (by decide) ?_
  refine qa_copy2 hx hb (hml.trans hl.1.symm) hown (hts _ wq_547) (hts _ wq_485) (hts _ wq_484) (hts _ wq_15) hK hP hS qw_Ai (q0 := 3) (q1 := 41) (by decide) (by decide) 0 (hgU_3 ca o) (hgU_41 ca o) rfl (sp := 0) (dp := 0) (k := 6) (by decide) (by decide) (by decide) (by decide) (by decide) (Nat.le_of_ble_eq_true rfl) (Nat.le_of_ble_eq_true rfl) dX9_become_27 (fun z2 H locs hz2 hP hS => ?_)
  have J2 := jfU_41 J1 hz2 (cpy_b (fun j => iU_3 J1 rfl) (fun j => iU_41 J1 rfl))
  refine lv_aload_n hx hb dX9_become_30 rfl (lv_at hl 1 rfl) ?_
  refine qf_get hx hb hts inX9 hown hK hP (q0 := 1) (by decide) (hgU_1 ca o) rfl 2 (by decide) wq_89 (v := .ref (o + 4)) rfl dX9_become_31 ?_
  refine lv_iconst (v := 0) hx hb dX9_become_34 (by decide) ?_
  refine lv_aload_n hx hb dX9_become_35 rfl (lv_at hl 0 rfl) ?_
  refine qf_get hx hb hts inX9 hown hK hP (q0 := 39) (by decide) (hgU_39 ca o) rfl 2 (by decide) wq_89 (v := .ref (o + 42)) rfl dX9_become_36 ?_
  refine lv_iconst (v := 0) hx hb dX9_become_39 (by decide) ?_
  refine lv_bipush (v := 6) hx hb dX9_become_40 (by decide) ?_
  refine qa_copy2 hx hb (hml.trans hl.1.symm) hown (hts _ wq_547) (hts _ wq_485) (hts _ wq_484) (hts _ wq_15) hK hP hS qw_Ai (q0 := 4) (q1 := 42) (by decide) (by decide) 0 (hgU_4 ca o) (hgU_42 ca o) rfl (sp := 0) (dp := 0) (k := 6) (by decide) (by decide) (by decide) (by decide) (by decide) (Nat.le_of_ble_eq_true rfl) (Nat.le_of_ble_eq_true rfl) dX9_become_42 (fun z3 H locs hz3 hP hS => ?_)
  have J3 := jfU_42 J2 hz3
  refine lv_aload_n hx hb dX9_become_45 rfl (lv_at hl 1 rfl) ?_
  refine qf_get hx hb hts inX9 hown hK hP (q0 := 1) (by decide) (hgU_1 ca o) rfl 3 (by decide) wq_91 (v := .ref (o + 5)) rfl dX9_become_46 ?_
  refine lv_iconst (v := 0) hx hb dX9_become_49 (by decide) ?_
  refine lv_aload_n hx hb dX9_become_50 rfl (lv_at hl 0 rfl) ?_
  refine qf_get hx hb hts inX9 hown hK hP (q0 := 39) (by decide) (hgU_39 ca o) rfl 3 (by decide) wq_91 (v := .ref (o + 43)) rfl dX9_become_51 ?_
  refine lv_iconst (v := 0) hx hb dX9_become_54 (by decide) ?_
  refine lv_bipush (v := 36) hx hb dX9_become_55 (by decide) ?_
  refine qa_copy2 hx hb (hml.trans hl.1.symm) hown (hts _ wq_547) (hts _ wq_485) (hts _ wq_484) (hts _ wq_15) hK hP hS qw_Ai (q0 := 5) (q1 := 43) (by decide) (by decide) 0 (hgU_5 ca o) (hgU_43 ca o) rfl (sp := 0) (dp := 0) (k := 36) (by decide) (by decide) (by decide) (by decide) (by decide) (Nat.le_of_ble_eq_true rfl) (Nat.le_of_ble_eq_true rfl) dX9_become_57 (fun z4 H locs hz4 hP hS => ?_)
  have J4 := jfU_43 J3 hz4
  refine lv_iconst (v := 0) hx hb dX9_become_60 (by decide) ?_
  refine lv_istore_n (lv' := [(2, .int 0), (0, .ref (o + 39)), (1, .ref (o + 1))]) hx hb dX9_become_61 rfl hl (by decide) rfl (fun ls hl => ?_)
  have loop5 : ∀ (n : Nat) (w5_2 : Int32) (z5 : Nat → Nat → Int32) (y5 : Nat → Nat → Int64), ((16 - w5_2.toInt : Int) < (n : Int)) → ((0 : Int) ≤ w5_2.toInt ∧ w5_2.toInt ≤ 16) → (qJU (quf (quf (quf (quf z 40 (va_cpy (z 2) (z 40) ((0 : Int32).toNatClampNeg) ((0 : Int32).toNatClampNeg) ((6 : Int32).toNatClampNeg))) 41 (va_cpy (z1 3) (z1 41) ((0 : Int32).toNatClampNeg) ((0 : Int32).toNatClampNeg) ((6 : Int32).toNatClampNeg))) 42 (va_cpy (z2 4) (z2 42) ((0 : Int32).toNatClampNeg) ((0 : Int32).toNatClampNeg) ((6 : Int32).toNatClampNeg))) 43 (va_cpy (z3 5) (z3 43) ((0 : Int32).toNatClampNeg) ((0 : Int32).toNatClampNeg) ((36 : Int32).toNatClampNeg))) z5) → ∀ (H : Heap) (locs : List Loc), qw_P D vwCl o 132 (qG (GU ca o) z5 y5) H → va_S (qw_A o 132) s.heap H locs → ∀ (ls : Array Slot), lv_has ls 3 [(2, .int w5_2), (0, .ref (o + 39)), (1, .ref (o + 1))] → W p l e (headSpec (Cond.code yX9_become cX9_become 3 none :: qtbl) ({ frames := 3, cells := 0, slots := 0, locals := 101 })).room s m (([.ref (o + 39), .ref (o + 1)] : List Value).toArray) below meth c H locs 0 0 (MQ below (va_Qv (fun u => qJU u.1 u.1 ∧ (qK kU (bec39 z) u.1)) (qB D vwCl (qT6 ca) o 132 (fun u : qZ => qG (GU ca o) u.1 u.2)) (qw_A o 132)) (([.ref (o + 39), .ref (o + 1)] : List Value).toArray) s 0 0 (qw_A o 132)) (F0 m 62 ls []) := by
    intro n
    induction n with
    | zero => intro w5_2 z5 y5 hb5 hv5_2 J5; exfalso; omega
    | succ n5 ih5 =>
      intro w5_2 z5 y5 hb5 hv5_2 J5 H locs hP hS ls hl
      refine lv_iload_n hx hb dX9_become_62 rfl (lv_at hl 0 rfl) ?_
      refine lv_bipush (v := 16) hx hb dX9_become_63 (by decide) ?_
      refine lv_icmp_ge (tgt := 89) hx hb dX9_become_65 (by decide) (fun c6 => ?_) (fun c6 => ?_)
      · have t6 : w5_2.toInt ≥ (16 : Int) := gl_le c6
        refine lv_aload_n hx hb dX9_become_89 rfl (lv_at hl 1 rfl) ?_
        refine lv_aload_n hx hb dX9_become_90 rfl (lv_at hl 2 rfl) ?_
        refine qf_get hx hb hts inX9 hown hK hP (q0 := 1) (by decide) (hgU_1 ca o) rfl 5 (by decide) wq_99 (v := .int (z5 1 5)) rfl dX9_become_91 ?_
        refine lv_topi (fun x7 e7 => ?_)
        have m7 : x7 = z 1 5 := e7.trans ((J5.2 1 5 rfl).trans (by rw [hz3, hz2, hz1]; rfl))
        refine qf_put2 hx hb hts inX9 tyX9 tyX9_ok nmX9 hown hK hP hS qw_Ai (q0 := 39) (by decide) (hgU_39 ca o) rfl 5 (by decide) wq_99 rfl (x := x7) 5 rfl rfl rfl (Nat.le_of_ble_eq_true rfl) dX9_become_94 (fun z8 H locs hz8 hP hS => ?_)
        have J8 := jU_39_5 J5 hz8
        refine lv_aload_n hx hb dX9_become_97 rfl (lv_at hl 1 rfl) ?_
        refine lv_aload_n hx hb dX9_become_98 rfl (lv_at hl 2 rfl) ?_
        refine qf_get hx hb hts inX9 hown hK hP (q0 := 1) (by decide) (hgU_1 ca o) rfl 6 (by decide) wq_100 (v := .int (z8 1 6)) rfl dX9_become_99 ?_
        refine lv_topi (fun x9 e9 => ?_)
        refine qf_put2 hx hb hts inX9 tyX9 tyX9_ok nmX9 hown hK hP hS qw_Ai (q0 := 39) (by decide) (hgU_39 ca o) rfl 6 (by decide) wq_100 rfl (x := x9) 6 rfl rfl rfl (Nat.le_of_ble_eq_true rfl) dX9_become_102 (fun z10 H locs hz10 hP hS => ?_)
        have J10 := jU_39_6 J8 hz10
        refine lv_aload_n hx hb dX9_become_105 rfl (lv_at hl 1 rfl) ?_
        refine lv_aload_n hx hb dX9_become_106 rfl (lv_at hl 2 rfl) ?_
        refine qf_get hx hb hts inX9 hown hK hP (q0 := 1) (by decide) (hgU_1 ca o) rfl 7 (by decide) wq_102 (v := .int (z10 1 7)) rfl dX9_become_107 ?_
        refine lv_topi (fun x11 e11 => ?_)
        have m11 : x11 = z 1 7 := e11.trans ((J10.2 1 7 rfl).trans (by rw [hz3, hz2, hz1]; rfl))
        refine qf_put2 hx hb hts inX9 tyX9 tyX9_ok nmX9 hown hK hP hS qw_Ai (q0 := 39) (by decide) (hgU_39 ca o) rfl 7 (by decide) wq_102 rfl (x := x11) 7 rfl rfl rfl (Nat.le_of_ble_eq_true rfl) dX9_become_110 (fun z12 H locs hz12 hP hS => ?_)
        have J12 := jU_39_7 J10 hz12
        exact W.vret hx hb hr (fun t ht hW => ⟨⟨(z12, y5), rfl, ⟨⟨J12.1, qK_rf⟩, by have h := J12.2; rw [m7, m11, hz3, hz2, hz1] at h; exact h⟩, by rw [ht]; exact hP, va_K.moved hW.alike hK⟩, hS.F ht⟩) hS.2.2 dX9_become_113
      · have t6 : w5_2.toInt < (16 : Int) := gl_nle c6
        refine lv_aload_n hx hb dX9_become_68 rfl (lv_at hl 1 rfl) ?_
        refine qf_get hx hb hts inX9 hown hK hP (q0 := 39) (by decide) (hgU_39 ca o) rfl 4 (by decide) wq_94 (v := .ref (o + 44)) rfl dX9_become_69 ?_
        refine lv_iload_n hx hb dX9_become_72 rfl (lv_at hl 0 rfl) ?_
        have hi_w5_2 : w5_2.toNatClampNeg < 16 := ga_nat (by omega) (show _ < (16 : Int) from by omega)
        refine qa_aald hx hb hK hP (q0 := 44) (by decide) 4 rfl (N := 16) (hgU_44 ca o) rfl (gi_in (by omega) (by omega)) dX9_become_73 ?_
        refine lv_aload_n hx hb dX9_become_74 rfl (lv_at hl 2 rfl) ?_
        refine qf_get hx hb hts inX9 hown hK hP (q0 := 1) (by decide) (hgU_1 ca o) rfl 4 (by decide) wq_94 (v := .ref (o + 6)) rfl dX9_become_75 ?_
        refine lv_iload_n hx hb dX9_become_78 rfl (lv_at hl 0 rfl) ?_
        have hi_w5_2 : w5_2.toNatClampNeg < 16 := ga_nat (by omega) (show _ < (16 : Int) from by omega)
        refine qa_aald hx hb hK hP (q0 := 6) (by decide) 4 rfl (N := 16) (hgU_6 ca o) rfl (gi_in (by omega) (by omega)) dX9_become_79 ?_
        refine qc_Vv2 (As := [.ref (o + (7 + 2 * w5_2.toNatClampNeg))]) (rest := []) (k0 := 1) (u_Line_become l D ca o (quf (quf (quf (quf z 40 (va_cpy (z 2) (z 40) ((0 : Int32).toNatClampNeg) ((0 : Int32).toNatClampNeg) ((6 : Int32).toNatClampNeg))) 41 (va_cpy (z1 3) (z1 41) ((0 : Int32).toNatClampNeg) ((0 : Int32).toNatClampNeg) ((6 : Int32).toNatClampNeg))) 42 (va_cpy (z2 4) (z2 42) ((0 : Int32).toNatClampNeg) ((0 : Int32).toNatClampNeg) ((6 : Int32).toNatClampNeg))) 43 (va_cpy (z3 5) (z3 43) ((0 : Int32).toNatClampNeg) ((0 : Int32).toNatClampNeg) ((36 : Int32).toNatClampNeg))) z5 y5 J5 (i0_ := w5_2.toNatClampNeg) hi_w5_2 (i1_ := w5_2.toNatClampNeg) hi_w5_2) kc_yX5_become ⟨hx, hb, hml, hown, hts⟩ wq_548 rfl rfl ⟨Nat.le_of_ble_eq_true rfl, Nat.le_of_ble_eq_true rfl⟩ wq_all hP hK hS qw_Ai (q0 := 45 + 2 * w5_2.toNatClampNeg) (show _ < _ from by have := hi_w5_2; omega) (hgU_LK ca o hi_w5_2 _ _) rfl rfl hl.1 rfl (Nat.le_of_ble_eq_true rfl) dX9_become_80 ⟨Nat.zero_le _, Nat.zero_le _⟩ (fun z13 y13 H locs h13 hP hS _ _ => ?_)
        have J13 : qJU (quf (quf (quf (quf z 40 (va_cpy (z 2) (z 40) ((0 : Int32).toNatClampNeg) ((0 : Int32).toNatClampNeg) ((6 : Int32).toNatClampNeg))) 41 (va_cpy (z1 3) (z1 41) ((0 : Int32).toNatClampNeg) ((0 : Int32).toNatClampNeg) ((6 : Int32).toNatClampNeg))) 42 (va_cpy (z2 4) (z2 42) ((0 : Int32).toNatClampNeg) ((0 : Int32).toNatClampNeg) ((6 : Int32).toNatClampNeg))) 43 (va_cpy (z3 5) (z3 43) ((0 : Int32).toNatClampNeg) ((0 : Int32).toNatClampNeg) ((36 : Int32).toNatClampNeg))) z13 := h13
        obtain ⟨x14, e14⟩ : ∃ t : Int32, t = w5_2 + 1 := ⟨_, rfl⟩
        refine lv_iinc (v := x14) (lv' := [(2, .int x14), (0, .ref (o + 39)), (1, .ref (o + 1))]) hx hb dX9_become_83 hl (k := 0) rfl (by rw [e14]; rfl) (by decide) rfl (fun ls hl => ?_)
        have t14 : x14.toInt = w5_2.toInt + (1 : Int) := ga_add e14 rfl rfl (by omega) (by omega)
        refine lv_goto (tgt := 62) hx hb dX9_become_86 (by decide) ?_
        exact ih5 x14 z13 y13 (show (16 - x14.toInt : Int) < (n5 : Int) from by omega) ⟨by omega, by omega⟩ J13 _ _ hP hS _ (lv_sub hl [0, 1, 2] rfl)
  exact loop5 17 0 z4 y (show (16 - (0 : Int) : Int) < ((17 : Nat) : Int) from by omega) ⟨by decide, by decide⟩ J4 _ _ hP hS _ (lv_sub hl [0, 1, 2] rfl)
set_option maxRecDepth 100000 in
set_option maxHeartbeats 8000000 in
theorem u_keep (l : Launch) (D : va_G) (ca : Nat → ClassId) (o : Nat) (b z : Nat → Nat → Int32) (y : Nat → Nat → Int64) (J0 : qJU b z)   : qM l yX10_keep cX10_keep 1 (some .int) 4 123 (qPre D vwCl (qT6 ca) o 132 (qG (GU ca o) z y) [.ref (o + 0)]) (va_Qi (fun r u => ((0 : Int) ≤ r.toInt ∧ r.toInt ≤ 63) ∧ qJU u.1 u.1 ∧ (qK kU (qu (bec39 z) 0 2 1) u.1)) (qB D vwCl (qT6 ca) o 132 (fun u : qZ => qG (GU ca o) u.1 u.2)) (qw_A o 132)) (qw_A o 132) := by
  refine Met.ofW (cc := cX10_keep) (maxL := 1) (ret := (some .int)) (by decide) rfl ?_
  intro p e s m args below meth c s₁ B hml hv
  obtain ⟨rfl, hP, hK⟩ := hv
  have hx := B.exec
  have hb := B.bytes
  have hr := B.returns
  have hts0 := atoms_spec (ws := Cond.code yX10_keep cX10_keep 1 (some .int) :: qtbl) B.pre
  have hts : ∀ w ∈ qtbl, w.before _ s = true := fun w h => hts0 w (List.mem_cons_of_mem _ h)
  have hown : s.vm.findClass RX10 = some m.cls := findClass_of_methodNamed B.named
  have hlocks := B.notSynchronized
  have hS : va_S (qw_A o 132) s.heap s.heap [] := va_S.rf
  have hl := lv_entry ([.ref (o + 0)]) (n := 1) (Nat.le_of_ble_eq_true rfl)
  rw [lg_entry_eq]
  generalize (lg_sl ([.ref (o + 0)]) ++ List.replicate (1 - (lg_sl ([.ref (o + 0)])).length) Slot.unset).toArray = ls at hl ⊢
  have hl : lv_has ls 1 [(0, .ref (o + 0))] := hl
  have Jz : qJU z z := ⟨J0.1, qK_rf⟩
  refine lv_aload_n hx hb dX10_keep_0 rfl (lv_at hl 0 rfl) ?_
  refine qf_get hx hb hts inX10 hown hK hP (q0 := 0) (by decide) (hgU_0 ca o) rfl 1 (by decide) wq_354 (v := .ref (o + 39)) rfl dX10_keep_1 ?_
  refine lv_aload_n hx hb dX10_keep_4 rfl (lv_at hl 0 rfl) ?_
  refine qf_get hx hb hts inX10 hown hK hP (q0 := 0) (by decide) (hgU_0 ca o) rfl 0 (by decide) wq_353 (v := .ref (o + 1)) rfl dX10_keep_5 ?_
  refine qc_Vv2 (As := [.ref (o + 1)]) (rest := []) (k0 := 1) (u_Told_become l D ca o z z y Jz) kc_yX9_become ⟨hx, hb, hml, hown, hts⟩ wq_543 rfl rfl ⟨Nat.le_of_ble_eq_true rfl, Nat.le_of_ble_eq_true rfl⟩ wq_all hP hK hS qw_Ai (q0 := 39) (by decide) (hgU_39 ca o _ _) rfl rfl hl.1 rfl (Nat.le_of_ble_eq_true rfl) dX10_keep_8 ⟨Nat.zero_le _, Nat.zero_le _⟩ (fun z1 y1 H locs h1 hP hS _ _ => ?_)
  have J1 : qJU z1 z1 := h1.1
  have p1_1 : qK kU (bec39 z) z1 := h1.2
  refine lv_aload_n hx hb dX10_keep_11 rfl (lv_at hl 0 rfl) ?_
  refine lv_iconst (v := 1) hx hb dX10_keep_12 (by decide) ?_
  refine qf_put2 hx hb hts inX10 tyX10 tyX10_ok nmX10 hown hK hP hS qw_Ai (q0 := 0) (by decide) (hgU_0 ca o) rfl 2 (by decide) wq_355 rfl (x := 1) 2 rfl rfl rfl (Nat.le_of_ble_eq_true rfl) dX10_keep_13 (fun z2 H locs hz2 hP hS => ?_)
  have J2 := jU_0_2 J1 hz2 ⟨by decide, by decide⟩
  refine lv_aload_n hx hb dX10_keep_16 rfl (lv_at hl 0 rfl) ?_
  refine qf_get hx hb hts inX10 hown hK hP (q0 := 0) (by decide) (hgU_0 ca o) rfl 0 (by decide) wq_353 (v := .ref (o + 1)) rfl dX10_keep_17 ?_
  refine qc_Vip (As := []) (rest := []) (k0 := 0) (u_Told_remarksSaid l D ca o (qu z1 0 2 1) z2 y1 J2) kc_yX9_remarksSaid ⟨hx, hb, hml, hown, hts⟩ wq_553 rfl rfl ⟨Nat.le_of_ble_eq_true rfl, Nat.le_of_ble_eq_true rfl⟩ wq_all hP hK hS qw_Ai (q0 := 1) (by decide) (hgU_1 ca o _ _) rfl rfl hl.1 rfl (Nat.le_of_ble_eq_true rfl) dX10_keep_20 ⟨Nat.zero_le _, Nat.zero_le _⟩ (fun r3 H locs h3 hP hS _ _ => ?_)
  have b3 : (0 : Int) ≤ r3.toInt ∧ r3.toInt ≤ 1023 := h3
  refine qc_Sip (As := [.int r3]) (rest := []) (k0 := 1) (u_Integer_bitCount l D ca o (qu z1 0 2 1) z2 y1 J2 r3) kc_yJ6_bitCount_0f7a4 ⟨hx, hb, hml, hown, hts⟩ wq_513 rfl rfl ⟨Nat.le_of_ble_eq_true rfl, Nat.le_of_ble_eq_true rfl⟩ wq_all hP hK hS qw_Ai rfl hl.1 rfl (Nat.le_of_ble_eq_true rfl) dX10_keep_23 ⟨Nat.zero_le _, Nat.zero_le _⟩ (fun r4 H locs h4 hP hS _ _ => ?_)
  have b4 : (0 : Int) ≤ r4.toInt ∧ r4.toInt ≤ 63 := h4
  exact W.iret (v := r4) hx hb hr (fun t ht hW => ⟨⟨r4, (z2, y1), rfl, ⟨⟨by omega, by omega⟩, ⟨J2.1, qK_rf⟩, qK_tr (qK_qu p1_1) J2.2⟩, by rw [ht]; exact hP, va_K.moved hW.alike hK⟩, hS.F ht⟩) hS.2.2 dX10_keep_26
set_option maxRecDepth 100000 in
set_option maxHeartbeats 8000000 in
theorem u_Line_become_v1 (l : Launch) (D : va_G) (ca : Nat → ClassId) (o : Nat) (b z : Nat → Nat → Int32) (y : Nat → Nat → Int64) (J0 : qJU b z) {i0_ : Nat} (hi0_ : i0_ < 16) {i1_ : Nat} (hi1_ : i1_ < 16)  : qM l yX5_become cX5_become 2 none 2 80 (qPre D vwCl (qT6 ca) o 132 (qG (GU ca o) z y) [.ref (o + (7 + 2 * i0_)), .ref (o + (45 + 2 * i1_))]) (va_Qv (fun u => qJU b u.1) (qB D vwCl (qT6 ca) o 132 (fun u : qZ => qG (GU ca o) u.1 u.2)) (qw_A o 132)) (qw_A o 132) := by
  refine Met.ofW (cc := cX5_become) (maxL := 2) (ret := none) (by decide) rfl ?_
  intro p e s m args below meth c s₁ B hml hv
  obtain ⟨rfl, hP, hK⟩ := hv
  have hx := B.exec
  have hb := B.bytes
  have hr := B.returns
  have hts0 := atoms_spec (ws := Cond.code yX5_become cX5_become 2 none :: qtbl) B.pre
  have hts : ∀ w ∈ qtbl, w.before _ s = true := fun w h => hts0 w (List.mem_cons_of_mem _ h)
  have hown : s.vm.findClass RX5 = some m.cls := findClass_of_methodNamed B.named
  have hlocks := B.notSynchronized
  have hS : va_S (qw_A o 132) s.heap s.heap [] := va_S.rf
  have hl := lv_entry ([.ref (o + (7 + 2 * i0_)), .ref (o + (45 + 2 * i1_))]) (n := 2) (Nat.le_of_ble_eq_true rfl)
  rw [lg_entry_eq]
  generalize (lg_sl ([.ref (o + (7 + 2 * i0_)), .ref (o + (45 + 2 * i1_))]) ++ List.replicate (2 - (lg_sl ([.ref (o + (7 + 2 * i0_)), .ref (o + (45 + 2 * i1_))])).length) Slot.unset).toArray = ls at hl ⊢
  have hl : lv_has ls 2 [(0, .ref (o + (7 + 2 * i0_))), (1, .ref (o + (45 + 2 * i1_)))] := hl
  refine lv_aload_n hx hb dX5_become_0 rfl (lv_at hl 1 rfl) ?_
  refine qf_get hx hb hts inX5 hown hK hP (q0 := 45 + 2 * i1_) (show _ < _ from by have := hi1_; omega) (hgU_LK ca o hi1_) rfl 0 (by decide) wq_41 (v := .ref (o + (45 + 2 * i1_ + 1))) rfl dX5_become_1 ?_
  refine lv_iconst (v := 0) hx hb dX5_become_4 (by decide) ?_
  refine lv_aload_n hx hb dX5_become_5 rfl (lv_at hl 0 rfl) ?_
  refine qf_get hx hb hts inX5 hown hK hP (q0 := 7 + 2 * i0_) (show _ < _ from by have := hi0_; omega) (hgU_LT ca o hi0_) rfl 0 (by decide) wq_41 (v := .ref (o + (7 + 2 * i0_ + 1))) rfl dX5_become_6 ?_
  refine lv_iconst (v := 0) hx hb dX5_become_9 (by decide) ?_
  refine lv_bipush (v := 6) hx hb dX5_become_10 (by decide) ?_
  refine qa_copy2 hx hb (hml.trans hl.1.symm) hown (hts _ wq_552) (hts _ wq_485) (hts _ wq_484) (hts _ wq_15) hK hP hS qw_Ai (q0 := 45 + 2 * i1_ + 1) (q1 := 7 + 2 * i0_ + 1) (show _ < _ from by have := hi1_; omega) (show _ < _ from by have := hi0_; omega) 0 (hgU_AK ca o hi1_) (hgU_AT ca o hi0_) rfl (sp := 0) (dp := 0) (k := 6) (by decide) (by decide) (by decide) (by decide) (by decide) (Nat.le_of_ble_eq_true rfl) (Nat.le_of_ble_eq_true rfl) dX5_become_12 (fun z1 H locs hz1 hP hS => ?_)
  have J1 := jfU_L (c := 7 + 2 * i0_ + 1) (by have := hi0_; omega) J0 hz1
  refine lv_aload_n hx hb dX5_become_15 rfl (lv_at hl 0 rfl) ?_
  refine lv_aload_n hx hb dX5_become_16 rfl (lv_at hl 1 rfl) ?_
  refine qf_get hx hb hts inX5 hown hK hP (q0 := 45 + 2 * i1_) (show _ < _ from by have := hi1_; omega) (hgU_LK ca o hi1_) rfl 1 (by decide) wq_46 (v := .int (z1 (45 + 2 * i1_) 1)) rfl dX5_become_17 ?_
  refine lv_topi (fun x2 e2 => ?_)
  refine qf_put2 hx hb hts inX5 tyX5 tyX5_ok nmX5 hown hK hP hS qw_Ai (q0 := 7 + 2 * i0_) (show _ < _ from by have := hi0_; omega) (hgU_LT ca o hi0_) rfl 1 (by decide) wq_46 rfl (x := x2) 1 rfl rfl rfl (Nat.le_of_ble_eq_true rfl) dX5_become_20 (fun z3 H locs hz3 hP hS => ?_)
  have J3 := jU_L (c := 7 + 2 * i0_) (by have := hi0_; omega) J1 hz3
  refine lv_aload_n hx hb dX5_become_23 rfl (lv_at hl 0 rfl) ?_
  refine lv_aload_n hx hb dX5_become_24 rfl (lv_at hl 1 rfl) ?_
  refine qf_get hx hb hts inX5 hown hK hP (q0 := 45 + 2 * i1_) (show _ < _ from by have := hi1_; omega) (hgU_LK ca o hi1_) rfl 2 (by decide) wq_48 (v := .int (z3 (45 + 2 * i1_) 2)) rfl dX5_become_25 ?_
  refine lv_topi (fun x4 e4 => ?_)
  refine qf_put2 hx hb hts inX5 tyX5 tyX5_ok nmX5 hown hK hP hS qw_Ai (q0 := 7 + 2 * i0_) (show _ < _ from by have := hi0_; omega) (hgU_LT ca o hi0_) rfl 2 (by decide) wq_48 rfl (x := x4) 2 rfl rfl rfl (Nat.le_of_ble_eq_true rfl) dX5_become_28 (fun z5 H locs hz5 hP hS => ?_)
  have J5 := jU_L (c := 7 + 2 * i0_) (by have := hi0_; omega) J3 hz5
  refine lv_aload_n hx hb dX5_become_31 rfl (lv_at hl 0 rfl) ?_
  refine lv_aload_n hx hb dX5_become_32 rfl (lv_at hl 1 rfl) ?_
  refine qf_get hx hb hts inX5 hown hK hP (q0 := 45 + 2 * i1_) (show _ < _ from by have := hi1_; omega) (hgU_LK ca o hi1_) rfl 3 (by decide) wq_52 (v := .int (z5 (45 + 2 * i1_) 3)) rfl dX5_become_33 ?_
  refine lv_topi (fun x6 e6 => ?_)
  refine qf_put2 hx hb hts inX5 tyX5 tyX5_ok nmX5 hown hK hP hS qw_Ai (q0 := 7 + 2 * i0_) (show _ < _ from by have := hi0_; omega) (hgU_LT ca o hi0_) rfl 3 (by decide) wq_52 rfl (x := x6) 3 rfl rfl rfl (Nat.le_of_ble_eq_true rfl) dX5_become_36 (fun z7 H locs hz7 hP hS => ?_)
  have J7 := jU_L (c := 7 + 2 * i0_) (by have := hi0_; omega) J5 hz7
  refine lv_aload_n hx hb dX5_become_39 rfl (lv_at hl 0 rfl) ?_
  refine lv_aload_n hx hb dX5_become_40 rfl (lv_at hl 1 rfl) ?_
  refine qf_get hx hb hts inX5 hown hK hP (q0 := 45 + 2 * i1_) (show _ < _ from by have := hi1_; omega) (hgU_LK ca o hi1_) rfl 4 (by decide) wq_56 (v := .int (z7 (45 + 2 * i1_) 4)) rfl dX5_become_41 ?_
  refine lv_topi (fun x8 e8 => ?_)
  refine qf_put2 hx hb hts inX5 tyX5 tyX5_ok nmX5 hown hK hP hS qw_Ai (q0 := 7 + 2 * i0_) (show _ < _ from by have := hi0_; omega) (hgU_LT ca o hi0_) rfl 4 (by decide) wq_56 rfl (x := x8) 4 rfl rfl rfl (Nat.le_of_ble_eq_true rfl) dX5_become_44 (fun z9 H locs hz9 hP hS => ?_)
  have J9 := jU_L (c := 7 + 2 * i0_) (by have := hi0_; omega) J7 hz9
  refine lv_aload_n hx hb dX5_become_47 rfl (lv_at hl 0 rfl) ?_
  refine lv_aload_n hx hb dX5_become_48 rfl (lv_at hl 1 rfl) ?_
  refine qf_get hx hb hts inX5 hown hK hP (q0 := 45 + 2 * i1_) (show _ < _ from by have := hi1_; omega) (hgU_LK ca o hi1_) rfl 5 (by decide) wq_59 (v := .int (z9 (45 + 2 * i1_) 5)) rfl dX5_become_49 ?_
  refine lv_topi (fun x10 e10 => ?_)
  refine qf_put2 hx hb hts inX5 tyX5 tyX5_ok nmX5 hown hK hP hS qw_Ai (q0 := 7 + 2 * i0_) (show _ < _ from by have := hi0_; omega) (hgU_LT ca o hi0_) rfl 5 (by decide) wq_59 rfl (x := x10) 5 rfl rfl rfl (Nat.le_of_ble_eq_true rfl) dX5_become_52 (fun z11 H locs hz11 hP hS => ?_)
  have J11 := jU_L (c := 7 + 2 * i0_) (by have := hi0_; omega) J9 hz11
  refine lv_aload_n hx hb dX5_become_55 rfl (lv_at hl 0 rfl) ?_
  refine lv_aload_n hx hb dX5_become_56 rfl (lv_at hl 1 rfl) ?_
  refine qf_get hx hb hts inX5 hown hK hP (q0 := 45 + 2 * i1_) (show _ < _ from by have := hi1_; omega) (hgU_LK ca o hi1_) rfl 6 (by decide) wq_62 (v := .int (z11 (45 + 2 * i1_) 6)) rfl dX5_become_57 ?_
  refine lv_topi (fun x12 e12 => ?_)
  refine qf_put2 hx hb hts inX5 tyX5 tyX5_ok nmX5 hown hK hP hS qw_Ai (q0 := 7 + 2 * i0_) (show _ < _ from by have := hi0_; omega) (hgU_LT ca o hi0_) rfl 6 (by decide) wq_62 rfl (x := x12) 6 rfl rfl rfl (Nat.le_of_ble_eq_true rfl) dX5_become_60 (fun z13 H locs hz13 hP hS => ?_)
  have J13 := jU_L (c := 7 + 2 * i0_) (by have := hi0_; omega) J11 hz13
  exact W.vret hx hb hr (fun t ht hW => ⟨⟨(z13, y), rfl, J13, by rw [ht]; exact hP, va_K.moved hW.alike hK⟩, hS.F ht⟩) hS.2.2 dX5_become_63
set_option maxRecDepth 100000 in
set_option maxHeartbeats 8000000 in
theorem u_Told_become_v1 (l : Launch) (D : va_G) (ca : Nat → ClassId) (o : Nat) (b z : Nat → Nat → Int32) (y : Nat → Nat → Int64) (J0 : qJU b z)   : qM l yX9_become cX9_become 3 none 3 101 (qPre D vwCl (qT6 ca) o 132 (qG (GU ca o) z y) [.ref (o + 1), .ref (o + 39)]) (va_Qv (fun u => qJU u.1 u.1 ∧ (qK kU (bec1 z) u.1)) (qB D vwCl (qT6 ca) o 132 (fun u : qZ => qG (GU ca o) u.1 u.2)) (qw_A o 132)) (qw_A o 132) := by
  refine Met.ofW (cc := cX9_become) (maxL := 3) (ret := none) (by decide) rfl ?_
  intro p e s m args below meth c s₁ B hml hv
  obtain ⟨rfl, hP, hK⟩ := hv
  have hx := B.exec
  have hb := B.bytes
  have hr := B.returns
  have hts0 := atoms_spec (ws := Cond.code yX9_become cX9_become 3 none :: qtbl) B.pre
  have hts : ∀ w ∈ qtbl, w.before _ s = true := fun w h => hts0 w (List.mem_cons_of_mem _ h)
  have hown : s.vm.findClass RX9 = some m.cls := findClass_of_methodNamed B.named
  have hlocks := B.notSynchronized
  have hS : va_S (qw_A o 132) s.heap s.heap [] := va_S.rf
  have hl := lv_entry ([.ref (o + 1), .ref (o + 39)]) (n := 3) (Nat.le_of_ble_eq_true rfl)
  rw [lg_entry_eq]
  generalize (lg_sl ([.ref (o + 1), .ref (o + 39)]) ++ List.replicate (3 - (lg_sl ([.ref (o + 1), .ref (o + 39)])).length) Slot.unset).toArray = ls at hl ⊢
  have hl : lv_has ls 3 [(0, .ref (o + 1)), (1, .ref (o + 39))] := hl
  have Jz : qJU z z := ⟨J0.1, qK_rf⟩
  refine lv_aload_n hx hb dX9_become_0 rfl (lv_at hl 1 rfl) ?_
  refine qf_get hx hb hts inX9 hown hK hP (q0 := 39) (by decide) (hgU_39 ca o) rfl 0 (by decide) wq_81 (v := .ref (o + 40)) rfl dX9_become_1 ?_
  refine lv_iconst (v := 0) hx hb dX9_become_4 (by decide) ?_
  refine lv_aload_n hx hb dX9_become_5 rfl (lv_at hl 0 rfl) ?_
  refine qf_get hx hb hts inX9 hown hK hP (q0 := 1) (by decide) (hgU_1 ca o) rfl 0 (by decide) wq_81 (v := .ref (o + 2)) rfl dX9_become_6 ?_
  refine lv_iconst (v := 0) hx hb dX9_become_9 (by decide) ?_
  refine lv_bipush (v := 6) hx hb dX9_become_10 (by decide) ?_
  refine qa_copy2 hx hb (hml.trans hl.1.symm) hown (hts _ wq_547) (hts _ wq_485) (hts _ wq_484) (hts _ wq_15) hK hP hS qw_Ai (q0 := 40) (q1 := 2) (by decide) (by decide) 0 (hgU_40 ca o) (hgU_2 ca o) rfl (sp := 0) (dp := 0) (k := 6) (by decide) (by decide) (by decide) (by decide) (by decide) (Nat.le_of_ble_eq_true rfl) (Nat.le_of_ble_eq_true rfl) dX9_become_12 (fun z1 H locs hz1 hP hS => ?_)
  have J1 := jfU_2 Jz hz1 (cpy_b (fun j => iU_40 Jz rfl) (fun j => iU_2 Jz rfl))
  refine lv_aload_n hx hb dX9_become_15 rfl (lv_at hl 1 rfl) ?_
  refine qf_get hx hb hts inX9 hown hK hP (q0 := 39) (by decide) (hgU_39 ca o) rfl 1 (by decide) wq_85 (v := .ref (o + 41)) rfl dX9_become_16 ?_
  refine lv_iconst (v := 0) hx hb dX9_become_19 (by decide) ?_
  refine lv_aload_n hx hb dX9_become_20 rfl (lv_at hl 0 rfl) ?_
  refine qf_get hx hb hts inX9 hown hK hP (q0 := 1) (by decide) (hgU_1 ca o) rfl 1 (by decide) wq_85 (v := .ref (o + 3)) rfl dX9_become_21 ?_
  refine lv_iconst (v := 0) hx hb dX9_become_24 (by decide) ?_
  refine lv_bipush (v := 6) hx hb dX9_become_25 (by decide) ?_
  refine qa_copy2 hx hb (hml.trans hl.1.symm) hown (hts _ wq_547) (hts _ wq_485) (hts _ wq_484) (hts _ wq_15) hK hP hS qw_Ai (q0 := 41) (q1 := 3) (by decide) (by decide) 0 (hgU_41 ca o) (hgU_3 ca o) rfl (sp := 0) (dp := 0) (k := 6) (by decide) (by decide) (by decide) (by decide) (by decide) (Nat.le_of_ble_eq_true rfl) (Nat.le_of_ble_eq_true rfl) dX9_become_27 (fun z2 H locs hz2 hP hS => ?_)
  have J2 := jfU_3 J1 hz2 (cpy_b (fun j => iU_41 J1 rfl) (fun j => iU_3 J1 rfl))
  refine lv_aload_n hx hb dX9_become_30 rfl (lv_at hl 1 rfl) ?_
  refine qf_get hx hb hts inX9 hown hK hP (q0 := 39) (by decide) (hgU_39 ca o) rfl 2 (by decide) wq_89 (v := .ref (o + 42)) rfl dX9_become_31 ?_
  refine lv_iconst (v := 0) hx hb dX9_become_34 (by decide) ?_
  refine lv_aload_n hx hb dX9_become_35 rfl (lv_at hl 0 rfl) ?_
  refine qf_get hx hb hts inX9 hown hK hP (q0 := 1) (by decide) (hgU_1 ca o) rfl 2 (by decide) wq_89 (v := .ref (o + 4)) rfl dX9_become_36 ?_
  refine lv_iconst (v := 0) hx hb dX9_become_39 (by decide) ?_
  refine lv_bipush (v := 6) hx hb dX9_become_40 (by decide) ?_
  refine qa_copy2 hx hb (hml.trans hl.1.symm) hown (hts _ wq_547) (hts _ wq_485) (hts _ wq_484) (hts _ wq_15) hK hP hS qw_Ai (q0 := 42) (q1 := 4) (by decide) (by decide) 0 (hgU_42 ca o) (hgU_4 ca o) rfl (sp := 0) (dp := 0) (k := 6) (by decide) (by decide) (by decide) (by decide) (by decide) (Nat.le_of_ble_eq_true rfl) (Nat.le_of_ble_eq_true rfl) dX9_become_42 (fun z3 H locs hz3 hP hS => ?_)
  have J3 := jfU_4 J2 hz3
  refine lv_aload_n hx hb dX9_become_45 rfl (lv_at hl 1 rfl) ?_
  refine qf_get hx hb hts inX9 hown hK hP (q0 := 39) (by decide) (hgU_39 ca o) rfl 3 (by decide) wq_91 (v := .ref (o + 43)) rfl dX9_become_46 ?_
  refine lv_iconst (v := 0) hx hb dX9_become_49 (by decide) ?_
  refine lv_aload_n hx hb dX9_become_50 rfl (lv_at hl 0 rfl) ?_
  refine qf_get hx hb hts inX9 hown hK hP (q0 := 1) (by decide) (hgU_1 ca o) rfl 3 (by decide) wq_91 (v := .ref (o + 5)) rfl dX9_become_51 ?_
  refine lv_iconst (v := 0) hx hb dX9_become_54 (by decide) ?_
  refine lv_bipush (v := 36) hx hb dX9_become_55 (by decide) ?_
  refine qa_copy2 hx hb (hml.trans hl.1.symm) hown (hts _ wq_547) (hts _ wq_485) (hts _ wq_484) (hts _ wq_15) hK hP hS qw_Ai (q0 := 43) (q1 := 5) (by decide) (by decide) 0 (hgU_43 ca o) (hgU_5 ca o) rfl (sp := 0) (dp := 0) (k := 36) (by decide) (by decide) (by decide) (by decide) (by decide) (Nat.le_of_ble_eq_true rfl) (Nat.le_of_ble_eq_true rfl) dX9_become_57 (fun z4 H locs hz4 hP hS => ?_)
  have J4 := jfU_5 J3 hz4
  refine lv_iconst (v := 0) hx hb dX9_become_60 (by decide) ?_
  refine lv_istore_n (lv' := [(2, .int 0), (0, .ref (o + 1)), (1, .ref (o + 39))]) hx hb dX9_become_61 rfl hl (by decide) rfl (fun ls hl => ?_)
  have loop5 : ∀ (n : Nat) (w5_2 : Int32) (z5 : Nat → Nat → Int32) (y5 : Nat → Nat → Int64), ((16 - w5_2.toInt : Int) < (n : Int)) → ((0 : Int) ≤ w5_2.toInt ∧ w5_2.toInt ≤ 16) → (qJU (quf (quf (quf (quf z 2 (va_cpy (z 40) (z 2) ((0 : Int32).toNatClampNeg) ((0 : Int32).toNatClampNeg) ((6 : Int32).toNatClampNeg))) 3 (va_cpy (z1 41) (z1 3) ((0 : Int32).toNatClampNeg) ((0 : Int32).toNatClampNeg) ((6 : Int32).toNatClampNeg))) 4 (va_cpy (z2 42) (z2 4) ((0 : Int32).toNatClampNeg) ((0 : Int32).toNatClampNeg) ((6 : Int32).toNatClampNeg))) 5 (va_cpy (z3 43) (z3 5) ((0 : Int32).toNatClampNeg) ((0 : Int32).toNatClampNeg) ((36 : Int32).toNatClampNeg))) z5) → ∀ (H : Heap) (locs : List Loc), qw_P D vwCl o 132 (qG (GU ca o) z5 y5) H → va_S (qw_A o 132) s.heap H locs → ∀ (ls : Array Slot), lv_has ls 3 [(2, .int w5_2), (0, .ref (o + 1)), (1, .ref (o + 39))] → W p l e (headSpec (Cond.code yX9_become cX9_become 3 none :: qtbl) ({ frames := 3, cells := 0, slots := 0, locals := 101 })).room s m (([.ref (o + 1), .ref (o + 39)] : List Value).toArray) below meth c H locs 0 0 (MQ below (va_Qv (fun u => qJU u.1 u.1 ∧ (qK kU (bec1 z) u.1)) (qB D vwCl (qT6 ca) o 132 (fun u : qZ => qG (GU ca o) u.1 u.2)) (qw_A o 132)) (([.ref (o + 1), .ref (o + 39)] : List Value).toArray) s 0 0 (qw_A o 132)) (F0 m 62 ls []) := by
    intro n
    induction n with
    | zero => intro w5_2 z5 y5 hb5 hv5_2 J5; exfalso; omega
    | succ n5 ih5 =>
      intro w5_2 z5 y5 hb5 hv5_2 J5 H locs hP hS ls hl
      refine lv_iload_n hx hb dX9_become_62 rfl (lv_at hl 0 rfl) ?_
      refine lv_bipush (v := 16) hx hb dX9_become_63 (by decide) ?_
      refine lv_icmp_ge (tgt := 89) hx hb dX9_become_65 (by decide) (fun c6 => ?_) (fun c6 => ?_)
      · have t6 : w5_2.toInt ≥ (16 : Int) := gl_le c6
        refine lv_aload_n hx hb dX9_become_89 rfl (lv_at hl 1 rfl) ?_
        refine lv_aload_n hx hb dX9_become_90 rfl (lv_at hl 2 rfl) ?_
        refine qf_get hx hb hts inX9 hown hK hP (q0 := 39) (by decide) (hgU_39 ca o) rfl 5 (by decide) wq_99 (v := .int (z5 39 5)) rfl dX9_become_91 ?_
        refine lv_topi (fun x7 e7 => ?_)
        have m7 : x7 = z 39 5 := e7.trans ((J5.2 39 5 rfl).trans (by rw [hz3, hz2, hz1]; rfl))
        refine qf_put2 hx hb hts inX9 tyX9 tyX9_ok nmX9 hown hK hP hS qw_Ai (q0 := 1) (by decide) (hgU_1 ca o) rfl 5 (by decide) wq_99 rfl (x := x7) 5 rfl rfl rfl (Nat.le_of_ble_eq_true rfl) dX9_become_94 (fun z8 H locs hz8 hP hS => ?_)
        have J8 := jU_1_5 J5 hz8
        refine lv_aload_n hx hb dX9_become_97 rfl (lv_at hl 1 rfl) ?_
        refine lv_aload_n hx hb dX9_become_98 rfl (lv_at hl 2 rfl) ?_
        refine qf_get hx hb hts inX9 hown hK hP (q0 := 39) (by decide) (hgU_39 ca o) rfl 6 (by decide) wq_100 (v := .int (z8 39 6)) rfl dX9_become_99 ?_
        refine lv_topi (fun x9 e9 => ?_)
        refine qf_put2 hx hb hts inX9 tyX9 tyX9_ok nmX9 hown hK hP hS qw_Ai (q0 := 1) (by decide) (hgU_1 ca o) rfl 6 (by decide) wq_100 rfl (x := x9) 6 rfl rfl rfl (Nat.le_of_ble_eq_true rfl) dX9_become_102 (fun z10 H locs hz10 hP hS => ?_)
        have J10 := jU_1_6 J8 hz10
        refine lv_aload_n hx hb dX9_become_105 rfl (lv_at hl 1 rfl) ?_
        refine lv_aload_n hx hb dX9_become_106 rfl (lv_at hl 2 rfl) ?_
        refine qf_get hx hb hts inX9 hown hK hP (q0 := 39) (by decide) (hgU_39 ca o) rfl 7 (by decide) wq_102 (v := .int (z10 39 7)) rfl dX9_become_107 ?_
        refine lv_topi (fun x11 e11 => ?_)
        have m11 : x11 = z 39 7 := e11.trans ((J10.2 39 7 rfl).trans (by rw [hz3, hz2, hz1]; rfl))
        refine qf_put2 hx hb hts inX9 tyX9 tyX9_ok nmX9 hown hK hP hS qw_Ai (q0 := 1) (by decide) (hgU_1 ca o) rfl 7 (by decide) wq_102 rfl (x := x11) 7 rfl rfl rfl (Nat.le_of_ble_eq_true rfl) dX9_become_110 (fun z12 H locs hz12 hP hS => ?_)
        have J12 := jU_1_7 J10 hz12
        exact W.vret hx hb hr (fun t ht hW => ⟨⟨(z12, y5), rfl, ⟨⟨J12.1, qK_rf⟩, by have h := J12.2; rw [m7, m11, hz3, hz2, hz1] at h; exact h⟩, by rw [ht]; exact hP, va_K.moved hW.alike hK⟩, hS.F ht⟩) hS.2.2 dX9_become_113
      · have t6 : w5_2.toInt < (16 : Int) := gl_nle c6
        refine lv_aload_n hx hb dX9_become_68 rfl (lv_at hl 1 rfl) ?_
        refine qf_get hx hb hts inX9 hown hK hP (q0 := 1) (by decide) (hgU_1 ca o) rfl 4 (by decide) wq_94 (v := .ref (o + 6)) rfl dX9_become_69 ?_
        refine lv_iload_n hx hb dX9_become_72 rfl (lv_at hl 0 rfl) ?_
        have hi_w5_2 : w5_2.toNatClampNeg < 16 := ga_nat (by omega) (show _ < (16 : Int) from by omega)
        refine qa_aald hx hb hK hP (q0 := 6) (by decide) 4 rfl (N := 16) (hgU_6 ca o) rfl (gi_in (by omega) (by omega)) dX9_become_73 ?_
        refine lv_aload_n hx hb dX9_become_74 rfl (lv_at hl 2 rfl) ?_
        refine qf_get hx hb hts inX9 hown hK hP (q0 := 39) (by decide) (hgU_39 ca o) rfl 4 (by decide) wq_94 (v := .ref (o + 44)) rfl dX9_become_75 ?_
        refine lv_iload_n hx hb dX9_become_78 rfl (lv_at hl 0 rfl) ?_
        have hi_w5_2 : w5_2.toNatClampNeg < 16 := ga_nat (by omega) (show _ < (16 : Int) from by omega)
        refine qa_aald hx hb hK hP (q0 := 44) (by decide) 4 rfl (N := 16) (hgU_44 ca o) rfl (gi_in (by omega) (by omega)) dX9_become_79 ?_
        refine qc_Vv2 (As := [.ref (o + (45 + 2 * w5_2.toNatClampNeg))]) (rest := []) (k0 := 1) (u_Line_become_v1 l D ca o (quf (quf (quf (quf z 2 (va_cpy (z 40) (z 2) ((0 : Int32).toNatClampNeg) ((0 : Int32).toNatClampNeg) ((6 : Int32).toNatClampNeg))) 3 (va_cpy (z1 41) (z1 3) ((0 : Int32).toNatClampNeg) ((0 : Int32).toNatClampNeg) ((6 : Int32).toNatClampNeg))) 4 (va_cpy (z2 42) (z2 4) ((0 : Int32).toNatClampNeg) ((0 : Int32).toNatClampNeg) ((6 : Int32).toNatClampNeg))) 5 (va_cpy (z3 43) (z3 5) ((0 : Int32).toNatClampNeg) ((0 : Int32).toNatClampNeg) ((36 : Int32).toNatClampNeg))) z5 y5 J5 (i0_ := w5_2.toNatClampNeg) hi_w5_2 (i1_ := w5_2.toNatClampNeg) hi_w5_2) kc_yX5_become ⟨hx, hb, hml, hown, hts⟩ wq_548 rfl rfl ⟨Nat.le_of_ble_eq_true rfl, Nat.le_of_ble_eq_true rfl⟩ wq_all hP hK hS qw_Ai (q0 := 7 + 2 * w5_2.toNatClampNeg) (show _ < _ from by have := hi_w5_2; omega) (hgU_LT ca o hi_w5_2 _ _) rfl rfl hl.1 rfl (Nat.le_of_ble_eq_true rfl) dX9_become_80 ⟨Nat.zero_le _, Nat.zero_le _⟩ (fun z13 y13 H locs h13 hP hS _ _ => ?_)
        have J13 : qJU (quf (quf (quf (quf z 2 (va_cpy (z 40) (z 2) ((0 : Int32).toNatClampNeg) ((0 : Int32).toNatClampNeg) ((6 : Int32).toNatClampNeg))) 3 (va_cpy (z1 41) (z1 3) ((0 : Int32).toNatClampNeg) ((0 : Int32).toNatClampNeg) ((6 : Int32).toNatClampNeg))) 4 (va_cpy (z2 42) (z2 4) ((0 : Int32).toNatClampNeg) ((0 : Int32).toNatClampNeg) ((6 : Int32).toNatClampNeg))) 5 (va_cpy (z3 43) (z3 5) ((0 : Int32).toNatClampNeg) ((0 : Int32).toNatClampNeg) ((36 : Int32).toNatClampNeg))) z13 := h13
        obtain ⟨x14, e14⟩ : ∃ t : Int32, t = w5_2 + 1 := ⟨_, rfl⟩
        refine lv_iinc (v := x14) (lv' := [(2, .int x14), (0, .ref (o + 1)), (1, .ref (o + 39))]) hx hb dX9_become_83 hl (k := 0) rfl (by rw [e14]; rfl) (by decide) rfl (fun ls hl => ?_)
        have t14 : x14.toInt = w5_2.toInt + (1 : Int) := ga_add e14 rfl rfl (by omega) (by omega)
        refine lv_goto (tgt := 62) hx hb dX9_become_86 (by decide) ?_
        exact ih5 x14 z13 y13 (show (16 - x14.toInt : Int) < (n5 : Int) from by omega) ⟨by omega, by omega⟩ J13 _ _ hP hS _ (lv_sub hl [0, 1, 2] rfl)
  exact loop5 17 0 z4 y (show (16 - (0 : Int) : Int) < ((17 : Nat) : Int) from by omega) ⟨by decide, by decide⟩ J4 _ _ hP hS _ (lv_sub hl [0, 1, 2] rfl)
set_option maxRecDepth 100000 in
set_option maxHeartbeats 8000000 in
theorem u_undo (l : Launch) (D : va_G) (ca : Nat → ClassId) (o : Nat) (b z : Nat → Nat → Int32) (y : Nat → Nat → Int64) (J0 : qJU b z)   : qM l yX10_undo cX10_undo 1 (some .boolean) 4 123 (qPre D vwCl (qT6 ca) o 132 (qG (GU ca o) z y) [.ref (o + 0)]) (va_Qi (fun r u => ((r = 1 ∧ (z 0 2 ≠ 0) ∧ (qK kU (bec1 z) u.1)) ∨ (r = 0 ∧ (z 0 2 = 0) ∧ (qK kU z u.1))) ∧ qJU u.1 u.1) (qB D vwCl (qT6 ca) o 132 (fun u : qZ => qG (GU ca o) u.1 u.2)) (qw_A o 132)) (qw_A o 132) := by
  refine Met.ofW (cc := cX10_undo) (maxL := 1) (ret := (some .boolean)) (by decide) rfl ?_
  intro p e s m args below meth c s₁ B hml hv
  obtain ⟨rfl, hP, hK⟩ := hv
  have hx := B.exec
  have hb := B.bytes
  have hr := B.returns
  have hts0 := atoms_spec (ws := Cond.code yX10_undo cX10_undo 1 (some .boolean) :: qtbl) B.pre
  have hts : ∀ w ∈ qtbl, w.before _ s = true := fun w h => hts0 w (List.mem_cons_of_mem _ h)
  have hown : s.vm.findClass RX10 = some m.cls := findClass_of_methodNamed B.named
  have hlocks := B.notSynchronized
  have hS : va_S (qw_A o 132) s.heap s.heap [] := va_S.rf
  have hl := lv_entry ([.ref (o + 0)]) (n := 1) (Nat.le_of_ble_eq_true rfl)
  rw [lg_entry_eq]
  generalize (lg_sl ([.ref (o + 0)]) ++ List.replicate (1 - (lg_sl ([.ref (o + 0)])).length) Slot.unset).toArray = ls at hl ⊢
  have hl : lv_has ls 1 [(0, .ref (o + 0))] := hl
  have Jz : qJU z z := ⟨J0.1, qK_rf⟩
  refine lv_aload_n hx hb dX10_undo_0 rfl (lv_at hl 0 rfl) ?_
  refine qf_get hx hb hts inX10 hown hK hP (q0 := 0) (by decide) (hgU_0 ca o) rfl 2 (by decide) wq_355 (v := .int (z 0 2)) rfl dX10_undo_1 ?_
  refine lv_topi (fun x1 e1 => ?_)
  have b1 := iU_0_2 Jz e1
  have m1 : x1 = z 0 2 := e1.trans ((Jz.2 0 2 rfl).trans (by rfl))
  refine lv_if_ne (tgt := 9) hx hb dX10_undo_4 (by decide) (fun c2 => ?_) (fun c2 => ?_)
  · have t2 : x1.toInt ≠ (0 : Int) := gl_ne c2
    refine lv_aload_n hx hb dX10_undo_9 rfl (lv_at hl 0 rfl) ?_
    refine qf_get hx hb hts inX10 hown hK hP (q0 := 0) (by decide) (hgU_0 ca o) rfl 0 (by decide) wq_353 (v := .ref (o + 1)) rfl dX10_undo_10 ?_
    refine lv_aload_n hx hb dX10_undo_13 rfl (lv_at hl 0 rfl) ?_
    refine qf_get hx hb hts inX10 hown hK hP (q0 := 0) (by decide) (hgU_0 ca o) rfl 1 (by decide) wq_354 (v := .ref (o + 39)) rfl dX10_undo_14 ?_
    refine qc_Vv2 (As := [.ref (o + 39)]) (rest := []) (k0 := 1) (u_Told_become_v1 l D ca o z z y Jz) kc_yX9_become ⟨hx, hb, hml, hown, hts⟩ wq_543 rfl rfl ⟨Nat.le_of_ble_eq_true rfl, Nat.le_of_ble_eq_true rfl⟩ wq_all hP hK hS qw_Ai (q0 := 1) (by decide) (hgU_1 ca o _ _) rfl rfl hl.1 rfl (Nat.le_of_ble_eq_true rfl) dX10_undo_17 ⟨Nat.zero_le _, Nat.zero_le _⟩ (fun z3 y3 H locs h3 hP hS _ _ => ?_)
    have J3 : qJU z3 z3 := h3.1
    have p3_1 : qK kU (bec1 z) z3 := h3.2
    refine lv_aload_n hx hb dX10_undo_20 rfl (lv_at hl 0 rfl) ?_
    refine qf_get hx hb hts inX10 hown hK hP (q0 := 0) (by decide) (hgU_0 ca o) rfl 7 (by decide) wq_360 (v := .ref (o + 108)) rfl dX10_undo_21 ?_
    refine qc_Vv2 (As := []) (rest := []) (k0 := 0) (u_Fits_forget l D ca o z3 z3 y3 J3) kc_yX3_forget ⟨hx, hb, hml, hown, hts⟩ wq_403 rfl rfl ⟨Nat.le_of_ble_eq_true rfl, Nat.le_of_ble_eq_true rfl⟩ wq_all hP hK hS qw_Ai (q0 := 108) (by decide) (hgU_108 ca o _ _) rfl rfl hl.1 rfl (Nat.le_of_ble_eq_true rfl) dX10_undo_24 ⟨Nat.zero_le _, Nat.zero_le _⟩ (fun z4 y4 H locs h4 hP hS _ _ => ?_)
    have J4 : qJU z3 z4 := h4
    refine lv_iconst (v := 1) hx hb dX10_undo_27 (by decide) ?_
    exact W.zret (v := 1) (ty := .boolean) hx hb hr rfl (fun t ht hW => ⟨⟨1, (z4, y4), rfl, ⟨Or.inl ⟨rfl, (fun h => gr_ne (y := 0) (show _ ≠ (0 : Int) from by omega) (m1.trans h)), qK_tr p3_1 J4.2⟩, ⟨J4.1, qK_rf⟩⟩, by rw [ht]; exact hP, va_K.moved hW.alike hK⟩, hS.F ht⟩) hS.2.2 dX10_undo_28
  · have t2 : x1.toInt = (0 : Int) := gl_eq c2
    refine lv_iconst (v := 0) hx hb dX10_undo_7 (by decide) ?_
    exact W.zret (v := 0) (ty := .boolean) hx hb hr rfl (fun t ht hW => ⟨⟨0, (z, y), rfl, ⟨Or.inr ⟨rfl, (m1.symm.trans (gr_eq (y := 0) (show _ = (0 : Int) from by omega))), qK_rf⟩, ⟨Jz.1, qK_rf⟩⟩, by rw [ht]; exact hP, va_K.moved hW.alike hK⟩, hS.F ht⟩) hS.2.2 dX10_undo_8
set_option maxRecDepth 100000 in
set_option maxHeartbeats 8000000 in
theorem u_check (l : Launch) (D : va_G) (ca : Nat → ClassId) (o : Nat) (b z : Nat → Nat → Int32) (y : Nat → Nat → Int64) (J0 : qJU b z) (a0 : Int32)  : qM l yX10_check cX10_check 4 (some .int) 6 166 (qPre D vwCl (qT6 ca) o 132 (qG (GU ca o) z y) [.ref (o + 0), .int a0]) (va_Qi (fun r u => ((-2 : Int) ≤ r.toInt ∧ r.toInt ≤ 5) ∧ qJU b u.1) (qB D vwCl (qT6 ca) o 132 (fun u : qZ => qG (GU ca o) u.1 u.2)) (qw_A o 132)) (qw_A o 132) := by
  refine Met.ofW (cc := cX10_check) (maxL := 4) (ret := (some .int)) (by decide) rfl ?_
  intro p e s m args below meth c s₁ B hml hv
  obtain ⟨rfl, hP, hK⟩ := hv
  have hx := B.exec
  have hb := B.bytes
  have hr := B.returns
  have hts0 := atoms_spec (ws := Cond.code yX10_check cX10_check 4 (some .int) :: qtbl) B.pre
  have hts : ∀ w ∈ qtbl, w.before _ s = true := fun w h => hts0 w (List.mem_cons_of_mem _ h)
  have hown : s.vm.findClass RX10 = some m.cls := findClass_of_methodNamed B.named
  have hlocks := B.notSynchronized
  have hS : va_S (qw_A o 132) s.heap s.heap [] := va_S.rf
  have hl := lv_entry ([.ref (o + 0), .int a0]) (n := 4) (Nat.le_of_ble_eq_true rfl)
  rw [lg_entry_eq]
  generalize (lg_sl ([.ref (o + 0), .int a0]) ++ List.replicate (4 - (lg_sl ([.ref (o + 0), .int a0])).length) Slot.unset).toArray = ls at hl ⊢
  have hl : lv_has ls 4 [(0, .ref (o + 0)), (1, .int a0)] := hl
  refine lv_iload_n hx hb dX10_check_0 rfl (lv_at hl 1 rfl) ?_
  refine lv_if_lt (tgt := 18) hx hb dX10_check_1 (by decide) (fun c1 => ?_) (fun c1 => ?_)
  · have t1 : a0.toInt < (0 : Int) := gl_lt c1
    refine lv_bipush (v := (-2)) hx hb dX10_check_18 (by decide) ?_
    exact W.iret (v := (-2)) hx hb hr (fun t ht hW => ⟨⟨(-2), (z, y), rfl, ⟨⟨by decide, by decide⟩, J0⟩, by rw [ht]; exact hP, va_K.moved hW.alike hK⟩, hS.F ht⟩) hS.2.2 dX10_check_20
  · have t1 : a0.toInt ≥ (0 : Int) := gl_nlt c1
    refine lv_iload_n hx hb dX10_check_4 rfl (lv_at hl 1 rfl) ?_
    refine lv_bipush (v := 6) hx hb dX10_check_5 (by decide) ?_
    refine lv_icmp_gt (tgt := 18) hx hb dX10_check_7 (by decide) (fun c2 => ?_) (fun c2 => ?_)
    · have t2 : a0.toInt > (6 : Int) := gl_lt c2
      refine lv_bipush (v := (-2)) hx hb dX10_check_18 (by decide) ?_
      exact W.iret (v := (-2)) hx hb hr (fun t ht hW => ⟨⟨(-2), (z, y), rfl, ⟨⟨by decide, by decide⟩, J0⟩, by rw [ht]; exact hP, va_K.moved hW.alike hK⟩, hS.F ht⟩) hS.2.2 dX10_check_20
    · have t2 : a0.toInt ≤ (6 : Int) := gl_nlt c2
      refine lv_iload_n hx hb dX10_check_10 rfl (lv_at hl 1 rfl) ?_
      refine lv_aload_n hx hb dX10_check_11 rfl (lv_at hl 0 rfl) ?_
      refine qf_get hx hb hts inX10 hown hK hP (q0 := 0) (by decide) (hgU_0 ca o) rfl 4 (by decide) wq_357 (v := .int (z 0 4)) rfl dX10_check_12 ?_
      refine lv_topi (fun x3 e3 => ?_)
      have b3 := iU_0_4 J0 e3
      refine lv_icmp_le (tgt := 21) hx hb dX10_check_15 (by decide) (fun c4 => ?_) (fun c4 => ?_)
      · have t4 : a0.toInt ≤ x3.toInt := gl_le c4
        refine lv_aload_n hx hb dX10_check_21 rfl (lv_at hl 0 rfl) ?_
        refine lv_iconst (v := 0) hx hb dX10_check_22 (by decide) ?_
        refine qf_put2 hx hb hts inX10 tyX10 tyX10_ok nmX10 hown hK hP hS qw_Ai (q0 := 0) (by decide) (hgU_0 ca o) rfl 4 (by decide) wq_357 rfl (x := 0) 4 rfl rfl rfl (Nat.le_of_ble_eq_true rfl) dX10_check_23 (fun z5 H locs hz5 hP hS => ?_)
        have J5 := jU_0_4 J0 hz5 ⟨by decide, by decide⟩
        refine lv_aload_n hx hb dX10_check_26 rfl (lv_at hl 0 rfl) ?_
        refine qf_get hx hb hts inX10 hown hK hP (q0 := 0) (by decide) (hgU_0 ca o) rfl 6 (by decide) wq_359 (v := .ref (o + 104)) rfl dX10_check_27 ?_
        refine lv_aload_n hx hb dX10_check_30 rfl (lv_at hl 0 rfl) ?_
        refine qf_get hx hb hts inX10 hown hK hP (q0 := 0) (by decide) (hgU_0 ca o) rfl 0 (by decide) wq_353 (v := .ref (o + 1)) rfl dX10_check_31 ?_
        refine qc_Vip (As := []) (rest := [.ref (o + 104)]) (k0 := 0) (u_Told_remarksSaid l D ca o b z5 y J5) kc_yX9_remarksSaid ⟨hx, hb, hml, hown, hts⟩ wq_553 rfl rfl ⟨Nat.le_of_ble_eq_true rfl, Nat.le_of_ble_eq_true rfl⟩ wq_all hP hK hS qw_Ai (q0 := 1) (by decide) (hgU_1 ca o _ _) rfl rfl hl.1 rfl (Nat.le_of_ble_eq_true rfl) dX10_check_34 ⟨Nat.zero_le _, Nat.zero_le _⟩ (fun r6 H locs h6 hP hS _ _ => ?_)
        have b6 : (0 : Int) ≤ r6.toInt ∧ r6.toInt ≤ 1023 := h6
        refine qc_Vi2 (As := [.int r6]) (rest := []) (k0 := 1) (u_Rows_seek l D ca o b z5 y J5 r6) kc_yX7_seek ⟨hx, hb, hml, hown, hts⟩ wq_587 rfl rfl ⟨Nat.le_of_ble_eq_true rfl, Nat.le_of_ble_eq_true rfl⟩ wq_all hP hK hS qw_Ai (q0 := 104) (by decide) (hgU_104 ca o _ _) rfl rfl hl.1 rfl (Nat.le_of_ble_eq_true rfl) dX10_check_37 ⟨Nat.zero_le _, Nat.zero_le _⟩ (fun r7 z7 y7 H locs h7 hP hS _ _ => ?_)
        have J7 : qJU b z7 := h7.2
        have b7 : (-3 : Int) ≤ r7.toInt ∧ r7.toInt ≤ 0 := h7.1
        refine lv_if_ge (tgt := 46) hx hb dX10_check_40 (by decide) (fun c8 => ?_) (fun c8 => ?_)
        · have t8 : r7.toInt ≥ (0 : Int) := gl_le c8
          refine lv_iconst (v := 0) hx hb dX10_check_46 (by decide) ?_
          refine lv_istore_n (lv' := [(2, .int 0), (0, .ref (o + 0)), (1, .int a0)]) hx hb dX10_check_47 rfl hl (by decide) rfl (fun ls hl => ?_)
          have loop9 : ∀ (n : Nat) (w9_2 : Int32), ((6 - w9_2.toInt : Int) < (n : Int)) → ((0 : Int) ≤ w9_2.toInt ∧ w9_2.toInt ≤ 6) → ∀ (H : Heap) (locs : List Loc), qw_P D vwCl o 132 (qG (GU ca o) z7 y7) H → va_S (qw_A o 132) s.heap H locs → ∀ (ls : Array Slot), lv_has ls 4 [(2, .int w9_2), (0, .ref (o + 0)), (1, .int a0)] → W p l e (headSpec (Cond.code yX10_check cX10_check 4 (some .int) :: qtbl) ({ frames := 6, cells := 0, slots := 0, locals := 166 })).room s m (([.ref (o + 0), .int a0] : List Value).toArray) below meth c H locs 0 0 (MQ below (va_Qi (fun r u => ((-2 : Int) ≤ r.toInt ∧ r.toInt ≤ 5) ∧ qJU b u.1) (qB D vwCl (qT6 ca) o 132 (fun u : qZ => qG (GU ca o) u.1 u.2)) (qw_A o 132)) (([.ref (o + 0), .int a0] : List Value).toArray) s 0 0 (qw_A o 132)) (F0 m 48 ls []) := by
            intro n
            induction n with
            | zero => intro w9_2 hb9 hv9_2; exfalso; omega
            | succ n9 ih9 =>
              intro w9_2 hb9 hv9_2 H locs hP hS ls hl
              refine lv_iload_n hx hb dX10_check_48 rfl (lv_at hl 0 rfl) ?_
              refine lv_iload_n hx hb dX10_check_49 rfl (lv_at hl 2 rfl) ?_
              refine lv_icmp_ge (tgt := 96) hx hb dX10_check_50 (by decide) (fun c10 => ?_) (fun c10 => ?_)
              · have t10 : w9_2.toInt ≥ a0.toInt := gl_le c10
                refine lv_iconst (v := (-1)) hx hb dX10_check_96 (by decide) ?_
                exact W.iret (v := (-1)) hx hb hr (fun t ht hW => ⟨⟨(-1), (z7, y7), rfl, ⟨⟨by decide, by decide⟩, J7⟩, by rw [ht]; exact hP, va_K.moved hW.alike hK⟩, hS.F ht⟩) hS.2.2 dX10_check_97
              · have t10 : w9_2.toInt < a0.toInt := gl_nle c10
                refine lv_aload_n hx hb dX10_check_53 rfl (lv_at hl 1 rfl) ?_
                refine qf_get hx hb hts inX10 hown hK hP (q0 := 0) (by decide) (hgU_0 ca o) rfl 0 (by decide) wq_353 (v := .ref (o + 1)) rfl dX10_check_54 ?_
                refine lv_iload_n hx hb dX10_check_57 rfl (lv_at hl 0 rfl) ?_
                refine qc_Vip (As := [.int w9_2]) (rest := []) (k0 := 1) (u_Told_hasPerson l D ca o b z7 y7 J7 w9_2) kc_yX9_hasPerson ⟨hx, hb, hml, hown, hts⟩ wq_411 rfl rfl ⟨Nat.le_of_ble_eq_true rfl, Nat.le_of_ble_eq_true rfl⟩ wq_all hP hK hS qw_Ai (q0 := 1) (by decide) (hgU_1 ca o _ _) rfl rfl hl.1 rfl (Nat.le_of_ble_eq_true rfl) dX10_check_58 ⟨Nat.zero_le _, Nat.zero_le _⟩ (fun r11 H locs h11 hP hS _ _ => ?_)
                rcases h11 with ⟨hr11, hf11_0, hf11_1⟩ | ⟨hr11, hf11_0⟩
                · subst hr11
                  have hg11_0 : pHas (z7 1 5) w9_2 := hf11_0
                  have hg11_1 : 0 ≤ w9_2.toInt ∧ w9_2.toInt ≤ 5 := hf11_1
                  refine lv_if_eq (tgt := 76) hx hb dX10_check_61 (by decide) (fun q => absurd q (by decide)) (fun _ => ?_)
                  refine lv_aload_n hx hb dX10_check_64 rfl (lv_at hl 1 rfl) ?_
                  refine qf_get hx hb hts inX10 hown hK hP (q0 := 0) (by decide) (hgU_0 ca o) rfl 6 (by decide) wq_359 (v := .ref (o + 104)) rfl dX10_check_65 ?_
                  refine qf_get hx hb hts inX7 hown hK hP (q0 := 104) (by decide) (hgU_104 ca o) rfl 1 (by decide) wq_189 (v := .ref (o + 105)) rfl dX10_check_68 ?_
                  refine lv_iload_n hx hb dX10_check_71 rfl (lv_at hl 0 rfl) ?_
                  refine qa_iald hx hb hK hP (q0 := 105) (by decide) 0 (N := 6) (hgU_105 ca o) rfl (gi_in (by omega) (by omega)) dX10_check_72 ?_
                  refine lv_topi (fun x12 e12 => ?_)
                  have b12 := iU_105 J7 e12
                  refine lv_goto (tgt := 77) hx hb dX10_check_73 (by decide) ?_
                  refine lv_istore_n (lv' := [(3, .int x12), (2, .int w9_2), (0, .ref (o + 0)), (1, .int a0)]) hx hb dX10_check_77 rfl hl (by decide) rfl (fun ls hl => ?_)
                  refine lv_aload_n hx hb dX10_check_78 rfl (lv_at hl 2 rfl) ?_
                  refine qf_get hx hb hts inX10 hown hK hP (q0 := 0) (by decide) (hgU_0 ca o) rfl 3 (by decide) wq_356 (v := .ref (o + 77)) rfl dX10_check_79 ?_
                  refine lv_iload_n hx hb dX10_check_82 rfl (lv_at hl 1 rfl) ?_
                  refine qa_iald hx hb hK hP (q0 := 77) (by decide) 0 (N := 260) (hgU_77 ca o) rfl (gi_in (by omega) (by omega)) dX10_check_83 ?_
                  refine lv_topi (fun x13 e13 => ?_)
                  refine lv_iload_n hx hb dX10_check_84 rfl (lv_at hl 0 rfl) ?_
                  refine lv_icmp_eq (tgt := 90) hx hb dX10_check_85 (by decide) (fun c14 => ?_) (fun c14 => ?_)
                  · have t14 : x13.toInt = x12.toInt := gl_eq c14
                    obtain ⟨x15, e15⟩ : ∃ t : Int32, t = w9_2 + 1 := ⟨_, rfl⟩
                    refine lv_iinc (v := x15) (lv' := [(2, .int x15), (3, .int x12), (0, .ref (o + 0)), (1, .int a0)]) hx hb dX10_check_90 hl (k := 1) rfl (by rw [e15]; rfl) (by decide) rfl (fun ls hl => ?_)
                    have t15 : x15.toInt = w9_2.toInt + (1 : Int) := ga_add e15 rfl rfl (by omega) (by omega)
                    refine lv_goto (tgt := 48) hx hb dX10_check_93 (by decide) ?_
                    exact ih9 x15 (show (6 - x15.toInt : Int) < (n9 : Int) from by omega) ⟨by omega, by omega⟩ _ _ hP hS _ (lv_sub hl [0, 2, 3] rfl)
                  · have t14 : x13.toInt ≠ x12.toInt := gl_ne c14
                    refine lv_iload_n hx hb dX10_check_88 rfl (lv_at hl 1 rfl) ?_
                    exact W.iret (v := w9_2) hx hb hr (fun t ht hW => ⟨⟨w9_2, (z7, y7), rfl, ⟨⟨by omega, by omega⟩, J7⟩, by rw [ht]; exact hP, va_K.moved hW.alike hK⟩, hS.F ht⟩) hS.2.2 dX10_check_89
                · subst hr11
                  have hg11_0 : ¬ pHas (z7 1 5) w9_2 := hf11_0
                  refine lv_if_eq (tgt := 76) hx hb dX10_check_61 (by decide) (fun _ => ?_) (fun q => absurd (by decide) q)
                  refine lv_iconst (v := 0) hx hb dX10_check_76 (by decide) ?_
                  refine lv_istore_n (lv' := [(3, .int 0), (2, .int w9_2), (0, .ref (o + 0)), (1, .int a0)]) hx hb dX10_check_77 rfl hl (by decide) rfl (fun ls hl => ?_)
                  refine lv_aload_n hx hb dX10_check_78 rfl (lv_at hl 2 rfl) ?_
                  refine qf_get hx hb hts inX10 hown hK hP (q0 := 0) (by decide) (hgU_0 ca o) rfl 3 (by decide) wq_356 (v := .ref (o + 77)) rfl dX10_check_79 ?_
                  refine lv_iload_n hx hb dX10_check_82 rfl (lv_at hl 1 rfl) ?_
                  refine qa_iald hx hb hK hP (q0 := 77) (by decide) 0 (N := 260) (hgU_77 ca o) rfl (gi_in (by omega) (by omega)) dX10_check_83 ?_
                  refine lv_topi (fun x16 e16 => ?_)
                  refine lv_iload_n hx hb dX10_check_84 rfl (lv_at hl 0 rfl) ?_
                  refine lv_icmp_eq (tgt := 90) hx hb dX10_check_85 (by decide) (fun c17 => ?_) (fun c17 => ?_)
                  · have t17 : x16.toInt = (0 : Int) := gl_eq c17
                    obtain ⟨x18, e18⟩ : ∃ t : Int32, t = w9_2 + 1 := ⟨_, rfl⟩
                    refine lv_iinc (v := x18) (lv' := [(2, .int x18), (3, .int 0), (0, .ref (o + 0)), (1, .int a0)]) hx hb dX10_check_90 hl (k := 1) rfl (by rw [e18]; rfl) (by decide) rfl (fun ls hl => ?_)
                    have t18 : x18.toInt = w9_2.toInt + (1 : Int) := ga_add e18 rfl rfl (by omega) (by omega)
                    refine lv_goto (tgt := 48) hx hb dX10_check_93 (by decide) ?_
                    exact ih9 x18 (show (6 - x18.toInt : Int) < (n9 : Int) from by omega) ⟨by omega, by omega⟩ _ _ hP hS _ (lv_sub hl [0, 2, 3] rfl)
                  · have t17 : x16.toInt ≠ (0 : Int) := gl_ne c17
                    refine lv_iload_n hx hb dX10_check_88 rfl (lv_at hl 1 rfl) ?_
                    exact W.iret (v := w9_2) hx hb hr (fun t ht hW => ⟨⟨w9_2, (z7, y7), rfl, ⟨⟨by omega, by omega⟩, J7⟩, by rw [ht]; exact hP, va_K.moved hW.alike hK⟩, hS.F ht⟩) hS.2.2 dX10_check_89
          exact loop9 7 0 (show (6 - (0 : Int) : Int) < ((7 : Nat) : Int) from by omega) ⟨by decide, by decide⟩ _ _ hP hS _ (lv_sub hl [0, 1, 2] rfl)
        · have t8 : r7.toInt < (0 : Int) := gl_nle c8
          refine lv_bipush (v := (-2)) hx hb dX10_check_43 (by decide) ?_
          exact W.iret (v := (-2)) hx hb hr (fun t ht hW => ⟨⟨(-2), (z7, y7), rfl, ⟨⟨by decide, by decide⟩, J7⟩, by rw [ht]; exact hP, va_K.moved hW.alike hK⟩, hS.F ht⟩) hS.2.2 dX10_check_45
      · have t4 : a0.toInt > x3.toInt := gl_nle c4
        refine lv_bipush (v := (-2)) hx hb dX10_check_18 (by decide) ?_
        exact W.iret (v := (-2)) hx hb hr (fun t ht hW => ⟨⟨(-2), (z, y), rfl, ⟨⟨by decide, by decide⟩, J0⟩, by rw [ht]; exact hP, va_K.moved hW.alike hK⟩, hS.F ht⟩) hS.2.2 dX10_check_20
set_option maxRecDepth 100000 in
set_option maxHeartbeats 8000000 in
theorem u_countOfPerson (l : Launch) (D : va_G) (ca : Nat → ClassId) (o : Nat) (b z : Nat → Nat → Int32) (y : Nat → Nat → Int64) (J0 : qJU b z) (a0 : Int32)  : qM l yX10_countOfPerson cX10_countOfPerson 3 (some .int) 2 81 (qPre D vwCl (qT6 ca) o 132 (qG (GU ca o) z y) [.ref (o + 0), .int a0]) (va_Qi (fun r (_ : Unit) => True) (qB D vwCl (qT6 ca) o 132 (fun _ : Unit => qG (GU ca o) z y)) (qw_A o 132)) (qw_A o 132) := by
  refine Met.ofW (cc := cX10_countOfPerson) (maxL := 3) (ret := (some .int)) (by decide) rfl ?_
  intro p e s m args below meth c s₁ B hml hv
  obtain ⟨rfl, hP, hK⟩ := hv
  have hx := B.exec
  have hb := B.bytes
  have hr := B.returns
  have hts0 := atoms_spec (ws := Cond.code yX10_countOfPerson cX10_countOfPerson 3 (some .int) :: qtbl) B.pre
  have hts : ∀ w ∈ qtbl, w.before _ s = true := fun w h => hts0 w (List.mem_cons_of_mem _ h)
  have hown : s.vm.findClass RX10 = some m.cls := findClass_of_methodNamed B.named
  have hlocks := B.notSynchronized
  have hS : va_S (qw_A o 132) s.heap s.heap [] := va_S.rf
  have hl := lv_entry ([.ref (o + 0), .int a0]) (n := 3) (Nat.le_of_ble_eq_true rfl)
  rw [lg_entry_eq]
  generalize (lg_sl ([.ref (o + 0), .int a0]) ++ List.replicate (3 - (lg_sl ([.ref (o + 0), .int a0])).length) Slot.unset).toArray = ls at hl ⊢
  have hl : lv_has ls 3 [(0, .ref (o + 0)), (1, .int a0)] := hl
  refine lv_iload_n hx hb dX10_countOfPerson_0 rfl (lv_at hl 1 rfl) ?_
  refine lv_bipush (v := 10) hx hb dX10_countOfPerson_1 (by decide) ?_
  refine lv_irem hx hb dX10_countOfPerson_3 (by decide) ?_
  refine lv_topi (fun x1 e1 => ?_)
  refine lv_istore_n (lv' := [(2, .int x1), (0, .ref (o + 0)), (1, .int a0)]) hx hb dX10_countOfPerson_4 rfl hl (by decide) rfl (fun ls hl => ?_)
  refine lv_iload_n hx hb dX10_countOfPerson_5 rfl (lv_at hl 2 rfl) ?_
  refine lv_bipush (v := 10) hx hb dX10_countOfPerson_6 (by decide) ?_
  refine lv_icmp_lt (tgt := 28) hx hb dX10_countOfPerson_8 (by decide) (fun c2 => ?_) (fun c2 => ?_)
  · have t2 : a0.toInt < (10 : Int) := gl_lt c2
    refine lv_iconst (v := (-1)) hx hb dX10_countOfPerson_28 (by decide) ?_
    exact W.iret (v := (-1)) hx hb hr (fun t ht hW => ⟨⟨(-1), (), rfl, trivial, by rw [ht]; exact hP, va_K.moved hW.alike hK⟩, hS.F ht⟩) hS.2.2 dX10_countOfPerson_29
  · have t2 : a0.toInt ≥ (10 : Int) := gl_nlt c2
    refine lv_iload_n hx hb dX10_countOfPerson_11 rfl (lv_at hl 2 rfl) ?_
    refine lv_bipush (v := 39) hx hb dX10_countOfPerson_12 (by decide) ?_
    refine lv_icmp_gt (tgt := 28) hx hb dX10_countOfPerson_14 (by decide) (fun c3 => ?_) (fun c3 => ?_)
    · have t3 : a0.toInt > (39 : Int) := gl_lt c3
      refine lv_iconst (v := (-1)) hx hb dX10_countOfPerson_28 (by decide) ?_
      exact W.iret (v := (-1)) hx hb hr (fun t ht hW => ⟨⟨(-1), (), rfl, trivial, by rw [ht]; exact hP, va_K.moved hW.alike hK⟩, hS.F ht⟩) hS.2.2 dX10_countOfPerson_29
    · have t3 : a0.toInt ≤ (39 : Int) := gl_nlt c3
      refine lv_aload_n hx hb dX10_countOfPerson_17 rfl (lv_at hl 1 rfl) ?_
      refine qf_get hx hb hts inX10 hown hK hP (q0 := 0) (by decide) (hgU_0 ca o) rfl 0 (by decide) wq_353 (v := .ref (o + 1)) rfl dX10_countOfPerson_18 ?_
      refine lv_iload_n hx hb dX10_countOfPerson_21 rfl (lv_at hl 0 rfl) ?_
      refine qc_Vip (As := [.int x1]) (rest := []) (k0 := 1) (u_Told_hasPerson l D ca o b z y J0 x1) kc_yX9_hasPerson ⟨hx, hb, hml, hown, hts⟩ wq_411 rfl rfl ⟨Nat.le_of_ble_eq_true rfl, Nat.le_of_ble_eq_true rfl⟩ wq_all hP hK hS qw_Ai (q0 := 1) (by decide) (hgU_1 ca o _ _) rfl rfl hl.1 rfl (Nat.le_of_ble_eq_true rfl) dX10_countOfPerson_22 ⟨Nat.zero_le _, Nat.zero_le _⟩ (fun r4 H locs h4 hP hS _ _ => ?_)
      rcases h4 with ⟨hr4, hf4_0, hf4_1⟩ | ⟨hr4, hf4_0⟩
      · subst hr4
        have hg4_0 : pHas (z 1 5) x1 := hf4_0
        have hg4_1 : 0 ≤ x1.toInt ∧ x1.toInt ≤ 5 := hf4_1
        refine lv_if_ne (tgt := 30) hx hb dX10_countOfPerson_25 (by decide) (fun _ => ?_) (fun q => absurd q (by decide))
        refine lv_iload_n hx hb dX10_countOfPerson_30 rfl (lv_at hl 2 rfl) ?_
        refine lv_bipush (v := 20) hx hb dX10_countOfPerson_31 (by decide) ?_
        refine lv_icmp_ge (tgt := 46) hx hb dX10_countOfPerson_33 (by decide) (fun c5 => ?_) (fun c5 => ?_)
        · have t5 : a0.toInt ≥ (20 : Int) := gl_le c5
          refine lv_iload_n hx hb dX10_countOfPerson_46 rfl (lv_at hl 2 rfl) ?_
          refine lv_bipush (v := 30) hx hb dX10_countOfPerson_47 (by decide) ?_
          refine lv_icmp_ge (tgt := 62) hx hb dX10_countOfPerson_49 (by decide) (fun c6 => ?_) (fun c6 => ?_)
          · have t6 : a0.toInt ≥ (30 : Int) := gl_le c6
            refine lv_aload_n hx hb dX10_countOfPerson_62 rfl (lv_at hl 1 rfl) ?_
            refine qf_get hx hb hts inX10 hown hK hP (q0 := 0) (by decide) (hgU_0 ca o) rfl 0 (by decide) wq_353 (v := .ref (o + 1)) rfl dX10_countOfPerson_63 ?_
            refine qf_get hx hb hts inX9 hown hK hP (q0 := 1) (by decide) (hgU_1 ca o) rfl 2 (by decide) wq_90 (v := .ref (o + 4)) rfl dX10_countOfPerson_66 ?_
            refine lv_iload_n hx hb dX10_countOfPerson_69 rfl (lv_at hl 0 rfl) ?_
            refine qa_iald hx hb hK hP (q0 := 4) (by decide) 0 (N := 6) (hgU_4 ca o) rfl (gi_in (by omega) (by omega)) dX10_countOfPerson_70 ?_
            refine lv_topi (fun x7 e7 => ?_)
            refine lv_bipush (v := 100) hx hb dX10_countOfPerson_71 (by decide) ?_
            refine lv_icmp_ne (tgt := 81) hx hb dX10_countOfPerson_73 (by decide) (fun c8 => ?_) (fun c8 => ?_)
            · have t8 : x7.toInt ≠ (100 : Int) := gl_ne c8
              refine lv_aload_n hx hb dX10_countOfPerson_81 rfl (lv_at hl 1 rfl) ?_
              refine qf_get hx hb hts inX10 hown hK hP (q0 := 0) (by decide) (hgU_0 ca o) rfl 0 (by decide) wq_353 (v := .ref (o + 1)) rfl dX10_countOfPerson_82 ?_
              refine qf_get hx hb hts inX9 hown hK hP (q0 := 1) (by decide) (hgU_1 ca o) rfl 2 (by decide) wq_90 (v := .ref (o + 4)) rfl dX10_countOfPerson_85 ?_
              refine lv_iload_n hx hb dX10_countOfPerson_88 rfl (lv_at hl 0 rfl) ?_
              refine qa_iald hx hb hK hP (q0 := 4) (by decide) 0 (N := 6) (hgU_4 ca o) rfl (gi_in (by omega) (by omega)) dX10_countOfPerson_89 ?_
              refine lv_topi (fun x9 e9 => ?_)
              have ag9 : x9.toInt = x7.toInt := congrArg Int32.toInt (e9.trans e7.symm)
              exact W.iret (v := x9) hx hb hr (fun t ht hW => ⟨⟨x9, (), rfl, trivial, by rw [ht]; exact hP, va_K.moved hW.alike hK⟩, hS.F ht⟩) hS.2.2 dX10_countOfPerson_90
            · have t8 : x7.toInt = (100 : Int) := gl_eq c8
              refine lv_bipush (v := (-2)) hx hb dX10_countOfPerson_76 (by decide) ?_
              refine lv_goto (tgt := 90) hx hb dX10_countOfPerson_78 (by decide) ?_
              exact W.iret (v := (-2)) hx hb hr (fun t ht hW => ⟨⟨(-2), (), rfl, trivial, by rw [ht]; exact hP, va_K.moved hW.alike hK⟩, hS.F ht⟩) hS.2.2 dX10_countOfPerson_90
          · have t6 : a0.toInt < (30 : Int) := gl_nle c6
            refine lv_aload_n hx hb dX10_countOfPerson_52 rfl (lv_at hl 1 rfl) ?_
            refine qf_get hx hb hts inX10 hown hK hP (q0 := 0) (by decide) (hgU_0 ca o) rfl 0 (by decide) wq_353 (v := .ref (o + 1)) rfl dX10_countOfPerson_53 ?_
            refine qf_get hx hb hts inX9 hown hK hP (q0 := 1) (by decide) (hgU_1 ca o) rfl 1 (by decide) wq_87 (v := .ref (o + 3)) rfl dX10_countOfPerson_56 ?_
            refine lv_iload_n hx hb dX10_countOfPerson_59 rfl (lv_at hl 0 rfl) ?_
            refine qa_iald hx hb hK hP (q0 := 3) (by decide) 0 (N := 6) (hgU_3 ca o) rfl (gi_in (by omega) (by omega)) dX10_countOfPerson_60 ?_
            refine lv_topi (fun x10 e10 => ?_)
            have b10 := iU_3 J0 e10
            exact W.iret (v := x10) hx hb hr (fun t ht hW => ⟨⟨x10, (), rfl, trivial, by rw [ht]; exact hP, va_K.moved hW.alike hK⟩, hS.F ht⟩) hS.2.2 dX10_countOfPerson_61
        · have t5 : a0.toInt < (20 : Int) := gl_nle c5
          refine lv_aload_n hx hb dX10_countOfPerson_36 rfl (lv_at hl 1 rfl) ?_
          refine qf_get hx hb hts inX10 hown hK hP (q0 := 0) (by decide) (hgU_0 ca o) rfl 0 (by decide) wq_353 (v := .ref (o + 1)) rfl dX10_countOfPerson_37 ?_
          refine qf_get hx hb hts inX9 hown hK hP (q0 := 1) (by decide) (hgU_1 ca o) rfl 0 (by decide) wq_83 (v := .ref (o + 2)) rfl dX10_countOfPerson_40 ?_
          refine lv_iload_n hx hb dX10_countOfPerson_43 rfl (lv_at hl 0 rfl) ?_
          refine qa_iald hx hb hK hP (q0 := 2) (by decide) 0 (N := 6) (hgU_2 ca o) rfl (gi_in (by omega) (by omega)) dX10_countOfPerson_44 ?_
          refine lv_topi (fun x11 e11 => ?_)
          have b11 := iU_2 J0 e11
          exact W.iret (v := x11) hx hb hr (fun t ht hW => ⟨⟨x11, (), rfl, trivial, by rw [ht]; exact hP, va_K.moved hW.alike hK⟩, hS.F ht⟩) hS.2.2 dX10_countOfPerson_45
      · subst hr4
        have hg4_0 : ¬ pHas (z 1 5) x1 := hf4_0
        refine lv_if_ne (tgt := 30) hx hb dX10_countOfPerson_25 (by decide) (fun q => absurd q (by decide)) (fun _ => ?_)
        refine lv_iconst (v := (-1)) hx hb dX10_countOfPerson_28 (by decide) ?_
        exact W.iret (v := (-1)) hx hb hr (fun t ht hW => ⟨⟨(-1), (), rfl, trivial, by rw [ht]; exact hP, va_K.moved hW.alike hK⟩, hS.F ht⟩) hS.2.2 dX10_countOfPerson_29
set_option maxRecDepth 100000 in
set_option maxHeartbeats 8000000 in
theorem u_count (l : Launch) (D : va_G) (ca : Nat → ClassId) (o : Nat) (b z : Nat → Nat → Int32) (y : Nat → Nat → Int64) (J0 : qJU b z) (a0 : Int32)  : qM l yX10_count cX10_count 2 (some .int) 3 103 (qPre D vwCl (qT6 ca) o 132 (qG (GU ca o) z y) [.ref (o + 0), .int a0]) (va_Qi (fun r (_ : Unit) => True) (qB D vwCl (qT6 ca) o 132 (fun _ : Unit => qG (GU ca o) z y)) (qw_A o 132)) (qw_A o 132) := by
  refine Met.ofW (cc := cX10_count) (maxL := 2) (ret := (some .int)) (by decide) rfl ?_
  intro p e s m args below meth c s₁ B hml hv
  obtain ⟨rfl, hP, hK⟩ := hv
  have hx := B.exec
  have hb := B.bytes
  have hr := B.returns
  have hts0 := atoms_spec (ws := Cond.code yX10_count cX10_count 2 (some .int) :: qtbl) B.pre
  have hts : ∀ w ∈ qtbl, w.before _ s = true := fun w h => hts0 w (List.mem_cons_of_mem _ h)
  have hown : s.vm.findClass RX10 = some m.cls := findClass_of_methodNamed B.named
  have hlocks := B.notSynchronized
  have hS : va_S (qw_A o 132) s.heap s.heap [] := va_S.rf
  have hl := lv_entry ([.ref (o + 0), .int a0]) (n := 2) (Nat.le_of_ble_eq_true rfl)
  rw [lg_entry_eq]
  generalize (lg_sl ([.ref (o + 0), .int a0]) ++ List.replicate (2 - (lg_sl ([.ref (o + 0), .int a0])).length) Slot.unset).toArray = ls at hl ⊢
  have hl : lv_has ls 2 [(0, .ref (o + 0)), (1, .int a0)] := hl
  refine lv_iload_n hx hb dX10_count_0 rfl (lv_at hl 1 rfl) ?_
  rcases (by omega : a0.toInt = 0 ∨ a0.toInt = 1 ∨ a0.toInt = 2 ∨ a0.toInt = 3 ∨ a0.toInt = 4 ∨ a0.toInt < 0 ∨ 4 < a0.toInt) with c1 | c1 | c1 | c1 | c1 | c1 | c1
  · refine lv_tableIn (tgt := 36) hx hb dX10_count_1 (by omega) (by omega) (by rw [c1]; rfl) (by decide) ?_
    refine lv_aload_n hx hb dX10_count_36 rfl (lv_at hl 0 rfl) ?_
    refine qf_get hx hb hts inX10 hown hK hP (q0 := 0) (by decide) (hgU_0 ca o) rfl 0 (by decide) wq_353 (v := .ref (o + 1)) rfl dX10_count_37 ?_
    refine qf_get hx hb hts inX9 hown hK hP (q0 := 1) (by decide) (hgU_1 ca o) rfl 7 (by decide) wq_104 (v := .int (z 1 7)) rfl dX10_count_40 ?_
    refine lv_topi (fun x2 e2 => ?_)
    exact W.iret (v := x2) hx hb hr (fun t ht hW => ⟨⟨x2, (), rfl, trivial, by rw [ht]; exact hP, va_K.moved hW.alike hK⟩, hS.F ht⟩) hS.2.2 dX10_count_43
  · refine lv_tableIn (tgt := 44) hx hb dX10_count_1 (by omega) (by omega) (by rw [c1]; rfl) (by decide) ?_
    refine lv_aload_n hx hb dX10_count_44 rfl (lv_at hl 0 rfl) ?_
    refine qf_get hx hb hts inX10 hown hK hP (q0 := 0) (by decide) (hgU_0 ca o) rfl 0 (by decide) wq_353 (v := .ref (o + 1)) rfl dX10_count_45 ?_
    refine qf_get hx hb hts inX9 hown hK hP (q0 := 1) (by decide) (hgU_1 ca o) rfl 5 (by decide) wq_98 (v := .int (z 1 5)) rfl dX10_count_48 ?_
    refine lv_topi (fun x3 e3 => ?_)
    exact W.iret (v := x3) hx hb hr (fun t ht hW => ⟨⟨x3, (), rfl, trivial, by rw [ht]; exact hP, va_K.moved hW.alike hK⟩, hS.F ht⟩) hS.2.2 dX10_count_51
  · refine lv_tableIn (tgt := 52) hx hb dX10_count_1 (by omega) (by omega) (by rw [c1]; rfl) (by decide) ?_
    refine lv_aload_n hx hb dX10_count_52 rfl (lv_at hl 0 rfl) ?_
    refine qf_get hx hb hts inX10 hown hK hP (q0 := 0) (by decide) (hgU_0 ca o) rfl 0 (by decide) wq_353 (v := .ref (o + 1)) rfl dX10_count_53 ?_
    refine qc_Vip (As := []) (rest := []) (k0 := 0) (u_Told_remarksSaid l D ca o b z y J0) kc_yX9_remarksSaid ⟨hx, hb, hml, hown, hts⟩ wq_553 rfl rfl ⟨Nat.le_of_ble_eq_true rfl, Nat.le_of_ble_eq_true rfl⟩ wq_all hP hK hS qw_Ai (q0 := 1) (by decide) (hgU_1 ca o _ _) rfl rfl hl.1 rfl (Nat.le_of_ble_eq_true rfl) dX10_count_56 ⟨Nat.zero_le _, Nat.zero_le _⟩ (fun r4 H locs h4 hP hS _ _ => ?_)
    have b4 : (0 : Int) ≤ r4.toInt ∧ r4.toInt ≤ 1023 := h4
    exact W.iret (v := r4) hx hb hr (fun t ht hW => ⟨⟨r4, (), rfl, trivial, by rw [ht]; exact hP, va_K.moved hW.alike hK⟩, hS.F ht⟩) hS.2.2 dX10_count_59
  · refine lv_tableIn (tgt := 60) hx hb dX10_count_1 (by omega) (by omega) (by rw [c1]; rfl) (by decide) ?_
    refine lv_aload_n hx hb dX10_count_60 rfl (lv_at hl 0 rfl) ?_
    refine qf_get hx hb hts inX10 hown hK hP (q0 := 0) (by decide) (hgU_0 ca o) rfl 0 (by decide) wq_353 (v := .ref (o + 1)) rfl dX10_count_61 ?_
    refine qf_get hx hb hts inX9 hown hK hP (q0 := 1) (by decide) (hgU_1 ca o) rfl 6 (by decide) wq_101 (v := .int (z 1 6)) rfl dX10_count_64 ?_
    refine lv_topi (fun x5 e5 => ?_)
    refine lv_bipush (v := 10) hx hb dX10_count_67 (by decide) ?_
    refine lv_ishr hx hb dX10_count_69 ?_
    refine lv_topi (fun x6 e6 => ?_)
    exact W.iret (v := x6) hx hb hr (fun t ht hW => ⟨⟨x6, (), rfl, trivial, by rw [ht]; exact hP, va_K.moved hW.alike hK⟩, hS.F ht⟩) hS.2.2 dX10_count_70
  · refine lv_tableIn (tgt := 71) hx hb dX10_count_1 (by omega) (by omega) (by rw [c1]; rfl) (by decide) ?_
    refine lv_aload_n hx hb dX10_count_71 rfl (lv_at hl 0 rfl) ?_
    refine qf_get hx hb hts inX10 hown hK hP (q0 := 0) (by decide) (hgU_0 ca o) rfl 4 (by decide) wq_357 (v := .int (z 0 4)) rfl dX10_count_72 ?_
    refine lv_topi (fun x7 e7 => ?_)
    have b7 := iU_0_4 J0 e7
    exact W.iret (v := x7) hx hb hr (fun t ht hW => ⟨⟨x7, (), rfl, trivial, by rw [ht]; exact hP, va_K.moved hW.alike hK⟩, hS.F ht⟩) hS.2.2 dX10_count_75
  · refine lv_tableOut (tgt := 76) hx hb dX10_count_1 (Or.inl c1) (by decide) ?_
    refine lv_aload_n hx hb dX10_count_76 rfl (lv_at hl 0 rfl) ?_
    refine lv_iload_n hx hb dX10_count_77 rfl (lv_at hl 1 rfl) ?_
    refine qc_Vip (As := [.int a0]) (rest := []) (k0 := 1) (u_countOfPerson l D ca o b z y J0 a0) kc_yX10_countOfPerson ⟨hx, hb, hml, hown, hts⟩ wq_565 rfl rfl ⟨Nat.le_of_ble_eq_true rfl, Nat.le_of_ble_eq_true rfl⟩ wq_all hP hK hS qw_Ai (q0 := 0) (by decide) (hgU_0 ca o _ _) rfl rfl hl.1 rfl (Nat.le_of_ble_eq_true rfl) dX10_count_78 ⟨Nat.zero_le _, Nat.zero_le _⟩ (fun r8 H locs h8 hP hS _ _ => ?_)
    exact W.iret (v := r8) hx hb hr (fun t ht hW => ⟨⟨r8, (), rfl, trivial, by rw [ht]; exact hP, va_K.moved hW.alike hK⟩, hS.F ht⟩) hS.2.2 dX10_count_81
  · refine lv_tableOut (tgt := 76) hx hb dX10_count_1 (Or.inr c1) (by decide) ?_
    refine lv_aload_n hx hb dX10_count_76 rfl (lv_at hl 0 rfl) ?_
    refine lv_iload_n hx hb dX10_count_77 rfl (lv_at hl 1 rfl) ?_
    refine qc_Vip (As := [.int a0]) (rest := []) (k0 := 1) (u_countOfPerson l D ca o b z y J0 a0) kc_yX10_countOfPerson ⟨hx, hb, hml, hown, hts⟩ wq_565 rfl rfl ⟨Nat.le_of_ble_eq_true rfl, Nat.le_of_ble_eq_true rfl⟩ wq_all hP hK hS qw_Ai (q0 := 0) (by decide) (hgU_0 ca o _ _) rfl rfl hl.1 rfl (Nat.le_of_ble_eq_true rfl) dX10_count_78 ⟨Nat.zero_le _, Nat.zero_le _⟩ (fun r9 H locs h9 hP hS _ _ => ?_)
    exact W.iret (v := r9) hx hb hr (fun t ht hW => ⟨⟨r9, (), rfl, trivial, by rw [ht]; exact hP, va_K.moved hW.alike hK⟩, hS.F ht⟩) hS.2.2 dX10_count_81
set_option maxRecDepth 100000 in
set_option maxHeartbeats 8000000 in
theorem u_Arrays_fill_v24 (l : Launch) (D : va_G) (ca : Nat → ClassId) (o : Nat) (b z : Nat → Nat → Int32) (y : Nat → Nat → Int64) (J0 : qJU b z)   : qM l yJ7_fill_d0a16 cJ7_fill_d0a16 5 none 1 60 (qPre D vwCl (qT6 ca) o 132 (qG (GU ca o) z y) [.ref (o + 131), .long 0]) (va_Qv (fun u => qJU b u.1) (qB D vwCl (qT6 ca) o 132 (fun u : qZ => qG (GU ca o) u.1 u.2)) (qw_A o 132)) (qw_A o 132) := by
  refine Met.ofW (cc := cJ7_fill_d0a16) (maxL := 5) (ret := none) (by decide) rfl ?_
  intro p e s m args below meth c s₁ B hml hv
  obtain ⟨rfl, hP, hK⟩ := hv
  have hx := B.exec
  have hb := B.bytes
  have hr := B.returns
  have hts0 := atoms_spec (ws := Cond.code yJ7_fill_d0a16 cJ7_fill_d0a16 5 none :: qtbl) B.pre
  have hts : ∀ w ∈ qtbl, w.before _ s = true := fun w h => hts0 w (List.mem_cons_of_mem _ h)
  have hown : s.vm.findClass RJ7 = some m.cls := findClass_of_methodNamed B.named
  have hlocks := B.notSynchronized
  have hS : va_S (qw_A o 132) s.heap s.heap [] := va_S.rf
  have hl := lv_entry ([.ref (o + 131), .long 0]) (n := 5) (Nat.le_of_ble_eq_true rfl)
  rw [lg_entry_eq]
  generalize (lg_sl ([.ref (o + 131), .long 0]) ++ List.replicate (5 - (lg_sl ([.ref (o + 131), .long 0])).length) Slot.unset).toArray = ls at hl ⊢
  have hl : lv_has ls 5 [(0, .ref (o + 131)), (1, .long 0)] := hl
  refine lv_iconst (v := 0) hx hb dJ7_fill_d0a16_0 (by decide) ?_
  refine lv_istore_n (lv' := [(3, .int 0), (0, .ref (o + 131)), (1, .long 0)]) hx hb dJ7_fill_d0a16_1 rfl hl (by decide) rfl (fun ls hl => ?_)
  refine lv_aload_n hx hb dJ7_fill_d0a16_2 rfl (lv_at hl 1 rfl) ?_
  refine qa_len hx hb hK hP (q0 := 131) (by decide) 1 (hgU_131 ca o) rfl (v := 2807) rfl dJ7_fill_d0a16_3 ?_
  refine lv_istore (lv' := [(4, .int 2807), (3, .int 0), (0, .ref (o + 131)), (1, .long 0)]) hx hb dJ7_fill_d0a16_4 hl (by decide) rfl (fun ls hl => ?_)
  have loop1 : ∀ (n : Nat) (w1_3 : Int32) (z1 : Nat → Nat → Int32) (y1 : Nat → Nat → Int64), ((2147483647 - w1_3.toInt : Int) < (n : Int)) → ((0 : Int) ≤ w1_3.toInt ∧ w1_3.toInt ≤ 2147483647) → (qJU b z1) → ∀ (H : Heap) (locs : List Loc), qw_P D vwCl o 132 (qG (GU ca o) z1 y1) H → va_S (qw_A o 132) s.heap H locs → ∀ (ls : Array Slot), lv_has ls 5 [(4, .int 2807), (3, .int w1_3), (0, .ref (o + 131)), (1, .long 0)] → W p l e (headSpec (Cond.code yJ7_fill_d0a16 cJ7_fill_d0a16 5 none :: qtbl) ({ frames := 1, cells := 0, slots := 0, locals := 60 })).room s m (([.ref (o + 131), .long 0] : List Value).toArray) below meth c H locs 0 0 (MQ below (va_Qv (fun u => qJU b u.1) (qB D vwCl (qT6 ca) o 132 (fun u : qZ => qG (GU ca o) u.1 u.2)) (qw_A o 132)) (([.ref (o + 131), .long 0] : List Value).toArray) s 0 0 (qw_A o 132)) (F0 m 6 ls []) := by
    intro n
    induction n with
    | zero => intro w1_3 z1 y1 hb1 hv1_3 J1; exfalso; omega
    | succ n1 ih1 =>
      intro w1_3 z1 y1 hb1 hv1_3 J1 H locs hP hS ls hl
      refine lv_iload_n hx hb dJ7_fill_d0a16_6 rfl (lv_at hl 1 rfl) ?_
      refine lv_iload hx hb dJ7_fill_d0a16_7 (lv_at hl 0 rfl) ?_
      refine lv_icmp_ge (tgt := 22) hx hb dJ7_fill_d0a16_9 (by decide) (fun c2 => ?_) (fun c2 => ?_)
      · have t2 : w1_3.toInt ≥ (2807 : Int) := gl_le c2
        exact W.vret hx hb hr (fun t ht hW => ⟨⟨(z1, y1), rfl, J1, by rw [ht]; exact hP, va_K.moved hW.alike hK⟩, hS.F ht⟩) hS.2.2 dJ7_fill_d0a16_22
      · have t2 : w1_3.toInt < (2807 : Int) := gl_nle c2
        refine lv_aload_n hx hb dJ7_fill_d0a16_12 rfl (lv_at hl 2 rfl) ?_
        refine lv_iload_n hx hb dJ7_fill_d0a16_13 rfl (lv_at hl 1 rfl) ?_
        refine lv_lload_n hx hb dJ7_fill_d0a16_14 rfl (lv_at hl 3 rfl) ?_
        refine qa_last2 hx hb hK hP hS qw_Ai (q0 := 131) (by decide) 1 (N := 2807) (hgU_131 ca o) rfl (i := w1_3) (x := 0) (gi_in (by omega) (by omega)) dJ7_fill_d0a16_15 (fun y3 H locs hy3 hP hS => ?_)
        obtain ⟨x4, e4⟩ : ∃ t : Int32, t = w1_3 + 1 := ⟨_, rfl⟩
        refine lv_iinc (v := x4) (lv' := [(3, .int x4), (4, .int 2807), (0, .ref (o + 131)), (1, .long 0)]) hx hb dJ7_fill_d0a16_16 hl (k := 1) rfl (by rw [e4]; rfl) (by decide) rfl (fun ls hl => ?_)
        have t4 : x4.toInt = w1_3.toInt + (1 : Int) := ga_add e4 rfl rfl (by omega) (by omega)
        refine lv_goto (tgt := 6) hx hb dJ7_fill_d0a16_19 (by decide) ?_
        exact ih1 x4 z1 y3 (show (2147483647 - x4.toInt : Int) < (n1 : Int) from by omega) ⟨by omega, (gl_b x4).2⟩ J1 _ _ hP hS _ (lv_sub hl [1, 0, 2, 3] rfl)
  exact loop1 4294967296 0 z y (show (2147483647 - (0 : Int) : Int) < ((4294967296 : Nat) : Int) from by omega) ⟨by decide, by decide⟩ J0 _ _ hP hS _ (lv_sub hl [0, 1, 2, 3] rfl)
set_option maxRecDepth 100000 in
set_option maxHeartbeats 8000000 in
theorem u_howOld (l : Launch) (D : va_G) (ca : Nat → ClassId) (o : Nat) (b z : Nat → Nat → Int32) (y : Nat → Nat → Int64) (J0 : qJU b z) (a0 : Int32) (a1 : Int32) (a2 : Int32) (a3 : Int32)  : qM l yX10_howOld cX10_howOld 9 (some .long) 2 84 (qPre D vwCl (qT6 ca) o 132 (qG (GU ca o) z y) [.ref (o + 0), .int a0, .int a1, .int a2, .int a3]) (va_Ql (fun r u => qJU b u.1) (qB D vwCl (qT6 ca) o 132 (fun u : qZ => qG (GU ca o) u.1 u.2)) (qw_A o 132)) (qw_A o 132) := by
  refine Met.ofW (cc := cX10_howOld) (maxL := 9) (ret := (some .long)) (by decide) rfl ?_
  intro p e s m args below meth c s₁ B hml hv
  obtain ⟨rfl, hP, hK⟩ := hv
  have hx := B.exec
  have hb := B.bytes
  have hr := B.returns
  have hts0 := atoms_spec (ws := Cond.code yX10_howOld cX10_howOld 9 (some .long) :: qtbl) B.pre
  have hts : ∀ w ∈ qtbl, w.before _ s = true := fun w h => hts0 w (List.mem_cons_of_mem _ h)
  have hown : s.vm.findClass RX10 = some m.cls := findClass_of_methodNamed B.named
  have hlocks := B.notSynchronized
  have hS : va_S (qw_A o 132) s.heap s.heap [] := va_S.rf
  have hl := lv_entry ([.ref (o + 0), .int a0, .int a1, .int a2, .int a3]) (n := 9) (Nat.le_of_ble_eq_true rfl)
  rw [lg_entry_eq]
  generalize (lg_sl ([.ref (o + 0), .int a0, .int a1, .int a2, .int a3]) ++ List.replicate (9 - (lg_sl ([.ref (o + 0), .int a0, .int a1, .int a2, .int a3])).length) Slot.unset).toArray = ls at hl ⊢
  have hl : lv_has ls 9 [(0, .ref (o + 0)), (1, .int a0), (2, .int a1), (3, .int a2), (4, .int a3)] := hl
  refine lv_iload_n hx hb dX10_howOld_0 rfl (lv_at hl 1 rfl) ?_
  refine lv_iconst (v := 1) hx hb dX10_howOld_1 (by decide) ?_
  refine lv_icmp_lt (tgt := 39) hx hb dX10_howOld_2 (by decide) (fun c1 => ?_) (fun c1 => ?_)
  · have t1 : a0.toInt < (1 : Int) := gl_lt c1
    refine lv_ldc2 (v := (-1)) hx hb hown (hts _ wq_974) dX10_howOld_39 ?_
    exact W.lret (v := (-1)) hx hb hr (fun t ht hW => ⟨⟨(-1), (z, y), rfl, J0, by rw [ht]; exact hP, va_K.moved hW.alike hK⟩, hS.F ht⟩) hS.2.2 dX10_howOld_42
  · have t1 : a0.toInt ≥ (1 : Int) := gl_nlt c1
    refine lv_iload_n hx hb dX10_howOld_5 rfl (lv_at hl 1 rfl) ?_
    refine lv_bipush (v := 6) hx hb dX10_howOld_6 (by decide) ?_
    refine lv_icmp_gt (tgt := 39) hx hb dX10_howOld_8 (by decide) (fun c2 => ?_) (fun c2 => ?_)
    · have t2 : a0.toInt > (6 : Int) := gl_lt c2
      refine lv_ldc2 (v := (-1)) hx hb hown (hts _ wq_974) dX10_howOld_39 ?_
      exact W.lret (v := (-1)) hx hb hr (fun t ht hW => ⟨⟨(-1), (z, y), rfl, J0, by rw [ht]; exact hP, va_K.moved hW.alike hK⟩, hS.F ht⟩) hS.2.2 dX10_howOld_42
    · have t2 : a0.toInt ≤ (6 : Int) := gl_nlt c2
      refine lv_iload_n hx hb dX10_howOld_11 rfl (lv_at hl 2 rfl) ?_
      refine lv_if_lt (tgt := 39) hx hb dX10_howOld_12 (by decide) (fun c3 => ?_) (fun c3 => ?_)
      · have t3 : a1.toInt < (0 : Int) := gl_lt c3
        refine lv_ldc2 (v := (-1)) hx hb hown (hts _ wq_974) dX10_howOld_39 ?_
        exact W.lret (v := (-1)) hx hb hr (fun t ht hW => ⟨⟨(-1), (z, y), rfl, J0, by rw [ht]; exact hP, va_K.moved hW.alike hK⟩, hS.F ht⟩) hS.2.2 dX10_howOld_42
      · have t3 : a1.toInt ≥ (0 : Int) := gl_nlt c3
        refine lv_iload_n hx hb dX10_howOld_15 rfl (lv_at hl 2 rfl) ?_
        refine lv_sipush (v := 400) hx hb dX10_howOld_16 (by decide) ?_
        refine lv_icmp_gt (tgt := 39) hx hb dX10_howOld_19 (by decide) (fun c4 => ?_) (fun c4 => ?_)
        · have t4 : a1.toInt > (400 : Int) := gl_lt c4
          refine lv_ldc2 (v := (-1)) hx hb hown (hts _ wq_974) dX10_howOld_39 ?_
          exact W.lret (v := (-1)) hx hb hr (fun t ht hW => ⟨⟨(-1), (z, y), rfl, J0, by rw [ht]; exact hP, va_K.moved hW.alike hK⟩, hS.F ht⟩) hS.2.2 dX10_howOld_42
        · have t4 : a1.toInt ≤ (400 : Int) := gl_nlt c4
          refine lv_iload_n hx hb dX10_howOld_22 rfl (lv_at hl 3 rfl) ?_
          refine lv_if_lt (tgt := 39) hx hb dX10_howOld_23 (by decide) (fun c5 => ?_) (fun c5 => ?_)
          · have t5 : a2.toInt < (0 : Int) := gl_lt c5
            refine lv_ldc2 (v := (-1)) hx hb hown (hts _ wq_974) dX10_howOld_39 ?_
            exact W.lret (v := (-1)) hx hb hr (fun t ht hW => ⟨⟨(-1), (z, y), rfl, J0, by rw [ht]; exact hP, va_K.moved hW.alike hK⟩, hS.F ht⟩) hS.2.2 dX10_howOld_42
          · have t5 : a2.toInt ≥ (0 : Int) := gl_nlt c5
            refine lv_iload hx hb dX10_howOld_26 (lv_at hl 4 rfl) ?_
            refine lv_bipush (v := 99) hx hb dX10_howOld_28 (by decide) ?_
            refine lv_icmp_gt (tgt := 39) hx hb dX10_howOld_30 (by decide) (fun c6 => ?_) (fun c6 => ?_)
            · have t6 : a3.toInt > (99 : Int) := gl_lt c6
              refine lv_ldc2 (v := (-1)) hx hb hown (hts _ wq_974) dX10_howOld_39 ?_
              exact W.lret (v := (-1)) hx hb hr (fun t ht hW => ⟨⟨(-1), (z, y), rfl, J0, by rw [ht]; exact hP, va_K.moved hW.alike hK⟩, hS.F ht⟩) hS.2.2 dX10_howOld_42
            · have t6 : a3.toInt ≤ (99 : Int) := gl_nlt c6
              refine lv_iload_n hx hb dX10_howOld_33 rfl (lv_at hl 3 rfl) ?_
              refine lv_iload hx hb dX10_howOld_34 (lv_at hl 4 rfl) ?_
              refine lv_icmp_le (tgt := 43) hx hb dX10_howOld_36 (by decide) (fun c7 => ?_) (fun c7 => ?_)
              · have t7 : a2.toInt ≤ a3.toInt := gl_le c7
                refine lv_sipush (v := 401) hx hb dX10_howOld_43 (by decide) ?_
                refine lv_istore (lv' := [(5, .int 401), (0, .ref (o + 0)), (1, .int a0), (2, .int a1), (3, .int a2), (4, .int a3)]) hx hb dX10_howOld_46 hl (by decide) rfl (fun ls hl => ?_)
                refine lv_aload_n hx hb dX10_howOld_48 rfl (lv_at hl 1 rfl) ?_
                refine qf_get hx hb hts inX10 hown hK hP (q0 := 0) (by decide) (hgU_0 ca o) rfl 14 (by decide) wq_367 (v := .ref (o + 131)) rfl dX10_howOld_49 ?_
                refine lv_lconst (v := 0) hx hb dX10_howOld_52 (by decide) ?_
                refine qc_Sv2 (As := [.ref (o + 131), .long 0]) (rest := []) (k0 := 2) (u_Arrays_fill_v24 l D ca o b z y J0) kc_yJ7_fill_d0a16 ⟨hx, hb, hml, hown, hts⟩ wq_975 rfl rfl ⟨Nat.le_of_ble_eq_true rfl, Nat.le_of_ble_eq_true rfl⟩ wq_all hP hK hS qw_Ai rfl hl.1 rfl (Nat.le_of_ble_eq_true rfl) dX10_howOld_53 ⟨Nat.zero_le _, Nat.zero_le _⟩ (fun z8 y8 H locs h8 hP hS _ _ => ?_)
                have J8 : qJU b z8 := h8
                refine lv_aload_n hx hb dX10_howOld_56 rfl (lv_at hl 1 rfl) ?_
                refine qf_get hx hb hts inX10 hown hK hP (q0 := 0) (by decide) (hgU_0 ca o) rfl 14 (by decide) wq_367 (v := .ref (o + 131)) rfl dX10_howOld_57 ?_
                refine lv_iconst (v := 0) hx hb dX10_howOld_60 (by decide) ?_
                refine lv_lconst (v := 1) hx hb dX10_howOld_61 (by decide) ?_
                refine qa_last2 hx hb hK hP hS qw_Ai (q0 := 131) (by decide) 1 (N := 2807) (hgU_131 ca o) rfl (i := 0) (x := 1) (gi_in (by decide) (by decide)) dX10_howOld_62 (fun y9 H locs hy9 hP hS => ?_)
                refine lv_iload_n hx hb dX10_howOld_63 rfl (lv_at hl 4 rfl) ?_
                refine lv_istore (lv' := [(6, .int a2), (5, .int 401), (0, .ref (o + 0)), (1, .int a0), (2, .int a1), (3, .int a2), (4, .int a3)]) hx hb dX10_howOld_64 hl (by decide) rfl (fun ls hl => ?_)
                have loop10 : ∀ (n : Nat) (w10_6 : Int32) (z10 : Nat → Nat → Int32) (y10 : Nat → Nat → Int64), ((100 - w10_6.toInt : Int) < (n : Int)) → ((0 : Int) ≤ w10_6.toInt ∧ w10_6.toInt ≤ 100) → (qJU b z10) → ∀ (H : Heap) (locs : List Loc), qw_P D vwCl o 132 (qG (GU ca o) z10 y10) H → va_S (qw_A o 132) s.heap H locs → ∀ (ls : Array Slot), lv_has ls 9 [(6, .int w10_6), (5, .int 401), (0, .ref (o + 0)), (1, .int a0), (2, .int a1), (3, .int a2), (4, .int a3)] → W p l e (headSpec (Cond.code yX10_howOld cX10_howOld 9 (some .long) :: qtbl) ({ frames := 2, cells := 0, slots := 0, locals := 84 })).room s m (([.ref (o + 0), .int a0, .int a1, .int a2, .int a3] : List Value).toArray) below meth c H locs 0 0 (MQ below (va_Ql (fun r u => qJU b u.1) (qB D vwCl (qT6 ca) o 132 (fun u : qZ => qG (GU ca o) u.1 u.2)) (qw_A o 132)) (([.ref (o + 0), .int a0, .int a1, .int a2, .int a3] : List Value).toArray) s 0 0 (qw_A o 132)) (F0 m 66 ls []) := by
                  intro n
                  induction n with
                  | zero => intro w10_6 z10 y10 hb10 hv10_6 J10; exfalso; omega
                  | succ n10 ih10 =>
                    intro w10_6 z10 y10 hb10 hv10_6 J10 H locs hP hS ls hl
                    refine lv_iload hx hb dX10_howOld_66 (lv_at hl 0 rfl) ?_
                    refine lv_iload hx hb dX10_howOld_68 (lv_at hl 6 rfl) ?_
                    refine lv_icmp_gt (tgt := 144) hx hb dX10_howOld_70 (by decide) (fun c11 => ?_) (fun c11 => ?_)
                    · have t11 : w10_6.toInt > a3.toInt := gl_lt c11
                      refine lv_aload_n hx hb dX10_howOld_144 rfl (lv_at hl 2 rfl) ?_
                      refine qf_get hx hb hts inX10 hown hK hP (q0 := 0) (by decide) (hgU_0 ca o) rfl 14 (by decide) wq_367 (v := .ref (o + 131)) rfl dX10_howOld_145 ?_
                      refine lv_iload_n hx hb dX10_howOld_148 rfl (lv_at hl 3 rfl) ?_
                      refine lv_iload hx hb dX10_howOld_149 (lv_at hl 1 rfl) ?_
                      refine lv_imul hx hb dX10_howOld_151 ?_
                      refine lv_topi (fun x12 e12 => ?_)
                      have t12 : x12.toInt = a0.toInt * (401 : Int) := ga_mul e12 rfl rfl (by omega) (by omega)
                      refine lv_iload_n hx hb dX10_howOld_152 rfl (lv_at hl 4 rfl) ?_
                      refine lv_iadd hx hb dX10_howOld_153 ?_
                      refine lv_topi (fun x13 e13 => ?_)
                      have t13 : x13.toInt = x12.toInt + a1.toInt := ga_add e13 rfl rfl (by omega) (by omega)
                      refine qa_lald hx hb hK hP (q0 := 131) (by decide) 1 (N := 2807) (hgU_131 ca o) rfl (gi_in (by omega) (by omega)) dX10_howOld_154 ?_
                      refine lv_topl (fun j14 e14 => ?_)
                      exact W.lret (v := j14) hx hb hr (fun t ht hW => ⟨⟨j14, (z10, y10), rfl, J10, by rw [ht]; exact hP, va_K.moved hW.alike hK⟩, hS.F ht⟩) hS.2.2 dX10_howOld_155
                    · have t11 : w10_6.toInt ≤ a3.toInt := gl_nlt c11
                      refine lv_iconst (v := 1) hx hb dX10_howOld_73 (by decide) ?_
                      refine lv_istore (lv' := [(7, .int 1), (6, .int w10_6), (5, .int 401), (0, .ref (o + 0)), (1, .int a0), (2, .int a1), (3, .int a2), (4, .int a3)]) hx hb dX10_howOld_74 hl (by decide) rfl (fun ls hl => ?_)
                      have loop15 : ∀ (n : Nat) (w15_7 : Int32) (z15 : Nat → Nat → Int32) (y15 : Nat → Nat → Int64), ((7 - w15_7.toInt : Int) < (n : Int)) → ((1 : Int) ≤ w15_7.toInt ∧ w15_7.toInt ≤ 7) → (qJU b z15) → ∀ (H : Heap) (locs : List Loc), qw_P D vwCl o 132 (qG (GU ca o) z15 y15) H → va_S (qw_A o 132) s.heap H locs → ∀ (ls : Array Slot), lv_has ls 9 [(7, .int w15_7), (6, .int w10_6), (5, .int 401), (0, .ref (o + 0)), (1, .int a0), (2, .int a1), (3, .int a2), (4, .int a3)] → W p l e (headSpec (Cond.code yX10_howOld cX10_howOld 9 (some .long) :: qtbl) ({ frames := 2, cells := 0, slots := 0, locals := 84 })).room s m (([.ref (o + 0), .int a0, .int a1, .int a2, .int a3] : List Value).toArray) below meth c H locs 0 0 (MQ below (va_Ql (fun r u => qJU b u.1) (qB D vwCl (qT6 ca) o 132 (fun u : qZ => qG (GU ca o) u.1 u.2)) (qw_A o 132)) (([.ref (o + 0), .int a0, .int a1, .int a2, .int a3] : List Value).toArray) s 0 0 (qw_A o 132)) (F0 m 76 ls []) := by
                        intro n
                        induction n with
                        | zero => intro w15_7 z15 y15 hb15 hv15_7 J15; exfalso; omega
                        | succ n15 ih15 =>
                          intro w15_7 z15 y15 hb15 hv15_7 J15 H locs hP hS ls hl
                          refine lv_iload hx hb dX10_howOld_76 (lv_at hl 0 rfl) ?_
                          refine lv_iload_n hx hb dX10_howOld_78 rfl (lv_at hl 4 rfl) ?_
                          refine lv_icmp_gt (tgt := 138) hx hb dX10_howOld_79 (by decide) (fun c16 => ?_) (fun c16 => ?_)
                          · have t16 : w15_7.toInt > a0.toInt := gl_lt c16
                            obtain ⟨x17, e17⟩ : ∃ t : Int32, t = w10_6 + 1 := ⟨_, rfl⟩
                            refine lv_iinc (v := x17) (lv' := [(6, .int x17), (7, .int w15_7), (5, .int 401), (0, .ref (o + 0)), (1, .int a0), (2, .int a1), (3, .int a2), (4, .int a3)]) hx hb dX10_howOld_138 hl (k := 1) rfl (by rw [e17]; rfl) (by decide) rfl (fun ls hl => ?_)
                            have t17 : x17.toInt = w10_6.toInt + (1 : Int) := ga_add e17 rfl rfl (by omega) (by omega)
                            refine lv_goto (tgt := 66) hx hb dX10_howOld_141 (by decide) ?_
                            exact ih10 x17 z15 y15 (show (100 - x17.toInt : Int) < (n10 : Int) from by omega) ⟨by omega, by omega⟩ J15 _ _ hP hS _ (lv_sub hl [0, 2, 3, 4, 5, 6, 7] rfl)
                          · have t16 : w15_7.toInt ≤ a0.toInt := gl_nlt c16
                            refine lv_iload hx hb dX10_howOld_82 (lv_at hl 1 rfl) ?_
                            refine lv_istore (lv' := [(8, .int w10_6), (7, .int w15_7), (6, .int w10_6), (5, .int 401), (0, .ref (o + 0)), (1, .int a0), (2, .int a1), (3, .int a2), (4, .int a3)]) hx hb dX10_howOld_84 hl (by decide) rfl (fun ls hl => ?_)
                            have loop18 : ∀ (n : Nat) (w18_8 : Int32) (z18 : Nat → Nat → Int32) (y18 : Nat → Nat → Int64), ((401 - w18_8.toInt : Int) < (n : Int)) → ((0 : Int) ≤ w18_8.toInt ∧ w18_8.toInt ≤ 401) → (qJU b z18) → (w10_6.toInt ≤ w18_8.toInt) → ∀ (H : Heap) (locs : List Loc), qw_P D vwCl o 132 (qG (GU ca o) z18 y18) H → va_S (qw_A o 132) s.heap H locs → ∀ (ls : Array Slot), lv_has ls 9 [(8, .int w18_8), (7, .int w15_7), (6, .int w10_6), (5, .int 401), (0, .ref (o + 0)), (1, .int a0), (2, .int a1), (3, .int a2), (4, .int a3)] → W p l e (headSpec (Cond.code yX10_howOld cX10_howOld 9 (some .long) :: qtbl) ({ frames := 2, cells := 0, slots := 0, locals := 84 })).room s m (([.ref (o + 0), .int a0, .int a1, .int a2, .int a3] : List Value).toArray) below meth c H locs 0 0 (MQ below (va_Ql (fun r u => qJU b u.1) (qB D vwCl (qT6 ca) o 132 (fun u : qZ => qG (GU ca o) u.1 u.2)) (qw_A o 132)) (([.ref (o + 0), .int a0, .int a1, .int a2, .int a3] : List Value).toArray) s 0 0 (qw_A o 132)) (F0 m 86 ls []) := by
                              intro n
                              induction n with
                              | zero => intro w18_8 z18 y18 hb18 hv18_8 J18 v18_0; exfalso; omega
                              | succ n18 ih18 =>
                                intro w18_8 z18 y18 hb18 hv18_8 J18 v18_0 H locs hP hS ls hl
                                refine lv_iload hx hb dX10_howOld_86 (lv_at hl 0 rfl) ?_
                                refine lv_iload_n hx hb dX10_howOld_88 rfl (lv_at hl 6 rfl) ?_
                                refine lv_icmp_gt (tgt := 132) hx hb dX10_howOld_89 (by decide) (fun c19 => ?_) (fun c19 => ?_)
                                · have t19 : w18_8.toInt > a1.toInt := gl_lt c19
                                  obtain ⟨x20, e20⟩ : ∃ t : Int32, t = w15_7 + 1 := ⟨_, rfl⟩
                                  refine lv_iinc (v := x20) (lv' := [(7, .int x20), (8, .int w18_8), (6, .int w10_6), (5, .int 401), (0, .ref (o + 0)), (1, .int a0), (2, .int a1), (3, .int a2), (4, .int a3)]) hx hb dX10_howOld_132 hl (k := 1) rfl (by rw [e20]; rfl) (by decide) rfl (fun ls hl => ?_)
                                  have t20 : x20.toInt = w15_7.toInt + (1 : Int) := ga_add e20 rfl rfl (by omega) (by omega)
                                  refine lv_goto (tgt := 76) hx hb dX10_howOld_135 (by decide) ?_
                                  exact ih15 x20 z18 y18 (show (7 - x20.toInt : Int) < (n15 : Int) from by omega) ⟨by omega, by omega⟩ J18 _ _ hP hS _ (lv_sub hl [0, 2, 3, 4, 5, 6, 7, 8] rfl)
                                · have t19 : w18_8.toInt ≤ a1.toInt := gl_nlt c19
                                  refine lv_aload_n hx hb dX10_howOld_92 rfl (lv_at hl 4 rfl) ?_
                                  refine qf_get hx hb hts inX10 hown hK hP (q0 := 0) (by decide) (hgU_0 ca o) rfl 14 (by decide) wq_367 (v := .ref (o + 131)) rfl dX10_howOld_93 ?_
                                  refine lv_iload hx hb dX10_howOld_96 (lv_at hl 1 rfl) ?_
                                  refine lv_iload hx hb dX10_howOld_98 (lv_at hl 3 rfl) ?_
                                  refine lv_imul hx hb dX10_howOld_100 ?_
                                  refine lv_topi (fun x21 e21 => ?_)
                                  have t21 : x21.toInt = w15_7.toInt * (401 : Int) := ga_mul e21 rfl rfl (by omega) (by omega)
                                  refine lv_iload hx hb dX10_howOld_101 (lv_at hl 0 rfl) ?_
                                  refine lv_iadd hx hb dX10_howOld_103 ?_
                                  refine lv_topi (fun x22 e22 => ?_)
                                  have t22 : x22.toInt = x21.toInt + w18_8.toInt := ga_add e22 rfl rfl (by omega) (by omega)
                                  refine lv_dup2_11 hx hb dX10_howOld_104 rfl rfl ?_
                                  refine qa_lald hx hb hK hP (q0 := 131) (by decide) 1 (N := 2807) (hgU_131 ca o) rfl (gi_in (by omega) (by omega)) dX10_howOld_105 ?_
                                  refine lv_topl (fun j23 e23 => ?_)
                                  refine lv_aload_n hx hb dX10_howOld_106 rfl (lv_at hl 4 rfl) ?_
                                  refine qf_get hx hb hts inX10 hown hK hP (q0 := 0) (by decide) (hgU_0 ca o) rfl 14 (by decide) wq_367 (v := .ref (o + 131)) rfl dX10_howOld_107 ?_
                                  refine lv_iload hx hb dX10_howOld_110 (lv_at hl 1 rfl) ?_
                                  refine lv_iconst (v := 1) hx hb dX10_howOld_112 (by decide) ?_
                                  refine lv_isub hx hb dX10_howOld_113 ?_
                                  refine lv_topi (fun x24 e24 => ?_)
                                  have t24 : x24.toInt = w15_7.toInt - (1 : Int) := ga_sub e24 rfl rfl (by omega) (by omega)
                                  refine lv_iload hx hb dX10_howOld_114 (lv_at hl 3 rfl) ?_
                                  refine lv_imul hx hb dX10_howOld_116 ?_
                                  refine lv_topi (fun x25 e25 => ?_)
                                  have t25 : x25.toInt = x24.toInt * (401 : Int) := ga_mul e25 rfl rfl (by omega) (by omega)
                                  refine lv_iload hx hb dX10_howOld_117 (lv_at hl 0 rfl) ?_
                                  refine lv_iadd hx hb dX10_howOld_119 ?_
                                  refine lv_topi (fun x26 e26 => ?_)
                                  have t26 : x26.toInt = x25.toInt + w18_8.toInt := ga_add e26 rfl rfl (by omega) (by omega)
                                  refine lv_iload hx hb dX10_howOld_120 (lv_at hl 2 rfl) ?_
                                  refine lv_isub hx hb dX10_howOld_122 ?_
                                  refine lv_topi (fun x27 e27 => ?_)
                                  have t27 : x27.toInt = x26.toInt - w10_6.toInt := ga_sub e27 rfl rfl (by omega) (by omega)
                                  refine qa_lald hx hb hK hP (q0 := 131) (by decide) 1 (N := 2807) (hgU_131 ca o) rfl (gi_in (by omega) (by omega)) dX10_howOld_123 ?_
                                  refine lv_topl (fun j28 e28 => ?_)
                                  refine lv_ladd hx hb dX10_howOld_124 ?_
                                  refine lv_topl (fun j29 e29 => ?_)
                                  refine qa_last2 hx hb hK hP hS qw_Ai (q0 := 131) (by decide) 1 (N := 2807) (hgU_131 ca o) rfl (i := x22) (x := j29) (gi_in (by omega) (by omega)) dX10_howOld_125 (fun y30 H locs hy30 hP hS => ?_)
                                  obtain ⟨x31, e31⟩ : ∃ t : Int32, t = w18_8 + 1 := ⟨_, rfl⟩
                                  refine lv_iinc (v := x31) (lv' := [(8, .int x31), (7, .int w15_7), (6, .int w10_6), (5, .int 401), (0, .ref (o + 0)), (1, .int a0), (2, .int a1), (3, .int a2), (4, .int a3)]) hx hb dX10_howOld_126 hl (k := 0) rfl (by rw [e31]; rfl) (by decide) rfl (fun ls hl => ?_)
                                  have t31 : x31.toInt = w18_8.toInt + (1 : Int) := ga_add e31 rfl rfl (by omega) (by omega)
                                  refine lv_goto (tgt := 86) hx hb dX10_howOld_129 (by decide) ?_
                                  exact ih18 x31 z18 y30 (show (401 - x31.toInt : Int) < (n18 : Int) from by omega) ⟨by omega, by omega⟩ J18 (show w10_6.toInt ≤ x31.toInt from by omega) _ _ hP hS _ (lv_sub hl [0, 1, 2, 3, 4, 5, 6, 7, 8] rfl)
                            exact loop18 402 w10_6 z15 y15 (show (401 - w10_6.toInt : Int) < ((402 : Nat) : Int) from by omega) ⟨by omega, by omega⟩ J15 (show w10_6.toInt ≤ w10_6.toInt from by omega) _ _ hP hS _ (lv_sub hl [0, 1, 2, 3, 4, 5, 6, 7, 8] rfl)
                      exact loop15 7 1 z10 y10 (show (7 - (1 : Int) : Int) < ((7 : Nat) : Int) from by omega) ⟨by decide, by decide⟩ J10 _ _ hP hS _ (lv_sub hl [0, 1, 2, 3, 4, 5, 6, 7] rfl)
                exact loop10 101 a2 z8 y9 (show (100 - a2.toInt : Int) < ((101 : Nat) : Int) from by omega) ⟨by omega, by omega⟩ J8 _ _ hP hS _ (lv_sub hl [0, 1, 2, 3, 4, 5, 6] rfl)
              · have t7 : a2.toInt > a3.toInt := gl_nle c7
                refine lv_ldc2 (v := (-1)) hx hb hown (hts _ wq_974) dX10_howOld_39 ?_
                exact W.lret (v := (-1)) hx hb hr (fun t ht hW => ⟨⟨(-1), (z, y), rfl, J0, by rw [ht]; exact hP, va_K.moved hW.alike hK⟩, hS.F ht⟩) hS.2.2 dX10_howOld_42
