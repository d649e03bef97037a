set_option maxRecDepth 100000 in
set_option maxHeartbeats 8000000 in
theorem u_Reader_readSide (l : Launch) (D : va_G) (ca : Nat → ClassId) (o : Nat) (b z : Nat → Nat → Int32) (y : Nat → Nat → Int64) (J0 : qJU b z)   : qM l yX6_readSide cX6_readSide 6 (some .boolean) 30 778 (qPre D vwCl (qT6 ca) o 132 (qG (GU ca o) z y) [.ref (o + 78), .int 0]) (va_Qi (fun r u => ((0 : Int) ≤ r.toInt ∧ r.toInt ≤ 1) ∧ qJU b u.1) (qB D vwCl (qT6 ca) o 132 (fun u : qZ => qG (GU ca o) u.1 u.2)) (qw_A o 132)) (qw_A o 132) := by
  refine Met.ofW (cc := cX6_readSide) (maxL := 6) (ret := (some .boolean)) (by decide) rfl ?_
  intro p e s m args below meth c s₁ B hml hv
  obtain ⟨rfl, hP, hK⟩ := hv
  have hx := B.exec
  have hb := B.bytes
  have hr := B.returns
  have hts0 := atoms_spec (ws := Cond.code yX6_readSide cX6_readSide 6 (some .boolean) :: qtbl) B.pre
  have hts : ∀ w ∈ qtbl, w.before _ s = true := fun w h => hts0 w (List.mem_cons_of_mem _ h)
  have hown : s.vm.findClass RX6 = some m.cls := findClass_of_methodNamed B.named
  have hlocks := B.notSynchronized
  have hS : va_S (qw_A o 132) s.heap s.heap [] := va_S.rf
  have hl := lv_entry ([.ref (o + 78), .int 0]) (n := 6) (Nat.le_of_ble_eq_true rfl)
  rw [lg_entry_eq]
  generalize (lg_sl ([.ref (o + 78), .int 0]) ++ List.replicate (6 - (lg_sl ([.ref (o + 78), .int 0])).length) Slot.unset).toArray = ls at hl ⊢
  have hl : lv_has ls 6 [(0, .ref (o + 78)), (1, .int 0)] := hl
  refine lv_iload_n hx hb dX6_readSide_0 rfl (lv_at hl 1 rfl) ?_
  refine lv_bipush (v := 6) hx hb dX6_readSide_1 (by decide) ?_
  refine lv_icmp_le (tgt := 16) hx hb dX6_readSide_3 (by decide) (fun _ => ?_) (fun q => absurd (by decide) q)
  refine lv_aload_n hx hb dX6_readSide_16 rfl (lv_at hl 0 rfl) ?_
  refine qf_get hx hb hts inX6 hown hK hP (q0 := 78) (by decide) (hgU_78 ca o) rfl 1 (by decide) wq_131 (v := .ref (o + 79)) rfl dX6_readSide_17 ?_
  refine lv_iload_n hx hb dX6_readSide_20 rfl (lv_at hl 1 rfl) ?_
  refine qa_aald hx hb hK hP (q0 := 79) (by decide) 5 rfl (N := 7) (hgU_79 ca o) rfl (gi_in (by decide) (by decide)) dX6_readSide_21 ?_
  refine lv_astore_n (lv' := [(2, .ref (o + (80 + (0 : Int32).toNatClampNeg))), (0, .ref (o + 78)), (1, .int 0)]) hx hb dX6_readSide_22 rfl hl (by decide) rfl (fun ls hl => ?_)
  refine lv_aload_n hx hb dX6_readSide_23 rfl (lv_at hl 0 rfl) ?_
  refine lv_iconst (v := 0) hx hb dX6_readSide_24 (by decide) ?_
  refine qc_Sv2 (As := [.ref (o + (80 + (0 : Int32).toNatClampNeg)), .int 0]) (rest := []) (k0 := 2) (u_Arrays_fill l D ca o b z y J0 0) kc_yJ7_fill_53178 ⟨hx, hb, hml, hown, hts⟩ wq_454 rfl rfl ⟨Nat.le_of_ble_eq_true rfl, Nat.le_of_ble_eq_true rfl⟩ wq_all hP hK hS qw_Ai rfl hl.1 rfl (Nat.le_of_ble_eq_true rfl) dX6_readSide_25 ⟨Nat.zero_le _, Nat.zero_le _⟩ (fun z1 y1 H locs h1 hP hS _ _ => ?_)
  have J1 : qJU b z1 := h1
  refine lv_iconst (v := 1) hx hb dX6_readSide_28 (by decide) ?_
  refine lv_istore_n (lv' := [(3, .int 1), (2, .ref (o + (80 + (0 : Int32).toNatClampNeg))), (0, .ref (o + 78)), (1, .int 0)]) hx hb dX6_readSide_29 rfl hl (by decide) rfl (fun ls hl => ?_)
  refine lv_iconst (v := 0) hx hb dX6_readSide_30 (by decide) ?_
  refine lv_istore (lv' := [(4, .int 0), (3, .int 1), (2, .ref (o + (80 + (0 : Int32).toNatClampNeg))), (0, .ref (o + 78)), (1, .int 0)]) hx hb dX6_readSide_31 hl (by decide) rfl (fun ls hl => ?_)
  have loop2 : ∀ (n : Nat) (w2_4 : Int32) (w2_3 : Int32) (z2 : Nat → Nat → Int32) (y2 : Nat → Nat → Int64), ((61 - w2_4.toInt : Int) < (n : Int)) → ((0 : Int) ≤ w2_4.toInt ∧ w2_4.toInt ≤ 61) → ((-1 : Int) ≤ w2_3.toInt ∧ w2_3.toInt ≤ 1) → (qJU b z2) → ∀ (H : Heap) (locs : List Loc), qw_P D vwCl o 132 (qG (GU ca o) z2 y2) H → va_S (qw_A o 132) s.heap H locs → ∀ (ls : Array Slot), lv_has ls 6 [(4, .int w2_4), (3, .int w2_3), (2, .ref (o + (80 + (0 : Int32).toNatClampNeg))), (0, .ref (o + 78)), (1, .int 0)] → W p l e (headSpec (Cond.code yX6_readSide cX6_readSide 6 (some .boolean) :: qtbl) ({ frames := 30, cells := 0, slots := 0, locals := 778 })).room s m (([.ref (o + 78), .int 0] : List Value).toArray) below meth c H locs 0 0 (MQ below (va_Qi (fun r u => ((0 : Int) ≤ r.toInt ∧ r.toInt ≤ 1) ∧ qJU b u.1) (qB D vwCl (qT6 ca) o 132 (fun u : qZ => qG (GU ca o) u.1 u.2)) (qw_A o 132)) (([.ref (o + 78), .int 0] : List Value).toArray) s 0 0 (qw_A o 132)) (F0 m 33 ls []) := by
    intro n
    induction n with
    | zero => intro w2_4 w2_3 z2 y2 hb2 hv2_4 hv2_3 J2; exfalso; omega
    | succ n2 ih2 =>
      intro w2_4 w2_3 z2 y2 hb2 hv2_4 hv2_3 J2 H locs hP hS ls hl
      refine lv_iload hx hb dX6_readSide_33 (lv_at hl 0 rfl) ?_
      refine lv_bipush (v := 60) hx hb dX6_readSide_35 (by decide) ?_
      refine lv_icmp_gt (tgt := 112) hx hb dX6_readSide_37 (by decide) (fun c3 => ?_) (fun c3 => ?_)
      · have t3 : w2_4.toInt > (60 : Int) := gl_lt c3
        refine lv_aload_n hx hb dX6_readSide_112 rfl (lv_at hl 3 rfl) ?_
        refine lv_iconst (v := 1) hx hb dX6_readSide_113 (by decide) ?_
        refine lv_aload_n hx hb dX6_readSide_114 rfl (lv_at hl 3 rfl) ?_
        refine qf_get hx hb hts inX6 hown hK hP (q0 := 78) (by decide) (hgU_78 ca o) rfl 6 (by decide) wq_136 (v := .int (z2 78 6)) rfl dX6_readSide_115 ?_
        refine lv_topi (fun x4 e4 => ?_)
        refine qc_Vi2 (As := [.int 1, .int x4]) (rest := []) (k0 := 2) (u_Reader_fail l D ca o b z2 y2 J2 1 x4) kc_yX6_fail ⟨hx, hb, hml, hown, hts⟩ wq_450 rfl rfl ⟨Nat.le_of_ble_eq_true rfl, Nat.le_of_ble_eq_true rfl⟩ wq_all hP hK hS qw_Ai (q0 := 78) (by decide) (hgU_78 ca o _ _) rfl rfl hl.1 rfl (Nat.le_of_ble_eq_true rfl) dX6_readSide_118 ⟨Nat.zero_le _, Nat.zero_le _⟩ (fun r5 z5 y5 H locs h5 hP hS _ _ => ?_)
        have J5 : qJU b z5 := h5.2
        have b5 : (0 : Int) ≤ r5.toInt ∧ r5.toInt ≤ 0 := h5.1
        obtain rfl : r5 = 0 := lit_eq (k := 0) (K := 0) rfl (by omega) (by omega)
        exact W.zret (v := 0) (ty := .boolean) hx hb hr rfl (fun t ht hW => ⟨⟨0, (z5, y5), rfl, ⟨⟨by decide, by decide⟩, J5⟩, by rw [ht]; exact hP, va_K.moved hW.alike hK⟩, hS.F ht⟩) hS.2.2 dX6_readSide_121
      · have t3 : w2_4.toInt ≤ (60 : Int) := gl_nlt c3
        refine lv_aload_n hx hb dX6_readSide_40 rfl (lv_at hl 3 rfl) ?_
        refine lv_iload_n hx hb dX6_readSide_41 rfl (lv_at hl 4 rfl) ?_
        refine qc_Vi2 (As := [.int 0]) (rest := []) (k0 := 1) (u_Reader_readTerm l D ca o b z2 y2 J2) kc_yX6_readTerm ⟨hx, hb, hml, hown, hts⟩ wq_455 rfl rfl ⟨Nat.le_of_ble_eq_true rfl, Nat.le_of_ble_eq_true rfl⟩ wq_all hP hK hS qw_Ai (q0 := 78) (by decide) (hgU_78 ca o _ _) rfl rfl hl.1 rfl (Nat.le_of_ble_eq_true rfl) dX6_readSide_42 ⟨Nat.zero_le _, Nat.zero_le _⟩ (fun r6 z6 y6 H locs h6 hP hS _ _ => ?_)
        have J6 : qJU b z6 := h6.2
        have b6 : (0 : Int) ≤ r6.toInt ∧ r6.toInt ≤ 1 := h6.1
        refine lv_if_ne (tgt := 50) hx hb dX6_readSide_45 (by decide) (fun c7 => ?_) (fun c7 => ?_)
        · have t7 : r6.toInt ≠ (0 : Int) := gl_ne c7
          refine lv_aload_n hx hb dX6_readSide_50 rfl (lv_at hl 2 rfl) ?_
          refine lv_aload_n hx hb dX6_readSide_51 rfl (lv_at hl 3 rfl) ?_
          refine qf_get hx hb hts inX6 hown hK hP (q0 := 78) (by decide) (hgU_78 ca o) rfl 2 (by decide) wq_132 (v := .ref (o + 87)) rfl dX6_readSide_52 ?_
          refine lv_iload_n hx hb dX6_readSide_55 rfl (lv_at hl 4 rfl) ?_
          refine qa_aald hx hb hK hP (q0 := 87) (by decide) 5 rfl (N := 7) (hgU_87 ca o) rfl (gi_in (by decide) (by decide)) dX6_readSide_56 ?_
          refine lv_iload_n hx hb dX6_readSide_57 rfl (lv_at hl 1 rfl) ?_
          refine qc_Sv2 (As := [.ref (o + (80 + (0 : Int32).toNatClampNeg)), .ref (o + (88 + (0 : Int32).toNatClampNeg)), .int w2_3]) (rest := []) (k0 := 3) (u_Reader_add_v6 l D ca o b z6 y6 J6 w2_3) kc_yX6_add ⟨hx, hb, hml, hown, hts⟩ wq_493 rfl rfl ⟨Nat.le_of_ble_eq_true rfl, Nat.le_of_ble_eq_true rfl⟩ wq_all hP hK hS qw_Ai rfl hl.1 rfl (Nat.le_of_ble_eq_true rfl) dX6_readSide_58 ⟨Nat.zero_le _, Nat.zero_le _⟩ (fun z8 y8 H locs h8 hP hS _ _ => ?_)
          have J8 : qJU b z8 := h8
          refine lv_aload_n hx hb dX6_readSide_61 rfl (lv_at hl 3 rfl) ?_
          refine qc_Vip (As := []) (rest := []) (k0 := 0) (u_Reader_peek l D ca o b z8 y8 J8) kc_yX6_peek ⟨hx, hb, hml, hown, hts⟩ wq_463 rfl rfl ⟨Nat.le_of_ble_eq_true rfl, Nat.le_of_ble_eq_true rfl⟩ wq_all hP hK hS qw_Ai (q0 := 78) (by decide) (hgU_78 ca o _ _) rfl rfl hl.1 rfl (Nat.le_of_ble_eq_true rfl) dX6_readSide_62 ⟨Nat.zero_le _, Nat.zero_le _⟩ (fun r9 H locs h9 hP hS _ _ => ?_)
          refine lv_istore (lv' := [(5, .int r9), (4, .int w2_4), (3, .int w2_3), (2, .ref (o + (80 + (0 : Int32).toNatClampNeg))), (0, .ref (o + 78)), (1, .int 0)]) hx hb dX6_readSide_65 hl (by decide) rfl (fun ls hl => ?_)
          refine lv_iload hx hb dX6_readSide_67 (lv_at hl 0 rfl) ?_
          refine lv_bipush (v := 43) hx hb dX6_readSide_69 (by decide) ?_
          refine lv_icmp_eq (tgt := 83) hx hb dX6_readSide_71 (by decide) (fun c10 => ?_) (fun c10 => ?_)
          · have t10 : r9.toInt = (43 : Int) := gl_eq c10
            refine lv_iload hx hb dX6_readSide_83 (lv_at hl 0 rfl) ?_
            refine lv_bipush (v := 43) hx hb dX6_readSide_85 (by decide) ?_
            refine lv_icmp_ne (tgt := 94) hx hb dX6_readSide_87 (by decide) (fun c11 => ?_) (fun c11 => ?_)
            · have t11 : r9.toInt ≠ (43 : Int) := gl_ne c11
              exfalso; omega
            · have t11 : r9.toInt = (43 : Int) := gl_eq c11
              refine lv_iconst (v := 1) hx hb dX6_readSide_90 (by decide) ?_
              refine lv_goto (tgt := 95) hx hb dX6_readSide_91 (by decide) ?_
              refine lv_istore_n (lv' := [(3, .int 1), (5, .int r9), (4, .int w2_4), (2, .ref (o + (80 + (0 : Int32).toNatClampNeg))), (0, .ref (o + 78)), (1, .int 0)]) hx hb dX6_readSide_95 rfl hl (by decide) rfl (fun ls hl => ?_)
              refine lv_aload_n hx hb dX6_readSide_96 rfl (lv_at hl 4 rfl) ?_
              refine lv_dup hx hb dX6_readSide_97 rfl ?_
              refine qf_get hx hb hts inX6 hown hK hP (q0 := 78) (by decide) (hgU_78 ca o) rfl 6 (by decide) wq_136 (v := .int (z8 78 6)) rfl dX6_readSide_98 ?_
              refine lv_topi (fun x12 e12 => ?_)
              refine lv_iconst (v := 1) hx hb dX6_readSide_101 (by decide) ?_
              refine lv_iadd hx hb dX6_readSide_102 ?_
              refine lv_topi (fun x13 e13 => ?_)
              refine qf_put2 hx hb hts inX6 tyX6 tyX6_ok nmX6 hown hK hP hS qw_Ai (q0 := 78) (by decide) (hgU_78 ca o) rfl 6 (by decide) wq_136 rfl (x := x13) 6 rfl rfl rfl (Nat.le_of_ble_eq_true rfl) dX6_readSide_103 (fun z14 H locs hz14 hP hS => ?_)
              have J14 := jU_78_6 J8 hz14
              obtain ⟨x15, e15⟩ : ∃ t : Int32, t = w2_4 + 1 := ⟨_, rfl⟩
              refine lv_iinc (v := x15) (lv' := [(4, .int x15), (3, .int 1), (5, .int r9), (2, .ref (o + (80 + (0 : Int32).toNatClampNeg))), (0, .ref (o + 78)), (1, .int 0)]) hx hb dX6_readSide_106 hl (k := 2) rfl (by rw [e15]; rfl) (by decide) rfl (fun ls hl => ?_)
              have t15 : x15.toInt = w2_4.toInt + (1 : Int) := ga_add e15 rfl rfl (by omega) (by omega)
              refine lv_goto (tgt := 33) hx hb dX6_readSide_109 (by decide) ?_
              exact ih2 x15 1 z14 y8 (show (61 - x15.toInt : Int) < (n2 : Int) from by omega) ⟨by omega, by omega⟩ ⟨by decide, by decide⟩ J14 _ _ hP hS _ (lv_sub hl [0, 1, 3, 4, 5] rfl)
          · have t10 : r9.toInt ≠ (43 : Int) := gl_ne c10
            refine lv_iload hx hb dX6_readSide_74 (lv_at hl 0 rfl) ?_
            refine lv_bipush (v := 45) hx hb dX6_readSide_76 (by decide) ?_
            refine lv_icmp_eq (tgt := 83) hx hb dX6_readSide_78 (by decide) (fun c16 => ?_) (fun c16 => ?_)
            · have t16 : r9.toInt = (45 : Int) := gl_eq c16
              refine lv_iload hx hb dX6_readSide_83 (lv_at hl 0 rfl) ?_
              refine lv_bipush (v := 43) hx hb dX6_readSide_85 (by decide) ?_
              refine lv_icmp_ne (tgt := 94) hx hb dX6_readSide_87 (by decide) (fun c17 => ?_) (fun c17 => ?_)
              · have t17 : r9.toInt ≠ (43 : Int) := gl_ne c17
                refine lv_iconst (v := (-1)) hx hb dX6_readSide_94 (by decide) ?_
                refine lv_istore_n (lv' := [(3, .int ((-1))), (5, .int r9), (4, .int w2_4), (2, .ref (o + (80 + (0 : Int32).toNatClampNeg))), (0, .ref (o + 78)), (1, .int 0)]) hx hb dX6_readSide_95 rfl hl (by decide) rfl (fun ls hl => ?_)
                refine lv_aload_n hx hb dX6_readSide_96 rfl (lv_at hl 4 rfl) ?_
                refine lv_dup hx hb dX6_readSide_97 rfl ?_
                refine qf_get hx hb hts inX6 hown hK hP (q0 := 78) (by decide) (hgU_78 ca o) rfl 6 (by decide) wq_136 (v := .int (z8 78 6)) rfl dX6_readSide_98 ?_
                refine lv_topi (fun x18 e18 => ?_)
                refine lv_iconst (v := 1) hx hb dX6_readSide_101 (by decide) ?_
                refine lv_iadd hx hb dX6_readSide_102 ?_
                refine lv_topi (fun x19 e19 => ?_)
                refine qf_put2 hx hb hts inX6 tyX6 tyX6_ok nmX6 hown hK hP hS qw_Ai (q0 := 78) (by decide) (hgU_78 ca o) rfl 6 (by decide) wq_136 rfl (x := x19) 6 rfl rfl rfl (Nat.le_of_ble_eq_true rfl) dX6_readSide_103 (fun z20 H locs hz20 hP hS => ?_)
                have J20 := jU_78_6 J8 hz20
                obtain ⟨x21, e21⟩ : ∃ t : Int32, t = w2_4 + 1 := ⟨_, rfl⟩
                refine lv_iinc (v := x21) (lv' := [(4, .int x21), (3, .int ((-1))), (5, .int r9), (2, .ref (o + (80 + (0 : Int32).toNatClampNeg))), (0, .ref (o + 78)), (1, .int 0)]) hx hb dX6_readSide_106 hl (k := 2) rfl (by rw [e21]; rfl) (by decide) rfl (fun ls hl => ?_)
                have t21 : x21.toInt = w2_4.toInt + (1 : Int) := ga_add e21 rfl rfl (by omega) (by omega)
                refine lv_goto (tgt := 33) hx hb dX6_readSide_109 (by decide) ?_
                exact ih2 x21 (-1) z20 y8 (show (61 - x21.toInt : Int) < (n2 : Int) from by omega) ⟨by omega, by omega⟩ ⟨by decide, by decide⟩ J20 _ _ hP hS _ (lv_sub hl [0, 1, 3, 4, 5] rfl)
              · have t17 : r9.toInt = (43 : Int) := gl_eq c17
                exfalso; omega
            · have t16 : r9.toInt ≠ (45 : Int) := gl_ne c16
              refine lv_iconst (v := 1) hx hb dX6_readSide_81 (by decide) ?_
              exact W.zret (v := 1) (ty := .boolean) hx hb hr rfl (fun t ht hW => ⟨⟨1, (z8, y8), rfl, ⟨⟨by decide, by decide⟩, J8⟩, by rw [ht]; exact hP, va_K.moved hW.alike hK⟩, hS.F ht⟩) hS.2.2 dX6_readSide_82
        · have t7 : r6.toInt = (0 : Int) := gl_eq c7
          refine lv_iconst (v := 0) hx hb dX6_readSide_48 (by decide) ?_
          exact W.zret (v := 0) (ty := .boolean) hx hb hr rfl (fun t ht hW => ⟨⟨0, (z6, y6), rfl, ⟨⟨by decide, by decide⟩, J6⟩, by rw [ht]; exact hP, va_K.moved hW.alike hK⟩, hS.F ht⟩) hS.2.2 dX6_readSide_49
  exact loop2 62 0 1 z1 y1 (show (61 - (0 : Int) : Int) < ((62 : Nat) : Int) from by omega) ⟨by decide, by decide⟩ ⟨by decide, by decide⟩ J1 _ _ hP hS _ (lv_sub hl [0, 1, 2, 3, 4] rfl)
set_option maxRecDepth 100000 in
set_option maxHeartbeats 8000000 in
theorem u_Reader_add_v7 (l : Launch) (D : va_G) (ca : Nat → ClassId) (o : Nat) (b z : Nat → Nat → Int32) (y : Nat → Nat → Int64) (J0 : qJU b z) (a2 : Int32)  : qM l yX6_add cX6_add 4 none 1 60 (qPre D vwCl (qT6 ca) o 132 (qG (GU ca o) z y) [.ref (o + 103), .ref (o + 80), .int a2]) (va_Qv (fun u => qJU b u.1) (qB D vwCl (qT6 ca) o 132 (fun u : qZ => qG (GU ca o) u.1 u.2)) (qw_A o 132)) (qw_A o 132) := by
  refine Met.ofW (cc := cX6_add) (maxL := 4) (ret := none) (by decide) rfl ?_
  intro p e s m args below meth c s₁ B hml hv
  obtain ⟨rfl, hP, hK⟩ := hv
  have hx := B.exec
  have hb := B.bytes
  have hr := B.returns
  have hts0 := atoms_spec (ws := Cond.code yX6_add cX6_add 4 none :: qtbl) B.pre
  have hts : ∀ w ∈ qtbl, w.before _ s = true := fun w h => hts0 w (List.mem_cons_of_mem _ h)
  have hown : s.vm.findClass RX6 = some m.cls := findClass_of_methodNamed B.named
  have hlocks := B.notSynchronized
  have hS : va_S (qw_A o 132) s.heap s.heap [] := va_S.rf
  have hl := lv_entry ([.ref (o + 103), .ref (o + 80), .int a2]) (n := 4) (Nat.le_of_ble_eq_true rfl)
  rw [lg_entry_eq]
  generalize (lg_sl ([.ref (o + 103), .ref (o + 80), .int a2]) ++ List.replicate (4 - (lg_sl ([.ref (o + 103), .ref (o + 80), .int a2])).length) Slot.unset).toArray = ls at hl ⊢
  have hl : lv_has ls 4 [(0, .ref (o + 103)), (1, .ref (o + 80)), (2, .int a2)] := hl
  refine lv_iconst (v := 0) hx hb dX6_add_0 (by decide) ?_
  refine lv_istore_n (lv' := [(3, .int 0), (0, .ref (o + 103)), (1, .ref (o + 80)), (2, .int a2)]) hx hb dX6_add_1 rfl hl (by decide) rfl (fun ls hl => ?_)
  have loop1 : ∀ (n : Nat) (w1_3 : Int32) (z1 : Nat → Nat → Int32) (y1 : Nat → Nat → Int64), ((7 - w1_3.toInt : Int) < (n : Int)) → ((0 : Int) ≤ w1_3.toInt ∧ w1_3.toInt ≤ 7) → (qJU b z1) → ∀ (H : Heap) (locs : List Loc), qw_P D vwCl o 132 (qG (GU ca o) z1 y1) H → va_S (qw_A o 132) s.heap H locs → ∀ (ls : Array Slot), lv_has ls 4 [(3, .int w1_3), (0, .ref (o + 103)), (1, .ref (o + 80)), (2, .int a2)] → W p l e (headSpec (Cond.code yX6_add cX6_add 4 none :: qtbl) ({ frames := 1, cells := 0, slots := 0, locals := 60 })).room s m (([.ref (o + 103), .ref (o + 80), .int a2] : List Value).toArray) below meth c H locs 0 0 (MQ below (va_Qv (fun u => qJU b u.1) (qB D vwCl (qT6 ca) o 132 (fun u : qZ => qG (GU ca o) u.1 u.2)) (qw_A o 132)) (([.ref (o + 103), .ref (o + 80), .int a2] : List Value).toArray) s 0 0 (qw_A o 132)) (F0 m 2 ls []) := by
    intro n
    induction n with
    | zero => intro w1_3 z1 y1 hb1 hv1_3 J1; exfalso; omega
    | succ n1 ih1 =>
      intro w1_3 z1 y1 hb1 hv1_3 J1 H locs hP hS ls hl
      refine lv_iload_n hx hb dX6_add_2 rfl (lv_at hl 0 rfl) ?_
      refine lv_bipush (v := 7) hx hb dX6_add_3 (by decide) ?_
      refine lv_icmp_ge (tgt := 25) hx hb dX6_add_5 (by decide) (fun c2 => ?_) (fun c2 => ?_)
      · have t2 : w1_3.toInt ≥ (7 : Int) := gl_le c2
        exact W.vret hx hb hr (fun t ht hW => ⟨⟨(z1, y1), rfl, J1, by rw [ht]; exact hP, va_K.moved hW.alike hK⟩, hS.F ht⟩) hS.2.2 dX6_add_25
      · have t2 : w1_3.toInt < (7 : Int) := gl_nle c2
        refine lv_aload_n hx hb dX6_add_8 rfl (lv_at hl 1 rfl) ?_
        refine lv_iload_n hx hb dX6_add_9 rfl (lv_at hl 0 rfl) ?_
        refine lv_dup2_11 hx hb dX6_add_10 rfl rfl ?_
        refine qa_iald hx hb hK hP (q0 := 103) (by decide) 0 (N := 7) (hgU_103 ca o) rfl (gi_in (by omega) (by omega)) dX6_add_11 ?_
        refine lv_topi (fun x3 e3 => ?_)
        refine lv_iload_n hx hb dX6_add_12 rfl (lv_at hl 3 rfl) ?_
        refine lv_aload_n hx hb dX6_add_13 rfl (lv_at hl 2 rfl) ?_
        refine lv_iload_n hx hb dX6_add_14 rfl (lv_at hl 0 rfl) ?_
        refine qa_iald hx hb hK hP (q0 := 80) (by decide) 0 (N := 7) (hgU_80 ca o) rfl (gi_in (by omega) (by omega)) dX6_add_15 ?_
        refine lv_topi (fun x4 e4 => ?_)
        refine lv_imul hx hb dX6_add_16 ?_
        refine lv_topi (fun x5 e5 => ?_)
        refine lv_iadd hx hb dX6_add_17 ?_
        refine lv_topi (fun x6 e6 => ?_)
        refine qa_iast2 hx hb hK hP hS qw_Ai (q0 := 103) (by decide) 0 (N := 7) (hgU_103 ca o) rfl (i := w1_3) (x := x6) (gi_in (by omega) (by omega)) dX6_add_18 (fun z7 H locs hz7 hP hS => ?_)
        have J7 := jU_103 J1 hz7
        obtain ⟨x8, e8⟩ : ∃ t : Int32, t = w1_3 + 1 := ⟨_, rfl⟩
        refine lv_iinc (v := x8) (lv' := [(3, .int x8), (0, .ref (o + 103)), (1, .ref (o + 80)), (2, .int a2)]) hx hb dX6_add_19 hl (k := 0) rfl (by rw [e8]; rfl) (by decide) rfl (fun ls hl => ?_)
        have t8 : x8.toInt = w1_3.toInt + (1 : Int) := ga_add e8 rfl rfl (by omega) (by omega)
        refine lv_goto (tgt := 2) hx hb dX6_add_22 (by decide) ?_
        exact ih1 x8 z7 y1 (show (7 - x8.toInt : Int) < (n1 : Int) from by omega) ⟨by omega, by omega⟩ J7 _ _ hP hS _ (lv_sub hl [0, 1, 2, 3] rfl)
  exact loop1 8 0 z y (show (7 - (0 : Int) : Int) < ((8 : Nat) : Int) from by omega) ⟨by decide, by decide⟩ J0 _ _ hP hS _ (lv_sub hl [0, 1, 2, 3] rfl)
set_option maxRecDepth 100000 in
set_option maxHeartbeats 8000000 in
theorem u_Reader_readDivisor (l : Launch) (D : va_G) (ca : Nat → ClassId) (o : Nat) (b z : Nat → Nat → Int32) (y : Nat → Nat → Int64) (J0 : qJU b z)   : qM l yX6_readDivisor cX6_readDivisor 2 (some .boolean) 3 105 (qPre D vwCl (qT6 ca) o 132 (qG (GU ca o) z y) [.ref (o + 78)]) (va_Qi (fun r u => ((0 : Int) ≤ r.toInt ∧ r.toInt ≤ 1) ∧ qJU b u.1) (qB D vwCl (qT6 ca) o 132 (fun u : qZ => qG (GU ca o) u.1 u.2)) (qw_A o 132)) (qw_A o 132) := by
  refine Met.ofW (cc := cX6_readDivisor) (maxL := 2) (ret := (some .boolean)) (by decide) rfl ?_
  intro p e s m args below meth c s₁ B hml hv
  obtain ⟨rfl, hP, hK⟩ := hv
  have hx := B.exec
  have hb := B.bytes
  have hr := B.returns
  have hts0 := atoms_spec (ws := Cond.code yX6_readDivisor cX6_readDivisor 2 (some .boolean) :: qtbl) B.pre
  have hts : ∀ w ∈ qtbl, w.before _ s = true := fun w h => hts0 w (List.mem_cons_of_mem _ h)
  have hown : s.vm.findClass RX6 = some m.cls := findClass_of_methodNamed B.named
  have hlocks := B.notSynchronized
  have hS : va_S (qw_A o 132) s.heap s.heap [] := va_S.rf
  have hl := lv_entry ([.ref (o + 78)]) (n := 2) (Nat.le_of_ble_eq_true rfl)
  rw [lg_entry_eq]
  generalize (lg_sl ([.ref (o + 78)]) ++ List.replicate (2 - (lg_sl ([.ref (o + 78)])).length) Slot.unset).toArray = ls at hl ⊢
  have hl : lv_has ls 2 [(0, .ref (o + 78))] := hl
  refine lv_aload_n hx hb dX6_readDivisor_0 rfl (lv_at hl 0 rfl) ?_
  refine qf_get hx hb hts inX6 hown hK hP (q0 := 78) (by decide) (hgU_78 ca o) rfl 6 (by decide) wq_136 (v := .int (z 78 6)) rfl dX6_readDivisor_1 ?_
  refine lv_topi (fun x1 e1 => ?_)
  refine lv_istore_n (lv' := [(1, .int x1), (0, .ref (o + 78))]) hx hb dX6_readDivisor_4 rfl hl (by decide) rfl (fun ls hl => ?_)
  refine lv_aload_n hx hb dX6_readDivisor_5 rfl (lv_at hl 1 rfl) ?_
  refine qc_Vi2 (As := []) (rest := []) (k0 := 0) (u_Reader_readNumber l D ca o b z y J0) kc_yX6_readNumber ⟨hx, hb, hml, hown, hts⟩ wq_486 rfl rfl ⟨Nat.le_of_ble_eq_true rfl, Nat.le_of_ble_eq_true rfl⟩ wq_all hP hK hS qw_Ai (q0 := 78) (by decide) (hgU_78 ca o _ _) rfl rfl hl.1 rfl (Nat.le_of_ble_eq_true rfl) dX6_readDivisor_6 ⟨Nat.zero_le _, Nat.zero_le _⟩ (fun r2 z2 y2 H locs h2 hP hS _ _ => ?_)
  have J2 : qJU b z2 := h2.2
  have b2 : (0 : Int) ≤ r2.toInt ∧ r2.toInt ≤ 1 := h2.1
  refine lv_if_ne (tgt := 14) hx hb dX6_readDivisor_9 (by decide) (fun c3 => ?_) (fun c3 => ?_)
  · have t3 : r2.toInt ≠ (0 : Int) := gl_ne c3
    refine lv_aload_n hx hb dX6_readDivisor_14 rfl (lv_at hl 1 rfl) ?_
    refine lv_aload_n hx hb dX6_readDivisor_15 rfl (lv_at hl 1 rfl) ?_
    refine qf_get hx hb hts inX6 hown hK hP (q0 := 78) (by decide) (hgU_78 ca o) rfl 9 (by decide) wq_139 (v := .int (z2 78 9)) rfl dX6_readDivisor_16 ?_
    refine lv_topi (fun x4 e4 => ?_)
    refine qf_put2 hx hb hts inX6 tyX6 tyX6_ok nmX6 hown hK hP hS qw_Ai (q0 := 78) (by decide) (hgU_78 ca o) rfl 12 (by decide) wq_143 rfl (x := x4) 12 rfl rfl rfl (Nat.le_of_ble_eq_true rfl) dX6_readDivisor_19 (fun z5 H locs hz5 hP hS => ?_)
    have J5 := jU_78_12 J2 hz5
    refine lv_aload_n hx hb dX6_readDivisor_22 rfl (lv_at hl 1 rfl) ?_
    refine qf_get hx hb hts inX6 hown hK hP (q0 := 78) (by decide) (hgU_78 ca o) rfl 12 (by decide) wq_143 (v := .int (z5 78 12)) rfl dX6_readDivisor_23 ?_
    refine lv_topi (fun x6 e6 => ?_)
    refine lv_if_ne (tgt := 38) hx hb dX6_readDivisor_26 (by decide) (fun c7 => ?_) (fun c7 => ?_)
    · have t7 : x6.toInt ≠ (0 : Int) := gl_ne c7
      refine lv_iconst (v := 1) hx hb dX6_readDivisor_38 (by decide) ?_
      refine lv_goto (tgt := 43) hx hb dX6_readDivisor_39 (by decide) ?_
      exact W.zret (v := 1) (ty := .boolean) hx hb hr rfl (fun t ht hW => ⟨⟨1, (z5, y2), rfl, ⟨⟨by decide, by decide⟩, J5⟩, by rw [ht]; exact hP, va_K.moved hW.alike hK⟩, hS.F ht⟩) hS.2.2 dX6_readDivisor_43
    · have t7 : x6.toInt = (0 : Int) := gl_eq c7
      refine lv_aload_n hx hb dX6_readDivisor_29 rfl (lv_at hl 1 rfl) ?_
      refine lv_iconst (v := 3) hx hb dX6_readDivisor_30 (by decide) ?_
      refine lv_iload_n hx hb dX6_readDivisor_31 rfl (lv_at hl 0 rfl) ?_
      refine qc_Vi2 (As := [.int 3, .int x1]) (rest := []) (k0 := 2) (u_Reader_fail l D ca o b z5 y2 J5 3 x1) kc_yX6_fail ⟨hx, hb, hml, hown, hts⟩ wq_450 rfl rfl ⟨Nat.le_of_ble_eq_true rfl, Nat.le_of_ble_eq_true rfl⟩ wq_all hP hK hS qw_Ai (q0 := 78) (by decide) (hgU_78 ca o _ _) rfl rfl hl.1 rfl (Nat.le_of_ble_eq_true rfl) dX6_readDivisor_32 ⟨Nat.zero_le _, Nat.zero_le _⟩ (fun r8 z8 y8 H locs h8 hP hS _ _ => ?_)
      have J8 : qJU b z8 := h8.2
      have b8 : (0 : Int) ≤ r8.toInt ∧ r8.toInt ≤ 0 := h8.1
      obtain rfl : r8 = 0 := lit_eq (k := 0) (K := 0) rfl (by omega) (by omega)
      refine lv_if_eq (tgt := 42) hx hb dX6_readDivisor_35 (by decide) (fun _ => ?_) (fun q => absurd (by decide) q)
      refine lv_iconst (v := 0) hx hb dX6_readDivisor_42 (by decide) ?_
      exact W.zret (v := 0) (ty := .boolean) hx hb hr rfl (fun t ht hW => ⟨⟨0, (z8, y8), rfl, ⟨⟨by decide, by decide⟩, J8⟩, by rw [ht]; exact hP, va_K.moved hW.alike hK⟩, hS.F ht⟩) hS.2.2 dX6_readDivisor_43
  · have t3 : r2.toInt = (0 : Int) := gl_eq c3
    refine lv_iconst (v := 0) hx hb dX6_readDivisor_12 (by decide) ?_
    exact W.zret (v := 0) (ty := .boolean) hx hb hr rfl (fun t ht hW => ⟨⟨0, (z2, y2), rfl, ⟨⟨by decide, by decide⟩, J2⟩, by rw [ht]; exact hP, va_K.moved hW.alike hK⟩, hS.F ht⟩) hS.2.2 dX6_readDivisor_13
set_option maxRecDepth 100000 in
set_option maxHeartbeats 8000000 in
theorem u_Reader_readSecondHalf (l : Launch) (D : va_G) (ca : Nat → ClassId) (o : Nat) (b z : Nat → Nat → Int32) (y : Nat → Nat → Int64) (J0 : qJU b z)   : qM l yX6_readSecondHalf cX6_readSecondHalf 2 (some .boolean) 31 803 (qPre D vwCl (qT6 ca) o 132 (qG (GU ca o) z y) [.ref (o + 78)]) (va_Qi (fun r u => ((0 : Int) ≤ r.toInt ∧ r.toInt ≤ 1) ∧ qJU b u.1) (qB D vwCl (qT6 ca) o 132 (fun u : qZ => qG (GU ca o) u.1 u.2)) (qw_A o 132)) (qw_A o 132) := by
  refine Met.ofW (cc := cX6_readSecondHalf) (maxL := 2) (ret := (some .boolean)) (by decide) rfl ?_
  intro p e s m args below meth c s₁ B hml hv
  obtain ⟨rfl, hP, hK⟩ := hv
  have hx := B.exec
  have hb := B.bytes
  have hr := B.returns
  have hts0 := atoms_spec (ws := Cond.code yX6_readSecondHalf cX6_readSecondHalf 2 (some .boolean) :: qtbl) B.pre
  have hts : ∀ w ∈ qtbl, w.before _ s = true := fun w h => hts0 w (List.mem_cons_of_mem _ h)
  have hown : s.vm.findClass RX6 = some m.cls := findClass_of_methodNamed B.named
  have hlocks := B.notSynchronized
  have hS : va_S (qw_A o 132) s.heap s.heap [] := va_S.rf
  have hl := lv_entry ([.ref (o + 78)]) (n := 2) (Nat.le_of_ble_eq_true rfl)
  rw [lg_entry_eq]
  generalize (lg_sl ([.ref (o + 78)]) ++ List.replicate (2 - (lg_sl ([.ref (o + 78)])).length) Slot.unset).toArray = ls at hl ⊢
  have hl : lv_has ls 2 [(0, .ref (o + 78))] := hl
  refine lv_aload_n hx hb dX6_readSecondHalf_0 rfl (lv_at hl 0 rfl) ?_
  refine qc_Vip (As := []) (rest := []) (k0 := 0) (u_Reader_peek l D ca o b z y J0) kc_yX6_peek ⟨hx, hb, hml, hown, hts⟩ wq_463 rfl rfl ⟨Nat.le_of_ble_eq_true rfl, Nat.le_of_ble_eq_true rfl⟩ wq_all hP hK hS qw_Ai (q0 := 78) (by decide) (hgU_78 ca o _ _) rfl rfl hl.1 rfl (Nat.le_of_ble_eq_true rfl) dX6_readSecondHalf_1 ⟨Nat.zero_le _, Nat.zero_le _⟩ (fun r1 H locs h1 hP hS _ _ => ?_)
  refine lv_istore_n (lv' := [(1, .int r1), (0, .ref (o + 78))]) hx hb dX6_readSecondHalf_4 rfl hl (by decide) rfl (fun ls hl => ?_)
  refine lv_iload_n hx hb dX6_readSecondHalf_5 rfl (lv_at hl 0 rfl) ?_
  refine lv_bipush (v := 126) hx hb dX6_readSecondHalf_6 (by decide) ?_
  refine lv_icmp_ne (tgt := 31) hx hb dX6_readSecondHalf_8 (by decide) (fun c2 => ?_) (fun c2 => ?_)
  · have t2 : r1.toInt ≠ (126 : Int) := gl_ne c2
    refine lv_iload_n hx hb dX6_readSecondHalf_31 rfl (lv_at hl 0 rfl) ?_
    refine lv_bipush (v := 61) hx hb dX6_readSecondHalf_32 (by decide) ?_
    refine lv_icmp_eq (tgt := 59) hx hb dX6_readSecondHalf_34 (by decide) (fun c3 => ?_) (fun c3 => ?_)
    · have t3 : r1.toInt = (61 : Int) := gl_eq c3
      refine lv_aload_n hx hb dX6_readSecondHalf_59 rfl (lv_at hl 1 rfl) ?_
      refine lv_iload_n hx hb dX6_readSecondHalf_60 rfl (lv_at hl 0 rfl) ?_
      refine lv_bipush (v := 61) hx hb dX6_readSecondHalf_61 (by decide) ?_
      refine lv_icmp_ne (tgt := 70) hx hb dX6_readSecondHalf_63 (by decide) (fun c4 => ?_) (fun c4 => ?_)
      · have t4 : r1.toInt ≠ (61 : Int) := gl_ne c4
        exfalso; omega
      · have t4 : r1.toInt = (61 : Int) := gl_eq c4
        refine lv_iconst (v := 0) hx hb dX6_readSecondHalf_66 (by decide) ?_
        refine lv_goto (tgt := 81) hx hb dX6_readSecondHalf_67 (by decide) ?_
        refine qf_put2 hx hb hts inX6 tyX6 tyX6_ok nmX6 hown hK hP hS qw_Ai (q0 := 78) (by decide) (hgU_78 ca o) rfl 11 (by decide) wq_142 rfl (x := 0) 11 rfl rfl rfl (Nat.le_of_ble_eq_true rfl) dX6_readSecondHalf_81 (fun z5 H locs hz5 hP hS => ?_)
        have J5 := jU_78_11 J0 hz5
        refine lv_aload_n hx hb dX6_readSecondHalf_84 rfl (lv_at hl 1 rfl) ?_
        refine lv_dup hx hb dX6_readSecondHalf_85 rfl ?_
        refine qf_get hx hb hts inX6 hown hK hP (q0 := 78) (by decide) (hgU_78 ca o) rfl 6 (by decide) wq_136 (v := .int (z5 78 6)) rfl dX6_readSecondHalf_86 ?_
        refine lv_topi (fun x6 e6 => ?_)
        refine lv_iconst (v := 1) hx hb dX6_readSecondHalf_89 (by decide) ?_
        refine lv_iadd hx hb dX6_readSecondHalf_90 ?_
        refine lv_topi (fun x7 e7 => ?_)
        refine qf_put2 hx hb hts inX6 tyX6 tyX6_ok nmX6 hown hK hP hS qw_Ai (q0 := 78) (by decide) (hgU_78 ca o) rfl 6 (by decide) wq_136 rfl (x := x7) 6 rfl rfl rfl (Nat.le_of_ble_eq_true rfl) dX6_readSecondHalf_91 (fun z8 H locs hz8 hP hS => ?_)
        have J8 := jU_78_6 J5 hz8
        refine lv_aload_n hx hb dX6_readSecondHalf_94 rfl (lv_at hl 1 rfl) ?_
        refine lv_iconst (v := 0) hx hb dX6_readSecondHalf_95 (by decide) ?_
        refine qc_Vi2 (As := [.int 0]) (rest := []) (k0 := 1) (u_Reader_readSide l D ca o b z8 y J8) kc_yX6_readSide ⟨hx, hb, hml, hown, hts⟩ wq_446 rfl rfl ⟨Nat.le_of_ble_eq_true rfl, Nat.le_of_ble_eq_true rfl⟩ wq_all hP hK hS qw_Ai (q0 := 78) (by decide) (hgU_78 ca o _ _) rfl rfl hl.1 rfl (Nat.le_of_ble_eq_true rfl) dX6_readSecondHalf_96 ⟨Nat.zero_le _, Nat.zero_le _⟩ (fun r9 z9 y9 H locs h9 hP hS _ _ => ?_)
        have J9 : qJU b z9 := h9.2
        have b9 : (0 : Int) ≤ r9.toInt ∧ r9.toInt ≤ 1 := h9.1
        refine lv_if_ne (tgt := 104) hx hb dX6_readSecondHalf_99 (by decide) (fun c10 => ?_) (fun c10 => ?_)
        · have t10 : r9.toInt ≠ (0 : Int) := gl_ne c10
          refine lv_aload_n hx hb dX6_readSecondHalf_104 rfl (lv_at hl 1 rfl) ?_
          refine qf_get hx hb hts inX6 hown hK hP (q0 := 78) (by decide) (hgU_78 ca o) rfl 4 (by decide) wq_134 (v := .ref (o + 103)) rfl dX6_readSecondHalf_105 ?_
          refine lv_aload_n hx hb dX6_readSecondHalf_108 rfl (lv_at hl 1 rfl) ?_
          refine qf_get hx hb hts inX6 hown hK hP (q0 := 78) (by decide) (hgU_78 ca o) rfl 1 (by decide) wq_131 (v := .ref (o + 79)) rfl dX6_readSecondHalf_109 ?_
          refine lv_iconst (v := 0) hx hb dX6_readSecondHalf_112 (by decide) ?_
          refine qa_aald hx hb hK hP (q0 := 79) (by decide) 5 rfl (N := 7) (hgU_79 ca o) rfl (gi_in (by decide) (by decide)) dX6_readSecondHalf_113 ?_
          refine lv_iconst (v := (-1)) hx hb dX6_readSecondHalf_114 (by decide) ?_
          refine qc_Sv2 (As := [.ref (o + 103), .ref (o + (80 + (0 : Int32).toNatClampNeg)), .int ((-1))]) (rest := []) (k0 := 3) (u_Reader_add_v7 l D ca o b z9 y9 J9 (-1)) kc_yX6_add ⟨hx, hb, hml, hown, hts⟩ wq_493 rfl rfl ⟨Nat.le_of_ble_eq_true rfl, Nat.le_of_ble_eq_true rfl⟩ wq_all hP hK hS qw_Ai rfl hl.1 rfl (Nat.le_of_ble_eq_true rfl) dX6_readSecondHalf_115 ⟨Nat.zero_le _, Nat.zero_le _⟩ (fun z11 y11 H locs h11 hP hS _ _ => ?_)
          have J11 : qJU b z11 := h11
          refine lv_iconst (v := 1) hx hb dX6_readSecondHalf_118 (by decide) ?_
          exact W.zret (v := 1) (ty := .boolean) hx hb hr rfl (fun t ht hW => ⟨⟨1, (z11, y11), rfl, ⟨⟨by decide, by decide⟩, J11⟩, by rw [ht]; exact hP, va_K.moved hW.alike hK⟩, hS.F ht⟩) hS.2.2 dX6_readSecondHalf_119
        · have t10 : r9.toInt = (0 : Int) := gl_eq c10
          refine lv_iconst (v := 0) hx hb dX6_readSecondHalf_102 (by decide) ?_
          exact W.zret (v := 0) (ty := .boolean) hx hb hr rfl (fun t ht hW => ⟨⟨0, (z9, y9), rfl, ⟨⟨by decide, by decide⟩, J9⟩, by rw [ht]; exact hP, va_K.moved hW.alike hK⟩, hS.F ht⟩) hS.2.2 dX6_readSecondHalf_103
    · have t3 : r1.toInt ≠ (61 : Int) := gl_ne c3
      refine lv_iload_n hx hb dX6_readSecondHalf_37 rfl (lv_at hl 0 rfl) ?_
      refine lv_bipush (v := 60) hx hb dX6_readSecondHalf_38 (by decide) ?_
      refine lv_icmp_eq (tgt := 59) hx hb dX6_readSecondHalf_40 (by decide) (fun c12 => ?_) (fun c12 => ?_)
      · have t12 : r1.toInt = (60 : Int) := gl_eq c12
        refine lv_aload_n hx hb dX6_readSecondHalf_59 rfl (lv_at hl 1 rfl) ?_
        refine lv_iload_n hx hb dX6_readSecondHalf_60 rfl (lv_at hl 0 rfl) ?_
        refine lv_bipush (v := 61) hx hb dX6_readSecondHalf_61 (by decide) ?_
        refine lv_icmp_ne (tgt := 70) hx hb dX6_readSecondHalf_63 (by decide) (fun c13 => ?_) (fun c13 => ?_)
        · have t13 : r1.toInt ≠ (61 : Int) := gl_ne c13
          refine lv_iload_n hx hb dX6_readSecondHalf_70 rfl (lv_at hl 0 rfl) ?_
          refine lv_bipush (v := 60) hx hb dX6_readSecondHalf_71 (by decide) ?_
          refine lv_icmp_ne (tgt := 80) hx hb dX6_readSecondHalf_73 (by decide) (fun c14 => ?_) (fun c14 => ?_)
          · have t14 : r1.toInt ≠ (60 : Int) := gl_ne c14
            exfalso; omega
          · have t14 : r1.toInt = (60 : Int) := gl_eq c14
            refine lv_iconst (v := 1) hx hb dX6_readSecondHalf_76 (by decide) ?_
            refine lv_goto (tgt := 81) hx hb dX6_readSecondHalf_77 (by decide) ?_
            refine qf_put2 hx hb hts inX6 tyX6 tyX6_ok nmX6 hown hK hP hS qw_Ai (q0 := 78) (by decide) (hgU_78 ca o) rfl 11 (by decide) wq_142 rfl (x := 1) 11 rfl rfl rfl (Nat.le_of_ble_eq_true rfl) dX6_readSecondHalf_81 (fun z15 H locs hz15 hP hS => ?_)
            have J15 := jU_78_11 J0 hz15
            refine lv_aload_n hx hb dX6_readSecondHalf_84 rfl (lv_at hl 1 rfl) ?_
            refine lv_dup hx hb dX6_readSecondHalf_85 rfl ?_
            refine qf_get hx hb hts inX6 hown hK hP (q0 := 78) (by decide) (hgU_78 ca o) rfl 6 (by decide) wq_136 (v := .int (z15 78 6)) rfl dX6_readSecondHalf_86 ?_
            refine lv_topi (fun x16 e16 => ?_)
            refine lv_iconst (v := 1) hx hb dX6_readSecondHalf_89 (by decide) ?_
            refine lv_iadd hx hb dX6_readSecondHalf_90 ?_
            refine lv_topi (fun x17 e17 => ?_)
            refine qf_put2 hx hb hts inX6 tyX6 tyX6_ok nmX6 hown hK hP hS qw_Ai (q0 := 78) (by decide) (hgU_78 ca o) rfl 6 (by decide) wq_136 rfl (x := x17) 6 rfl rfl rfl (Nat.le_of_ble_eq_true rfl) dX6_readSecondHalf_91 (fun z18 H locs hz18 hP hS => ?_)
            have J18 := jU_78_6 J15 hz18
            refine lv_aload_n hx hb dX6_readSecondHalf_94 rfl (lv_at hl 1 rfl) ?_
            refine lv_iconst (v := 0) hx hb dX6_readSecondHalf_95 (by decide) ?_
            refine qc_Vi2 (As := [.int 0]) (rest := []) (k0 := 1) (u_Reader_readSide l D ca o b z18 y J18) kc_yX6_readSide ⟨hx, hb, hml, hown, hts⟩ wq_446 rfl rfl ⟨Nat.le_of_ble_eq_true rfl, Nat.le_of_ble_eq_true rfl⟩ wq_all hP hK hS qw_Ai (q0 := 78) (by decide) (hgU_78 ca o _ _) rfl rfl hl.1 rfl (Nat.le_of_ble_eq_true rfl) dX6_readSecondHalf_96 ⟨Nat.zero_le _, Nat.zero_le _⟩ (fun r19 z19 y19 H locs h19 hP hS _ _ => ?_)
            have J19 : qJU b z19 := h19.2
            have b19 : (0 : Int) ≤ r19.toInt ∧ r19.toInt ≤ 1 := h19.1
            refine lv_if_ne (tgt := 104) hx hb dX6_readSecondHalf_99 (by decide) (fun c20 => ?_) (fun c20 => ?_)
            · have t20 : r19.toInt ≠ (0 : Int) := gl_ne c20
              refine lv_aload_n hx hb dX6_readSecondHalf_104 rfl (lv_at hl 1 rfl) ?_
              refine qf_get hx hb hts inX6 hown hK hP (q0 := 78) (by decide) (hgU_78 ca o) rfl 4 (by decide) wq_134 (v := .ref (o + 103)) rfl dX6_readSecondHalf_105 ?_
              refine lv_aload_n hx hb dX6_readSecondHalf_108 rfl (lv_at hl 1 rfl) ?_
              refine qf_get hx hb hts inX6 hown hK hP (q0 := 78) (by decide) (hgU_78 ca o) rfl 1 (by decide) wq_131 (v := .ref (o + 79)) rfl dX6_readSecondHalf_109 ?_
              refine lv_iconst (v := 0) hx hb dX6_readSecondHalf_112 (by decide) ?_
              refine qa_aald hx hb hK hP (q0 := 79) (by decide) 5 rfl (N := 7) (hgU_79 ca o) rfl (gi_in (by decide) (by decide)) dX6_readSecondHalf_113 ?_
              refine lv_iconst (v := (-1)) hx hb dX6_readSecondHalf_114 (by decide) ?_
              refine qc_Sv2 (As := [.ref (o + 103), .ref (o + (80 + (0 : Int32).toNatClampNeg)), .int ((-1))]) (rest := []) (k0 := 3) (u_Reader_add_v7 l D ca o b z19 y19 J19 (-1)) kc_yX6_add ⟨hx, hb, hml, hown, hts⟩ wq_493 rfl rfl ⟨Nat.le_of_ble_eq_true rfl, Nat.le_of_ble_eq_true rfl⟩ wq_all hP hK hS qw_Ai rfl hl.1 rfl (Nat.le_of_ble_eq_true rfl) dX6_readSecondHalf_115 ⟨Nat.zero_le _, Nat.zero_le _⟩ (fun z21 y21 H locs h21 hP hS _ _ => ?_)
              have J21 : qJU b z21 := h21
              refine lv_iconst (v := 1) hx hb dX6_readSecondHalf_118 (by decide) ?_
              exact W.zret (v := 1) (ty := .boolean) hx hb hr rfl (fun t ht hW => ⟨⟨1, (z21, y21), rfl, ⟨⟨by decide, by decide⟩, J21⟩, by rw [ht]; exact hP, va_K.moved hW.alike hK⟩, hS.F ht⟩) hS.2.2 dX6_readSecondHalf_119
            · have t20 : r19.toInt = (0 : Int) := gl_eq c20
              refine lv_iconst (v := 0) hx hb dX6_readSecondHalf_102 (by decide) ?_
              exact W.zret (v := 0) (ty := .boolean) hx hb hr rfl (fun t ht hW => ⟨⟨0, (z19, y19), rfl, ⟨⟨by decide, by decide⟩, J19⟩, by rw [ht]; exact hP, va_K.moved hW.alike hK⟩, hS.F ht⟩) hS.2.2 dX6_readSecondHalf_103
        · have t13 : r1.toInt = (61 : Int) := gl_eq c13
          exfalso; omega
      · have t12 : r1.toInt ≠ (60 : Int) := gl_ne c12
        refine lv_iload_n hx hb dX6_readSecondHalf_43 rfl (lv_at hl 0 rfl) ?_
        refine lv_bipush (v := 62) hx hb dX6_readSecondHalf_44 (by decide) ?_
        refine lv_icmp_eq (tgt := 59) hx hb dX6_readSecondHalf_46 (by decide) (fun c22 => ?_) (fun c22 => ?_)
        · have t22 : r1.toInt = (62 : Int) := gl_eq c22
          refine lv_aload_n hx hb dX6_readSecondHalf_59 rfl (lv_at hl 1 rfl) ?_
          refine lv_iload_n hx hb dX6_readSecondHalf_60 rfl (lv_at hl 0 rfl) ?_
          refine lv_bipush (v := 61) hx hb dX6_readSecondHalf_61 (by decide) ?_
          refine lv_icmp_ne (tgt := 70) hx hb dX6_readSecondHalf_63 (by decide) (fun c23 => ?_) (fun c23 => ?_)
          · have t23 : r1.toInt ≠ (61 : Int) := gl_ne c23
            refine lv_iload_n hx hb dX6_readSecondHalf_70 rfl (lv_at hl 0 rfl) ?_
            refine lv_bipush (v := 60) hx hb dX6_readSecondHalf_71 (by decide) ?_
            refine lv_icmp_ne (tgt := 80) hx hb dX6_readSecondHalf_73 (by decide) (fun c24 => ?_) (fun c24 => ?_)
            · have t24 : r1.toInt ≠ (60 : Int) := gl_ne c24
              refine lv_iconst (v := 2) hx hb dX6_readSecondHalf_80 (by decide) ?_
              refine qf_put2 hx hb hts inX6 tyX6 tyX6_ok nmX6 hown hK hP hS qw_Ai (q0 := 78) (by decide) (hgU_78 ca o) rfl 11 (by decide) wq_142 rfl (x := 2) 11 rfl rfl rfl (Nat.le_of_ble_eq_true rfl) dX6_readSecondHalf_81 (fun z25 H locs hz25 hP hS => ?_)
              have J25 := jU_78_11 J0 hz25
              refine lv_aload_n hx hb dX6_readSecondHalf_84 rfl (lv_at hl 1 rfl) ?_
              refine lv_dup hx hb dX6_readSecondHalf_85 rfl ?_
              refine qf_get hx hb hts inX6 hown hK hP (q0 := 78) (by decide) (hgU_78 ca o) rfl 6 (by decide) wq_136 (v := .int (z25 78 6)) rfl dX6_readSecondHalf_86 ?_
              refine lv_topi (fun x26 e26 => ?_)
              refine lv_iconst (v := 1) hx hb dX6_readSecondHalf_89 (by decide) ?_
              refine lv_iadd hx hb dX6_readSecondHalf_90 ?_
              refine lv_topi (fun x27 e27 => ?_)
              refine qf_put2 hx hb hts inX6 tyX6 tyX6_ok nmX6 hown hK hP hS qw_Ai (q0 := 78) (by decide) (hgU_78 ca o) rfl 6 (by decide) wq_136 rfl (x := x27) 6 rfl rfl rfl (Nat.le_of_ble_eq_true rfl) dX6_readSecondHalf_91 (fun z28 H locs hz28 hP hS => ?_)
              have J28 := jU_78_6 J25 hz28
              refine lv_aload_n hx hb dX6_readSecondHalf_94 rfl (lv_at hl 1 rfl) ?_
              refine lv_iconst (v := 0) hx hb dX6_readSecondHalf_95 (by decide) ?_
              refine qc_Vi2 (As := [.int 0]) (rest := []) (k0 := 1) (u_Reader_readSide l D ca o b z28 y J28) kc_yX6_readSide ⟨hx, hb, hml, hown, hts⟩ wq_446 rfl rfl ⟨Nat.le_of_ble_eq_true rfl, Nat.le_of_ble_eq_true rfl⟩ wq_all hP hK hS qw_Ai (q0 := 78) (by decide) (hgU_78 ca o _ _) rfl rfl hl.1 rfl (Nat.le_of_ble_eq_true rfl) dX6_readSecondHalf_96 ⟨Nat.zero_le _, Nat.zero_le _⟩ (fun r29 z29 y29 H locs h29 hP hS _ _ => ?_)
              have J29 : qJU b z29 := h29.2
              have b29 : (0 : Int) ≤ r29.toInt ∧ r29.toInt ≤ 1 := h29.1
              refine lv_if_ne (tgt := 104) hx hb dX6_readSecondHalf_99 (by decide) (fun c30 => ?_) (fun c30 => ?_)
              · have t30 : r29.toInt ≠ (0 : Int) := gl_ne c30
                refine lv_aload_n hx hb dX6_readSecondHalf_104 rfl (lv_at hl 1 rfl) ?_
                refine qf_get hx hb hts inX6 hown hK hP (q0 := 78) (by decide) (hgU_78 ca o) rfl 4 (by decide) wq_134 (v := .ref (o + 103)) rfl dX6_readSecondHalf_105 ?_
                refine lv_aload_n hx hb dX6_readSecondHalf_108 rfl (lv_at hl 1 rfl) ?_
                refine qf_get hx hb hts inX6 hown hK hP (q0 := 78) (by decide) (hgU_78 ca o) rfl 1 (by decide) wq_131 (v := .ref (o + 79)) rfl dX6_readSecondHalf_109 ?_
                refine lv_iconst (v := 0) hx hb dX6_readSecondHalf_112 (by decide) ?_
                refine qa_aald hx hb hK hP (q0 := 79) (by decide) 5 rfl (N := 7) (hgU_79 ca o) rfl (gi_in (by decide) (by decide)) dX6_readSecondHalf_113 ?_
                refine lv_iconst (v := (-1)) hx hb dX6_readSecondHalf_114 (by decide) ?_
                refine qc_Sv2 (As := [.ref (o + 103), .ref (o + (80 + (0 : Int32).toNatClampNeg)), .int ((-1))]) (rest := []) (k0 := 3) (u_Reader_add_v7 l D ca o b z29 y29 J29 (-1)) kc_yX6_add ⟨hx, hb, hml, hown, hts⟩ wq_493 rfl rfl ⟨Nat.le_of_ble_eq_true rfl, Nat.le_of_ble_eq_true rfl⟩ wq_all hP hK hS qw_Ai rfl hl.1 rfl (Nat.le_of_ble_eq_true rfl) dX6_readSecondHalf_115 ⟨Nat.zero_le _, Nat.zero_le _⟩ (fun z31 y31 H locs h31 hP hS _ _ => ?_)
                have J31 : qJU b z31 := h31
                refine lv_iconst (v := 1) hx hb dX6_readSecondHalf_118 (by decide) ?_
                exact W.zret (v := 1) (ty := .boolean) hx hb hr rfl (fun t ht hW => ⟨⟨1, (z31, y31), rfl, ⟨⟨by decide, by decide⟩, J31⟩, by rw [ht]; exact hP, va_K.moved hW.alike hK⟩, hS.F ht⟩) hS.2.2 dX6_readSecondHalf_119
              · have t30 : r29.toInt = (0 : Int) := gl_eq c30
                refine lv_iconst (v := 0) hx hb dX6_readSecondHalf_102 (by decide) ?_
                exact W.zret (v := 0) (ty := .boolean) hx hb hr rfl (fun t ht hW => ⟨⟨0, (z29, y29), rfl, ⟨⟨by decide, by decide⟩, J29⟩, by rw [ht]; exact hP, va_K.moved hW.alike hK⟩, hS.F ht⟩) hS.2.2 dX6_readSecondHalf_103
            · have t24 : r1.toInt = (60 : Int) := gl_eq c24
              exfalso; omega
          · have t23 : r1.toInt = (61 : Int) := gl_eq c23
            exfalso; omega
        · have t22 : r1.toInt ≠ (62 : Int) := gl_ne c22
          refine lv_aload_n hx hb dX6_readSecondHalf_49 rfl (lv_at hl 1 rfl) ?_
          refine lv_iconst (v := 1) hx hb dX6_readSecondHalf_50 (by decide) ?_
          refine lv_aload_n hx hb dX6_readSecondHalf_51 rfl (lv_at hl 1 rfl) ?_
          refine qf_get hx hb hts inX6 hown hK hP (q0 := 78) (by decide) (hgU_78 ca o) rfl 6 (by decide) wq_136 (v := .int (z 78 6)) rfl dX6_readSecondHalf_52 ?_
          refine lv_topi (fun x32 e32 => ?_)
          refine qc_Vi2 (As := [.int 1, .int x32]) (rest := []) (k0 := 2) (u_Reader_fail l D ca o b z y J0 1 x32) kc_yX6_fail ⟨hx, hb, hml, hown, hts⟩ wq_450 rfl rfl ⟨Nat.le_of_ble_eq_true rfl, Nat.le_of_ble_eq_true rfl⟩ wq_all hP hK hS qw_Ai (q0 := 78) (by decide) (hgU_78 ca o _ _) rfl rfl hl.1 rfl (Nat.le_of_ble_eq_true rfl) dX6_readSecondHalf_55 ⟨Nat.zero_le _, Nat.zero_le _⟩ (fun r33 z33 y33 H locs h33 hP hS _ _ => ?_)
          have J33 : qJU b z33 := h33.2
          have b33 : (0 : Int) ≤ r33.toInt ∧ r33.toInt ≤ 0 := h33.1
          obtain rfl : r33 = 0 := lit_eq (k := 0) (K := 0) rfl (by omega) (by omega)
          exact W.zret (v := 0) (ty := .boolean) hx hb hr rfl (fun t ht hW => ⟨⟨0, (z33, y33), rfl, ⟨⟨by decide, by decide⟩, J33⟩, by rw [ht]; exact hP, va_K.moved hW.alike hK⟩, hS.F ht⟩) hS.2.2 dX6_readSecondHalf_58
  · have t2 : r1.toInt = (126 : Int) := gl_eq c2
    refine lv_aload_n hx hb dX6_readSecondHalf_11 rfl (lv_at hl 1 rfl) ?_
    refine lv_iconst (v := 3) hx hb dX6_readSecondHalf_12 (by decide) ?_
    refine qf_put2 hx hb hts inX6 tyX6 tyX6_ok nmX6 hown hK hP hS qw_Ai (q0 := 78) (by decide) (hgU_78 ca o) rfl 11 (by decide) wq_142 rfl (x := 3) 11 rfl rfl rfl (Nat.le_of_ble_eq_true rfl) dX6_readSecondHalf_13 (fun z34 H locs hz34 hP hS => ?_)
    have J34 := jU_78_11 J0 hz34
    refine lv_aload_n hx hb dX6_readSecondHalf_16 rfl (lv_at hl 1 rfl) ?_
    refine lv_dup hx hb dX6_readSecondHalf_17 rfl ?_
    refine qf_get hx hb hts inX6 hown hK hP (q0 := 78) (by decide) (hgU_78 ca o) rfl 6 (by decide) wq_136 (v := .int (z34 78 6)) rfl dX6_readSecondHalf_18 ?_
    refine lv_topi (fun x35 e35 => ?_)
    refine lv_iconst (v := 1) hx hb dX6_readSecondHalf_21 (by decide) ?_
    refine lv_iadd hx hb dX6_readSecondHalf_22 ?_
    refine lv_topi (fun x36 e36 => ?_)
    refine qf_put2 hx hb hts inX6 tyX6 tyX6_ok nmX6 hown hK hP hS qw_Ai (q0 := 78) (by decide) (hgU_78 ca o) rfl 6 (by decide) wq_136 rfl (x := x36) 6 rfl rfl rfl (Nat.le_of_ble_eq_true rfl) dX6_readSecondHalf_23 (fun z37 H locs hz37 hP hS => ?_)
    have J37 := jU_78_6 J34 hz37
    refine lv_aload_n hx hb dX6_readSecondHalf_26 rfl (lv_at hl 1 rfl) ?_
    refine qc_Vi2 (As := []) (rest := []) (k0 := 0) (u_Reader_readDivisor l D ca o b z37 y J37) kc_yX6_readDivisor ⟨hx, hb, hml, hown, hts⟩ wq_500 rfl rfl ⟨Nat.le_of_ble_eq_true rfl, Nat.le_of_ble_eq_true rfl⟩ wq_all hP hK hS qw_Ai (q0 := 78) (by decide) (hgU_78 ca o _ _) rfl rfl hl.1 rfl (Nat.le_of_ble_eq_true rfl) dX6_readSecondHalf_27 ⟨Nat.zero_le _, Nat.zero_le _⟩ (fun r38 z38 y38 H locs h38 hP hS _ _ => ?_)
    have J38 : qJU b z38 := h38.2
    have b38 : (0 : Int) ≤ r38.toInt ∧ r38.toInt ≤ 1 := h38.1
    exact W.zret (v := r38) (ty := .boolean) hx hb hr (nb_ok ⟨by omega, by omega⟩) (fun t ht hW => ⟨⟨r38, (z38, y38), rfl, ⟨⟨by omega, by omega⟩, J38⟩, by rw [ht]; exact hP, va_K.moved hW.alike hK⟩, hS.F ht⟩) hS.2.2 dX6_readSecondHalf_30
set_option maxRecDepth 100000 in
set_option maxHeartbeats 8000000 in
theorem u_Reader_read (l : Launch) (D : va_G) (ca : Nat → ClassId) (o : Nat) (b z : Nat → Nat → Int32) (y : Nat → Nat → Int64) (J0 : qJU b z) (a0 : Int32) (a1 : Int32) (a2 : Int32)  : qM l yX6_read cX6_read 4 (some .boolean) 32 824 (qPre D vwCl (qT6 ca) o 132 (qG (GU ca o) z y) [.ref (o + 78), .int a0, .int a1, .int a2]) (va_Qi (fun r u => ((0 : Int) ≤ r.toInt ∧ r.toInt ≤ 1) ∧ qJU b u.1) (qB D vwCl (qT6 ca) o 132 (fun u : qZ => qG (GU ca o) u.1 u.2)) (qw_A o 132)) (qw_A o 132) := by
  refine Met.ofW (cc := cX6_read) (maxL := 4) (ret := (some .boolean)) (by decide) rfl ?_
  intro p e s m args below meth c s₁ B hml hv
  obtain ⟨rfl, hP, hK⟩ := hv
  have hx := B.exec
  have hb := B.bytes
  have hr := B.returns
  have hts0 := atoms_spec (ws := Cond.code yX6_read cX6_read 4 (some .boolean) :: qtbl) B.pre
  have hts : ∀ w ∈ qtbl, w.before _ s = true := fun w h => hts0 w (List.mem_cons_of_mem _ h)
  have hown : s.vm.findClass RX6 = some m.cls := findClass_of_methodNamed B.named
  have hlocks := B.notSynchronized
  have hS : va_S (qw_A o 132) s.heap s.heap [] := va_S.rf
  have hl := lv_entry ([.ref (o + 78), .int a0, .int a1, .int a2]) (n := 4) (Nat.le_of_ble_eq_true rfl)
  rw [lg_entry_eq]
  generalize (lg_sl ([.ref (o + 78), .int a0, .int a1, .int a2]) ++ List.replicate (4 - (lg_sl ([.ref (o + 78), .int a0, .int a1, .int a2])).length) Slot.unset).toArray = ls at hl ⊢
  have hl : lv_has ls 4 [(0, .ref (o + 78)), (1, .int a0), (2, .int a1), (3, .int a2)] := hl
  refine lv_aload_n hx hb dX6_read_0 rfl (lv_at hl 0 rfl) ?_
  refine lv_iload_n hx hb dX6_read_1 rfl (lv_at hl 1 rfl) ?_
  refine lv_aload_n hx hb dX6_read_2 rfl (lv_at hl 0 rfl) ?_
  refine qf_get hx hb hts inX6 hown hK hP (q0 := 78) (by decide) (hgU_78 ca o) rfl 0 (by decide) wq_130 (v := .ref (o + 77)) rfl dX6_read_3 ?_
  refine qa_len hx hb hK hP (q0 := 77) (by decide) 0 (hgU_77 ca o) rfl (v := 260) rfl dX6_read_6 ?_
  refine va_mmin hx hb (hml.trans hl.1.symm) hown (hts _ wq_443) (hts _ wq_444) (hts _ wq_14) (hts _ wq_445) (Nat.le_of_ble_eq_true rfl) (Nat.le_of_ble_eq_true rfl) (Nat.zero_le _) (Nat.zero_le _) dX6_read_7 ?_
  refine lv_topi (fun x1 e1 => ?_)
  have t1 : x1.toInt = min a0.toInt (260 : Int) := ga_min e1
  refine qf_put2 hx hb hts inX6 tyX6 tyX6_ok nmX6 hown hK hP hS qw_Ai (q0 := 78) (by decide) (hgU_78 ca o) rfl 5 (by decide) wq_135 rfl (x := x1) 5 rfl rfl rfl (Nat.le_of_ble_eq_true rfl) dX6_read_10 (fun z2 H locs hz2 hP hS => ?_)
  have J2 := jU_78_5 J0 hz2
  refine lv_aload_n hx hb dX6_read_13 rfl (lv_at hl 0 rfl) ?_
  refine lv_iload_n hx hb dX6_read_14 rfl (lv_at hl 2 rfl) ?_
  refine qf_put2 hx hb hts inX6 tyX6 tyX6_ok nmX6 hown hK hP hS qw_Ai (q0 := 78) (by decide) (hgU_78 ca o) rfl 7 (by decide) wq_137 rfl (x := a1) 7 rfl rfl rfl (Nat.le_of_ble_eq_true rfl) dX6_read_15 (fun z3 H locs hz3 hP hS => ?_)
  have J3 := jU_78_7 J2 hz3
  refine lv_aload_n hx hb dX6_read_18 rfl (lv_at hl 0 rfl) ?_
  refine lv_iconst (v := 0) hx hb dX6_read_19 (by decide) ?_
  refine qf_put2 hx hb hts inX6 tyX6 tyX6_ok nmX6 hown hK hP hS qw_Ai (q0 := 78) (by decide) (hgU_78 ca o) rfl 6 (by decide) wq_136 rfl (x := 0) 6 rfl rfl rfl (Nat.le_of_ble_eq_true rfl) dX6_read_20 (fun z4 H locs hz4 hP hS => ?_)
  have J4 := jU_78_6 J3 hz4
  refine lv_aload_n hx hb dX6_read_23 rfl (lv_at hl 0 rfl) ?_
  refine lv_iconst (v := 0) hx hb dX6_read_24 (by decide) ?_
  refine qf_put2 hx hb hts inX6 tyX6 tyX6_ok nmX6 hown hK hP hS qw_Ai (q0 := 78) (by decide) (hgU_78 ca o) rfl 8 (by decide) wq_138 rfl (x := 0) 8 rfl rfl rfl (Nat.le_of_ble_eq_true rfl) dX6_read_25 (fun z5 H locs hz5 hP hS => ?_)
  have J5 := jU_78_8 J4 hz5
  refine lv_aload_n hx hb dX6_read_28 rfl (lv_at hl 0 rfl) ?_
  refine lv_iconst (v := 0) hx hb dX6_read_29 (by decide) ?_
  refine qf_put2 hx hb hts inX6 tyX6 tyX6_ok nmX6 hown hK hP hS qw_Ai (q0 := 78) (by decide) (hgU_78 ca o) rfl 10 (by decide) wq_140 rfl (x := 0) 10 rfl rfl rfl (Nat.le_of_ble_eq_true rfl) dX6_read_30 (fun z6 H locs hz6 hP hS => ?_)
  have J6 := jU_78_10 J5 hz6
  refine lv_aload_n hx hb dX6_read_33 rfl (lv_at hl 0 rfl) ?_
  refine lv_iconst (v := 0) hx hb dX6_read_34 (by decide) ?_
  refine qf_put2 hx hb hts inX6 tyX6 tyX6_ok nmX6 hown hK hP hS qw_Ai (q0 := 78) (by decide) (hgU_78 ca o) rfl 11 (by decide) wq_142 rfl (x := 0) 11 rfl rfl rfl (Nat.le_of_ble_eq_true rfl) dX6_read_35 (fun z7 H locs hz7 hP hS => ?_)
  have J7 := jU_78_11 J6 hz7
  refine lv_aload_n hx hb dX6_read_38 rfl (lv_at hl 0 rfl) ?_
  refine lv_iconst (v := 0) hx hb dX6_read_39 (by decide) ?_
  refine qf_put2 hx hb hts inX6 tyX6 tyX6_ok nmX6 hown hK hP hS qw_Ai (q0 := 78) (by decide) (hgU_78 ca o) rfl 12 (by decide) wq_143 rfl (x := 0) 12 rfl rfl rfl (Nat.le_of_ble_eq_true rfl) dX6_read_40 (fun z8 H locs hz8 hP hS => ?_)
  have J8 := jU_78_12 J7 hz8
  refine lv_aload_n hx hb dX6_read_43 rfl (lv_at hl 0 rfl) ?_
  refine lv_iconst (v := 0) hx hb dX6_read_44 (by decide) ?_
  refine qf_put2 hx hb hts inX6 tyX6 tyX6_ok nmX6 hown hK hP hS qw_Ai (q0 := 78) (by decide) (hgU_78 ca o) rfl 13 (by decide) wq_144 rfl (x := 0) 13 rfl rfl rfl (Nat.le_of_ble_eq_true rfl) dX6_read_45 (fun z9 H locs hz9 hP hS => ?_)
  have J9 := jU_78_13 J8 hz9
  refine lv_aload_n hx hb dX6_read_48 rfl (lv_at hl 0 rfl) ?_
  refine lv_iconst (v := 0) hx hb dX6_read_49 (by decide) ?_
  refine qf_put2 hx hb hts inX6 tyX6 tyX6_ok nmX6 hown hK hP hS qw_Ai (q0 := 78) (by decide) (hgU_78 ca o) rfl 14 (by decide) wq_146 rfl (x := 0) 14 rfl rfl rfl (Nat.le_of_ble_eq_true rfl) dX6_read_50 (fun z10 H locs hz10 hP hS => ?_)
  have J10 := jU_78_14 J9 hz10
  refine lv_aload_n hx hb dX6_read_53 rfl (lv_at hl 0 rfl) ?_
  refine lv_iconst (v := 0) hx hb dX6_read_54 (by decide) ?_
  refine qc_Vi2 (As := [.int 0]) (rest := []) (k0 := 1) (u_Reader_readSide l D ca o b z10 y J10) kc_yX6_readSide ⟨hx, hb, hml, hown, hts⟩ wq_446 rfl rfl ⟨Nat.le_of_ble_eq_true rfl, Nat.le_of_ble_eq_true rfl⟩ wq_all hP hK hS qw_Ai (q0 := 78) (by decide) (hgU_78 ca o _ _) rfl rfl hl.1 rfl (Nat.le_of_ble_eq_true rfl) dX6_read_55 ⟨Nat.zero_le _, Nat.zero_le _⟩ (fun r11 z11 y11 H locs h11 hP hS _ _ => ?_)
  have J11 : qJU b z11 := h11.2
  have b11 : (0 : Int) ≤ r11.toInt ∧ r11.toInt ≤ 1 := h11.1
  refine lv_if_ne (tgt := 63) hx hb dX6_read_58 (by decide) (fun c12 => ?_) (fun c12 => ?_)
  · have t12 : r11.toInt ≠ (0 : Int) := gl_ne c12
    refine lv_aload_n hx hb dX6_read_63 rfl (lv_at hl 0 rfl) ?_
    refine qf_get hx hb hts inX6 hown hK hP (q0 := 78) (by decide) (hgU_78 ca o) rfl 1 (by decide) wq_131 (v := .ref (o + 79)) rfl dX6_read_64 ?_
    refine lv_iconst (v := 0) hx hb dX6_read_67 (by decide) ?_
    refine qa_aald hx hb hK hP (q0 := 79) (by decide) 5 rfl (N := 7) (hgU_79 ca o) rfl (gi_in (by decide) (by decide)) dX6_read_68 ?_
    refine lv_iconst (v := 0) hx hb dX6_read_69 (by decide) ?_
    refine lv_aload_n hx hb dX6_read_70 rfl (lv_at hl 0 rfl) ?_
    refine qf_get hx hb hts inX6 hown hK hP (q0 := 78) (by decide) (hgU_78 ca o) rfl 4 (by decide) wq_134 (v := .ref (o + 103)) rfl dX6_read_71 ?_
    refine lv_iconst (v := 0) hx hb dX6_read_74 (by decide) ?_
    refine lv_bipush (v := 7) hx hb dX6_read_75 (by decide) ?_
    refine qa_copy2 hx hb (hml.trans hl.1.symm) hown (hts _ wq_483) (hts _ wq_485) (hts _ wq_484) (hts _ wq_15) hK hP hS qw_Ai (q0 := 80) (q1 := 103) (by decide) (by decide) 0 (hgU_80 ca o) (hgU_103 ca o) rfl (sp := 0) (dp := 0) (k := 7) (by decide) (by decide) (by decide) (by decide) (by decide) (Nat.le_of_ble_eq_true rfl) (Nat.le_of_ble_eq_true rfl) dX6_read_77 (fun z13 H locs hz13 hP hS => ?_)
    have J13 := jfU_103 J11 hz13
    refine lv_iload_n hx hb dX6_read_80 rfl (lv_at hl 3 rfl) ?_
    refine lv_if_eq (tgt := 91) hx hb dX6_read_81 (by decide) (fun c14 => ?_) (fun c14 => ?_)
    · have t14 : a2.toInt = (0 : Int) := gl_eq c14
      refine lv_aload_n hx hb dX6_read_91 rfl (lv_at hl 0 rfl) ?_
      refine qf_get hx hb hts inX6 hown hK hP (q0 := 78) (by decide) (hgU_78 ca o) rfl 6 (by decide) wq_136 (v := .int (z13 78 6)) rfl dX6_read_92 ?_
      refine lv_topi (fun x15 e15 => ?_)
      refine lv_aload_n hx hb dX6_read_95 rfl (lv_at hl 0 rfl) ?_
      refine qf_get hx hb hts inX6 hown hK hP (q0 := 78) (by decide) (hgU_78 ca o) rfl 5 (by decide) wq_135 (v := .int (z13 78 5)) rfl dX6_read_96 ?_
      refine lv_topi (fun x16 e16 => ?_)
      refine lv_icmp_eq (tgt := 114) hx hb dX6_read_99 (by decide) (fun c17 => ?_) (fun c17 => ?_)
      · have t17 : x15.toInt = x16.toInt := gl_eq c17
        refine lv_iconst (v := 1) hx hb dX6_read_114 (by decide) ?_
        refine lv_goto (tgt := 119) hx hb dX6_read_115 (by decide) ?_
        exact W.zret (v := 1) (ty := .boolean) hx hb hr rfl (fun t ht hW => ⟨⟨1, (z13, y11), rfl, ⟨⟨by decide, by decide⟩, J13⟩, by rw [ht]; exact hP, va_K.moved hW.alike hK⟩, hS.F ht⟩) hS.2.2 dX6_read_119
      · have t17 : x15.toInt ≠ x16.toInt := gl_ne c17
        refine lv_aload_n hx hb dX6_read_102 rfl (lv_at hl 0 rfl) ?_
        refine lv_iconst (v := 1) hx hb dX6_read_103 (by decide) ?_
        refine lv_aload_n hx hb dX6_read_104 rfl (lv_at hl 0 rfl) ?_
        refine qf_get hx hb hts inX6 hown hK hP (q0 := 78) (by decide) (hgU_78 ca o) rfl 6 (by decide) wq_136 (v := .int (z13 78 6)) rfl dX6_read_105 ?_
        refine lv_topi (fun x18 e18 => ?_)
        have ag18 : x18.toInt = x15.toInt := congrArg Int32.toInt (e18.trans e15.symm)
        refine qc_Vi2 (As := [.int 1, .int x18]) (rest := []) (k0 := 2) (u_Reader_fail l D ca o b z13 y11 J13 1 x18) kc_yX6_fail ⟨hx, hb, hml, hown, hts⟩ wq_450 rfl rfl ⟨Nat.le_of_ble_eq_true rfl, Nat.le_of_ble_eq_true rfl⟩ wq_all hP hK hS qw_Ai (q0 := 78) (by decide) (hgU_78 ca o _ _) rfl rfl hl.1 rfl (Nat.le_of_ble_eq_true rfl) dX6_read_108 ⟨Nat.zero_le _, Nat.zero_le _⟩ (fun r19 z19 y19 H locs h19 hP hS _ _ => ?_)
        have J19 : qJU b z19 := h19.2
        have b19 : (0 : Int) ≤ r19.toInt ∧ r19.toInt ≤ 0 := h19.1
        obtain rfl : r19 = 0 := lit_eq (k := 0) (K := 0) rfl (by omega) (by omega)
        refine lv_if_eq (tgt := 118) hx hb dX6_read_111 (by decide) (fun _ => ?_) (fun q => absurd (by decide) q)
        refine lv_iconst (v := 0) hx hb dX6_read_118 (by decide) ?_
        exact W.zret (v := 0) (ty := .boolean) hx hb hr rfl (fun t ht hW => ⟨⟨0, (z19, y19), rfl, ⟨⟨by decide, by decide⟩, J19⟩, by rw [ht]; exact hP, va_K.moved hW.alike hK⟩, hS.F ht⟩) hS.2.2 dX6_read_119
    · have t14 : a2.toInt ≠ (0 : Int) := gl_ne c14
      refine lv_aload_n hx hb dX6_read_84 rfl (lv_at hl 0 rfl) ?_
      refine qc_Vi2 (As := []) (rest := []) (k0 := 0) (u_Reader_readSecondHalf l D ca o b z13 y11 J13) kc_yX6_readSecondHalf ⟨hx, hb, hml, hown, hts⟩ wq_496 rfl rfl ⟨Nat.le_of_ble_eq_true rfl, Nat.le_of_ble_eq_true rfl⟩ wq_all hP hK hS qw_Ai (q0 := 78) (by decide) (hgU_78 ca o _ _) rfl rfl hl.1 rfl (Nat.le_of_ble_eq_true rfl) dX6_read_85 ⟨Nat.zero_le _, Nat.zero_le _⟩ (fun r20 z20 y20 H locs h20 hP hS _ _ => ?_)
      have J20 : qJU b z20 := h20.2
      have b20 : (0 : Int) ≤ r20.toInt ∧ r20.toInt ≤ 1 := h20.1
      refine lv_if_eq (tgt := 118) hx hb dX6_read_88 (by decide) (fun c21 => ?_) (fun c21 => ?_)
      · have t21 : r20.toInt = (0 : Int) := gl_eq c21
        refine lv_iconst (v := 0) hx hb dX6_read_118 (by decide) ?_
        exact W.zret (v := 0) (ty := .boolean) hx hb hr rfl (fun t ht hW => ⟨⟨0, (z20, y20), rfl, ⟨⟨by decide, by decide⟩, J20⟩, by rw [ht]; exact hP, va_K.moved hW.alike hK⟩, hS.F ht⟩) hS.2.2 dX6_read_119
      · have t21 : r20.toInt ≠ (0 : Int) := gl_ne c21
        refine lv_aload_n hx hb dX6_read_91 rfl (lv_at hl 0 rfl) ?_
        refine qf_get hx hb hts inX6 hown hK hP (q0 := 78) (by decide) (hgU_78 ca o) rfl 6 (by decide) wq_136 (v := .int (z20 78 6)) rfl dX6_read_92 ?_
        refine lv_topi (fun x22 e22 => ?_)
        refine lv_aload_n hx hb dX6_read_95 rfl (lv_at hl 0 rfl) ?_
        refine qf_get hx hb hts inX6 hown hK hP (q0 := 78) (by decide) (hgU_78 ca o) rfl 5 (by decide) wq_135 (v := .int (z20 78 5)) rfl dX6_read_96 ?_
        refine lv_topi (fun x23 e23 => ?_)
        refine lv_icmp_eq (tgt := 114) hx hb dX6_read_99 (by decide) (fun c24 => ?_) (fun c24 => ?_)
        · have t24 : x22.toInt = x23.toInt := gl_eq c24
          refine lv_iconst (v := 1) hx hb dX6_read_114 (by decide) ?_
          refine lv_goto (tgt := 119) hx hb dX6_read_115 (by decide) ?_
          exact W.zret (v := 1) (ty := .boolean) hx hb hr rfl (fun t ht hW => ⟨⟨1, (z20, y20), rfl, ⟨⟨by decide, by decide⟩, J20⟩, by rw [ht]; exact hP, va_K.moved hW.alike hK⟩, hS.F ht⟩) hS.2.2 dX6_read_119
        · have t24 : x22.toInt ≠ x23.toInt := gl_ne c24
          refine lv_aload_n hx hb dX6_read_102 rfl (lv_at hl 0 rfl) ?_
          refine lv_iconst (v := 1) hx hb dX6_read_103 (by decide) ?_
          refine lv_aload_n hx hb dX6_read_104 rfl (lv_at hl 0 rfl) ?_
          refine qf_get hx hb hts inX6 hown hK hP (q0 := 78) (by decide) (hgU_78 ca o) rfl 6 (by decide) wq_136 (v := .int (z20 78 6)) rfl dX6_read_105 ?_
          refine lv_topi (fun x25 e25 => ?_)
          have ag25 : x25.toInt = x22.toInt := congrArg Int32.toInt (e25.trans e22.symm)
          refine qc_Vi2 (As := [.int 1, .int x25]) (rest := []) (k0 := 2) (u_Reader_fail l D ca o b z20 y20 J20 1 x25) kc_yX6_fail ⟨hx, hb, hml, hown, hts⟩ wq_450 rfl rfl ⟨Nat.le_of_ble_eq_true rfl, Nat.le_of_ble_eq_true rfl⟩ wq_all hP hK hS qw_Ai (q0 := 78) (by decide) (hgU_78 ca o _ _) rfl rfl hl.1 rfl (Nat.le_of_ble_eq_true rfl) dX6_read_108 ⟨Nat.zero_le _, Nat.zero_le _⟩ (fun r26 z26 y26 H locs h26 hP hS _ _ => ?_)
          have J26 : qJU b z26 := h26.2
          have b26 : (0 : Int) ≤ r26.toInt ∧ r26.toInt ≤ 0 := h26.1
          obtain rfl : r26 = 0 := lit_eq (k := 0) (K := 0) rfl (by omega) (by omega)
          refine lv_if_eq (tgt := 118) hx hb dX6_read_111 (by decide) (fun _ => ?_) (fun q => absurd (by decide) q)
          refine lv_iconst (v := 0) hx hb dX6_read_118 (by decide) ?_
          exact W.zret (v := 0) (ty := .boolean) hx hb hr rfl (fun t ht hW => ⟨⟨0, (z26, y26), rfl, ⟨⟨by decide, by decide⟩, J26⟩, by rw [ht]; exact hP, va_K.moved hW.alike hK⟩, hS.F ht⟩) hS.2.2 dX6_read_119
  · have t12 : r11.toInt = (0 : Int) := gl_eq c12
    refine lv_iconst (v := 0) hx hb dX6_read_61 (by decide) ?_
    exact W.zret (v := 0) (ty := .boolean) hx hb hr rfl (fun t ht hW => ⟨⟨0, (z11, y11), rfl, ⟨⟨by decide, by decide⟩, J11⟩, by rw [ht]; exact hP, va_K.moved hW.alike hK⟩, hS.F ht⟩) hS.2.2 dX6_read_62
set_option maxRecDepth 100000 in
set_option maxHeartbeats 8000000 in
theorem u_Told_lived (l : Launch) (D : va_G) (ca : Nat → ClassId) (o : Nat) (b z : Nat → Nat → Int32) (y : Nat → Nat → Int64) (J0 : qJU b z) (a0 : Int32)  : qM l yX9_lived cX9_lived 2 (some .int) 2 60 (qPre D vwCl (qT6 ca) o 132 (qG (GU ca o) z y) [.ref (o + 1), .int a0]) (va_Qi (fun r (_ : Unit) => True) (qB D vwCl (qT6 ca) o 132 (fun _ : Unit => qG (GU ca o) z y)) (qw_A o 132)) (qw_A o 132) := by
  refine Met.ofW (cc := cX9_lived) (maxL := 2) (ret := (some .int)) (by decide) rfl ?_
  intro p e s m args below meth c s₁ B hml hv
  obtain ⟨rfl, hP, hK⟩ := hv
  have hx := B.exec
  have hb := B.bytes
  have hr := B.returns
  have hts0 := atoms_spec (ws := Cond.code yX9_lived cX9_lived 2 (some .int) :: qtbl) B.pre
  have hts : ∀ w ∈ qtbl, w.before _ s = true := fun w h => hts0 w (List.mem_cons_of_mem _ h)
  have hown : s.vm.findClass RX9 = some m.cls := findClass_of_methodNamed B.named
  have hlocks := B.notSynchronized
  have hS : va_S (qw_A o 132) s.heap s.heap [] := va_S.rf
  have hl := lv_entry ([.ref (o + 1), .int a0]) (n := 2) (Nat.le_of_ble_eq_true rfl)
  rw [lg_entry_eq]
  generalize (lg_sl ([.ref (o + 1), .int a0]) ++ List.replicate (2 - (lg_sl ([.ref (o + 1), .int a0])).length) Slot.unset).toArray = ls at hl ⊢
  have hl : lv_has ls 2 [(0, .ref (o + 1)), (1, .int a0)] := hl
  refine lv_iload_n hx hb dX9_lived_0 rfl (lv_at hl 1 rfl) ?_
  refine lv_if_lt (tgt := 26) hx hb dX9_lived_1 (by decide) (fun c1 => ?_) (fun c1 => ?_)
  · have t1 : a0.toInt < (0 : Int) := gl_lt c1
    refine lv_aload_n hx hb dX9_lived_26 rfl (lv_at hl 0 rfl) ?_
    refine qf_get hx hb hts inX9 hown hK hP (q0 := 1) (by decide) (hgU_1 ca o) rfl 7 (by decide) wq_102 (v := .int (z 1 7)) rfl dX9_lived_27 ?_
    refine lv_topi (fun x2 e2 => ?_)
    exact W.iret (v := x2) hx hb hr (fun t ht hW => ⟨⟨x2, (), rfl, trivial, by rw [ht]; exact hP, va_K.moved hW.alike hK⟩, hS.F ht⟩) hS.2.2 dX9_lived_30
  · have t1 : a0.toInt ≥ (0 : Int) := gl_nlt c1
    refine lv_iload_n hx hb dX9_lived_4 rfl (lv_at hl 1 rfl) ?_
    refine lv_bipush (v := 6) hx hb dX9_lived_5 (by decide) ?_
    refine lv_icmp_ge (tgt := 26) hx hb dX9_lived_7 (by decide) (fun c3 => ?_) (fun c3 => ?_)
    · have t3 : a0.toInt ≥ (6 : Int) := gl_le c3
      refine lv_aload_n hx hb dX9_lived_26 rfl (lv_at hl 0 rfl) ?_
      refine qf_get hx hb hts inX9 hown hK hP (q0 := 1) (by decide) (hgU_1 ca o) rfl 7 (by decide) wq_102 (v := .int (z 1 7)) rfl dX9_lived_27 ?_
      refine lv_topi (fun x4 e4 => ?_)
      exact W.iret (v := x4) hx hb hr (fun t ht hW => ⟨⟨x4, (), rfl, trivial, by rw [ht]; exact hP, va_K.moved hW.alike hK⟩, hS.F ht⟩) hS.2.2 dX9_lived_30
    · have t3 : a0.toInt < (6 : Int) := gl_nle c3
      refine lv_aload_n hx hb dX9_lived_10 rfl (lv_at hl 0 rfl) ?_
      refine qf_get hx hb hts inX9 hown hK hP (q0 := 1) (by decide) (hgU_1 ca o) rfl 7 (by decide) wq_102 (v := .int (z 1 7)) rfl dX9_lived_11 ?_
      refine lv_topi (fun x5 e5 => ?_)
      refine lv_aload_n hx hb dX9_lived_14 rfl (lv_at hl 0 rfl) ?_
      refine qf_get hx hb hts inX9 hown hK hP (q0 := 1) (by decide) (hgU_1 ca o) rfl 2 (by decide) wq_89 (v := .ref (o + 4)) rfl dX9_lived_15 ?_
      refine lv_iload_n hx hb dX9_lived_18 rfl (lv_at hl 1 rfl) ?_
      refine qa_iald hx hb hK hP (q0 := 4) (by decide) 0 (N := 6) (hgU_4 ca o) rfl (gi_in (by omega) (by omega)) dX9_lived_19 ?_
      refine lv_topi (fun x6 e6 => ?_)
      refine va_mmin hx hb (hml.trans hl.1.symm) hown (hts _ wq_512) (hts _ wq_444) (hts _ wq_14) (hts _ wq_445) (Nat.le_of_ble_eq_true rfl) (Nat.le_of_ble_eq_true rfl) (Nat.zero_le _) (Nat.zero_le _) dX9_lived_20 ?_
      refine lv_topi (fun x7 e7 => ?_)
      have t7 : x7.toInt = min x5.toInt x6.toInt := ga_min e7
      refine lv_goto (tgt := 30) hx hb dX9_lived_23 (by decide) ?_
      exact W.iret (v := x7) hx hb hr (fun t ht hW => ⟨⟨x7, (), rfl, trivial, by rw [ht]; exact hP, va_K.moved hW.alike hK⟩, hS.F ht⟩) hS.2.2 dX9_lived_30
set_option maxRecDepth 100000 in
set_option maxHeartbeats 8000000 in
theorem u_Reader_writeTo (l : Launch) (D : va_G) (ca : Nat → ClassId) (o : Nat) (b z : Nat → Nat → Int32) (y : Nat → Nat → Int64) (J0 : qJU b z) {i1_ : Nat} (hi1_ : i1_ < 16)  : qM l yX6_writeTo cX6_writeTo 4 none 3 81 (qPre D vwCl (qT6 ca) o 132 (qG (GU ca o) z y) [.ref (o + 78), .ref (o + (7 + 2 * i1_)), .ref (o + 1)]) (va_Qv (fun u => qJU b u.1) (qB D vwCl (qT6 ca) o 132 (fun u : qZ => qG (GU ca o) u.1 u.2)) (qw_A o 132)) (qw_A o 132) := by
  refine Met.ofW (cc := cX6_writeTo) (maxL := 4) (ret := none) (by decide) rfl ?_
  intro p e s m args below meth c s₁ B hml hv
  obtain ⟨rfl, hP, hK⟩ := hv
  have hx := B.exec
  have hb := B.bytes
  have hr := B.returns
  have hts0 := atoms_spec (ws := Cond.code yX6_writeTo cX6_writeTo 4 none :: qtbl) B.pre
  have hts : ∀ w ∈ qtbl, w.before _ s = true := fun w h => hts0 w (List.mem_cons_of_mem _ h)
  have hown : s.vm.findClass RX6 = some m.cls := findClass_of_methodNamed B.named
  have hlocks := B.notSynchronized
  have hS : va_S (qw_A o 132) s.heap s.heap [] := va_S.rf
  have hl := lv_entry ([.ref (o + 78), .ref (o + (7 + 2 * i1_)), .ref (o + 1)]) (n := 4) (Nat.le_of_ble_eq_true rfl)
  rw [lg_entry_eq]
  generalize (lg_sl ([.ref (o + 78), .ref (o + (7 + 2 * i1_)), .ref (o + 1)]) ++ List.replicate (4 - (lg_sl ([.ref (o + 78), .ref (o + (7 + 2 * i1_)), .ref (o + 1)])).length) Slot.unset).toArray = ls at hl ⊢
  have hl : lv_has ls 4 [(0, .ref (o + 78)), (1, .ref (o + (7 + 2 * i1_))), (2, .ref (o + 1))] := hl
  refine lv_aload_n hx hb dX6_writeTo_0 rfl (lv_at hl 0 rfl) ?_
  refine qf_get hx hb hts inX6 hown hK hP (q0 := 78) (by decide) (hgU_78 ca o) rfl 4 (by decide) wq_134 (v := .ref (o + 103)) rfl dX6_writeTo_1 ?_
  refine lv_iconst (v := 0) hx hb dX6_writeTo_4 (by decide) ?_
  refine lv_aload_n hx hb dX6_writeTo_5 rfl (lv_at hl 1 rfl) ?_
  refine qf_get hx hb hts inX5 hown hK hP (q0 := 7 + 2 * i1_) (show _ < _ from by have := hi1_; omega) (hgU_LT ca o hi1_) rfl 0 (by decide) wq_42 (v := .ref (o + (7 + 2 * i1_ + 1))) rfl dX6_writeTo_6 ?_
  refine lv_iconst (v := 0) hx hb dX6_writeTo_9 (by decide) ?_
  refine lv_bipush (v := 6) hx hb dX6_writeTo_10 (by decide) ?_
  refine qa_copy2 hx hb (hml.trans hl.1.symm) hown (hts _ wq_483) (hts _ wq_485) (hts _ wq_484) (hts _ wq_15) hK hP hS qw_Ai (q0 := 103) (q1 := 7 + 2 * i1_ + 1) (by decide) (show _ < _ from by have := hi1_; omega) 0 (hgU_103 ca o) (hgU_AT ca o hi1_) rfl (sp := 0) (dp := 0) (k := 6) (by decide) (by decide) (by decide) (by decide) (by decide) (Nat.le_of_ble_eq_true rfl) (Nat.le_of_ble_eq_true rfl) dX6_writeTo_12 (fun z1 H locs hz1 hP hS => ?_)
  have J1 := jfU_L (c := 7 + 2 * i1_ + 1) (by have := hi1_; omega) J0 hz1
  refine lv_aload_n hx hb dX6_writeTo_15 rfl (lv_at hl 1 rfl) ?_
  refine lv_aload_n hx hb dX6_writeTo_16 rfl (lv_at hl 0 rfl) ?_
  refine qf_get hx hb hts inX6 hown hK hP (q0 := 78) (by decide) (hgU_78 ca o) rfl 4 (by decide) wq_134 (v := .ref (o + 103)) rfl dX6_writeTo_17 ?_
  refine lv_bipush (v := 6) hx hb dX6_writeTo_20 (by decide) ?_
  refine qa_iald hx hb hK hP (q0 := 103) (by decide) 0 (N := 7) (hgU_103 ca o) rfl (gi_in (by decide) (by decide)) dX6_writeTo_22 ?_
  refine lv_topi (fun x2 e2 => ?_)
  refine qf_put2 hx hb hts inX5 tyX5 tyX5_ok nmX5 hown hK hP hS qw_Ai (q0 := 7 + 2 * i1_) (show _ < _ from by have := hi1_; omega) (hgU_LT ca o hi1_) rfl 1 (by decide) wq_47 rfl (x := x2) 1 rfl rfl rfl (Nat.le_of_ble_eq_true rfl) dX6_writeTo_23 (fun z3 H locs hz3 hP hS => ?_)
  have J3 := jU_L (c := 7 + 2 * i1_) (by have := hi1_; omega) J1 hz3
  refine lv_aload_n hx hb dX6_writeTo_26 rfl (lv_at hl 1 rfl) ?_
  refine lv_aload_n hx hb dX6_writeTo_27 rfl (lv_at hl 0 rfl) ?_
  refine qf_get hx hb hts inX6 hown hK hP (q0 := 78) (by decide) (hgU_78 ca o) rfl 4 (by decide) wq_134 (v := .ref (o + 103)) rfl dX6_writeTo_28 ?_
  refine lv_bipush (v := 6) hx hb dX6_writeTo_31 (by decide) ?_
  refine qa_iald hx hb hK hP (q0 := 103) (by decide) 0 (N := 7) (hgU_103 ca o) rfl (gi_in (by decide) (by decide)) dX6_writeTo_33 ?_
  refine lv_topi (fun x4 e4 => ?_)
  refine qf_put2 hx hb hts inX5 tyX5 tyX5_ok nmX5 hown hK hP hS qw_Ai (q0 := 7 + 2 * i1_) (show _ < _ from by have := hi1_; omega) (hgU_LT ca o hi1_) rfl 2 (by decide) wq_49 rfl (x := x4) 2 rfl rfl rfl (Nat.le_of_ble_eq_true rfl) dX6_writeTo_34 (fun z5 H locs hz5 hP hS => ?_)
  have J5 := jU_L (c := 7 + 2 * i1_) (by have := hi1_; omega) J3 hz5
  refine lv_iconst (v := 0) hx hb dX6_writeTo_37 (by decide) ?_
  refine lv_istore_n (lv' := [(3, .int 0), (0, .ref (o + 78)), (1, .ref (o + (7 + 2 * i1_))), (2, .ref (o + 1))]) hx hb dX6_writeTo_38 rfl hl (by decide) rfl (fun ls hl => ?_)
  have loop6 : ∀ (n : Nat) (w6_3 : Int32) (z6 : Nat → Nat → Int32) (y6 : Nat → Nat → Int64), ((6 - w6_3.toInt : Int) < (n : Int)) → ((0 : Int) ≤ w6_3.toInt ∧ w6_3.toInt ≤ 6) → (qJU b z6) → ∀ (H : Heap) (locs : List Loc), qw_P D vwCl o 132 (qG (GU ca o) z6 y6) H → va_S (qw_A o 132) s.heap H locs → ∀ (ls : Array Slot), lv_has ls 4 [(3, .int w6_3), (0, .ref (o + 78)), (1, .ref (o + (7 + 2 * i1_))), (2, .ref (o + 1))] → W p l e (headSpec (Cond.code yX6_writeTo cX6_writeTo 4 none :: qtbl) ({ frames := 3, cells := 0, slots := 0, locals := 81 })).room s m (([.ref (o + 78), .ref (o + (7 + 2 * i1_)), .ref (o + 1)] : List Value).toArray) below meth c H locs 0 0 (MQ below (va_Qv (fun u => qJU b u.1) (qB D vwCl (qT6 ca) o 132 (fun u : qZ => qG (GU ca o) u.1 u.2)) (qw_A o 132)) (([.ref (o + 78), .ref (o + (7 + 2 * i1_)), .ref (o + 1)] : List Value).toArray) s 0 0 (qw_A o 132)) (F0 m 39 ls []) := by
    intro n
    induction n with
    | zero => intro w6_3 z6 y6 hb6 hv6_3 J6; exfalso; omega
    | succ n6 ih6 =>
      intro w6_3 z6 y6 hb6 hv6_3 J6 H locs hP hS ls hl
      refine lv_iload_n hx hb dX6_writeTo_39 rfl (lv_at hl 0 rfl) ?_
      refine lv_bipush (v := 6) hx hb dX6_writeTo_40 (by decide) ?_
      refine lv_icmp_ge (tgt := 72) hx hb dX6_writeTo_42 (by decide) (fun c7 => ?_) (fun c7 => ?_)
      · have t7 : w6_3.toInt ≥ (6 : Int) := gl_le c7
        refine lv_aload_n hx hb dX6_writeTo_72 rfl (lv_at hl 2 rfl) ?_
        refine lv_aload_n hx hb dX6_writeTo_73 rfl (lv_at hl 1 rfl) ?_
        refine qf_get hx hb hts inX6 hown hK hP (q0 := 78) (by decide) (hgU_78 ca o) rfl 11 (by decide) wq_142 (v := .int (z6 78 11)) rfl dX6_writeTo_74 ?_
        refine lv_topi (fun x8 e8 => ?_)
        refine qf_put2 hx hb hts inX5 tyX5 tyX5_ok nmX5 hown hK hP hS qw_Ai (q0 := 7 + 2 * i1_) (show _ < _ from by have := hi1_; omega) (hgU_LT ca o hi1_) rfl 3 (by decide) wq_53 rfl (x := x8) 3 rfl rfl rfl (Nat.le_of_ble_eq_true rfl) dX6_writeTo_77 (fun z9 H locs hz9 hP hS => ?_)
        have J9 := jU_L (c := 7 + 2 * i1_) (by have := hi1_; omega) J6 hz9
        refine lv_aload_n hx hb dX6_writeTo_80 rfl (lv_at hl 2 rfl) ?_
        refine lv_aload_n hx hb dX6_writeTo_81 rfl (lv_at hl 1 rfl) ?_
        refine qf_get hx hb hts inX6 hown hK hP (q0 := 78) (by decide) (hgU_78 ca o) rfl 12 (by decide) wq_143 (v := .int (z9 78 12)) rfl dX6_writeTo_82 ?_
        refine lv_topi (fun x10 e10 => ?_)
        refine qf_put2 hx hb hts inX5 tyX5 tyX5_ok nmX5 hown hK hP hS qw_Ai (q0 := 7 + 2 * i1_) (show _ < _ from by have := hi1_; omega) (hgU_LT ca o hi1_) rfl 4 (by decide) wq_57 rfl (x := x10) 4 rfl rfl rfl (Nat.le_of_ble_eq_true rfl) dX6_writeTo_85 (fun z11 H locs hz11 hP hS => ?_)
        have J11 := jU_L (c := 7 + 2 * i1_) (by have := hi1_; omega) J9 hz11
        refine lv_aload_n hx hb dX6_writeTo_88 rfl (lv_at hl 2 rfl) ?_
        refine lv_aload_n hx hb dX6_writeTo_89 rfl (lv_at hl 3 rfl) ?_
        refine qf_get hx hb hts inX9 hown hK hP (q0 := 1) (by decide) (hgU_1 ca o) rfl 7 (by decide) wq_103 (v := .int (z11 1 7)) rfl dX6_writeTo_90 ?_
        refine lv_topi (fun x12 e12 => ?_)
        refine qf_put2 hx hb hts inX5 tyX5 tyX5_ok nmX5 hown hK hP hS qw_Ai (q0 := 7 + 2 * i1_) (show _ < _ from by have := hi1_; omega) (hgU_LT ca o hi1_) rfl 5 (by decide) wq_60 rfl (x := x12) 5 rfl rfl rfl (Nat.le_of_ble_eq_true rfl) dX6_writeTo_93 (fun z13 H locs hz13 hP hS => ?_)
        have J13 := jU_L (c := 7 + 2 * i1_) (by have := hi1_; omega) J11 hz13
        refine lv_aload_n hx hb dX6_writeTo_96 rfl (lv_at hl 2 rfl) ?_
        refine lv_aload_n hx hb dX6_writeTo_97 rfl (lv_at hl 1 rfl) ?_
        refine qf_get hx hb hts inX6 hown hK hP (q0 := 78) (by decide) (hgU_78 ca o) rfl 10 (by decide) wq_140 (v := .int (z13 78 10)) rfl dX6_writeTo_98 ?_
        refine lv_topi (fun x14 e14 => ?_)
        refine qf_put2 hx hb hts inX5 tyX5 tyX5_ok nmX5 hown hK hP hS qw_Ai (q0 := 7 + 2 * i1_) (show _ < _ from by have := hi1_; omega) (hgU_LT ca o hi1_) rfl 6 (by decide) wq_63 rfl (x := x14) 6 rfl rfl rfl (Nat.le_of_ble_eq_true rfl) dX6_writeTo_101 (fun z15 H locs hz15 hP hS => ?_)
        have J15 := jU_L (c := 7 + 2 * i1_) (by have := hi1_; omega) J13 hz15
        exact W.vret hx hb hr (fun t ht hW => ⟨⟨(z15, y6), rfl, J15, by rw [ht]; exact hP, va_K.moved hW.alike hK⟩, hS.F ht⟩) hS.2.2 dX6_writeTo_104
      · have t7 : w6_3.toInt < (6 : Int) := gl_nle c7
        refine lv_aload_n hx hb dX6_writeTo_45 rfl (lv_at hl 2 rfl) ?_
        refine lv_dup hx hb dX6_writeTo_46 rfl ?_
        refine qf_get hx hb hts inX5 hown hK hP (q0 := 7 + 2 * i1_) (show _ < _ from by have := hi1_; omega) (hgU_LT ca o hi1_) rfl 2 (by decide) wq_49 (v := .int (z6 (7 + 2 * i1_) 2)) rfl dX6_writeTo_47 ?_
        refine lv_topi (fun x16 e16 => ?_)
        refine lv_aload_n hx hb dX6_writeTo_50 rfl (lv_at hl 1 rfl) ?_
        refine qf_get hx hb hts inX6 hown hK hP (q0 := 78) (by decide) (hgU_78 ca o) rfl 4 (by decide) wq_134 (v := .ref (o + 103)) rfl dX6_writeTo_51 ?_
        refine lv_iload_n hx hb dX6_writeTo_54 rfl (lv_at hl 0 rfl) ?_
        refine qa_iald hx hb hK hP (q0 := 103) (by decide) 0 (N := 7) (hgU_103 ca o) rfl (gi_in (by omega) (by omega)) dX6_writeTo_55 ?_
        refine lv_topi (fun x17 e17 => ?_)
        refine lv_aload_n hx hb dX6_writeTo_56 rfl (lv_at hl 3 rfl) ?_
        refine lv_iload_n hx hb dX6_writeTo_57 rfl (lv_at hl 0 rfl) ?_
        refine qc_Vip (As := [.int w6_3]) (rest := [.int x17, .int x16, .ref (o + (7 + 2 * i1_))]) (k0 := 1) (u_Told_lived l D ca o b z6 y6 J6 w6_3) kc_yX9_lived ⟨hx, hb, hml, hown, hts⟩ wq_508 rfl rfl ⟨Nat.le_of_ble_eq_true rfl, Nat.le_of_ble_eq_true rfl⟩ wq_all hP hK hS qw_Ai (q0 := 1) (by decide) (hgU_1 ca o _ _) rfl rfl hl.1 rfl (Nat.le_of_ble_eq_true rfl) dX6_writeTo_58 ⟨Nat.zero_le _, Nat.zero_le _⟩ (fun r18 H locs h18 hP hS _ _ => ?_)
        refine lv_imul hx hb dX6_writeTo_61 ?_
        refine lv_topi (fun x19 e19 => ?_)
        refine lv_iadd hx hb dX6_writeTo_62 ?_
        refine lv_topi (fun x20 e20 => ?_)
        refine qf_put2 hx hb hts inX5 tyX5 tyX5_ok nmX5 hown hK hP hS qw_Ai (q0 := 7 + 2 * i1_) (show _ < _ from by have := hi1_; omega) (hgU_LT ca o hi1_) rfl 2 (by decide) wq_49 rfl (x := x20) 2 rfl rfl rfl (Nat.le_of_ble_eq_true rfl) dX6_writeTo_63 (fun z21 H locs hz21 hP hS => ?_)
        have J21 := jU_L (c := 7 + 2 * i1_) (by have := hi1_; omega) J6 hz21
        obtain ⟨x22, e22⟩ : ∃ t : Int32, t = w6_3 + 1 := ⟨_, rfl⟩
        refine lv_iinc (v := x22) (lv' := [(3, .int x22), (0, .ref (o + 78)), (1, .ref (o + (7 + 2 * i1_))), (2, .ref (o + 1))]) hx hb dX6_writeTo_66 hl (k := 0) rfl (by rw [e22]; rfl) (by decide) rfl (fun ls hl => ?_)
        have t22 : x22.toInt = w6_3.toInt + (1 : Int) := ga_add e22 rfl rfl (by omega) (by omega)
        refine lv_goto (tgt := 39) hx hb dX6_writeTo_69 (by decide) ?_
        exact ih6 x22 z21 y6 (show (6 - x22.toInt : Int) < (n6 : Int) from by omega) ⟨by omega, by omega⟩ J21 _ _ hP hS _ (lv_sub hl [0, 1, 2, 3] rfl)
  exact loop6 7 0 z5 y (show (6 - (0 : Int) : Int) < ((7 : Nat) : Int) from by omega) ⟨by decide, by decide⟩ J5 _ _ hP hS _ (lv_sub hl [0, 1, 2, 3] rfl)
set_option maxRecDepth 100000 in
set_option maxHeartbeats 8000000 in
theorem u_Integer_bitCount (l : Launch) (D : va_G) (ca : Nat → ClassId) (o : Nat) (b z : Nat → Nat → Int32) (y : Nat → Nat → Int64) (J0 : qJU b z) (a0 : Int32)  : qM l yJ6_bitCount_0f7a4 cJ6_bitCount_0f7a4 1 (some .int) 1 60 (qPre D vwCl (qT6 ca) o 132 (qG (GU ca o) z y) [.int a0]) (va_Qi (fun r (_ : Unit) => ((0 : Int) ≤ r.toInt ∧ r.toInt ≤ 63)) (qB D vwCl (qT6 ca) o 132 (fun _ : Unit => qG (GU ca o) z y)) (qw_A o 132)) (qw_A o 132) := by
  refine Met.ofW (cc := cJ6_bitCount_0f7a4) (maxL := 1) (ret := (some .int)) (by decide) rfl ?_
  intro p e s m args below meth c s₁ B hml hv
  obtain ⟨rfl, hP, hK⟩ := hv
  have hx := B.exec
  have hb := B.bytes
  have hr := B.returns
  have hts0 := atoms_spec (ws := Cond.code yJ6_bitCount_0f7a4 cJ6_bitCount_0f7a4 1 (some .int) :: qtbl) B.pre
  have hts : ∀ w ∈ qtbl, w.before _ s = true := fun w h => hts0 w (List.mem_cons_of_mem _ h)
  have hown : s.vm.findClass RJ6 = some m.cls := findClass_of_methodNamed B.named
  have hlocks := B.notSynchronized
  have hS : va_S (qw_A o 132) s.heap s.heap [] := va_S.rf
  have hl := lv_entry ([.int a0]) (n := 1) (Nat.le_of_ble_eq_true rfl)
  rw [lg_entry_eq]
  generalize (lg_sl ([.int a0]) ++ List.replicate (1 - (lg_sl ([.int a0])).length) Slot.unset).toArray = ls at hl ⊢
  have hl : lv_has ls 1 [(0, .int a0)] := hl
  refine lv_iload_n hx hb dJ6_bitCount_0f7a4_0 rfl (lv_at hl 0 rfl) ?_
  refine lv_iload_n hx hb dJ6_bitCount_0f7a4_1 rfl (lv_at hl 0 rfl) ?_
  refine lv_iconst (v := 1) hx hb dJ6_bitCount_0f7a4_2 (by decide) ?_
  refine lv_iushr hx hb dJ6_bitCount_0f7a4_3 rfl ?_
  refine lv_topi (fun x1 e1 => ?_)
  refine lv_ldcw (v := 1431655765) hx hb hown (hts _ wq_516) dJ6_bitCount_0f7a4_4 ?_
  refine lv_iand hx hb dJ6_bitCount_0f7a4_7 ?_
  refine lv_topi (fun x2 e2 => ?_)
  have t2 : 0 ≤ x2.toInt ∧ x2.toInt ≤ (1431655765 : Int) := ga_and e2 rfl (by omega)
  refine lv_isub hx hb dJ6_bitCount_0f7a4_8 ?_
  refine lv_topi (fun x3 e3 => ?_)
  refine lv_istore_n (lv' := [(0, .int x3)]) hx hb dJ6_bitCount_0f7a4_9 rfl hl (by decide) rfl (fun ls hl => ?_)
  refine lv_iload_n hx hb dJ6_bitCount_0f7a4_10 rfl (lv_at hl 0 rfl) ?_
  refine lv_ldcw (v := 858993459) hx hb hown (hts _ wq_517) dJ6_bitCount_0f7a4_11 ?_
  refine lv_iand hx hb dJ6_bitCount_0f7a4_14 ?_
  refine lv_topi (fun x4 e4 => ?_)
  have t4 : 0 ≤ x4.toInt ∧ x4.toInt ≤ (858993459 : Int) := ga_and e4 rfl (by omega)
  refine lv_iload_n hx hb dJ6_bitCount_0f7a4_15 rfl (lv_at hl 0 rfl) ?_
  refine lv_iconst (v := 2) hx hb dJ6_bitCount_0f7a4_16 (by decide) ?_
  refine lv_iushr hx hb dJ6_bitCount_0f7a4_17 rfl ?_
  refine lv_topi (fun x5 e5 => ?_)
  refine lv_ldcw (v := 858993459) hx hb hown (hts _ wq_517) dJ6_bitCount_0f7a4_18 ?_
  refine lv_iand hx hb dJ6_bitCount_0f7a4_21 ?_
  refine lv_topi (fun x6 e6 => ?_)
  have t6 : 0 ≤ x6.toInt ∧ x6.toInt ≤ (858993459 : Int) := ga_and e6 rfl (by omega)
  refine lv_iadd hx hb dJ6_bitCount_0f7a4_22 ?_
  refine lv_topi (fun x7 e7 => ?_)
  have t7 : x7.toInt = x4.toInt + x6.toInt := ga_add e7 rfl rfl (by omega) (by omega)
  refine lv_istore_n (lv' := [(0, .int x7)]) hx hb dJ6_bitCount_0f7a4_23 rfl hl (by decide) rfl (fun ls hl => ?_)
  refine lv_iload_n hx hb dJ6_bitCount_0f7a4_24 rfl (lv_at hl 0 rfl) ?_
  refine lv_iload_n hx hb dJ6_bitCount_0f7a4_25 rfl (lv_at hl 0 rfl) ?_
  refine lv_iconst (v := 4) hx hb dJ6_bitCount_0f7a4_26 (by decide) ?_
  refine lv_iushr hx hb dJ6_bitCount_0f7a4_27 rfl ?_
  refine lv_topi (fun x8 e8 => ?_)
  refine lv_iadd hx hb dJ6_bitCount_0f7a4_28 ?_
  refine lv_topi (fun x9 e9 => ?_)
  refine lv_ldcw (v := 252645135) hx hb hown (hts _ wq_518) dJ6_bitCount_0f7a4_29 ?_
  refine lv_iand hx hb dJ6_bitCount_0f7a4_32 ?_
  refine lv_topi (fun x10 e10 => ?_)
  have t10 : 0 ≤ x10.toInt ∧ x10.toInt ≤ (252645135 : Int) := ga_and e10 rfl (by omega)
  refine lv_istore_n (lv' := [(0, .int x10)]) hx hb dJ6_bitCount_0f7a4_33 rfl hl (by decide) rfl (fun ls hl => ?_)
  refine lv_iload_n hx hb dJ6_bitCount_0f7a4_34 rfl (lv_at hl 0 rfl) ?_
  refine lv_iload_n hx hb dJ6_bitCount_0f7a4_35 rfl (lv_at hl 0 rfl) ?_
  refine lv_bipush (v := 8) hx hb dJ6_bitCount_0f7a4_36 (by decide) ?_
  refine lv_iushr hx hb dJ6_bitCount_0f7a4_38 rfl ?_
  refine lv_topi (fun x11 e11 => ?_)
  refine lv_iadd hx hb dJ6_bitCount_0f7a4_39 ?_
  refine lv_topi (fun x12 e12 => ?_)
  refine lv_istore_n (lv' := [(0, .int x12)]) hx hb dJ6_bitCount_0f7a4_40 rfl hl (by decide) rfl (fun ls hl => ?_)
  refine lv_iload_n hx hb dJ6_bitCount_0f7a4_41 rfl (lv_at hl 0 rfl) ?_
  refine lv_iload_n hx hb dJ6_bitCount_0f7a4_42 rfl (lv_at hl 0 rfl) ?_
  refine lv_bipush (v := 16) hx hb dJ6_bitCount_0f7a4_43 (by decide) ?_
  refine lv_iushr hx hb dJ6_bitCount_0f7a4_45 rfl ?_
  refine lv_topi (fun x13 e13 => ?_)
  refine lv_iadd hx hb dJ6_bitCount_0f7a4_46 ?_
  refine lv_topi (fun x14 e14 => ?_)
  refine lv_istore_n (lv' := [(0, .int x14)]) hx hb dJ6_bitCount_0f7a4_47 rfl hl (by decide) rfl (fun ls hl => ?_)
  refine lv_iload_n hx hb dJ6_bitCount_0f7a4_48 rfl (lv_at hl 0 rfl) ?_
  refine lv_bipush (v := 63) hx hb dJ6_bitCount_0f7a4_49 (by decide) ?_
  refine lv_iand hx hb dJ6_bitCount_0f7a4_51 ?_
  refine lv_topi (fun x15 e15 => ?_)
  have t15 : 0 ≤ x15.toInt ∧ x15.toInt ≤ (63 : Int) := ga_and e15 rfl (by omega)
  exact W.iret (v := x15) hx hb hr (fun t ht hW => ⟨⟨x15, (), rfl, ⟨by omega, by omega⟩, by rw [ht]; exact hP, va_K.moved hW.alike hK⟩, hS.F ht⟩) hS.2.2 dJ6_bitCount_0f7a4_52
set_option maxRecDepth 100000 in
set_option maxHeartbeats 8000000 in
theorem u_tell (l : Launch) (D : va_G) (ca : Nat → ClassId) (o : Nat) (b z : Nat → Nat → Int32) (y : Nat → Nat → Int64) (J0 : qJU b z) (a0 : Int32) (a1 : Int32) (ha0 : (0 : Int) ≤ a0.toInt ∧ a0.toInt ≤ 15) : qM l yX10_tell cX10_tell 4 (some .int) 33 847 (qPre D vwCl (qT6 ca) o 132 (qG (GU ca o) z y) [.ref (o + 0), .int a0, .int a1]) (va_Qi (fun r u => True ∧ qJU b u.1) (qB D vwCl (qT6 ca) o 132 (fun u : qZ => qG (GU ca o) u.1 u.2)) (qw_A o 132)) (qw_A o 132) := by
  refine Met.ofW (cc := cX10_tell) (maxL := 4) (ret := (some .int)) (by decide) rfl ?_
  intro p e s m args below meth c s₁ B hml hv
  obtain ⟨rfl, hP, hK⟩ := hv
  have hx := B.exec
  have hb := B.bytes
  have hr := B.returns
  have hts0 := atoms_spec (ws := Cond.code yX10_tell cX10_tell 4 (some .int) :: qtbl) B.pre
  have hts : ∀ w ∈ qtbl, w.before _ s = true := fun w h => hts0 w (List.mem_cons_of_mem _ h)
  have hown : s.vm.findClass RX10 = some m.cls := findClass_of_methodNamed B.named
  have hlocks := B.notSynchronized
  have hS : va_S (qw_A o 132) s.heap s.heap [] := va_S.rf
  have hl := lv_entry ([.ref (o + 0), .int a0, .int a1]) (n := 4) (Nat.le_of_ble_eq_true rfl)
  rw [lg_entry_eq]
  generalize (lg_sl ([.ref (o + 0), .int a0, .int a1]) ++ List.replicate (4 - (lg_sl ([.ref (o + 0), .int a0, .int a1])).length) Slot.unset).toArray = ls at hl ⊢
  have hl : lv_has ls 4 [(0, .ref (o + 0)), (1, .int a0), (2, .int a1)] := hl
  refine lv_aload_n hx hb dX10_tell_0 rfl (lv_at hl 0 rfl) ?_
  refine lv_iconst (v := 0) hx hb dX10_tell_1 (by decide) ?_
  refine qf_put2 hx hb hts inX10 tyX10 tyX10_ok nmX10 hown hK hP hS qw_Ai (q0 := 0) (by decide) (hgU_0 ca o) rfl 4 (by decide) wq_357 rfl (x := 0) 4 rfl rfl rfl (Nat.le_of_ble_eq_true rfl) dX10_tell_2 (fun z1 H locs hz1 hP hS => ?_)
  have J1 := jU_0_4 J0 hz1 ⟨by decide, by decide⟩
  refine lv_iload_n hx hb dX10_tell_5 rfl (lv_at hl 1 rfl) ?_
  refine lv_bipush (v := 10) hx hb dX10_tell_6 (by decide) ?_
  refine lv_icmp_ge (tgt := 15) hx hb dX10_tell_8 (by decide) (fun c2 => ?_) (fun c2 => ?_)
  · have t2 : a0.toInt ≥ (10 : Int) := gl_le c2
    refine lv_iconst (v := 0) hx hb dX10_tell_15 (by decide) ?_
    refine lv_istore_n (lv' := [(3, .int 0), (0, .ref (o + 0)), (1, .int a0), (2, .int a1)]) hx hb dX10_tell_16 rfl hl (by decide) rfl (fun ls hl => ?_)
    refine lv_aload_n hx hb dX10_tell_17 rfl (lv_at hl 1 rfl) ?_
    refine qf_get hx hb hts inX10 hown hK hP (q0 := 0) (by decide) (hgU_0 ca o) rfl 5 (by decide) wq_358 (v := .ref (o + 78)) rfl dX10_tell_18 ?_
    refine lv_iload_n hx hb dX10_tell_21 rfl (lv_at hl 3 rfl) ?_
    refine lv_aload_n hx hb dX10_tell_22 rfl (lv_at hl 1 rfl) ?_
    refine qf_get hx hb hts inX10 hown hK hP (q0 := 0) (by decide) (hgU_0 ca o) rfl 0 (by decide) wq_353 (v := .ref (o + 1)) rfl dX10_tell_23 ?_
    refine qf_get hx hb hts inX9 hown hK hP (q0 := 1) (by decide) (hgU_1 ca o) rfl 5 (by decide) wq_98 (v := .int (z1 1 5)) rfl dX10_tell_26 ?_
    refine lv_topi (fun x3 e3 => ?_)
    refine lv_iload_n hx hb dX10_tell_29 rfl (lv_at hl 0 rfl) ?_
    refine qc_Vi2 (As := [.int a1, .int x3, .int 0]) (rest := []) (k0 := 3) (u_Reader_read l D ca o b z1 y J1 a1 x3 0) kc_yX6_read ⟨hx, hb, hml, hown, hts⟩ wq_439 rfl rfl ⟨Nat.le_of_ble_eq_true rfl, Nat.le_of_ble_eq_true rfl⟩ wq_all hP hK hS qw_Ai (q0 := 78) (by decide) (hgU_78 ca o _ _) rfl rfl hl.1 rfl (Nat.le_of_ble_eq_true rfl) dX10_tell_30 ⟨Nat.zero_le _, Nat.zero_le _⟩ (fun r4 z4 y4 H locs h4 hP hS _ _ => ?_)
    have J4 : qJU b z4 := h4.2
    have b4 : (0 : Int) ≤ r4.toInt ∧ r4.toInt ≤ 1 := h4.1
    refine lv_if_ne (tgt := 56) hx hb dX10_tell_33 (by decide) (fun c5 => ?_) (fun c5 => ?_)
    · have t5 : r4.toInt ≠ (0 : Int) := gl_ne c5
      refine lv_aload_n hx hb dX10_tell_56 rfl (lv_at hl 1 rfl) ?_
      refine qf_get hx hb hts inX10 hown hK hP (q0 := 0) (by decide) (hgU_0 ca o) rfl 5 (by decide) wq_358 (v := .ref (o + 78)) rfl dX10_tell_57 ?_
      refine lv_aload_n hx hb dX10_tell_60 rfl (lv_at hl 1 rfl) ?_
      refine qf_get hx hb hts inX10 hown hK hP (q0 := 0) (by decide) (hgU_0 ca o) rfl 0 (by decide) wq_353 (v := .ref (o + 1)) rfl dX10_tell_61 ?_
      refine qf_get hx hb hts inX9 hown hK hP (q0 := 1) (by decide) (hgU_1 ca o) rfl 4 (by decide) wq_97 (v := .ref (o + 6)) rfl dX10_tell_64 ?_
      refine lv_iload_n hx hb dX10_tell_67 rfl (lv_at hl 2 rfl) ?_
      have hi_a0 : a0.toNatClampNeg < 16 := ga_nat (by omega) (show _ < (16 : Int) from by omega)
      refine qa_aald hx hb hK hP (q0 := 6) (by decide) 4 rfl (N := 16) (hgU_6 ca o) rfl (gi_in (by omega) (by omega)) dX10_tell_68 ?_
      refine lv_aload_n hx hb dX10_tell_69 rfl (lv_at hl 1 rfl) ?_
      refine qf_get hx hb hts inX10 hown hK hP (q0 := 0) (by decide) (hgU_0 ca o) rfl 0 (by decide) wq_353 (v := .ref (o + 1)) rfl dX10_tell_70 ?_
      refine qc_Vv2 (As := [.ref (o + (7 + 2 * a0.toNatClampNeg)), .ref (o + 1)]) (rest := []) (k0 := 2) (u_Reader_writeTo l D ca o b z4 y4 J4 (i1_ := a0.toNatClampNeg) hi_a0) kc_yX6_writeTo ⟨hx, hb, hml, hown, hts⟩ wq_504 rfl rfl ⟨Nat.le_of_ble_eq_true rfl, Nat.le_of_ble_eq_true rfl⟩ wq_all hP hK hS qw_Ai (q0 := 78) (by decide) (hgU_78 ca o _ _) rfl rfl hl.1 rfl (Nat.le_of_ble_eq_true rfl) dX10_tell_73 ⟨Nat.zero_le _, Nat.zero_le _⟩ (fun z6 y6 H locs h6 hP hS _ _ => ?_)
      have J6 : qJU b z6 := h6
      refine lv_aload_n hx hb dX10_tell_76 rfl (lv_at hl 1 rfl) ?_
      refine qf_get hx hb hts inX10 hown hK hP (q0 := 0) (by decide) (hgU_0 ca o) rfl 0 (by decide) wq_353 (v := .ref (o + 1)) rfl dX10_tell_77 ?_
      refine lv_dup hx hb dX10_tell_80 rfl ?_
      refine qf_get hx hb hts inX9 hown hK hP (q0 := 1) (by decide) (hgU_1 ca o) rfl 6 (by decide) wq_101 (v := .int (z6 1 6)) rfl dX10_tell_81 ?_
      refine lv_topi (fun x7 e7 => ?_)
      refine lv_iconst (v := 1) hx hb dX10_tell_84 (by decide) ?_
      refine lv_iload_n hx hb dX10_tell_85 rfl (lv_at hl 2 rfl) ?_
      refine lv_ishl hx hb dX10_tell_86 ?_
      refine lv_topi (fun x8 e8 => ?_)
      have t8 : 1 ≤ x8.toInt ∧ x8.toInt ≤ 32768 := ga_shl 15 32768 e8 (by decide) (by decide) (by omega) (by omega)
      refine lv_ior hx hb dX10_tell_87 ?_
      refine lv_topi (fun x9 e9 => ?_)
      refine qf_put2 hx hb hts inX9 tyX9 tyX9_ok nmX9 hown hK hP hS qw_Ai (q0 := 1) (by decide) (hgU_1 ca o) rfl 6 (by decide) wq_101 rfl (x := x9) 6 rfl rfl rfl (Nat.le_of_ble_eq_true rfl) dX10_tell_88 (fun z10 H locs hz10 hP hS => ?_)
      have J10 := jU_1_6 J6 hz10
      refine lv_iload_n hx hb dX10_tell_91 rfl (lv_at hl 0 rfl) ?_
      refine lv_if_eq (tgt := 102) hx hb dX10_tell_92 (by decide) (fun _ => ?_) (fun q => absurd (by decide) q)
      refine lv_aload_n hx hb dX10_tell_102 rfl (lv_at hl 1 rfl) ?_
      refine qf_get hx hb hts inX10 hown hK hP (q0 := 0) (by decide) (hgU_0 ca o) rfl 5 (by decide) wq_358 (v := .ref (o + 78)) rfl dX10_tell_103 ?_
      refine qf_get hx hb hts inX6 hown hK hP (q0 := 78) (by decide) (hgU_78 ca o) rfl 10 (by decide) wq_141 (v := .int (z10 78 10)) rfl dX10_tell_106 ?_
      refine lv_topi (fun x11 e11 => ?_)
      refine qc_Sip (As := [.int x11]) (rest := []) (k0 := 1) (u_Integer_bitCount l D ca o b z10 y6 J10 x11) kc_yJ6_bitCount_0f7a4 ⟨hx, hb, hml, hown, hts⟩ wq_513 rfl rfl ⟨Nat.le_of_ble_eq_true rfl, Nat.le_of_ble_eq_true rfl⟩ wq_all hP hK hS qw_Ai rfl hl.1 rfl (Nat.le_of_ble_eq_true rfl) dX10_tell_109 ⟨Nat.zero_le _, Nat.zero_le _⟩ (fun r12 H locs h12 hP hS _ _ => ?_)
      have b12 : (0 : Int) ≤ r12.toInt ∧ r12.toInt ≤ 63 := h12
      exact W.iret (v := r12) hx hb hr (fun t ht hW => ⟨⟨r12, (z10, y6), rfl, ⟨trivial, J10⟩, by rw [ht]; exact hP, va_K.moved hW.alike hK⟩, hS.F ht⟩) hS.2.2 dX10_tell_112
    · have t5 : r4.toInt = (0 : Int) := gl_eq c5
      refine lv_sipush (v := (-1000)) hx hb dX10_tell_36 (by decide) ?_
      refine lv_aload_n hx hb dX10_tell_39 rfl (lv_at hl 1 rfl) ?_
      refine qf_get hx hb hts inX10 hown hK hP (q0 := 0) (by decide) (hgU_0 ca o) rfl 5 (by decide) wq_358 (v := .ref (o + 78)) rfl dX10_tell_40 ?_
      refine qf_get hx hb hts inX6 hown hK hP (q0 := 78) (by decide) (hgU_78 ca o) rfl 13 (by decide) wq_145 (v := .int (z4 78 13)) rfl dX10_tell_43 ?_
      refine lv_topi (fun x13 e13 => ?_)
      refine lv_imul hx hb dX10_tell_46 ?_
      refine lv_topi (fun x14 e14 => ?_)
      refine lv_aload_n hx hb dX10_tell_47 rfl (lv_at hl 1 rfl) ?_
      refine qf_get hx hb hts inX10 hown hK hP (q0 := 0) (by decide) (hgU_0 ca o) rfl 5 (by decide) wq_358 (v := .ref (o + 78)) rfl dX10_tell_48 ?_
      refine qf_get hx hb hts inX6 hown hK hP (q0 := 78) (by decide) (hgU_78 ca o) rfl 14 (by decide) wq_147 (v := .int (z4 78 14)) rfl dX10_tell_51 ?_
      refine lv_topi (fun x15 e15 => ?_)
      refine lv_isub hx hb dX10_tell_54 ?_
      refine lv_topi (fun x16 e16 => ?_)
      exact W.iret (v := x16) hx hb hr (fun t ht hW => ⟨⟨x16, (z4, y4), rfl, ⟨trivial, J4⟩, by rw [ht]; exact hP, va_K.moved hW.alike hK⟩, hS.F ht⟩) hS.2.2 dX10_tell_55
  · have t2 : a0.toInt < (10 : Int) := gl_nle c2
    refine lv_iconst (v := 1) hx hb dX10_tell_11 (by decide) ?_
    refine lv_goto (tgt := 16) hx hb dX10_tell_12 (by decide) ?_
    refine lv_istore_n (lv' := [(3, .int 1), (0, .ref (o + 0)), (1, .int a0), (2, .int a1)]) hx hb dX10_tell_16 rfl hl (by decide) rfl (fun ls hl => ?_)
    refine lv_aload_n hx hb dX10_tell_17 rfl (lv_at hl 1 rfl) ?_
    refine qf_get hx hb hts inX10 hown hK hP (q0 := 0) (by decide) (hgU_0 ca o) rfl 5 (by decide) wq_358 (v := .ref (o + 78)) rfl dX10_tell_18 ?_
    refine lv_iload_n hx hb dX10_tell_21 rfl (lv_at hl 3 rfl) ?_
    refine lv_aload_n hx hb dX10_tell_22 rfl (lv_at hl 1 rfl) ?_
    refine qf_get hx hb hts inX10 hown hK hP (q0 := 0) (by decide) (hgU_0 ca o) rfl 0 (by decide) wq_353 (v := .ref (o + 1)) rfl dX10_tell_23 ?_
    refine qf_get hx hb hts inX9 hown hK hP (q0 := 1) (by decide) (hgU_1 ca o) rfl 5 (by decide) wq_98 (v := .int (z1 1 5)) rfl dX10_tell_26 ?_
    refine lv_topi (fun x17 e17 => ?_)
    refine lv_iload_n hx hb dX10_tell_29 rfl (lv_at hl 0 rfl) ?_
    refine qc_Vi2 (As := [.int a1, .int x17, .int 1]) (rest := []) (k0 := 3) (u_Reader_read l D ca o b z1 y J1 a1 x17 1) kc_yX6_read ⟨hx, hb, hml, hown, hts⟩ wq_439 rfl rfl ⟨Nat.le_of_ble_eq_true rfl, Nat.le_of_ble_eq_true rfl⟩ wq_all hP hK hS qw_Ai (q0 := 78) (by decide) (hgU_78 ca o _ _) rfl rfl hl.1 rfl (Nat.le_of_ble_eq_true rfl) dX10_tell_30 ⟨Nat.zero_le _, Nat.zero_le _⟩ (fun r18 z18 y18 H locs h18 hP hS _ _ => ?_)
    have J18 : qJU b z18 := h18.2
    have b18 : (0 : Int) ≤ r18.toInt ∧ r18.toInt ≤ 1 := h18.1
    refine lv_if_ne (tgt := 56) hx hb dX10_tell_33 (by decide) (fun c19 => ?_) (fun c19 => ?_)
    · have t19 : r18.toInt ≠ (0 : Int) := gl_ne c19
      refine lv_aload_n hx hb dX10_tell_56 rfl (lv_at hl 1 rfl) ?_
      refine qf_get hx hb hts inX10 hown hK hP (q0 := 0) (by decide) (hgU_0 ca o) rfl 5 (by decide) wq_358 (v := .ref (o + 78)) rfl dX10_tell_57 ?_
      refine lv_aload_n hx hb dX10_tell_60 rfl (lv_at hl 1 rfl) ?_
      refine qf_get hx hb hts inX10 hown hK hP (q0 := 0) (by decide) (hgU_0 ca o) rfl 0 (by decide) wq_353 (v := .ref (o + 1)) rfl dX10_tell_61 ?_
      refine qf_get hx hb hts inX9 hown hK hP (q0 := 1) (by decide) (hgU_1 ca o) rfl 4 (by decide) wq_97 (v := .ref (o + 6)) rfl dX10_tell_64 ?_
      refine lv_iload_n hx hb dX10_tell_67 rfl (lv_at hl 2 rfl) ?_
      have hi_a0 : a0.toNatClampNeg < 16 := ga_nat (by omega) (show _ < (16 : Int) from by omega)
      refine qa_aald hx hb hK hP (q0 := 6) (by decide) 4 rfl (N := 16) (hgU_6 ca o) rfl (gi_in (by omega) (by omega)) dX10_tell_68 ?_
      refine lv_aload_n hx hb dX10_tell_69 rfl (lv_at hl 1 rfl) ?_
      refine qf_get hx hb hts inX10 hown hK hP (q0 := 0) (by decide) (hgU_0 ca o) rfl 0 (by decide) wq_353 (v := .ref (o + 1)) rfl dX10_tell_70 ?_
      refine qc_Vv2 (As := [.ref (o + (7 + 2 * a0.toNatClampNeg)), .ref (o + 1)]) (rest := []) (k0 := 2) (u_Reader_writeTo l D ca o b z18 y18 J18 (i1_ := a0.toNatClampNeg) hi_a0) kc_yX6_writeTo ⟨hx, hb, hml, hown, hts⟩ wq_504 rfl rfl ⟨Nat.le_of_ble_eq_true rfl, Nat.le_of_ble_eq_true rfl⟩ wq_all hP hK hS qw_Ai (q0 := 78) (by decide) (hgU_78 ca o _ _) rfl rfl hl.1 rfl (Nat.le_of_ble_eq_true rfl) dX10_tell_73 ⟨Nat.zero_le _, Nat.zero_le _⟩ (fun z20 y20 H locs h20 hP hS _ _ => ?_)
      have J20 : qJU b z20 := h20
      refine lv_aload_n hx hb dX10_tell_76 rfl (lv_at hl 1 rfl) ?_
      refine qf_get hx hb hts inX10 hown hK hP (q0 := 0) (by decide) (hgU_0 ca o) rfl 0 (by decide) wq_353 (v := .ref (o + 1)) rfl dX10_tell_77 ?_
      refine lv_dup hx hb dX10_tell_80 rfl ?_
      refine qf_get hx hb hts inX9 hown hK hP (q0 := 1) (by decide) (hgU_1 ca o) rfl 6 (by decide) wq_101 (v := .int (z20 1 6)) rfl dX10_tell_81 ?_
      refine lv_topi (fun x21 e21 => ?_)
      refine lv_iconst (v := 1) hx hb dX10_tell_84 (by decide) ?_
      refine lv_iload_n hx hb dX10_tell_85 rfl (lv_at hl 2 rfl) ?_
      refine lv_ishl hx hb dX10_tell_86 ?_
      refine lv_topi (fun x22 e22 => ?_)
      have t22 : 1 ≤ x22.toInt ∧ x22.toInt ≤ 512 := ga_shl 9 512 e22 (by decide) (by decide) (by omega) (by omega)
      refine lv_ior hx hb dX10_tell_87 ?_
      refine lv_topi (fun x23 e23 => ?_)
      refine qf_put2 hx hb hts inX9 tyX9 tyX9_ok nmX9 hown hK hP hS qw_Ai (q0 := 1) (by decide) (hgU_1 ca o) rfl 6 (by decide) wq_101 rfl (x := x23) 6 rfl rfl rfl (Nat.le_of_ble_eq_true rfl) dX10_tell_88 (fun z24 H locs hz24 hP hS => ?_)
      have J24 := jU_1_6 J20 hz24
      refine lv_iload_n hx hb dX10_tell_91 rfl (lv_at hl 0 rfl) ?_
      refine lv_if_eq (tgt := 102) hx hb dX10_tell_92 (by decide) (fun q => absurd q (by decide)) (fun _ => ?_)
      refine lv_aload_n hx hb dX10_tell_95 rfl (lv_at hl 1 rfl) ?_
      refine qf_get hx hb hts inX10 hown hK hP (q0 := 0) (by decide) (hgU_0 ca o) rfl 7 (by decide) wq_360 (v := .ref (o + 108)) rfl dX10_tell_96 ?_
      refine qc_Vv2 (As := []) (rest := []) (k0 := 0) (u_Fits_forget l D ca o b z24 y20 J24) kc_yX3_forget ⟨hx, hb, hml, hown, hts⟩ wq_403 rfl rfl ⟨Nat.le_of_ble_eq_true rfl, Nat.le_of_ble_eq_true rfl⟩ wq_all hP hK hS qw_Ai (q0 := 108) (by decide) (hgU_108 ca o _ _) rfl rfl hl.1 rfl (Nat.le_of_ble_eq_true rfl) dX10_tell_99 ⟨Nat.zero_le _, Nat.zero_le _⟩ (fun z25 y25 H locs h25 hP hS _ _ => ?_)
      have J25 : qJU b z25 := h25
      refine lv_aload_n hx hb dX10_tell_102 rfl (lv_at hl 1 rfl) ?_
      refine qf_get hx hb hts inX10 hown hK hP (q0 := 0) (by decide) (hgU_0 ca o) rfl 5 (by decide) wq_358 (v := .ref (o + 78)) rfl dX10_tell_103 ?_
      refine qf_get hx hb hts inX6 hown hK hP (q0 := 78) (by decide) (hgU_78 ca o) rfl 10 (by decide) wq_141 (v := .int (z25 78 10)) rfl dX10_tell_106 ?_
      refine lv_topi (fun x26 e26 => ?_)
      refine qc_Sip (As := [.int x26]) (rest := []) (k0 := 1) (u_Integer_bitCount l D ca o b z25 y25 J25 x26) kc_yJ6_bitCount_0f7a4 ⟨hx, hb, hml, hown, hts⟩ wq_513 rfl rfl ⟨Nat.le_of_ble_eq_true rfl, Nat.le_of_ble_eq_true rfl⟩ wq_all hP hK hS qw_Ai rfl hl.1 rfl (Nat.le_of_ble_eq_true rfl) dX10_tell_109 ⟨Nat.zero_le _, Nat.zero_le _⟩ (fun r27 H locs h27 hP hS _ _ => ?_)
      have b27 : (0 : Int) ≤ r27.toInt ∧ r27.toInt ≤ 63 := h27
      exact W.iret (v := r27) hx hb hr (fun t ht hW => ⟨⟨r27, (z25, y25), rfl, ⟨trivial, J25⟩, by rw [ht]; exact hP, va_K.moved hW.alike hK⟩, hS.F ht⟩) hS.2.2 dX10_tell_112
    · have t19 : r18.toInt = (0 : Int) := gl_eq c19
      refine lv_sipush (v := (-1000)) hx hb dX10_tell_36 (by decide) ?_
      refine lv_aload_n hx hb dX10_tell_39 rfl (lv_at hl 1 rfl) ?_
      refine qf_get hx hb hts inX10 hown hK hP (q0 := 0) (by decide) (hgU_0 ca o) rfl 5 (by decide) wq_358 (v := .ref (o + 78)) rfl dX10_tell_40 ?_
      refine qf_get hx hb hts inX6 hown hK hP (q0 := 78) (by decide) (hgU_78 ca o) rfl 13 (by decide) wq_145 (v := .int (z18 78 13)) rfl dX10_tell_43 ?_
      refine lv_topi (fun x28 e28 => ?_)
      refine lv_imul hx hb dX10_tell_46 ?_
      refine lv_topi (fun x29 e29 => ?_)
      refine lv_aload_n hx hb dX10_tell_47 rfl (lv_at hl 1 rfl) ?_
      refine qf_get hx hb hts inX10 hown hK hP (q0 := 0) (by decide) (hgU_0 ca o) rfl 5 (by decide) wq_358 (v := .ref (o + 78)) rfl dX10_tell_48 ?_
      refine qf_get hx hb hts inX6 hown hK hP (q0 := 78) (by decide) (hgU_78 ca o) rfl 14 (by decide) wq_147 (v := .int (z18 78 14)) rfl dX10_tell_51 ?_
      refine lv_topi (fun x30 e30 => ?_)
      refine lv_isub hx hb dX10_tell_54 ?_
      refine lv_topi (fun x31 e31 => ?_)
      exact W.iret (v := x31) hx hb hr (fun t ht hW => ⟨⟨x31, (z18, y18), rfl, ⟨trivial, J18⟩, by rw [ht]; exact hP, va_K.moved hW.alike hK⟩, hS.F ht⟩) hS.2.2 dX10_tell_55
set_option maxRecDepth 100000 in
set_option maxHeartbeats 8000000 in
theorem u_remark (l : Launch) (D : va_G) (ca : Nat → ClassId) (o : Nat) (b z : Nat → Nat → Int32) (y : Nat → Nat → Int64) (J0 : qJU b z) (a0 : Int32) (a1 : Int32)  : qM l yX10_remark cX10_remark 3 (some .int) 34 870 (qPre D vwCl (qT6 ca) o 132 (qG (GU ca o) z y) [.ref (o + 0), .int a0, .int a1]) (va_Qi (fun r u => True ∧ qJU b u.1) (qB D vwCl (qT6 ca) o 132 (fun u : qZ => qG (GU ca o) u.1 u.2)) (qw_A o 132)) (qw_A o 132) := by
  refine Met.ofW (cc := cX10_remark) (maxL := 3) (ret := (some .int)) (by decide) rfl ?_
  intro p e s m args below meth c s₁ B hml hv
  obtain ⟨rfl, hP, hK⟩ := hv
  have hx := B.exec
  have hb := B.bytes
  have hr := B.returns
  have hts0 := atoms_spec (ws := Cond.code yX10_remark cX10_remark 3 (some .int) :: qtbl) B.pre
  have hts : ∀ w ∈ qtbl, w.before _ s = true := fun w h => hts0 w (List.mem_cons_of_mem _ h)
  have hown : s.vm.findClass RX10 = some m.cls := findClass_of_methodNamed B.named
  have hlocks := B.notSynchronized
  have hS : va_S (qw_A o 132) s.heap s.heap [] := va_S.rf
  have hl := lv_entry ([.ref (o + 0), .int a0, .int a1]) (n := 3) (Nat.le_of_ble_eq_true rfl)
  rw [lg_entry_eq]
  generalize (lg_sl ([.ref (o + 0), .int a0, .int a1]) ++ List.replicate (3 - (lg_sl ([.ref (o + 0), .int a0, .int a1])).length) Slot.unset).toArray = ls at hl ⊢
  have hl : lv_has ls 3 [(0, .ref (o + 0)), (1, .int a0), (2, .int a1)] := hl
  refine lv_iload_n hx hb dX10_remark_0 rfl (lv_at hl 1 rfl) ?_
  refine lv_if_lt (tgt := 20) hx hb dX10_remark_1 (by decide) (fun c1 => ?_) (fun c1 => ?_)
  · have t1 : a0.toInt < (0 : Int) := gl_lt c1
    refine lv_iconst (v := (-1)) hx hb dX10_remark_20 (by decide) ?_
    exact W.iret (v := (-1)) hx hb hr (fun t ht hW => ⟨⟨(-1), (z, y), rfl, ⟨trivial, J0⟩, by rw [ht]; exact hP, va_K.moved hW.alike hK⟩, hS.F ht⟩) hS.2.2 dX10_remark_21
  · have t1 : a0.toInt ≥ (0 : Int) := gl_nlt c1
    refine lv_iload_n hx hb dX10_remark_4 rfl (lv_at hl 1 rfl) ?_
    refine lv_bipush (v := 10) hx hb dX10_remark_5 (by decide) ?_
    refine lv_icmp_ge (tgt := 20) hx hb dX10_remark_7 (by decide) (fun c2 => ?_) (fun c2 => ?_)
    · have t2 : a0.toInt ≥ (10 : Int) := gl_le c2
      refine lv_iconst (v := (-1)) hx hb dX10_remark_20 (by decide) ?_
      exact W.iret (v := (-1)) hx hb hr (fun t ht hW => ⟨⟨(-1), (z, y), rfl, ⟨trivial, J0⟩, by rw [ht]; exact hP, va_K.moved hW.alike hK⟩, hS.F ht⟩) hS.2.2 dX10_remark_21
    · have t2 : a0.toInt < (10 : Int) := gl_nle c2
      refine lv_aload_n hx hb dX10_remark_10 rfl (lv_at hl 0 rfl) ?_
      refine lv_iload_n hx hb dX10_remark_11 rfl (lv_at hl 2 rfl) ?_
      refine lv_bipush (v := 60) hx hb dX10_remark_12 (by decide) ?_
      refine qc_Vip (As := [.int a1, .int 60]) (rest := []) (k0 := 2) (u_isText l D ca o b z y J0 a1 60) kc_yX10_isText ⟨hx, hb, hml, hown, hts⟩ wq_431 rfl rfl ⟨Nat.le_of_ble_eq_true rfl, Nat.le_of_ble_eq_true rfl⟩ wq_all hP hK hS qw_Ai (q0 := 0) (by decide) (hgU_0 ca o _ _) rfl rfl hl.1 rfl (Nat.le_of_ble_eq_true rfl) dX10_remark_14 ⟨Nat.zero_le _, Nat.zero_le _⟩ (fun r3 H locs h3 hP hS _ _ => ?_)
      rcases h3 with ⟨hr3, hf3_0⟩ | hr3
      · subst hr3
        have hg3_0 : 1 ≤ a1.toInt ∧ a1.toInt ≤ (60 : Int) := hf3_0
        refine lv_if_ne (tgt := 22) hx hb dX10_remark_17 (by decide) (fun _ => ?_) (fun q => absurd q (by decide))
        refine lv_aload_n hx hb dX10_remark_22 rfl (lv_at hl 0 rfl) ?_
        refine lv_iload_n hx hb dX10_remark_23 rfl (lv_at hl 1 rfl) ?_
        refine lv_iload_n hx hb dX10_remark_24 rfl (lv_at hl 2 rfl) ?_
        refine qc_Vi2 (As := [.int a0, .int a1]) (rest := []) (k0 := 2) (u_tell l D ca o b z y J0 a0 a1 ⟨by omega, by omega⟩) kc_yX10_tell ⟨hx, hb, hml, hown, hts⟩ wq_435 rfl rfl ⟨Nat.le_of_ble_eq_true rfl, Nat.le_of_ble_eq_true rfl⟩ wq_all hP hK hS qw_Ai (q0 := 0) (by decide) (hgU_0 ca o _ _) rfl rfl hl.1 rfl (Nat.le_of_ble_eq_true rfl) dX10_remark_25 ⟨Nat.zero_le _, Nat.zero_le _⟩ (fun r4 z4 y4 H locs h4 hP hS _ _ => ?_)
        have J4 : qJU b z4 := h4.2
        exact W.iret (v := r4) hx hb hr (fun t ht hW => ⟨⟨r4, (z4, y4), rfl, ⟨trivial, J4⟩, by rw [ht]; exact hP, va_K.moved hW.alike hK⟩, hS.F ht⟩) hS.2.2 dX10_remark_28
      · subst hr3
        refine lv_if_ne (tgt := 22) hx hb dX10_remark_17 (by decide) (fun q => absurd q (by decide)) (fun _ => ?_)
        refine lv_iconst (v := (-1)) hx hb dX10_remark_20 (by decide) ?_
        exact W.iret (v := (-1)) hx hb hr (fun t ht hW => ⟨⟨(-1), (z, y), rfl, ⟨trivial, J0⟩, by rw [ht]; exact hP, va_K.moved hW.alike hK⟩, hS.F ht⟩) hS.2.2 dX10_remark_21
set_option maxRecDepth 100000 in
set_option maxHeartbeats 8000000 in
theorem u_form (l : Launch) (D : va_G) (ca : Nat → ClassId) (o : Nat) (b z : Nat → Nat → Int32) (y : Nat → Nat → Int64) (J0 : qJU b z) (a0 : Int32) (a1 : Int32)  : qM l yX10_form cX10_form 3 (some .int) 34 870 (qPre D vwCl (qT6 ca) o 132 (qG (GU ca o) z y) [.ref (o + 0), .int a0, .int a1]) (va_Qi (fun r u => True ∧ qJU b u.1) (qB D vwCl (qT6 ca) o 132 (fun u : qZ => qG (GU ca o) u.1 u.2)) (qw_A o 132)) (qw_A o 132) := by
  refine Met.ofW (cc := cX10_form) (maxL := 3) (ret := (some .int)) (by decide) rfl ?_
  intro p e s m args below meth c s₁ B hml hv
  obtain ⟨rfl, hP, hK⟩ := hv
  have hx := B.exec
  have hb := B.bytes
  have hr := B.returns
  have hts0 := atoms_spec (ws := Cond.code yX10_form cX10_form 3 (some .int) :: qtbl) B.pre
  have hts : ∀ w ∈ qtbl, w.before _ s = true := fun w h => hts0 w (List.mem_cons_of_mem _ h)
  have hown : s.vm.findClass RX10 = some m.cls := findClass_of_methodNamed B.named
  have hlocks := B.notSynchronized
  have hS : va_S (qw_A o 132) s.heap s.heap [] := va_S.rf
  have hl := lv_entry ([.ref (o + 0), .int a0, .int a1]) (n := 3) (Nat.le_of_ble_eq_true rfl)
  rw [lg_entry_eq]
  generalize (lg_sl ([.ref (o + 0), .int a0, .int a1]) ++ List.replicate (3 - (lg_sl ([.ref (o + 0), .int a0, .int a1])).length) Slot.unset).toArray = ls at hl ⊢
  have hl : lv_has ls 3 [(0, .ref (o + 0)), (1, .int a0), (2, .int a1)] := hl
  refine lv_iload_n hx hb dX10_form_0 rfl (lv_at hl 1 rfl) ?_
  refine lv_if_lt (tgt := 20) hx hb dX10_form_1 (by decide) (fun c1 => ?_) (fun c1 => ?_)
  · have t1 : a0.toInt < (0 : Int) := gl_lt c1
    refine lv_iconst (v := (-1)) hx hb dX10_form_20 (by decide) ?_
    exact W.iret (v := (-1)) hx hb hr (fun t ht hW => ⟨⟨(-1), (z, y), rfl, ⟨trivial, J0⟩, by rw [ht]; exact hP, va_K.moved hW.alike hK⟩, hS.F ht⟩) hS.2.2 dX10_form_21
  · have t1 : a0.toInt ≥ (0 : Int) := gl_nlt c1
    refine lv_iload_n hx hb dX10_form_4 rfl (lv_at hl 1 rfl) ?_
    refine lv_bipush (v := 6) hx hb dX10_form_5 (by decide) ?_
    refine lv_icmp_ge (tgt := 20) hx hb dX10_form_7 (by decide) (fun c2 => ?_) (fun c2 => ?_)
    · have t2 : a0.toInt ≥ (6 : Int) := gl_le c2
      refine lv_iconst (v := (-1)) hx hb dX10_form_20 (by decide) ?_
      exact W.iret (v := (-1)) hx hb hr (fun t ht hW => ⟨⟨(-1), (z, y), rfl, ⟨trivial, J0⟩, by rw [ht]; exact hP, va_K.moved hW.alike hK⟩, hS.F ht⟩) hS.2.2 dX10_form_21
    · have t2 : a0.toInt < (6 : Int) := gl_nle c2
      refine lv_aload_n hx hb dX10_form_10 rfl (lv_at hl 0 rfl) ?_
      refine lv_iload_n hx hb dX10_form_11 rfl (lv_at hl 2 rfl) ?_
      refine lv_bipush (v := 60) hx hb dX10_form_12 (by decide) ?_
      refine qc_Vip (As := [.int a1, .int 60]) (rest := []) (k0 := 2) (u_isText l D ca o b z y J0 a1 60) kc_yX10_isText ⟨hx, hb, hml, hown, hts⟩ wq_431 rfl rfl ⟨Nat.le_of_ble_eq_true rfl, Nat.le_of_ble_eq_true rfl⟩ wq_all hP hK hS qw_Ai (q0 := 0) (by decide) (hgU_0 ca o _ _) rfl rfl hl.1 rfl (Nat.le_of_ble_eq_true rfl) dX10_form_14 ⟨Nat.zero_le _, Nat.zero_le _⟩ (fun r3 H locs h3 hP hS _ _ => ?_)
      rcases h3 with ⟨hr3, hf3_0⟩ | hr3
      · subst hr3
        have hg3_0 : 1 ≤ a1.toInt ∧ a1.toInt ≤ (60 : Int) := hf3_0
        refine lv_if_ne (tgt := 22) hx hb dX10_form_17 (by decide) (fun _ => ?_) (fun q => absurd q (by decide))
        refine lv_aload_n hx hb dX10_form_22 rfl (lv_at hl 0 rfl) ?_
        refine lv_bipush (v := 10) hx hb dX10_form_23 (by decide) ?_
        refine lv_iload_n hx hb dX10_form_25 rfl (lv_at hl 1 rfl) ?_
        refine lv_iadd hx hb dX10_form_26 ?_
        refine lv_topi (fun x4 e4 => ?_)
        have t4 : x4.toInt = (10 : Int) + a0.toInt := ga_add e4 rfl rfl (by omega) (by omega)
        refine lv_iload_n hx hb dX10_form_27 rfl (lv_at hl 2 rfl) ?_
        refine qc_Vi2 (As := [.int x4, .int a1]) (rest := []) (k0 := 2) (u_tell l D ca o b z y J0 x4 a1 ⟨by omega, by omega⟩) kc_yX10_tell ⟨hx, hb, hml, hown, hts⟩ wq_435 rfl rfl ⟨Nat.le_of_ble_eq_true rfl, Nat.le_of_ble_eq_true rfl⟩ wq_all hP hK hS qw_Ai (q0 := 0) (by decide) (hgU_0 ca o _ _) rfl rfl hl.1 rfl (Nat.le_of_ble_eq_true rfl) dX10_form_28 ⟨Nat.zero_le _, Nat.zero_le _⟩ (fun r5 z5 y5 H locs h5 hP hS _ _ => ?_)
        have J5 : qJU b z5 := h5.2
        exact W.iret (v := r5) hx hb hr (fun t ht hW => ⟨⟨r5, (z5, y5), rfl, ⟨trivial, J5⟩, by rw [ht]; exact hP, va_K.moved hW.alike hK⟩, hS.F ht⟩) hS.2.2 dX10_form_31
      · subst hr3
        refine lv_if_ne (tgt := 22) hx hb dX10_form_17 (by decide) (fun q => absurd q (by decide)) (fun _ => ?_)
        refine lv_iconst (v := (-1)) hx hb dX10_form_20 (by decide) ?_
        exact W.iret (v := (-1)) hx hb hr (fun t ht hW => ⟨⟨(-1), (z, y), rfl, ⟨trivial, J0⟩, by rw [ht]; exact hP, va_K.moved hW.alike hK⟩, hS.F ht⟩) hS.2.2 dX10_form_21
set_option maxRecDepth 100000 in
set_option maxHeartbeats 8000000 in
theorem u_Told_hasLine (l : Launch) (D : va_G) (ca : Nat → ClassId) (o : Nat) (b z : Nat → Nat → Int32) (y : Nat → Nat → Int64) (J0 : qJU b z) (a0 : Int32)  : qM l yX9_hasLine cX9_hasLine 2 (some .boolean) 1 60 (qPre D vwCl (qT6 ca) o 132 (qG (GU ca o) z y) [.ref (o + 1), .int a0]) (va_Qi (fun r (_ : Unit) => ((r = 1 ∧ (0 ≤ a0.toInt ∧ a0.toInt ≤ 15)) ∨ (r = 0))) (qB D vwCl (qT6 ca) o 132 (fun _ : Unit => qG (GU ca o) z y)) (qw_A o 132)) (qw_A o 132) := by
  refine Met.ofW (cc := cX9_hasLine) (maxL := 2) (ret := (some .boolean)) (by decide) rfl ?_
  intro p e s m args below meth c s₁ B hml hv
  obtain ⟨rfl, hP, hK⟩ := hv
  have hx := B.exec
  have hb := B.bytes
  have hr := B.returns
  have hts0 := atoms_spec (ws := Cond.code yX9_hasLine cX9_hasLine 2 (some .boolean) :: qtbl) B.pre
  have hts : ∀ w ∈ qtbl, w.before _ s = true := fun w h => hts0 w (List.mem_cons_of_mem _ h)
  have hown : s.vm.findClass RX9 = some m.cls := findClass_of_methodNamed B.named
  have hlocks := B.notSynchronized
  have hS : va_S (qw_A o 132) s.heap s.heap [] := va_S.rf
  have hl := lv_entry ([.ref (o + 1), .int a0]) (n := 2) (Nat.le_of_ble_eq_true rfl)
  rw [lg_entry_eq]
  generalize (lg_sl ([.ref (o + 1), .int a0]) ++ List.replicate (2 - (lg_sl ([.ref (o + 1), .int a0])).length) Slot.unset).toArray = ls at hl ⊢
  have hl : lv_has ls 2 [(0, .ref (o + 1)), (1, .int a0)] := hl
  refine lv_iload_n hx hb dX9_hasLine_0 rfl (lv_at hl 1 rfl) ?_
  refine lv_if_lt (tgt := 25) hx hb dX9_hasLine_1 (by decide) (fun c1 => ?_) (fun c1 => ?_)
  · have t1 : a0.toInt < (0 : Int) := gl_lt c1
    refine lv_iconst (v := 0) hx hb dX9_hasLine_25 (by decide) ?_
    exact W.zret (v := 0) (ty := .boolean) hx hb hr rfl (fun t ht hW => ⟨⟨0, (), rfl, Or.inr rfl, by rw [ht]; exact hP, va_K.moved hW.alike hK⟩, hS.F ht⟩) hS.2.2 dX9_hasLine_26
  · have t1 : a0.toInt ≥ (0 : Int) := gl_nlt c1
    refine lv_iload_n hx hb dX9_hasLine_4 rfl (lv_at hl 1 rfl) ?_
    refine lv_bipush (v := 16) hx hb dX9_hasLine_5 (by decide) ?_
    refine lv_icmp_ge (tgt := 25) hx hb dX9_hasLine_7 (by decide) (fun c2 => ?_) (fun c2 => ?_)
    · have t2 : a0.toInt ≥ (16 : Int) := gl_le c2
      refine lv_iconst (v := 0) hx hb dX9_hasLine_25 (by decide) ?_
      exact W.zret (v := 0) (ty := .boolean) hx hb hr rfl (fun t ht hW => ⟨⟨0, (), rfl, Or.inr rfl, by rw [ht]; exact hP, va_K.moved hW.alike hK⟩, hS.F ht⟩) hS.2.2 dX9_hasLine_26
    · have t2 : a0.toInt < (16 : Int) := gl_nle c2
      refine lv_aload_n hx hb dX9_hasLine_10 rfl (lv_at hl 0 rfl) ?_
      refine qf_get hx hb hts inX9 hown hK hP (q0 := 1) (by decide) (hgU_1 ca o) rfl 6 (by decide) wq_100 (v := .int (z 1 6)) rfl dX9_hasLine_11 ?_
      refine lv_topi (fun x3 e3 => ?_)
      refine lv_iload_n hx hb dX9_hasLine_14 rfl (lv_at hl 1 rfl) ?_
      refine lv_ishr hx hb dX9_hasLine_15 ?_
      refine lv_topi (fun x4 e4 => ?_)
      refine lv_iconst (v := 1) hx hb dX9_hasLine_16 (by decide) ?_
      refine lv_iand hx hb dX9_hasLine_17 ?_
      refine lv_topi (fun x5 e5 => ?_)
      have t5 : 0 ≤ x5.toInt ∧ x5.toInt ≤ (1 : Int) := ga_and e5 rfl (by omega)
      refine lv_if_eq (tgt := 25) hx hb dX9_hasLine_18 (by decide) (fun c6 => ?_) (fun c6 => ?_)
      · have t6 : x5.toInt = (0 : Int) := gl_eq c6
        refine lv_iconst (v := 0) hx hb dX9_hasLine_25 (by decide) ?_
        exact W.zret (v := 0) (ty := .boolean) hx hb hr rfl (fun t ht hW => ⟨⟨0, (), rfl, Or.inr rfl, by rw [ht]; exact hP, va_K.moved hW.alike hK⟩, hS.F ht⟩) hS.2.2 dX9_hasLine_26
      · have t6 : x5.toInt ≠ (0 : Int) := gl_ne c6
        refine lv_iconst (v := 1) hx hb dX9_hasLine_21 (by decide) ?_
        refine lv_goto (tgt := 26) hx hb dX9_hasLine_22 (by decide) ?_
        exact W.zret (v := 1) (ty := .boolean) hx hb hr rfl (fun t ht hW => ⟨⟨1, (), rfl, Or.inl ⟨rfl, ⟨by omega, by omega⟩⟩, by rw [ht]; exact hP, va_K.moved hW.alike hK⟩, hS.F ht⟩) hS.2.2 dX9_hasLine_26
set_option maxRecDepth 100000 in
set_option maxHeartbeats 8000000 in
theorem u_Told_hasRemark (l : Launch) (D : va_G) (ca : Nat → ClassId) (o : Nat) (b z : Nat → Nat → Int32) (y : Nat → Nat → Int64) (J0 : qJU b z) (a0 : Int32)  : qM l yX9_hasRemark cX9_hasRemark 2 (some .boolean) 2 81 (qPre D vwCl (qT6 ca) o 132 (qG (GU ca o) z y) [.ref (o + 1), .int a0]) (va_Qi (fun r (_ : Unit) => ((r = 1 ∧ (0 ≤ a0.toInt ∧ a0.toInt ≤ 9)) ∨ (r = 0))) (qB D vwCl (qT6 ca) o 132 (fun _ : Unit => qG (GU ca o) z y)) (qw_A o 132)) (qw_A o 132) := by
  refine Met.ofW (cc := cX9_hasRemark) (maxL := 2) (ret := (some .boolean)) (by decide) rfl ?_
  intro p e s m args below meth c s₁ B hml hv
  obtain ⟨rfl, hP, hK⟩ := hv
  have hx := B.exec
  have hb := B.bytes
  have hr := B.returns
  have hts0 := atoms_spec (ws := Cond.code yX9_hasRemark cX9_hasRemark 2 (some .boolean) :: qtbl) B.pre
  have hts : ∀ w ∈ qtbl, w.before _ s = true := fun w h => hts0 w (List.mem_cons_of_mem _ h)
  have hown : s.vm.findClass RX9 = some m.cls := findClass_of_methodNamed B.named
  have hlocks := B.notSynchronized
  have hS : va_S (qw_A o 132) s.heap s.heap [] := va_S.rf
  have hl := lv_entry ([.ref (o + 1), .int a0]) (n := 2) (Nat.le_of_ble_eq_true rfl)
  rw [lg_entry_eq]
  generalize (lg_sl ([.ref (o + 1), .int a0]) ++ List.replicate (2 - (lg_sl ([.ref (o + 1), .int a0])).length) Slot.unset).toArray = ls at hl ⊢
  have hl : lv_has ls 2 [(0, .ref (o + 1)), (1, .int a0)] := hl
  refine lv_iload_n hx hb dX9_hasRemark_0 rfl (lv_at hl 1 rfl) ?_
  refine lv_bipush (v := 10) hx hb dX9_hasRemark_1 (by decide) ?_
  refine lv_icmp_ge (tgt := 18) hx hb dX9_hasRemark_3 (by decide) (fun c1 => ?_) (fun c1 => ?_)
  · have t1 : a0.toInt ≥ (10 : Int) := gl_le c1
    refine lv_iconst (v := 0) hx hb dX9_hasRemark_18 (by decide) ?_
    exact W.zret (v := 0) (ty := .boolean) hx hb hr rfl (fun t ht hW => ⟨⟨0, (), rfl, Or.inr rfl, by rw [ht]; exact hP, va_K.moved hW.alike hK⟩, hS.F ht⟩) hS.2.2 dX9_hasRemark_19
  · have t1 : a0.toInt < (10 : Int) := gl_nle c1
    refine lv_aload_n hx hb dX9_hasRemark_6 rfl (lv_at hl 0 rfl) ?_
    refine lv_iload_n hx hb dX9_hasRemark_7 rfl (lv_at hl 1 rfl) ?_
    refine qc_Vip (As := [.int a0]) (rest := []) (k0 := 1) (u_Told_hasLine l D ca o b z y J0 a0) kc_yX9_hasLine ⟨hx, hb, hml, hown, hts⟩ wq_531 rfl rfl ⟨Nat.le_of_ble_eq_true rfl, Nat.le_of_ble_eq_true rfl⟩ wq_all hP hK hS qw_Ai (q0 := 1) (by decide) (hgU_1 ca o _ _) rfl rfl hl.1 rfl (Nat.le_of_ble_eq_true rfl) dX9_hasRemark_8 ⟨Nat.zero_le _, Nat.zero_le _⟩ (fun r2 H locs h2 hP hS _ _ => ?_)
    rcases h2 with ⟨hr2, hf2_0⟩ | hr2
    · subst hr2
      have hg2_0 : 0 ≤ a0.toInt ∧ a0.toInt ≤ 15 := hf2_0
      refine lv_if_eq (tgt := 18) hx hb dX9_hasRemark_11 (by decide) (fun q => absurd q (by decide)) (fun _ => ?_)
      refine lv_iconst (v := 1) hx hb dX9_hasRemark_14 (by decide) ?_
      refine lv_goto (tgt := 19) hx hb dX9_hasRemark_15 (by decide) ?_
      exact W.zret (v := 1) (ty := .boolean) hx hb hr rfl (fun t ht hW => ⟨⟨1, (), rfl, Or.inl ⟨rfl, ⟨by omega, by omega⟩⟩, by rw [ht]; exact hP, va_K.moved hW.alike hK⟩, hS.F ht⟩) hS.2.2 dX9_hasRemark_19
    · subst hr2
      refine lv_if_eq (tgt := 18) hx hb dX9_hasRemark_11 (by decide) (fun _ => ?_) (fun q => absurd (by decide) q)
      refine lv_iconst (v := 0) hx hb dX9_hasRemark_18 (by decide) ?_
      exact W.zret (v := 0) (ty := .boolean) hx hb hr rfl (fun t ht hW => ⟨⟨0, (), rfl, Or.inr rfl, by rw [ht]; exact hP, va_K.moved hW.alike hK⟩, hS.F ht⟩) hS.2.2 dX9_hasRemark_19
set_option maxRecDepth 100000 in
set_option maxHeartbeats 8000000 in
theorem u_takeBack (l : Launch) (D : va_G) (ca : Nat → ClassId) (o : Nat) (b z : Nat → Nat → Int32) (y : Nat → Nat → Int64) (J0 : qJU b z) (a0 : Int32)  : qM l yX10_takeBack cX10_takeBack 2 (some .boolean) 3 102 (qPre D vwCl (qT6 ca) o 132 (qG (GU ca o) z y) [.ref (o + 0), .int a0]) (va_Qi (fun r u => ((0 : Int) ≤ r.toInt ∧ r.toInt ≤ 1) ∧ qJU b u.1) (qB D vwCl (qT6 ca) o 132 (fun u : qZ => qG (GU ca o) u.1 u.2)) (qw_A o 132)) (qw_A o 132) := by
  refine Met.ofW (cc := cX10_takeBack) (maxL := 2) (ret := (some .boolean)) (by decide) rfl ?_
  intro p e s m args below meth c s₁ B hml hv
  obtain ⟨rfl, hP, hK⟩ := hv
  have hx := B.exec
  have hb := B.bytes
  have hr := B.returns
  have hts0 := atoms_spec (ws := Cond.code yX10_takeBack cX10_takeBack 2 (some .boolean) :: qtbl) B.pre
  have hts : ∀ w ∈ qtbl, w.before _ s = true := fun w h => hts0 w (List.mem_cons_of_mem _ h)
  have hown : s.vm.findClass RX10 = some m.cls := findClass_of_methodNamed B.named
  have hlocks := B.notSynchronized
  have hS : va_S (qw_A o 132) s.heap s.heap [] := va_S.rf
  have hl := lv_entry ([.ref (o + 0), .int a0]) (n := 2) (Nat.le_of_ble_eq_true rfl)
  rw [lg_entry_eq]
  generalize (lg_sl ([.ref (o + 0), .int a0]) ++ List.replicate (2 - (lg_sl ([.ref (o + 0), .int a0])).length) Slot.unset).toArray = ls at hl ⊢
  have hl : lv_has ls 2 [(0, .ref (o + 0)), (1, .int a0)] := hl
  refine lv_aload_n hx hb dX10_takeBack_0 rfl (lv_at hl 0 rfl) ?_
  refine qf_get hx hb hts inX10 hown hK hP (q0 := 0) (by decide) (hgU_0 ca o) rfl 0 (by decide) wq_353 (v := .ref (o + 1)) rfl dX10_takeBack_1 ?_
  refine lv_iload_n hx hb dX10_takeBack_4 rfl (lv_at hl 1 rfl) ?_
  refine qc_Vip (As := [.int a0]) (rest := []) (k0 := 1) (u_Told_hasRemark l D ca o b z y J0 a0) kc_yX9_hasRemark ⟨hx, hb, hml, hown, hts⟩ wq_527 rfl rfl ⟨Nat.le_of_ble_eq_true rfl, Nat.le_of_ble_eq_true rfl⟩ wq_all hP hK hS qw_Ai (q0 := 1) (by decide) (hgU_1 ca o _ _) rfl rfl hl.1 rfl (Nat.le_of_ble_eq_true rfl) dX10_takeBack_5 ⟨Nat.zero_le _, Nat.zero_le _⟩ (fun r1 H locs h1 hP hS _ _ => ?_)
  rcases h1 with ⟨hr1, hf1_0⟩ | hr1
  · subst hr1
    have hg1_0 : 0 ≤ a0.toInt ∧ a0.toInt ≤ 9 := hf1_0
    refine lv_if_ne (tgt := 13) hx hb dX10_takeBack_8 (by decide) (fun _ => ?_) (fun q => absurd q (by decide))
    refine lv_aload_n hx hb dX10_takeBack_13 rfl (lv_at hl 0 rfl) ?_
    refine qf_get hx hb hts inX10 hown hK hP (q0 := 0) (by decide) (hgU_0 ca o) rfl 0 (by decide) wq_353 (v := .ref (o + 1)) rfl dX10_takeBack_14 ?_
    refine lv_dup hx hb dX10_takeBack_17 rfl ?_
    refine qf_get hx hb hts inX9 hown hK hP (q0 := 1) (by decide) (hgU_1 ca o) rfl 6 (by decide) wq_101 (v := .int (z 1 6)) rfl dX10_takeBack_18 ?_
    refine lv_topi (fun x2 e2 => ?_)
    refine lv_iconst (v := 1) hx hb dX10_takeBack_21 (by decide) ?_
    refine lv_iload_n hx hb dX10_takeBack_22 rfl (lv_at hl 1 rfl) ?_
    refine lv_ishl hx hb dX10_takeBack_23 ?_
    refine lv_topi (fun x3 e3 => ?_)
    have t3 : 1 ≤ x3.toInt ∧ x3.toInt ≤ 512 := ga_shl 9 512 e3 (by decide) (by decide) (by omega) (by omega)
    refine lv_iconst (v := (-1)) hx hb dX10_takeBack_24 (by decide) ?_
    refine lv_ixor hx hb dX10_takeBack_25 ?_
    refine lv_topi (fun x4 e4 => ?_)
    refine lv_iand hx hb dX10_takeBack_26 ?_
    refine lv_topi (fun x5 e5 => ?_)
    refine qf_put2 hx hb hts inX9 tyX9 tyX9_ok nmX9 hown hK hP hS qw_Ai (q0 := 1) (by decide) (hgU_1 ca o) rfl 6 (by decide) wq_101 rfl (x := x5) 6 rfl rfl rfl (Nat.le_of_ble_eq_true rfl) dX10_takeBack_27 (fun z6 H locs hz6 hP hS => ?_)
    have J6 := jU_1_6 J0 hz6
    refine lv_aload_n hx hb dX10_takeBack_30 rfl (lv_at hl 0 rfl) ?_
    refine qf_get hx hb hts inX10 hown hK hP (q0 := 0) (by decide) (hgU_0 ca o) rfl 7 (by decide) wq_360 (v := .ref (o + 108)) rfl dX10_takeBack_31 ?_
    refine qc_Vv2 (As := []) (rest := []) (k0 := 0) (u_Fits_forget l D ca o b z6 y J6) kc_yX3_forget ⟨hx, hb, hml, hown, hts⟩ wq_403 rfl rfl ⟨Nat.le_of_ble_eq_true rfl, Nat.le_of_ble_eq_true rfl⟩ wq_all hP hK hS qw_Ai (q0 := 108) (by decide) (hgU_108 ca o _ _) rfl rfl hl.1 rfl (Nat.le_of_ble_eq_true rfl) dX10_takeBack_34 ⟨Nat.zero_le _, Nat.zero_le _⟩ (fun z7 y7 H locs h7 hP hS _ _ => ?_)
    have J7 : qJU b z7 := h7
    refine lv_iconst (v := 1) hx hb dX10_takeBack_37 (by decide) ?_
    exact W.zret (v := 1) (ty := .boolean) hx hb hr rfl (fun t ht hW => ⟨⟨1, (z7, y7), rfl, ⟨⟨by decide, by decide⟩, J7⟩, by rw [ht]; exact hP, va_K.moved hW.alike hK⟩, hS.F ht⟩) hS.2.2 dX10_takeBack_38
  · subst hr1
    refine lv_if_ne (tgt := 13) hx hb dX10_takeBack_8 (by decide) (fun q => absurd q (by decide)) (fun _ => ?_)
    refine lv_iconst (v := 0) hx hb dX10_takeBack_11 (by decide) ?_
    exact W.zret (v := 0) (ty := .boolean) hx hb hr rfl (fun t ht hW => ⟨⟨0, (z, y), rfl, ⟨⟨by decide, by decide⟩, J0⟩, by rw [ht]; exact hP, va_K.moved hW.alike hK⟩, hS.F ht⟩) hS.2.2 dX10_takeBack_12
set_option maxRecDepth 100000 in
set_option maxHeartbeats 8000000 in
theorem u_Told_allRows (l : Launch) (D : va_G) (ca : Nat → ClassId) (o : Nat) (b z : Nat → Nat → Int32) (y : Nat → Nat → Int64) (J0 : qJU b z)   : qM l yX9_allRows cX9_allRows 4 (some .long) 2 81 (qPre D vwCl (qT6 ca) o 132 (qG (GU ca o) z y) [.ref (o + 1)]) (va_Ql (fun r (_ : Unit) => True) (qB D vwCl (qT6 ca) o 132 (fun _ : Unit => qG (GU ca o) z y)) (qw_A o 132)) (qw_A o 132) := by
  refine Met.ofW (cc := cX9_allRows) (maxL := 4) (ret := (some .long)) (by decide) rfl ?_
  intro p e s m args below meth c s₁ B hml hv
  obtain ⟨rfl, hP, hK⟩ := hv
  have hx := B.exec
  have hb := B.bytes
  have hr := B.returns
  have hts0 := atoms_spec (ws := Cond.code yX9_allRows cX9_allRows 4 (some .long) :: qtbl) B.pre
  have hts : ∀ w ∈ qtbl, w.before _ s = true := fun w h => hts0 w (List.mem_cons_of_mem _ h)
  have hown : s.vm.findClass RX9 = some m.cls := findClass_of_methodNamed B.named
  have hlocks := B.notSynchronized
  have hS : va_S (qw_A o 132) s.heap s.heap [] := va_S.rf
  have hl := lv_entry ([.ref (o + 1)]) (n := 4) (Nat.le_of_ble_eq_true rfl)
  rw [lg_entry_eq]
  generalize (lg_sl ([.ref (o + 1)]) ++ List.replicate (4 - (lg_sl ([.ref (o + 1)])).length) Slot.unset).toArray = ls at hl ⊢
  have hl : lv_has ls 4 [(0, .ref (o + 1))] := hl
  refine lv_lconst (v := 1) hx hb dX9_allRows_0 (by decide) ?_
  refine lv_lstore_n (lv' := [(1, .long 1), (0, .ref (o + 1))]) hx hb dX9_allRows_1 rfl hl (by decide) rfl (fun ls hl => ?_)
  refine lv_iconst (v := 0) hx hb dX9_allRows_2 (by decide) ?_
  refine lv_istore_n (lv' := [(3, .int 0), (1, .long 1), (0, .ref (o + 1))]) hx hb dX9_allRows_3 rfl hl (by decide) rfl (fun ls hl => ?_)
  have loop1 : ∀ (n : Nat) (w1_3 : Int32) (w1_1 : Int64), ((6 - w1_3.toInt : Int) < (n : Int)) → ((0 : Int) ≤ w1_3.toInt ∧ w1_3.toInt ≤ 6) → ∀ (H : Heap) (locs : List Loc), qw_P D vwCl o 132 (qG (GU ca o) z y) H → va_S (qw_A o 132) s.heap H locs → ∀ (ls : Array Slot), lv_has ls 4 [(3, .int w1_3), (1, .long w1_1), (0, .ref (o + 1))] → W p l e (headSpec (Cond.code yX9_allRows cX9_allRows 4 (some .long) :: qtbl) ({ frames := 2, cells := 0, slots := 0, locals := 81 })).room s m (([.ref (o + 1)] : List Value).toArray) below meth c H locs 0 0 (MQ below (va_Ql (fun r (_ : Unit) => True) (qB D vwCl (qT6 ca) o 132 (fun _ : Unit => qG (GU ca o) z y)) (qw_A o 132)) (([.ref (o + 1)] : List Value).toArray) s 0 0 (qw_A o 132)) (F0 m 4 ls []) := by
    intro n
    induction n with
    | zero => intro w1_3 w1_1 hb1 hv1_3; exfalso; omega
    | succ n1 ih1 =>
      intro w1_3 w1_1 hb1 hv1_3 H locs hP hS ls hl
      refine lv_iload_n hx hb dX9_allRows_4 rfl (lv_at hl 0 rfl) ?_
      refine lv_bipush (v := 6) hx hb dX9_allRows_5 (by decide) ?_
      refine lv_icmp_ge (tgt := 43) hx hb dX9_allRows_7 (by decide) (fun c2 => ?_) (fun c2 => ?_)
      · have t2 : w1_3.toInt ≥ (6 : Int) := gl_le c2
        refine lv_lload_n hx hb dX9_allRows_43 rfl (lv_at hl 1 rfl) ?_
        exact W.lret (v := w1_1) hx hb hr (fun t ht hW => ⟨⟨w1_1, (), rfl, trivial, by rw [ht]; exact hP, va_K.moved hW.alike hK⟩, hS.F ht⟩) hS.2.2 dX9_allRows_44
      · have t2 : w1_3.toInt < (6 : Int) := gl_nle c2
        refine lv_aload_n hx hb dX9_allRows_10 rfl (lv_at hl 2 rfl) ?_
        refine lv_iload_n hx hb dX9_allRows_11 rfl (lv_at hl 0 rfl) ?_
        refine qc_Vip (As := [.int w1_3]) (rest := []) (k0 := 1) (u_Told_hasPerson l D ca o b z y J0 w1_3) kc_yX9_hasPerson ⟨hx, hb, hml, hown, hts⟩ wq_577 rfl rfl ⟨Nat.le_of_ble_eq_true rfl, Nat.le_of_ble_eq_true rfl⟩ wq_all hP hK hS qw_Ai (q0 := 1) (by decide) (hgU_1 ca o _ _) rfl rfl hl.1 rfl (Nat.le_of_ble_eq_true rfl) dX9_allRows_12 ⟨Nat.zero_le _, Nat.zero_le _⟩ (fun r3 H locs h3 hP hS _ _ => ?_)
        rcases h3 with ⟨hr3, hf3_0, hf3_1⟩ | ⟨hr3, hf3_0⟩
        · subst hr3
          have hg3_0 : pHas (z 1 5) w1_3 := hf3_0
          have hg3_1 : 0 ≤ w1_3.toInt ∧ w1_3.toInt ≤ 5 := hf3_1
          refine lv_if_eq (tgt := 37) hx hb dX9_allRows_15 (by decide) (fun q => absurd q (by decide)) (fun _ => ?_)
          refine lv_lload_n hx hb dX9_allRows_18 rfl (lv_at hl 1 rfl) ?_
          refine lv_aload_n hx hb dX9_allRows_19 rfl (lv_at hl 2 rfl) ?_
          refine qf_get hx hb hts inX9 hown hK hP (q0 := 1) (by decide) (hgU_1 ca o) rfl 1 (by decide) wq_85 (v := .ref (o + 3)) rfl dX9_allRows_20 ?_
          refine lv_iload_n hx hb dX9_allRows_23 rfl (lv_at hl 0 rfl) ?_
          refine qa_iald hx hb hK hP (q0 := 3) (by decide) 0 (N := 6) (hgU_3 ca o) rfl (gi_in (by omega) (by omega)) dX9_allRows_24 ?_
          refine lv_topi (fun x4 e4 => ?_)
          have b4 := iU_3 J0 e4
          refine lv_aload_n hx hb dX9_allRows_25 rfl (lv_at hl 2 rfl) ?_
          refine qf_get hx hb hts inX9 hown hK hP (q0 := 1) (by decide) (hgU_1 ca o) rfl 0 (by decide) wq_81 (v := .ref (o + 2)) rfl dX9_allRows_26 ?_
          refine lv_iload_n hx hb dX9_allRows_29 rfl (lv_at hl 0 rfl) ?_
          refine qa_iald hx hb hK hP (q0 := 2) (by decide) 0 (N := 6) (hgU_2 ca o) rfl (gi_in (by omega) (by omega)) dX9_allRows_30 ?_
          refine lv_topi (fun x5 e5 => ?_)
          have b5 := iU_2 J0 e5
          refine lv_isub hx hb dX9_allRows_31 ?_
          refine lv_topi (fun x6 e6 => ?_)
          have t6 : x6.toInt = x4.toInt - x5.toInt := ga_sub e6 rfl rfl (by omega) (by omega)
          refine lv_iconst (v := 1) hx hb dX9_allRows_32 (by decide) ?_
          refine lv_iadd hx hb dX9_allRows_33 ?_
          refine lv_topi (fun x7 e7 => ?_)
          have t7 : x7.toInt = x6.toInt + (1 : Int) := ga_add e7 rfl rfl (by omega) (by omega)
          refine lv_i2l hx hb dX9_allRows_34 rfl ?_
          refine lv_topl (fun j8 e8 => ?_)
          have t8 : j8.toInt = x7.toInt := ga_i2l e8
          refine lv_lmul hx hb dX9_allRows_35 ?_
          refine lv_topl (fun j9 e9 => ?_)
          refine lv_lstore_n (lv' := [(1, .long j9), (3, .int w1_3), (0, .ref (o + 1))]) hx hb dX9_allRows_36 rfl hl (by decide) rfl (fun ls hl => ?_)
          obtain ⟨x10, e10⟩ : ∃ t : Int32, t = w1_3 + 1 := ⟨_, rfl⟩
          refine lv_iinc (v := x10) (lv' := [(3, .int x10), (1, .long j9), (0, .ref (o + 1))]) hx hb dX9_allRows_37 hl (k := 1) rfl (by rw [e10]; rfl) (by decide) rfl (fun ls hl => ?_)
          have t10 : x10.toInt = w1_3.toInt + (1 : Int) := ga_add e10 rfl rfl (by omega) (by omega)
          refine lv_goto (tgt := 4) hx hb dX9_allRows_40 (by decide) ?_
          exact ih1 x10 j9 (show (6 - x10.toInt : Int) < (n1 : Int) from by omega) ⟨by omega, by omega⟩ _ _ hP hS _ (lv_sub hl [0, 1, 2] rfl)
        · subst hr3
          have hg3_0 : ¬ pHas (z 1 5) w1_3 := hf3_0
          refine lv_if_eq (tgt := 37) hx hb dX9_allRows_15 (by decide) (fun _ => ?_) (fun q => absurd (by decide) q)
          obtain ⟨x11, e11⟩ : ∃ t : Int32, t = w1_3 + 1 := ⟨_, rfl⟩
          refine lv_iinc (v := x11) (lv' := [(3, .int x11), (1, .long w1_1), (0, .ref (o + 1))]) hx hb dX9_allRows_37 hl (k := 0) rfl (by rw [e11]; rfl) (by decide) rfl (fun ls hl => ?_)
          have t11 : x11.toInt = w1_3.toInt + (1 : Int) := ga_add e11 rfl rfl (by omega) (by omega)
          refine lv_goto (tgt := 4) hx hb dX9_allRows_40 (by decide) ?_
          exact ih1 x11 w1_1 (show (6 - x11.toInt : Int) < (n1 : Int) from by omega) ⟨by omega, by omega⟩ _ _ hP hS _ (lv_sub hl [0, 1, 2] rfl)
  exact loop1 7 0 1 (show (6 - (0 : Int) : Int) < ((7 : Nat) : Int) from by omega) ⟨by decide, by decide⟩ _ _ hP hS _ (lv_sub hl [0, 1, 2] rfl)
set_option maxRecDepth 100000 in
set_option maxHeartbeats 8000000 in
theorem u_rows (l : Launch) (D : va_G) (ca : Nat → ClassId) (o : Nat) (b z : Nat → Nat → Int32) (y : Nat → Nat → Int64) (J0 : qJU b z)   : qM l yX10_rows cX10_rows 3 (some .int) 3 104 (qPre D vwCl (qT6 ca) o 132 (qG (GU ca o) z y) [.ref (o + 0)]) (va_Qi (fun r (_ : Unit) => True) (qB D vwCl (qT6 ca) o 132 (fun _ : Unit => qG (GU ca o) z y)) (qw_A o 132)) (qw_A o 132) := by
  refine Met.ofW (cc := cX10_rows) (maxL := 3) (ret := (some .int)) (by decide) rfl ?_
  intro p e s m args below meth c s₁ B hml hv
  obtain ⟨rfl, hP, hK⟩ := hv
  have hx := B.exec
  have hb := B.bytes
  have hr := B.returns
  have hts0 := atoms_spec (ws := Cond.code yX10_rows cX10_rows 3 (some .int) :: qtbl) B.pre
  have hts : ∀ w ∈ qtbl, w.before _ s = true := fun w h => hts0 w (List.mem_cons_of_mem _ h)
  have hown : s.vm.findClass RX10 = some m.cls := findClass_of_methodNamed B.named
  have hlocks := B.notSynchronized
  have hS : va_S (qw_A o 132) s.heap s.heap [] := va_S.rf
  have hl := lv_entry ([.ref (o + 0)]) (n := 3) (Nat.le_of_ble_eq_true rfl)
  rw [lg_entry_eq]
  generalize (lg_sl ([.ref (o + 0)]) ++ List.replicate (3 - (lg_sl ([.ref (o + 0)])).length) Slot.unset).toArray = ls at hl ⊢
  have hl : lv_has ls 3 [(0, .ref (o + 0))] := hl
  refine lv_aload_n hx hb dX10_rows_0 rfl (lv_at hl 0 rfl) ?_
  refine qf_get hx hb hts inX10 hown hK hP (q0 := 0) (by decide) (hgU_0 ca o) rfl 0 (by decide) wq_353 (v := .ref (o + 1)) rfl dX10_rows_1 ?_
  refine qc_Vlp (As := []) (rest := []) (k0 := 0) (u_Told_allRows l D ca o b z y J0) kc_yX9_allRows ⟨hx, hb, hml, hown, hts⟩ wq_573 rfl rfl ⟨Nat.le_of_ble_eq_true rfl, Nat.le_of_ble_eq_true rfl⟩ wq_all hP hK hS qw_Ai (q0 := 1) (by decide) (hgU_1 ca o _ _) rfl rfl hl.1 rfl (Nat.le_of_ble_eq_true rfl) dX10_rows_4 ⟨Nat.zero_le _, Nat.zero_le _⟩ (fun r1 H locs h1 hP hS _ _ => ?_)
  refine lv_lstore_n (lv' := [(1, .long r1), (0, .ref (o + 0))]) hx hb dX10_rows_7 rfl hl (by decide) rfl (fun ls hl => ?_)
  refine lv_lload_n hx hb dX10_rows_8 rfl (lv_at hl 0 rfl) ?_
  refine lv_ldc2 (v := 200000) hx hb hown (hts _ wq_578) dX10_rows_9 ?_
  refine W.lcmp hx hb dX10_rows_12 ?_
  refine lv_topi (fun x2 e2 => ?_)
  refine lv_if_le (tgt := 21) hx hb dX10_rows_13 (by decide) (fun c3 => ?_) (fun c3 => ?_)
  · have t3 : x2.toInt ≤ (0 : Int) := gl_le c3
    refine lv_lload_n hx hb dX10_rows_21 rfl (lv_at hl 0 rfl) ?_
    refine lv_l2i hx hb dX10_rows_22 rfl ?_
    refine lv_topi (fun x4 e4 => ?_)
    exact W.iret (v := x4) hx hb hr (fun t ht hW => ⟨⟨x4, (), rfl, trivial, by rw [ht]; exact hP, va_K.moved hW.alike hK⟩, hS.F ht⟩) hS.2.2 dX10_rows_23
  · have t3 : x2.toInt > (0 : Int) := gl_nle c3
    refine lv_bipush (v := (-3)) hx hb dX10_rows_16 (by decide) ?_
    refine lv_goto (tgt := 23) hx hb dX10_rows_18 (by decide) ?_
    exact W.iret (v := (-3)) hx hb hr (fun t ht hW => ⟨⟨(-3), (), rfl, trivial, by rw [ht]; exact hP, va_K.moved hW.alike hK⟩, hS.F ht⟩) hS.2.2 dX10_rows_23
set_option maxRecDepth 100000 in
set_option maxHeartbeats 8000000 in
theorem u_Told_remarksSaid (l : Launch) (D : va_G) (ca : Nat → ClassId) (o : Nat) (b z : Nat → Nat → Int32) (y : Nat → Nat → Int64) (J0 : qJU b z)   : qM l yX9_remarksSaid cX9_remarksSaid 1 (some .int) 1 60 (qPre D vwCl (qT6 ca) o 132 (qG (GU ca o) z y) [.ref (o + 1)]) (va_Qi (fun r (_ : Unit) => ((0 : Int) ≤ r.toInt ∧ r.toInt ≤ 1023)) (qB D vwCl (qT6 ca) o 132 (fun _ : Unit => qG (GU ca o) z y)) (qw_A o 132)) (qw_A o 132) := by
  refine Met.ofW (cc := cX9_remarksSaid) (maxL := 1) (ret := (some .int)) (by decide) rfl ?_
  intro p e s m args below meth c s₁ B hml hv
  obtain ⟨rfl, hP, hK⟩ := hv
  have hx := B.exec
  have hb := B.bytes
  have hr := B.returns
  have hts0 := atoms_spec (ws := Cond.code yX9_remarksSaid cX9_remarksSaid 1 (some .int) :: qtbl) B.pre
  have hts : ∀ w ∈ qtbl, w.before _ s = true := fun w h => hts0 w (List.mem_cons_of_mem _ h)
  have hown : s.vm.findClass RX9 = some m.cls := findClass_of_methodNamed B.named
  have hlocks := B.notSynchronized
  have hS : va_S (qw_A o 132) s.heap s.heap [] := va_S.rf
  have hl := lv_entry ([.ref (o + 1)]) (n := 1) (Nat.le_of_ble_eq_true rfl)
  rw [lg_entry_eq]
  generalize (lg_sl ([.ref (o + 1)]) ++ List.replicate (1 - (lg_sl ([.ref (o + 1)])).length) Slot.unset).toArray = ls at hl ⊢
  have hl : lv_has ls 1 [(0, .ref (o + 1))] := hl
  refine lv_aload_n hx hb dX9_remarksSaid_0 rfl (lv_at hl 0 rfl) ?_
  refine qf_get hx hb hts inX9 hown hK hP (q0 := 1) (by decide) (hgU_1 ca o) rfl 6 (by decide) wq_100 (v := .int (z 1 6)) rfl dX9_remarksSaid_1 ?_
  refine lv_topi (fun x1 e1 => ?_)
  refine lv_sipush (v := 1023) hx hb dX9_remarksSaid_4 (by decide) ?_
  refine lv_iand hx hb dX9_remarksSaid_7 ?_
  refine lv_topi (fun x2 e2 => ?_)
  have t2 : 0 ≤ x2.toInt ∧ x2.toInt ≤ (1023 : Int) := ga_and e2 rfl (by omega)
  exact W.iret (v := x2) hx hb hr (fun t ht hW => ⟨⟨x2, (), rfl, ⟨by omega, by omega⟩, by rw [ht]; exact hP, va_K.moved hW.alike hK⟩, hS.F ht⟩) hS.2.2 dX9_remarksSaid_8
set_option maxRecDepth 100000 in
set_option maxHeartbeats 8000000 in
theorem u_areRemarks (l : Launch) (D : va_G) (ca : Nat → ClassId) (o : Nat) (b z : Nat → Nat → Int32) (y : Nat → Nat → Int64) (J0 : qJU b z) (a0 : Int32)  : qM l yX10_areRemarks cX10_areRemarks 2 (some .boolean) 2 80 (qPre D vwCl (qT6 ca) o 132 (qG (GU ca o) z y) [.ref (o + 0), .int a0]) (va_Qi (fun r (_ : Unit) => ((0 : Int) ≤ r.toInt ∧ r.toInt ≤ 1)) (qB D vwCl (qT6 ca) o 132 (fun _ : Unit => qG (GU ca o) z y)) (qw_A o 132)) (qw_A o 132) := by
  refine Met.ofW (cc := cX10_areRemarks) (maxL := 2) (ret := (some .boolean)) (by decide) rfl ?_
  intro p e s m args below meth c s₁ B hml hv
  obtain ⟨rfl, hP, hK⟩ := hv
  have hx := B.exec
  have hb := B.bytes
  have hr := B.returns
  have hts0 := atoms_spec (ws := Cond.code yX10_areRemarks cX10_areRemarks 2 (some .boolean) :: qtbl) B.pre
  have hts : ∀ w ∈ qtbl, w.before _ s = true := fun w h => hts0 w (List.mem_cons_of_mem _ h)
  have hown : s.vm.findClass RX10 = some m.cls := findClass_of_methodNamed B.named
  have hlocks := B.notSynchronized
  have hS : va_S (qw_A o 132) s.heap s.heap [] := va_S.rf
  have hl := lv_entry ([.ref (o + 0), .int a0]) (n := 2) (Nat.le_of_ble_eq_true rfl)
  rw [lg_entry_eq]
  generalize (lg_sl ([.ref (o + 0), .int a0]) ++ List.replicate (2 - (lg_sl ([.ref (o + 0), .int a0])).length) Slot.unset).toArray = ls at hl ⊢
  have hl : lv_has ls 2 [(0, .ref (o + 0)), (1, .int a0)] := hl
  refine lv_iload_n hx hb dX10_areRemarks_0 rfl (lv_at hl 1 rfl) ?_
  refine lv_aload_n hx hb dX10_areRemarks_1 rfl (lv_at hl 0 rfl) ?_
  refine qf_get hx hb hts inX10 hown hK hP (q0 := 0) (by decide) (hgU_0 ca o) rfl 0 (by decide) wq_353 (v := .ref (o + 1)) rfl dX10_areRemarks_2 ?_
  refine qc_Vip (As := []) (rest := [.int a0]) (k0 := 0) (u_Told_remarksSaid l D ca o b z y J0) kc_yX9_remarksSaid ⟨hx, hb, hml, hown, hts⟩ wq_553 rfl rfl ⟨Nat.le_of_ble_eq_true rfl, Nat.le_of_ble_eq_true rfl⟩ wq_all hP hK hS qw_Ai (q0 := 1) (by decide) (hgU_1 ca o _ _) rfl rfl hl.1 rfl (Nat.le_of_ble_eq_true rfl) dX10_areRemarks_5 ⟨Nat.zero_le _, Nat.zero_le _⟩ (fun r1 H locs h1 hP hS _ _ => ?_)
  have b1 : (0 : Int) ≤ r1.toInt ∧ r1.toInt ≤ 1023 := h1
  refine lv_iconst (v := (-1)) hx hb dX10_areRemarks_8 (by decide) ?_
  refine lv_ixor hx hb dX10_areRemarks_9 ?_
  refine lv_topi (fun x2 e2 => ?_)
  refine lv_iand hx hb dX10_areRemarks_10 ?_
  refine lv_topi (fun x3 e3 => ?_)
  refine lv_if_ne (tgt := 18) hx hb dX10_areRemarks_11 (by decide) (fun c4 => ?_) (fun c4 => ?_)
  · have t4 : x3.toInt ≠ (0 : Int) := gl_ne c4
    refine lv_iconst (v := 0) hx hb dX10_areRemarks_18 (by decide) ?_
    exact W.zret (v := 0) (ty := .boolean) hx hb hr rfl (fun t ht hW => ⟨⟨0, (), rfl, ⟨by decide, by decide⟩, by rw [ht]; exact hP, va_K.moved hW.alike hK⟩, hS.F ht⟩) hS.2.2 dX10_areRemarks_19
  · have t4 : x3.toInt = (0 : Int) := gl_eq c4
    refine lv_iconst (v := 1) hx hb dX10_areRemarks_14 (by decide) ?_
    refine lv_goto (tgt := 19) hx hb dX10_areRemarks_15 (by decide) ?_
    exact W.zret (v := 1) (ty := .boolean) hx hb hr rfl (fun t ht hW => ⟨⟨1, (), rfl, ⟨by decide, by decide⟩, by rw [ht]; exact hP, va_K.moved hW.alike hK⟩, hS.F ht⟩) hS.2.2 dX10_areRemarks_19
set_option maxRecDepth 100000 in
set_option maxHeartbeats 8000000 in
theorem u_Line_tells (l : Launch) (D : va_G) (ca : Nat → ClassId) (o : Nat) (b z : Nat → Nat → Int32) (y : Nat → Nat → Int64) (J0 : qJU b z) {i0_ : Nat} (hi0_ : i0_ < 16)  : qM l yX5_tells cX5_tells 4 (some .int) 1 60 (qPre D vwCl (qT6 ca) o 132 (qG (GU ca o) z y) [.ref (o + (7 + 2 * i0_)), .ref (o + 105)]) (va_Qi (fun r (_ : Unit) => True) (qB D vwCl (qT6 ca) o 132 (fun _ : Unit => qG (GU ca o) z y)) (qw_A o 132)) (qw_A o 132) := by
  refine Met.ofW (cc := cX5_tells) (maxL := 4) (ret := (some .int)) (by decide) rfl ?_
  intro p e s m args below meth c s₁ B hml hv
  obtain ⟨rfl, hP, hK⟩ := hv
  have hx := B.exec
  have hb := B.bytes
  have hr := B.returns
  have hts0 := atoms_spec (ws := Cond.code yX5_tells cX5_tells 4 (some .int) :: qtbl) B.pre
  have hts : ∀ w ∈ qtbl, w.before _ s = true := fun w h => hts0 w (List.mem_cons_of_mem _ h)
  have hown : s.vm.findClass RX5 = some m.cls := findClass_of_methodNamed B.named
  have hlocks := B.notSynchronized
  have hS : va_S (qw_A o 132) s.heap s.heap [] := va_S.rf
  have hl := lv_entry ([.ref (o + (7 + 2 * i0_)), .ref (o + 105)]) (n := 4) (Nat.le_of_ble_eq_true rfl)
  rw [lg_entry_eq]
  generalize (lg_sl ([.ref (o + (7 + 2 * i0_)), .ref (o + 105)]) ++ List.replicate (4 - (lg_sl ([.ref (o + (7 + 2 * i0_)), .ref (o + 105)])).length) Slot.unset).toArray = ls at hl ⊢
  have hl : lv_has ls 4 [(0, .ref (o + (7 + 2 * i0_))), (1, .ref (o + 105))] := hl
  refine lv_aload_n hx hb dX5_tells_0 rfl (lv_at hl 0 rfl) ?_
  refine qf_get hx hb hts inX5 hown hK hP (q0 := 7 + 2 * i0_) (show _ < _ from by have := hi0_; omega) (hgU_LT ca o hi0_) rfl 2 (by decide) wq_48 (v := .int (z (7 + 2 * i0_) 2)) rfl dX5_tells_1 ?_
  refine lv_topi (fun x1 e1 => ?_)
  refine lv_istore_n (lv' := [(2, .int x1), (0, .ref (o + (7 + 2 * i0_))), (1, .ref (o + 105))]) hx hb dX5_tells_4 rfl hl (by decide) rfl (fun ls hl => ?_)
  refine lv_iconst (v := 0) hx hb dX5_tells_5 (by decide) ?_
  refine lv_istore_n (lv' := [(3, .int 0), (2, .int x1), (0, .ref (o + (7 + 2 * i0_))), (1, .ref (o + 105))]) hx hb dX5_tells_6 rfl hl (by decide) rfl (fun ls hl => ?_)
  have loop2 : ∀ (n : Nat) (w2_3 : Int32) (w2_2 : Int32), ((6 - w2_3.toInt : Int) < (n : Int)) → ((0 : Int) ≤ w2_3.toInt ∧ w2_3.toInt ≤ 6) → ∀ (H : Heap) (locs : List Loc), qw_P D vwCl o 132 (qG (GU ca o) z y) H → va_S (qw_A o 132) s.heap H locs → ∀ (ls : Array Slot), lv_has ls 4 [(3, .int w2_3), (2, .int w2_2), (0, .ref (o + (7 + 2 * i0_))), (1, .ref (o + 105))] → W p l e (headSpec (Cond.code yX5_tells cX5_tells 4 (some .int) :: qtbl) ({ frames := 1, cells := 0, slots := 0, locals := 60 })).room s m (([.ref (o + (7 + 2 * i0_)), .ref (o + 105)] : List Value).toArray) below meth c H locs 0 0 (MQ below (va_Qi (fun r (_ : Unit) => True) (qB D vwCl (qT6 ca) o 132 (fun _ : Unit => qG (GU ca o) z y)) (qw_A o 132)) (([.ref (o + (7 + 2 * i0_)), .ref (o + 105)] : List Value).toArray) s 0 0 (qw_A o 132)) (F0 m 7 ls []) := by
    intro n
    induction n with
    | zero => intro w2_3 w2_2 hb2 hv2_3; exfalso; omega
    | succ n2 ih2 =>
      intro w2_3 w2_2 hb2 hv2_3 H locs hP hS ls hl
      refine lv_iload_n hx hb dX5_tells_7 rfl (lv_at hl 0 rfl) ?_
      refine lv_bipush (v := 6) hx hb dX5_tells_8 (by decide) ?_
      refine lv_icmp_ge (tgt := 32) hx hb dX5_tells_10 (by decide) (fun c3 => ?_) (fun c3 => ?_)
      · have t3 : w2_3.toInt ≥ (6 : Int) := gl_le c3
        refine lv_iload_n hx hb dX5_tells_32 rfl (lv_at hl 1 rfl) ?_
        exact W.iret (v := w2_2) hx hb hr (fun t ht hW => ⟨⟨w2_2, (), rfl, trivial, by rw [ht]; exact hP, va_K.moved hW.alike hK⟩, hS.F ht⟩) hS.2.2 dX5_tells_33
      · have t3 : w2_3.toInt < (6 : Int) := gl_nle c3
        refine lv_iload_n hx hb dX5_tells_13 rfl (lv_at hl 1 rfl) ?_
        refine lv_aload_n hx hb dX5_tells_14 rfl (lv_at hl 2 rfl) ?_
        refine qf_get hx hb hts inX5 hown hK hP (q0 := 7 + 2 * i0_) (show _ < _ from by have := hi0_; omega) (hgU_LT ca o hi0_) rfl 0 (by decide) wq_41 (v := .ref (o + (7 + 2 * i0_ + 1))) rfl dX5_tells_15 ?_
        refine lv_iload_n hx hb dX5_tells_18 rfl (lv_at hl 0 rfl) ?_
        refine qa_iald hx hb hK hP (q0 := 7 + 2 * i0_ + 1) (show _ < _ from by have := hi0_; omega) 0 (N := 6) (hgU_AT ca o hi0_) rfl (gi_in (by omega) (by omega)) dX5_tells_19 ?_
        refine lv_topi (fun x4 e4 => ?_)
        refine lv_aload_n hx hb dX5_tells_20 rfl (lv_at hl 3 rfl) ?_
        refine lv_iload_n hx hb dX5_tells_21 rfl (lv_at hl 0 rfl) ?_
        refine qa_iald hx hb hK hP (q0 := 105) (by decide) 0 (N := 6) (hgU_105 ca o) rfl (gi_in (by omega) (by omega)) dX5_tells_22 ?_
        refine lv_topi (fun x5 e5 => ?_)
        have b5 := iU_105 J0 e5
        refine lv_imul hx hb dX5_tells_23 ?_
        refine lv_topi (fun x6 e6 => ?_)
        refine lv_iadd hx hb dX5_tells_24 ?_
        refine lv_topi (fun x7 e7 => ?_)
        refine lv_istore_n (lv' := [(2, .int x7), (3, .int w2_3), (0, .ref (o + (7 + 2 * i0_))), (1, .ref (o + 105))]) hx hb dX5_tells_25 rfl hl (by decide) rfl (fun ls hl => ?_)
        obtain ⟨x8, e8⟩ : ∃ t : Int32, t = w2_3 + 1 := ⟨_, rfl⟩
        refine lv_iinc (v := x8) (lv' := [(3, .int x8), (2, .int x7), (0, .ref (o + (7 + 2 * i0_))), (1, .ref (o + 105))]) hx hb dX5_tells_26 hl (k := 1) rfl (by rw [e8]; rfl) (by decide) rfl (fun ls hl => ?_)
        have t8 : x8.toInt = w2_3.toInt + (1 : Int) := ga_add e8 rfl rfl (by omega) (by omega)
        refine lv_goto (tgt := 7) hx hb dX5_tells_29 (by decide) ?_
        exact ih2 x8 x7 (show (6 - x8.toInt : Int) < (n2 : Int) from by omega) ⟨by omega, by omega⟩ _ _ hP hS _ (lv_sub hl [0, 1, 2, 3] rfl)
  exact loop2 7 0 x1 (show (6 - (0 : Int) : Int) < ((7 : Nat) : Int) from by omega) ⟨by decide, by decide⟩ _ _ hP hS _ (lv_sub hl [0, 1, 2, 3] rfl)
set_option maxRecDepth 100000 in
set_option maxHeartbeats 8000000 in
theorem u_Rows_start (l : Launch) (D : va_G) (ca : Nat → ClassId) (o : Nat) (b z : Nat → Nat → Int32) (y : Nat → Nat → Int64) (J0 : qJU b z) (a0 : Int32)  : qM l yX7_start cX7_start 5 (some .boolean) 3 104 (qPre D vwCl (qT6 ca) o 132 (qG (GU ca o) z y) [.ref (o + 104), .int a0]) (va_Qi (fun r u => ((0 : Int) ≤ r.toInt ∧ r.toInt ≤ 1) ∧ qJU b u.1) (qB D vwCl (qT6 ca) o 132 (fun u : qZ => qG (GU ca o) u.1 u.2)) (qw_A o 132)) (qw_A o 132) := by
  refine Met.ofW (cc := cX7_start) (maxL := 5) (ret := (some .boolean)) (by decide) rfl ?_
  intro p e s m args below meth c s₁ B hml hv
  obtain ⟨rfl, hP, hK⟩ := hv
  have hx := B.exec
  have hb := B.bytes
  have hr := B.returns
  have hts0 := atoms_spec (ws := Cond.code yX7_start cX7_start 5 (some .boolean) :: qtbl) B.pre
  have hts : ∀ w ∈ qtbl, w.before _ s = true := fun w h => hts0 w (List.mem_cons_of_mem _ h)
  have hown : s.vm.findClass RX7 = some m.cls := findClass_of_methodNamed B.named
  have hlocks := B.notSynchronized
  have hS : va_S (qw_A o 132) s.heap s.heap [] := va_S.rf
  have hl := lv_entry ([.ref (o + 104), .int a0]) (n := 5) (Nat.le_of_ble_eq_true rfl)
  rw [lg_entry_eq]
  generalize (lg_sl ([.ref (o + 104), .int a0]) ++ List.replicate (5 - (lg_sl ([.ref (o + 104), .int a0])).length) Slot.unset).toArray = ls at hl ⊢
  have hl : lv_has ls 5 [(0, .ref (o + 104)), (1, .int a0)] := hl
  refine lv_aload_n hx hb dX7_start_0 rfl (lv_at hl 0 rfl) ?_
  refine qf_get hx hb hts inX7 hown hK hP (q0 := 104) (by decide) (hgU_104 ca o) rfl 0 (by decide) wq_185 (v := .ref (o + 1)) rfl dX7_start_1 ?_
  refine qc_Vlp (As := []) (rest := []) (k0 := 0) (u_Told_allRows l D ca o b z y J0) kc_yX9_allRows ⟨hx, hb, hml, hown, hts⟩ wq_595 rfl rfl ⟨Nat.le_of_ble_eq_true rfl, Nat.le_of_ble_eq_true rfl⟩ wq_all hP hK hS qw_Ai (q0 := 1) (by decide) (hgU_1 ca o _ _) rfl rfl hl.1 rfl (Nat.le_of_ble_eq_true rfl) dX7_start_4 ⟨Nat.zero_le _, Nat.zero_le _⟩ (fun r1 H locs h1 hP hS _ _ => ?_)
  refine lv_lstore_n (lv' := [(2, .long r1), (0, .ref (o + 104)), (1, .int a0)]) hx hb dX7_start_7 rfl hl (by decide) rfl (fun ls hl => ?_)
  refine lv_lload_n hx hb dX7_start_8 rfl (lv_at hl 0 rfl) ?_
  refine lv_ldc2 (v := 200000) hx hb hown (hts _ wq_596) dX7_start_9 ?_
  refine W.lcmp hx hb dX7_start_12 ?_
  refine lv_topi (fun x2 e2 => ?_)
  refine lv_if_le (tgt := 18) hx hb dX7_start_13 (by decide) (fun c3 => ?_) (fun c3 => ?_)
  · have t3 : x2.toInt ≤ (0 : Int) := gl_le c3
    refine lv_aload_n hx hb dX7_start_18 rfl (lv_at hl 1 rfl) ?_
    refine lv_lload_n hx hb dX7_start_19 rfl (lv_at hl 0 rfl) ?_
    refine lv_l2i hx hb dX7_start_20 rfl ?_
    refine lv_topi (fun x4 e4 => ?_)
    refine qf_put2 hx hb hts inX7 tyX7 tyX7_ok nmX7 hown hK hP hS qw_Ai (q0 := 104) (by decide) (hgU_104 ca o) rfl 5 (by decide) wq_193 rfl (x := x4) 5 rfl rfl rfl (Nat.le_of_ble_eq_true rfl) dX7_start_21 (fun z5 H locs hz5 hP hS => ?_)
    have J5 := jU_104_5 J0 hz5
    have k5_0 : (z5 104 4).toInt = (z 104 4).toInt := congrArg Int32.toInt (qt_off hz5 (by decide))
    refine lv_aload_n hx hb dX7_start_24 rfl (lv_at hl 1 rfl) ?_
    refine lv_iconst (v := 0) hx hb dX7_start_25 (by decide) ?_
    refine qf_put2 hx hb hts inX7 tyX7 tyX7_ok nmX7 hown hK hP hS qw_Ai (q0 := 104) (by decide) (hgU_104 ca o) rfl 6 (by decide) wq_194 rfl (x := 0) 6 rfl rfl rfl (Nat.le_of_ble_eq_true rfl) dX7_start_26 (fun z6 H locs hz6 hP hS => ?_)
    have J6 := jU_104_6 J5 hz6
    have k6_0 : (z6 104 4).toInt = (z5 104 4).toInt := congrArg Int32.toInt (qt_off hz6 (by decide))
    refine lv_iconst (v := 0) hx hb dX7_start_29 (by decide) ?_
    refine lv_istore (lv' := [(4, .int 0), (2, .long r1), (0, .ref (o + 104)), (1, .int a0)]) hx hb dX7_start_30 hl (by decide) rfl (fun ls hl => ?_)
    have loop7 : ∀ (n : Nat) (w7_4 : Int32) (z7 : Nat → Nat → Int32) (y7 : Nat → Nat → Int64), ((6 - w7_4.toInt : Int) < (n : Int)) → ((0 : Int) ≤ w7_4.toInt ∧ w7_4.toInt ≤ 6) → (qJU b z7) → ((z7 104 4).toInt = (z6 104 4).toInt) → ∀ (H : Heap) (locs : List Loc), qw_P D vwCl o 132 (qG (GU ca o) z7 y7) H → va_S (qw_A o 132) s.heap H locs → ∀ (ls : Array Slot), lv_has ls 5 [(4, .int w7_4), (2, .long r1), (0, .ref (o + 104)), (1, .int a0)] → W p l e (headSpec (Cond.code yX7_start cX7_start 5 (some .boolean) :: qtbl) ({ frames := 3, cells := 0, slots := 0, locals := 104 })).room s m (([.ref (o + 104), .int a0] : List Value).toArray) below meth c H locs 0 0 (MQ below (va_Qi (fun r u => ((0 : Int) ≤ r.toInt ∧ r.toInt ≤ 1) ∧ qJU b u.1) (qB D vwCl (qT6 ca) o 132 (fun u : qZ => qG (GU ca o) u.1 u.2)) (qw_A o 132)) (([.ref (o + 104), .int a0] : List Value).toArray) s 0 0 (qw_A o 132)) (F0 m 32 ls []) := by
      intro n
      induction n with
      | zero => intro w7_4 z7 y7 hb7 hv7_4 J7 v7_0; exfalso; omega
      | succ n7 ih7 =>
        intro w7_4 z7 y7 hb7 hv7_4 J7 v7_0 H locs hP hS ls hl
        refine lv_iload hx hb dX7_start_32 (lv_at hl 0 rfl) ?_
        refine lv_bipush (v := 6) hx hb dX7_start_34 (by decide) ?_
        refine lv_icmp_ge (tgt := 78) hx hb dX7_start_36 (by decide) (fun c8 => ?_) (fun c8 => ?_)
        · have t8 : w7_4.toInt ≥ (6 : Int) := gl_le c8
          refine lv_aload_n hx hb dX7_start_78 rfl (lv_at hl 2 rfl) ?_
          refine lv_iconst (v := 0) hx hb dX7_start_79 (by decide) ?_
          refine qf_put2 hx hb hts inX7 tyX7 tyX7_ok nmX7 hown hK hP hS qw_Ai (q0 := 104) (by decide) (hgU_104 ca o) rfl 4 (by decide) wq_192 rfl (x := 0) 4 rfl rfl rfl (Nat.le_of_ble_eq_true rfl) dX7_start_80 (fun z9 H locs hz9 hP hS => ?_)
          have J9 := jU_104_4 J7 hz9 ⟨by decide, by decide⟩
          have k9_0 : (z9 104 4).toInt = (0 : Int) := congrArg Int32.toInt (qt_at hz9)
          refine lv_iconst (v := 0) hx hb dX7_start_83 (by decide) ?_
          refine lv_istore (lv' := [(4, .int 0), (2, .long r1), (0, .ref (o + 104)), (1, .int a0)]) hx hb dX7_start_84 hl (by decide) rfl (fun ls hl => ?_)
          have loop10 : ∀ (n : Nat) (w10_4 : Int32) (z10 : Nat → Nat → Int32) (y10 : Nat → Nat → Int64), ((10 - w10_4.toInt : Int) < (n : Int)) → ((0 : Int) ≤ w10_4.toInt ∧ w10_4.toInt ≤ 10) → (qJU b z10) → ((z10 104 4).toInt ≤ w10_4.toInt) → ∀ (H : Heap) (locs : List Loc), qw_P D vwCl o 132 (qG (GU ca o) z10 y10) H → va_S (qw_A o 132) s.heap H locs → ∀ (ls : Array Slot), lv_has ls 5 [(4, .int w10_4), (2, .long r1), (0, .ref (o + 104)), (1, .int a0)] → W p l e (headSpec (Cond.code yX7_start cX7_start 5 (some .boolean) :: qtbl) ({ frames := 3, cells := 0, slots := 0, locals := 104 })).room s m (([.ref (o + 104), .int a0] : List Value).toArray) below meth c H locs 0 0 (MQ below (va_Qi (fun r u => ((0 : Int) ≤ r.toInt ∧ r.toInt ≤ 1) ∧ qJU b u.1) (qB D vwCl (qT6 ca) o 132 (fun u : qZ => qG (GU ca o) u.1 u.2)) (qw_A o 132)) (([.ref (o + 104), .int a0] : List Value).toArray) s 0 0 (qw_A o 132)) (F0 m 86 ls []) := by
            intro n
            induction n with
            | zero => intro w10_4 z10 y10 hb10 hv10_4 J10 v10_0; exfalso; omega
            | succ n10 ih10 =>
              intro w10_4 z10 y10 hb10 hv10_4 J10 v10_0 H locs hP hS ls hl
              refine lv_iload hx hb dX7_start_86 (lv_at hl 0 rfl) ?_
              refine lv_bipush (v := 10) hx hb dX7_start_88 (by decide) ?_
              refine lv_icmp_ge (tgt := 155) hx hb dX7_start_90 (by decide) (fun c11 => ?_) (fun c11 => ?_)
              · have t11 : w10_4.toInt ≥ (10 : Int) := gl_le c11
                refine lv_iconst (v := 1) hx hb dX7_start_155 (by decide) ?_
                exact W.zret (v := 1) (ty := .boolean) hx hb hr rfl (fun t ht hW => ⟨⟨1, (z10, y10), rfl, ⟨⟨by decide, by decide⟩, J10⟩, by rw [ht]; exact hP, va_K.moved hW.alike hK⟩, hS.F ht⟩) hS.2.2 dX7_start_156
              · have t11 : w10_4.toInt < (10 : Int) := gl_nle c11
                refine lv_iload_n hx hb dX7_start_93 rfl (lv_at hl 3 rfl) ?_
                refine lv_iload hx hb dX7_start_94 (lv_at hl 0 rfl) ?_
                refine lv_ishr hx hb dX7_start_96 ?_
                refine lv_topi (fun x12 e12 => ?_)
                refine lv_iconst (v := 1) hx hb dX7_start_97 (by decide) ?_
                refine lv_iand hx hb dX7_start_98 ?_
                refine lv_topi (fun x13 e13 => ?_)
                have t13 : 0 ≤ x13.toInt ∧ x13.toInt ≤ (1 : Int) := ga_and e13 rfl (by omega)
                refine lv_if_eq (tgt := 149) hx hb dX7_start_99 (by decide) (fun c14 => ?_) (fun c14 => ?_)
                · have t14 : x13.toInt = (0 : Int) := gl_eq c14
                  obtain ⟨x15, e15⟩ : ∃ t : Int32, t = w10_4 + 1 := ⟨_, rfl⟩
                  refine lv_iinc (v := x15) (lv' := [(4, .int x15), (2, .long r1), (0, .ref (o + 104)), (1, .int a0)]) hx hb dX7_start_149 hl (k := 0) rfl (by rw [e15]; rfl) (by decide) rfl (fun ls hl => ?_)
                  have t15 : x15.toInt = w10_4.toInt + (1 : Int) := ga_add e15 rfl rfl (by omega) (by omega)
                  refine lv_goto (tgt := 86) hx hb dX7_start_152 (by decide) ?_
                  exact ih10 x15 z10 y10 (show (10 - x15.toInt : Int) < (n10 : Int) from by omega) ⟨by omega, by omega⟩ J10 (show (z10 104 4).toInt ≤ x15.toInt from by omega) _ _ hP hS _ (lv_sub hl [0, 1, 2, 3] rfl)
                · have t14 : x13.toInt ≠ (0 : Int) := gl_ne c14
                  refine lv_aload_n hx hb dX7_start_102 rfl (lv_at hl 2 rfl) ?_
                  refine qf_get hx hb hts inX7 hown hK hP (q0 := 104) (by decide) (hgU_104 ca o) rfl 2 (by decide) wq_190 (v := .ref (o + 106)) rfl dX7_start_103 ?_
                  refine lv_aload_n hx hb dX7_start_106 rfl (lv_at hl 2 rfl) ?_
                  refine qf_get hx hb hts inX7 hown hK hP (q0 := 104) (by decide) (hgU_104 ca o) rfl 4 (by decide) wq_192 (v := .int (z10 104 4)) rfl dX7_start_107 ?_
                  refine lv_topi (fun x16 e16 => ?_)
                  have b16 := iU_104_4 J10 e16
                  have k16 : x16.toInt = (z10 104 4).toInt := congrArg Int32.toInt e16
                  refine lv_iload hx hb dX7_start_110 (lv_at hl 0 rfl) ?_
                  refine qa_iast2 hx hb hK hP hS qw_Ai (q0 := 106) (by decide) 0 (N := 10) (hgU_106 ca o) rfl (i := x16) (x := w10_4) (gi_in (by omega) (by omega)) dX7_start_112 (fun z17 H locs hz17 hP hS => ?_)
                  have J17 := jU_106 J10 hz17 ⟨by omega, by omega⟩
                  have k17_0 : (z17 104 4).toInt = (z10 104 4).toInt := congrArg Int32.toInt (qt_ne hz17 4 (by decide))
                  refine lv_aload_n hx hb dX7_start_113 rfl (lv_at hl 2 rfl) ?_
                  refine qf_get hx hb hts inX7 hown hK hP (q0 := 104) (by decide) (hgU_104 ca o) rfl 3 (by decide) wq_191 (v := .ref (o + 107)) rfl dX7_start_114 ?_
                  refine lv_aload_n hx hb dX7_start_117 rfl (lv_at hl 2 rfl) ?_
                  refine qf_get hx hb hts inX7 hown hK hP (q0 := 104) (by decide) (hgU_104 ca o) rfl 4 (by decide) wq_192 (v := .int (z17 104 4)) rfl dX7_start_118 ?_
                  refine lv_topi (fun x18 e18 => ?_)
                  have b18 := iU_104_4 J17 e18
                  have k18 : x18.toInt = (z17 104 4).toInt := congrArg Int32.toInt e18
                  refine lv_aload_n hx hb dX7_start_121 rfl (lv_at hl 2 rfl) ?_
                  refine qf_get hx hb hts inX7 hown hK hP (q0 := 104) (by decide) (hgU_104 ca o) rfl 0 (by decide) wq_185 (v := .ref (o + 1)) rfl dX7_start_122 ?_
                  refine qf_get hx hb hts inX9 hown hK hP (q0 := 1) (by decide) (hgU_1 ca o) rfl 4 (by decide) wq_95 (v := .ref (o + 6)) rfl dX7_start_125 ?_
                  refine lv_iload hx hb dX7_start_128 (lv_at hl 0 rfl) ?_
                  have hi_w10_4 : w10_4.toNatClampNeg < 16 := ga_nat (by omega) (show _ < (16 : Int) from by omega)
                  refine qa_aald hx hb hK hP (q0 := 6) (by decide) 4 rfl (N := 16) (hgU_6 ca o) rfl (gi_in (by omega) (by omega)) dX7_start_130 ?_
                  refine lv_aload_n hx hb dX7_start_131 rfl (lv_at hl 2 rfl) ?_
                  refine qf_get hx hb hts inX7 hown hK hP (q0 := 104) (by decide) (hgU_104 ca o) rfl 1 (by decide) wq_187 (v := .ref (o + 105)) rfl dX7_start_132 ?_
                  refine qc_Vip (As := [.ref (o + 105)]) (rest := [.int x18, .ref (o + 107)]) (k0 := 1) (u_Line_tells l D ca o b z17 y10 J17 (i0_ := w10_4.toNatClampNeg) hi_w10_4) kc_yX5_tells ⟨hx, hb, hml, hown, hts⟩ wq_598 rfl rfl ⟨Nat.le_of_ble_eq_true rfl, Nat.le_of_ble_eq_true rfl⟩ wq_all hP hK hS qw_Ai (q0 := 7 + 2 * w10_4.toNatClampNeg) (show _ < _ from by have := hi_w10_4; omega) (hgU_LT ca o hi_w10_4 _ _) rfl rfl hl.1 rfl (Nat.le_of_ble_eq_true rfl) dX7_start_135 ⟨Nat.zero_le _, Nat.zero_le _⟩ (fun r19 H locs h19 hP hS _ _ => ?_)
                  refine qa_iast2 hx hb hK hP hS qw_Ai (q0 := 107) (by decide) 0 (N := 10) (hgU_107 ca o) rfl (i := x18) (x := r19) (gi_in (by omega) (by omega)) dX7_start_138 (fun z20 H locs hz20 hP hS => ?_)
                  have J20 := jU_107 J17 hz20
                  have k20_0 : (z20 104 4).toInt = (z17 104 4).toInt := congrArg Int32.toInt (qt_ne hz20 4 (by decide))
                  refine lv_aload_n hx hb dX7_start_139 rfl (lv_at hl 2 rfl) ?_
                  refine lv_dup hx hb dX7_start_140 rfl ?_
                  refine qf_get hx hb hts inX7 hown hK hP (q0 := 104) (by decide) (hgU_104 ca o) rfl 4 (by decide) wq_192 (v := .int (z20 104 4)) rfl dX7_start_141 ?_
                  refine lv_topi (fun x21 e21 => ?_)
                  have b21 := iU_104_4 J20 e21
                  have k21 : x21.toInt = (z20 104 4).toInt := congrArg Int32.toInt e21
                  refine lv_iconst (v := 1) hx hb dX7_start_144 (by decide) ?_
                  refine lv_iadd hx hb dX7_start_145 ?_
                  refine lv_topi (fun x22 e22 => ?_)
                  have t22 : x22.toInt = x21.toInt + (1 : Int) := ga_add e22 rfl rfl (by omega) (by omega)
                  refine qf_put2 hx hb hts inX7 tyX7 tyX7_ok nmX7 hown hK hP hS qw_Ai (q0 := 104) (by decide) (hgU_104 ca o) rfl 4 (by decide) wq_192 rfl (x := x22) 4 rfl rfl rfl (Nat.le_of_ble_eq_true rfl) dX7_start_146 (fun z23 H locs hz23 hP hS => ?_)
                  have J23 := jU_104_4 J20 hz23 ⟨by omega, by omega⟩
                  have k23_0 : (z23 104 4).toInt = x22.toInt := congrArg Int32.toInt (qt_at hz23)
                  obtain ⟨x24, e24⟩ : ∃ t : Int32, t = w10_4 + 1 := ⟨_, rfl⟩
                  refine lv_iinc (v := x24) (lv' := [(4, .int x24), (2, .long r1), (0, .ref (o + 104)), (1, .int a0)]) hx hb dX7_start_149 hl (k := 0) rfl (by rw [e24]; rfl) (by decide) rfl (fun ls hl => ?_)
                  have t24 : x24.toInt = w10_4.toInt + (1 : Int) := ga_add e24 rfl rfl (by omega) (by omega)
                  refine lv_goto (tgt := 86) hx hb dX7_start_152 (by decide) ?_
                  exact ih10 x24 z23 y10 (show (10 - x24.toInt : Int) < (n10 : Int) from by omega) ⟨by omega, by omega⟩ J23 (show (z23 104 4).toInt ≤ x24.toInt from by omega) _ _ hP hS _ (lv_sub hl [0, 1, 2, 3] rfl)
          exact loop10 11 0 z9 y7 (show (10 - (0 : Int) : Int) < ((11 : Nat) : Int) from by omega) ⟨by decide, by decide⟩ J9 (show (z9 104 4).toInt ≤ (0 : Int) from by omega) _ _ hP hS _ (lv_sub hl [0, 1, 2, 3] rfl)
        · have t8 : w7_4.toInt < (6 : Int) := gl_nle c8
          refine lv_aload_n hx hb dX7_start_39 rfl (lv_at hl 2 rfl) ?_
          refine qf_get hx hb hts inX7 hown hK hP (q0 := 104) (by decide) (hgU_104 ca o) rfl 1 (by decide) wq_187 (v := .ref (o + 105)) rfl dX7_start_40 ?_
          refine lv_iload hx hb dX7_start_43 (lv_at hl 0 rfl) ?_
          refine lv_aload_n hx hb dX7_start_45 rfl (lv_at hl 2 rfl) ?_
          refine qf_get hx hb hts inX7 hown hK hP (q0 := 104) (by decide) (hgU_104 ca o) rfl 0 (by decide) wq_185 (v := .ref (o + 1)) rfl dX7_start_46 ?_
          refine lv_iload hx hb dX7_start_49 (lv_at hl 0 rfl) ?_
          refine qc_Vip (As := [.int w7_4]) (rest := [.int w7_4, .ref (o + 105)]) (k0 := 1) (u_Told_hasPerson l D ca o b z7 y7 J7 w7_4) kc_yX9_hasPerson ⟨hx, hb, hml, hown, hts⟩ wq_597 rfl rfl ⟨Nat.le_of_ble_eq_true rfl, Nat.le_of_ble_eq_true rfl⟩ wq_all hP hK hS qw_Ai (q0 := 1) (by decide) (hgU_1 ca o _ _) rfl rfl hl.1 rfl (Nat.le_of_ble_eq_true rfl) dX7_start_51 ⟨Nat.zero_le _, Nat.zero_le _⟩ (fun r25 H locs h25 hP hS _ _ => ?_)
          rcases h25 with ⟨hr25, hf25_0, hf25_1⟩ | ⟨hr25, hf25_0⟩
          · subst hr25
            have hg25_0 : pHas (z7 1 5) w7_4 := hf25_0
            have hg25_1 : 0 ≤ w7_4.toInt ∧ w7_4.toInt ≤ 5 := hf25_1
            refine lv_if_eq (tgt := 70) hx hb dX7_start_54 (by decide) (fun q => absurd q (by decide)) (fun _ => ?_)
            refine lv_aload_n hx hb dX7_start_57 rfl (lv_at hl 2 rfl) ?_
            refine qf_get hx hb hts inX7 hown hK hP (q0 := 104) (by decide) (hgU_104 ca o) rfl 0 (by decide) wq_185 (v := .ref (o + 1)) rfl dX7_start_58 ?_
            refine qf_get hx hb hts inX9 hown hK hP (q0 := 1) (by decide) (hgU_1 ca o) rfl 0 (by decide) wq_84 (v := .ref (o + 2)) rfl dX7_start_61 ?_
            refine lv_iload hx hb dX7_start_64 (lv_at hl 0 rfl) ?_
            refine qa_iald hx hb hK hP (q0 := 2) (by decide) 0 (N := 6) (hgU_2 ca o) rfl (gi_in (by omega) (by omega)) dX7_start_66 ?_
            refine lv_topi (fun x26 e26 => ?_)
            have b26 := iU_2 J7 e26
            refine lv_goto (tgt := 71) hx hb dX7_start_67 (by decide) ?_
            refine qa_iast2 hx hb hK hP hS qw_Ai (q0 := 105) (by decide) 0 (N := 6) (hgU_105 ca o) rfl (i := w7_4) (x := x26) (gi_in (by omega) (by omega)) dX7_start_71 (fun z27 H locs hz27 hP hS => ?_)
            have J27 := jU_105 J7 hz27 ⟨by omega, by omega⟩
            have k27_0 : (z27 104 4).toInt = (z7 104 4).toInt := congrArg Int32.toInt (qt_ne hz27 4 (by decide))
            obtain ⟨x28, e28⟩ : ∃ t : Int32, t = w7_4 + 1 := ⟨_, rfl⟩
            refine lv_iinc (v := x28) (lv' := [(4, .int x28), (2, .long r1), (0, .ref (o + 104)), (1, .int a0)]) hx hb dX7_start_72 hl (k := 0) rfl (by rw [e28]; rfl) (by decide) rfl (fun ls hl => ?_)
            have t28 : x28.toInt = w7_4.toInt + (1 : Int) := ga_add e28 rfl rfl (by omega) (by omega)
            refine lv_goto (tgt := 32) hx hb dX7_start_75 (by decide) ?_
            exact ih7 x28 z27 y7 (show (6 - x28.toInt : Int) < (n7 : Int) from by omega) ⟨by omega, by omega⟩ J27 (show (z27 104 4).toInt = (z6 104 4).toInt from by omega) _ _ hP hS _ (lv_sub hl [0, 1, 2, 3] rfl)
          · subst hr25
            have hg25_0 : ¬ pHas (z7 1 5) w7_4 := hf25_0
            refine lv_if_eq (tgt := 70) hx hb dX7_start_54 (by decide) (fun _ => ?_) (fun q => absurd (by decide) q)
            refine lv_iconst (v := 0) hx hb dX7_start_70 (by decide) ?_
            refine qa_iast2 hx hb hK hP hS qw_Ai (q0 := 105) (by decide) 0 (N := 6) (hgU_105 ca o) rfl (i := w7_4) (x := 0) (gi_in (by omega) (by omega)) dX7_start_71 (fun z29 H locs hz29 hP hS => ?_)
            have J29 := jU_105 J7 hz29 ⟨by decide, by decide⟩
            have k29_0 : (z29 104 4).toInt = (z7 104 4).toInt := congrArg Int32.toInt (qt_ne hz29 4 (by decide))
            obtain ⟨x30, e30⟩ : ∃ t : Int32, t = w7_4 + 1 := ⟨_, rfl⟩
            refine lv_iinc (v := x30) (lv' := [(4, .int x30), (2, .long r1), (0, .ref (o + 104)), (1, .int a0)]) hx hb dX7_start_72 hl (k := 0) rfl (by rw [e30]; rfl) (by decide) rfl (fun ls hl => ?_)
            have t30 : x30.toInt = w7_4.toInt + (1 : Int) := ga_add e30 rfl rfl (by omega) (by omega)
            refine lv_goto (tgt := 32) hx hb dX7_start_75 (by decide) ?_
            exact ih7 x30 z29 y7 (show (6 - x30.toInt : Int) < (n7 : Int) from by omega) ⟨by omega, by omega⟩ J29 (show (z29 104 4).toInt = (z6 104 4).toInt from by omega) _ _ hP hS _ (lv_sub hl [0, 1, 2, 3] rfl)
    exact loop7 7 0 z6 y (show (6 - (0 : Int) : Int) < ((7 : Nat) : Int) from by omega) ⟨by decide, by decide⟩ J6 (show (z6 104 4).toInt = (z6 104 4).toInt from by omega) _ _ hP hS _ (lv_sub hl [0, 1, 2, 3] rfl)
  · have t3 : x2.toInt > (0 : Int) := gl_nle c3
    refine lv_iconst (v := 0) hx hb dX7_start_16 (by decide) ?_
    exact W.zret (v := 0) (ty := .boolean) hx hb hr rfl (fun t ht hW => ⟨⟨0, (z, y), rfl, ⟨⟨by decide, by decide⟩, J0⟩, by rw [ht]; exact hP, va_K.moved hW.alike hK⟩, hS.F ht⟩) hS.2.2 dX7_start_17
