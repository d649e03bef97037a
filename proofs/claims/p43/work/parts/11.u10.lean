set_option maxRecDepth 100000 in
set_option maxHeartbeats 8000000 in
theorem u_whoIsWho (l : Launch) (D : va_G) (ca : Nat → ClassId) (o : Nat) (b z : Nat → Nat → Int32) (y : Nat → Nat → Int64) (J0 : qJU b z) (a0 : Int32) (a1 : Int32) (a2 : Int32) (a3 : Int32)  : qM l yX10_whoIsWho cX10_whoIsWho 5 (some .int) 4 134 (qPre D vwCl (qT6 ca) o 132 (qG (GU ca o) z y) [.ref (o + 0), .int a0, .int a1, .int a2, .int a3]) (va_Qi (fun r u => True ∧ qJU b u.1) (qB D vwCl (qT6 ca) o 132 (fun u : qZ => qG (GU ca o) u.1 u.2)) (qw_A o 132)) (qw_A o 132) := by
  refine Met.ofW (cc := cX10_whoIsWho) (maxL := 5) (ret := (some .int)) (by decide) rfl ?_
  intro p e s m args below meth c s₁ B hml hv
  obtain ⟨rfl, hP, hK⟩ := hv
  have hx := B.exec
  have hb := B.bytes
  have hr := B.returns
  have hts0 := atoms_spec (ws := Cond.code yX10_whoIsWho cX10_whoIsWho 5 (some .int) :: qtbl) B.pre
  have hts : ∀ w ∈ qtbl, w.before _ s = true := fun w h => hts0 w (List.mem_cons_of_mem _ h)
  have hown : s.vm.findClass RX10 = some m.cls := findClass_of_methodNamed B.named
  have hlocks := B.notSynchronized
  have hS : va_S (qw_A o 132) s.heap s.heap [] := va_S.rf
  have hl := lv_entry ([.ref (o + 0), .int a0, .int a1, .int a2, .int a3]) (n := 5) (Nat.le_of_ble_eq_true rfl)
  rw [lg_entry_eq]
  generalize (lg_sl ([.ref (o + 0), .int a0, .int a1, .int a2, .int a3]) ++ List.replicate (5 - (lg_sl ([.ref (o + 0), .int a0, .int a1, .int a2, .int a3])).length) Slot.unset).toArray = ls at hl ⊢
  have hl : lv_has ls 5 [(0, .ref (o + 0)), (1, .int a0), (2, .int a1), (3, .int a2), (4, .int a3)] := hl
  refine lv_aload_n hx hb dX10_whoIsWho_0 rfl (lv_at hl 0 rfl) ?_
  refine lv_iload_n hx hb dX10_whoIsWho_1 rfl (lv_at hl 1 rfl) ?_
  refine lv_bipush (v := 6) hx hb dX10_whoIsWho_2 (by decide) ?_
  refine qc_Vip (As := [.int a0, .int 6]) (rest := []) (k0 := 2) (u_isText l D ca o b z y J0 a0 6) kc_yX10_isText ⟨hx, hb, hml, hown, hts⟩ wq_431 rfl rfl ⟨Nat.le_of_ble_eq_true rfl, Nat.le_of_ble_eq_true rfl⟩ wq_all hP hK hS qw_Ai (q0 := 0) (by decide) (hgU_0 ca o _ _) rfl rfl hl.1 rfl (Nat.le_of_ble_eq_true rfl) dX10_whoIsWho_4 ⟨Nat.zero_le _, Nat.zero_le _⟩ (fun r1 H locs h1 hP hS _ _ => ?_)
  rcases h1 with ⟨hr1, hf1_0⟩ | hr1
  · subst hr1
    have hg1_0 : 1 ≤ a0.toInt ∧ a0.toInt ≤ (6 : Int) := hf1_0
    refine lv_if_eq (tgt := 64) hx hb dX10_whoIsWho_7 (by decide) (fun q => absurd q (by decide)) (fun _ => ?_)
    refine lv_iload_n hx hb dX10_whoIsWho_10 rfl (lv_at hl 1 rfl) ?_
    refine lv_iconst (v := 2) hx hb dX10_whoIsWho_11 (by decide) ?_
    refine lv_icmp_lt (tgt := 64) hx hb dX10_whoIsWho_12 (by decide) (fun c2 => ?_) (fun c2 => ?_)
    · have t2 : a0.toInt < (2 : Int) := gl_lt c2
      refine lv_iconst (v := (-1)) hx hb dX10_whoIsWho_64 (by decide) ?_
      exact W.iret (v := (-1)) hx hb hr (fun t ht hW => ⟨⟨(-1), (z, y), rfl, ⟨trivial, J0⟩, by rw [ht]; exact hP, va_K.moved hW.alike hK⟩, hS.F ht⟩) hS.2.2 dX10_whoIsWho_65
    · have t2 : a0.toInt ≥ (2 : Int) := gl_nlt c2
      refine lv_iload_n hx hb dX10_whoIsWho_15 rfl (lv_at hl 2 rfl) ?_
      refine lv_aload_n hx hb dX10_whoIsWho_16 rfl (lv_at hl 0 rfl) ?_
      refine qf_get hx hb hts inX10 hown hK hP (q0 := 0) (by decide) (hgU_0 ca o) rfl 0 (by decide) wq_353 (v := .ref (o + 1)) rfl dX10_whoIsWho_17 ?_
      refine qf_get hx hb hts inX9 hown hK hP (q0 := 1) (by decide) (hgU_1 ca o) rfl 5 (by decide) wq_98 (v := .int (z 1 5)) rfl dX10_whoIsWho_20 ?_
      refine lv_topi (fun x3 e3 => ?_)
      refine lv_iconst (v := (-1)) hx hb dX10_whoIsWho_23 (by decide) ?_
      refine lv_ixor hx hb dX10_whoIsWho_24 ?_
      refine lv_topi (fun x4 e4 => ?_)
      refine lv_iand hx hb dX10_whoIsWho_25 ?_
      refine lv_topi (fun x5 e5 => ?_)
      refine lv_if_ne (tgt := 64) hx hb dX10_whoIsWho_26 (by decide) (fun c6 => ?_) (fun c6 => ?_)
      · have t6 : x5.toInt ≠ (0 : Int) := gl_ne c6
        refine lv_iconst (v := (-1)) hx hb dX10_whoIsWho_64 (by decide) ?_
        exact W.iret (v := (-1)) hx hb hr (fun t ht hW => ⟨⟨(-1), (z, y), rfl, ⟨trivial, J0⟩, by rw [ht]; exact hP, va_K.moved hW.alike hK⟩, hS.F ht⟩) hS.2.2 dX10_whoIsWho_65
      · have t6 : x5.toInt = (0 : Int) := gl_eq c6
        refine lv_iload_n hx hb dX10_whoIsWho_29 rfl (lv_at hl 2 rfl) ?_
        refine qc_Sip (As := [.int a1]) (rest := []) (k0 := 1) (u_Integer_bitCount l D ca o b z y J0 a1) kc_yJ6_bitCount_0f7a4 ⟨hx, hb, hml, hown, hts⟩ wq_513 rfl rfl ⟨Nat.le_of_ble_eq_true rfl, Nat.le_of_ble_eq_true rfl⟩ wq_all hP hK hS qw_Ai rfl hl.1 rfl (Nat.le_of_ble_eq_true rfl) dX10_whoIsWho_30 ⟨Nat.zero_le _, Nat.zero_le _⟩ (fun r7 H locs h7 hP hS _ _ => ?_)
        have b7 : (0 : Int) ≤ r7.toInt ∧ r7.toInt ≤ 63 := h7
        refine lv_iload_n hx hb dX10_whoIsWho_33 rfl (lv_at hl 1 rfl) ?_
        refine lv_icmp_ne (tgt := 64) hx hb dX10_whoIsWho_34 (by decide) (fun c8 => ?_) (fun c8 => ?_)
        · have t8 : r7.toInt ≠ a0.toInt := gl_ne c8
          refine lv_iconst (v := (-1)) hx hb dX10_whoIsWho_64 (by decide) ?_
          exact W.iret (v := (-1)) hx hb hr (fun t ht hW => ⟨⟨(-1), (z, y), rfl, ⟨trivial, J0⟩, by rw [ht]; exact hP, va_K.moved hW.alike hK⟩, hS.F ht⟩) hS.2.2 dX10_whoIsWho_65
        · have t8 : r7.toInt = a0.toInt := gl_eq c8
          refine lv_aload_n hx hb dX10_whoIsWho_37 rfl (lv_at hl 0 rfl) ?_
          refine lv_iload_n hx hb dX10_whoIsWho_38 rfl (lv_at hl 3 rfl) ?_
          refine qc_Vip (As := [.int a2]) (rest := []) (k0 := 1) (u_areRemarks l D ca o b z y J0 a2) kc_yX10_areRemarks ⟨hx, hb, hml, hown, hts⟩ wq_583 rfl rfl ⟨Nat.le_of_ble_eq_true rfl, Nat.le_of_ble_eq_true rfl⟩ wq_all hP hK hS qw_Ai (q0 := 0) (by decide) (hgU_0 ca o _ _) rfl rfl hl.1 rfl (Nat.le_of_ble_eq_true rfl) dX10_whoIsWho_39 ⟨Nat.zero_le _, Nat.zero_le _⟩ (fun r9 H locs h9 hP hS _ _ => ?_)
          have b9 : (0 : Int) ≤ r9.toInt ∧ r9.toInt ≤ 1 := h9
          refine lv_if_eq (tgt := 64) hx hb dX10_whoIsWho_42 (by decide) (fun c10 => ?_) (fun c10 => ?_)
          · have t10 : r9.toInt = (0 : Int) := gl_eq c10
            refine lv_iconst (v := (-1)) hx hb dX10_whoIsWho_64 (by decide) ?_
            exact W.iret (v := (-1)) hx hb hr (fun t ht hW => ⟨⟨(-1), (z, y), rfl, ⟨trivial, J0⟩, by rw [ht]; exact hP, va_K.moved hW.alike hK⟩, hS.F ht⟩) hS.2.2 dX10_whoIsWho_65
          · have t10 : r9.toInt ≠ (0 : Int) := gl_ne c10
            refine lv_iload hx hb dX10_whoIsWho_45 (lv_at hl 4 rfl) ?_
            refine lv_bipush (v := 100) hx hb dX10_whoIsWho_47 (by decide) ?_
            refine lv_icmp_eq (tgt := 66) hx hb dX10_whoIsWho_49 (by decide) (fun c11 => ?_) (fun c11 => ?_)
            · have t11 : a3.toInt = (100 : Int) := gl_eq c11
              refine lv_iload hx hb dX10_whoIsWho_66 (lv_at hl 4 rfl) ?_
              refine lv_bipush (v := 100) hx hb dX10_whoIsWho_68 (by decide) ?_
              refine lv_icmp_eq (tgt := 84) hx hb dX10_whoIsWho_70 (by decide) (fun c12 => ?_) (fun c12 => ?_)
              · have t12 : a3.toInt = (100 : Int) := gl_eq c12
                refine lv_aload_n hx hb dX10_whoIsWho_84 rfl (lv_at hl 0 rfl) ?_
                refine lv_iconst (v := 0) hx hb dX10_whoIsWho_85 (by decide) ?_
                refine qf_put2 hx hb hts inX10 tyX10 tyX10_ok nmX10 hown hK hP hS qw_Ai (q0 := 0) (by decide) (hgU_0 ca o) rfl 4 (by decide) wq_357 rfl (x := 0) 4 rfl rfl rfl (Nat.le_of_ble_eq_true rfl) dX10_whoIsWho_86 (fun z13 H locs hz13 hP hS => ?_)
                have J13 := jU_0_4 J0 hz13 ⟨by decide, by decide⟩
                refine lv_aload_n hx hb dX10_whoIsWho_89 rfl (lv_at hl 0 rfl) ?_
                refine lv_iload_n hx hb dX10_whoIsWho_90 rfl (lv_at hl 1 rfl) ?_
                refine qc_Vip (As := [.int a0]) (rest := []) (k0 := 1) (u_hasAgeAbove l D ca o b z13 y J13 a0) kc_yX10_hasAgeAbove ⟨hx, hb, hml, hown, hts⟩ wq_885 rfl rfl ⟨Nat.le_of_ble_eq_true rfl, Nat.le_of_ble_eq_true rfl⟩ wq_all hP hK hS qw_Ai (q0 := 0) (by decide) (hgU_0 ca o _ _) rfl rfl hl.1 rfl (Nat.le_of_ble_eq_true rfl) dX10_whoIsWho_91 ⟨Nat.zero_le _, Nat.zero_le _⟩ (fun r14 H locs h14 hP hS _ _ => ?_)
                have b14 : (0 : Int) ≤ r14.toInt ∧ r14.toInt ≤ 1 := h14
                refine lv_if_ne (tgt := 106) hx hb dX10_whoIsWho_94 (by decide) (fun c15 => ?_) (fun c15 => ?_)
                · have t15 : r14.toInt ≠ (0 : Int) := gl_ne c15
                  refine lv_bipush (v := (-3)) hx hb dX10_whoIsWho_106 (by decide) ?_
                  exact W.iret (v := (-3)) hx hb hr (fun t ht hW => ⟨⟨(-3), (z13, y), rfl, ⟨trivial, J13⟩, by rw [ht]; exact hP, va_K.moved hW.alike hK⟩, hS.F ht⟩) hS.2.2 dX10_whoIsWho_108
                · have t15 : r14.toInt = (0 : Int) := gl_eq c15
                  refine lv_aload_n hx hb dX10_whoIsWho_97 rfl (lv_at hl 0 rfl) ?_
                  refine lv_iload_n hx hb dX10_whoIsWho_98 rfl (lv_at hl 2 rfl) ?_
                  refine lv_iload_n hx hb dX10_whoIsWho_99 rfl (lv_at hl 3 rfl) ?_
                  refine qc_Vip (As := [.int a1, .int a2]) (rest := []) (k0 := 2) (u_standAlone l D ca o b z13 y J13 a1 a2) kc_yX10_standAlone ⟨hx, hb, hml, hown, hts⟩ wq_889 rfl rfl ⟨Nat.le_of_ble_eq_true rfl, Nat.le_of_ble_eq_true rfl⟩ wq_all hP hK hS qw_Ai (q0 := 0) (by decide) (hgU_0 ca o _ _) rfl rfl hl.1 rfl (Nat.le_of_ble_eq_true rfl) dX10_whoIsWho_100 ⟨Nat.zero_le _, Nat.zero_le _⟩ (fun r16 H locs h16 hP hS _ _ => ?_)
                  have b16 : (0 : Int) ≤ r16.toInt ∧ r16.toInt ≤ 1 := h16
                  refine lv_if_ne (tgt := 109) hx hb dX10_whoIsWho_103 (by decide) (fun c17 => ?_) (fun c17 => ?_)
                  · have t17 : r16.toInt ≠ (0 : Int) := gl_ne c17
                    refine lv_aload_n hx hb dX10_whoIsWho_109 rfl (lv_at hl 0 rfl) ?_
                    refine qf_get hx hb hts inX10 hown hK hP (q0 := 0) (by decide) (hgU_0 ca o) rfl 10 (by decide) wq_363 (v := .ref (o + 116)) rfl dX10_whoIsWho_110 ?_
                    refine lv_aload_n hx hb dX10_whoIsWho_113 rfl (lv_at hl 0 rfl) ?_
                    refine qf_get hx hb hts inX10 hown hK hP (q0 := 0) (by decide) (hgU_0 ca o) rfl 0 (by decide) wq_353 (v := .ref (o + 1)) rfl dX10_whoIsWho_114 ?_
                    refine lv_aload_n hx hb dX10_whoIsWho_117 rfl (lv_at hl 0 rfl) ?_
                    refine qf_get hx hb hts inX10 hown hK hP (q0 := 0) (by decide) (hgU_0 ca o) rfl 3 (by decide) wq_356 (v := .ref (o + 77)) rfl dX10_whoIsWho_118 ?_
                    refine lv_iload_n hx hb dX10_whoIsWho_121 rfl (lv_at hl 2 rfl) ?_
                    refine lv_iload_n hx hb dX10_whoIsWho_122 rfl (lv_at hl 3 rfl) ?_
                    refine qc_Vv2 (As := [.ref (o + 1), .ref (o + 77), .int a1, .int a2]) (rest := []) (k0 := 4) (u_Giving_giveAll l D ca o b z13 y J13 a1 a2) kc_yX4_giveAll ⟨hx, hb, hml, hown, hts⟩ wq_893 rfl rfl ⟨Nat.le_of_ble_eq_true rfl, Nat.le_of_ble_eq_true rfl⟩ wq_all hP hK hS qw_Ai (q0 := 116) (by decide) (hgU_116 ca o _ _) rfl rfl hl.1 rfl (Nat.le_of_ble_eq_true rfl) dX10_whoIsWho_123 ⟨Nat.zero_le _, Nat.zero_le _⟩ (fun z18 y18 H locs h18 hP hS _ _ => ?_)
                    have J18 : qJU b z18 := h18
                    refine lv_iload hx hb dX10_whoIsWho_126 (lv_at hl 4 rfl) ?_
                    refine lv_bipush (v := 100) hx hb dX10_whoIsWho_128 (by decide) ?_
                    refine lv_icmp_ne (tgt := 141) hx hb dX10_whoIsWho_130 (by decide) (fun c19 => ?_) (fun c19 => ?_)
                    · have t19 : a3.toInt ≠ (100 : Int) := gl_ne c19
                      exfalso; omega
                    · have t19 : a3.toInt = (100 : Int) := gl_eq c19
                      refine lv_aload_n hx hb dX10_whoIsWho_133 rfl (lv_at hl 0 rfl) ?_
                      refine qf_get hx hb hts inX10 hown hK hP (q0 := 0) (by decide) (hgU_0 ca o) rfl 10 (by decide) wq_363 (v := .ref (o + 116)) rfl dX10_whoIsWho_134 ?_
                      refine qf_get hx hb hts inX4 hown hK hP (q0 := 116) (by decide) (hgU_116 ca o) rfl 3 (by decide) wq_300 (v := .int (z18 116 3)) rfl dX10_whoIsWho_137 ?_
                      refine lv_topi (fun x20 e20 => ?_)
                      exact W.iret (v := x20) hx hb hr (fun t ht hW => ⟨⟨x20, (z18, y18), rfl, ⟨trivial, J18⟩, by rw [ht]; exact hP, va_K.moved hW.alike hK⟩, hS.F ht⟩) hS.2.2 dX10_whoIsWho_140
                  · have t17 : r16.toInt = (0 : Int) := gl_eq c17
                    refine lv_bipush (v := (-3)) hx hb dX10_whoIsWho_106 (by decide) ?_
                    exact W.iret (v := (-3)) hx hb hr (fun t ht hW => ⟨⟨(-3), (z13, y), rfl, ⟨trivial, J13⟩, by rw [ht]; exact hP, va_K.moved hW.alike hK⟩, hS.F ht⟩) hS.2.2 dX10_whoIsWho_108
              · have t12 : a3.toInt ≠ (100 : Int) := gl_ne c12
                exfalso; omega
            · have t11 : a3.toInt ≠ (100 : Int) := gl_ne c11
              refine lv_aload_n hx hb dX10_whoIsWho_52 rfl (lv_at hl 0 rfl) ?_
              refine qf_get hx hb hts inX10 hown hK hP (q0 := 0) (by decide) (hgU_0 ca o) rfl 0 (by decide) wq_353 (v := .ref (o + 1)) rfl dX10_whoIsWho_53 ?_
              refine lv_iload hx hb dX10_whoIsWho_56 (lv_at hl 4 rfl) ?_
              refine qc_Vip (As := [.int a3]) (rest := []) (k0 := 1) (u_Told_hasPerson l D ca o b z y J0 a3) kc_yX9_hasPerson ⟨hx, hb, hml, hown, hts⟩ wq_411 rfl rfl ⟨Nat.le_of_ble_eq_true rfl, Nat.le_of_ble_eq_true rfl⟩ wq_all hP hK hS qw_Ai (q0 := 1) (by decide) (hgU_1 ca o _ _) rfl rfl hl.1 rfl (Nat.le_of_ble_eq_true rfl) dX10_whoIsWho_58 ⟨Nat.zero_le _, Nat.zero_le _⟩ (fun r21 H locs h21 hP hS _ _ => ?_)
              rcases h21 with ⟨hr21, hf21_0, hf21_1⟩ | ⟨hr21, hf21_0⟩
              · subst hr21
                have hg21_0 : pHas (z 1 5) a3 := hf21_0
                have hg21_1 : 0 ≤ a3.toInt ∧ a3.toInt ≤ 5 := hf21_1
                refine lv_if_ne (tgt := 66) hx hb dX10_whoIsWho_61 (by decide) (fun _ => ?_) (fun q => absurd q (by decide))
                refine lv_iload hx hb dX10_whoIsWho_66 (lv_at hl 4 rfl) ?_
                refine lv_bipush (v := 100) hx hb dX10_whoIsWho_68 (by decide) ?_
                refine lv_icmp_eq (tgt := 84) hx hb dX10_whoIsWho_70 (by decide) (fun c22 => ?_) (fun c22 => ?_)
                · have t22 : a3.toInt = (100 : Int) := gl_eq c22
                  exfalso; omega
                · have t22 : a3.toInt ≠ (100 : Int) := gl_ne c22
                  refine lv_iload_n hx hb dX10_whoIsWho_73 rfl (lv_at hl 2 rfl) ?_
                  refine lv_iload hx hb dX10_whoIsWho_74 (lv_at hl 4 rfl) ?_
                  refine lv_ishr hx hb dX10_whoIsWho_76 ?_
                  refine lv_topi (fun x23 e23 => ?_)
                  refine lv_iconst (v := 1) hx hb dX10_whoIsWho_77 (by decide) ?_
                  refine lv_iand hx hb dX10_whoIsWho_78 ?_
                  refine lv_topi (fun x24 e24 => ?_)
                  have t24 : 0 ≤ x24.toInt ∧ x24.toInt ≤ (1 : Int) := ga_and e24 rfl (by omega)
                  refine lv_if_ne (tgt := 84) hx hb dX10_whoIsWho_79 (by decide) (fun c25 => ?_) (fun c25 => ?_)
                  · have t25 : x24.toInt ≠ (0 : Int) := gl_ne c25
                    refine lv_aload_n hx hb dX10_whoIsWho_84 rfl (lv_at hl 0 rfl) ?_
                    refine lv_iconst (v := 0) hx hb dX10_whoIsWho_85 (by decide) ?_
                    refine qf_put2 hx hb hts inX10 tyX10 tyX10_ok nmX10 hown hK hP hS qw_Ai (q0 := 0) (by decide) (hgU_0 ca o) rfl 4 (by decide) wq_357 rfl (x := 0) 4 rfl rfl rfl (Nat.le_of_ble_eq_true rfl) dX10_whoIsWho_86 (fun z26 H locs hz26 hP hS => ?_)
                    have J26 := jU_0_4 J0 hz26 ⟨by decide, by decide⟩
                    refine lv_aload_n hx hb dX10_whoIsWho_89 rfl (lv_at hl 0 rfl) ?_
                    refine lv_iload_n hx hb dX10_whoIsWho_90 rfl (lv_at hl 1 rfl) ?_
                    refine qc_Vip (As := [.int a0]) (rest := []) (k0 := 1) (u_hasAgeAbove l D ca o b z26 y J26 a0) kc_yX10_hasAgeAbove ⟨hx, hb, hml, hown, hts⟩ wq_885 rfl rfl ⟨Nat.le_of_ble_eq_true rfl, Nat.le_of_ble_eq_true rfl⟩ wq_all hP hK hS qw_Ai (q0 := 0) (by decide) (hgU_0 ca o _ _) rfl rfl hl.1 rfl (Nat.le_of_ble_eq_true rfl) dX10_whoIsWho_91 ⟨Nat.zero_le _, Nat.zero_le _⟩ (fun r27 H locs h27 hP hS _ _ => ?_)
                    have b27 : (0 : Int) ≤ r27.toInt ∧ r27.toInt ≤ 1 := h27
                    refine lv_if_ne (tgt := 106) hx hb dX10_whoIsWho_94 (by decide) (fun c28 => ?_) (fun c28 => ?_)
                    · have t28 : r27.toInt ≠ (0 : Int) := gl_ne c28
                      refine lv_bipush (v := (-3)) hx hb dX10_whoIsWho_106 (by decide) ?_
                      exact W.iret (v := (-3)) hx hb hr (fun t ht hW => ⟨⟨(-3), (z26, y), rfl, ⟨trivial, J26⟩, by rw [ht]; exact hP, va_K.moved hW.alike hK⟩, hS.F ht⟩) hS.2.2 dX10_whoIsWho_108
                    · have t28 : r27.toInt = (0 : Int) := gl_eq c28
                      refine lv_aload_n hx hb dX10_whoIsWho_97 rfl (lv_at hl 0 rfl) ?_
                      refine lv_iload_n hx hb dX10_whoIsWho_98 rfl (lv_at hl 2 rfl) ?_
                      refine lv_iload_n hx hb dX10_whoIsWho_99 rfl (lv_at hl 3 rfl) ?_
                      refine qc_Vip (As := [.int a1, .int a2]) (rest := []) (k0 := 2) (u_standAlone l D ca o b z26 y J26 a1 a2) kc_yX10_standAlone ⟨hx, hb, hml, hown, hts⟩ wq_889 rfl rfl ⟨Nat.le_of_ble_eq_true rfl, Nat.le_of_ble_eq_true rfl⟩ wq_all hP hK hS qw_Ai (q0 := 0) (by decide) (hgU_0 ca o _ _) rfl rfl hl.1 rfl (Nat.le_of_ble_eq_true rfl) dX10_whoIsWho_100 ⟨Nat.zero_le _, Nat.zero_le _⟩ (fun r29 H locs h29 hP hS _ _ => ?_)
                      have b29 : (0 : Int) ≤ r29.toInt ∧ r29.toInt ≤ 1 := h29
                      refine lv_if_ne (tgt := 109) hx hb dX10_whoIsWho_103 (by decide) (fun c30 => ?_) (fun c30 => ?_)
                      · have t30 : r29.toInt ≠ (0 : Int) := gl_ne c30
                        refine lv_aload_n hx hb dX10_whoIsWho_109 rfl (lv_at hl 0 rfl) ?_
                        refine qf_get hx hb hts inX10 hown hK hP (q0 := 0) (by decide) (hgU_0 ca o) rfl 10 (by decide) wq_363 (v := .ref (o + 116)) rfl dX10_whoIsWho_110 ?_
                        refine lv_aload_n hx hb dX10_whoIsWho_113 rfl (lv_at hl 0 rfl) ?_
                        refine qf_get hx hb hts inX10 hown hK hP (q0 := 0) (by decide) (hgU_0 ca o) rfl 0 (by decide) wq_353 (v := .ref (o + 1)) rfl dX10_whoIsWho_114 ?_
                        refine lv_aload_n hx hb dX10_whoIsWho_117 rfl (lv_at hl 0 rfl) ?_
                        refine qf_get hx hb hts inX10 hown hK hP (q0 := 0) (by decide) (hgU_0 ca o) rfl 3 (by decide) wq_356 (v := .ref (o + 77)) rfl dX10_whoIsWho_118 ?_
                        refine lv_iload_n hx hb dX10_whoIsWho_121 rfl (lv_at hl 2 rfl) ?_
                        refine lv_iload_n hx hb dX10_whoIsWho_122 rfl (lv_at hl 3 rfl) ?_
                        refine qc_Vv2 (As := [.ref (o + 1), .ref (o + 77), .int a1, .int a2]) (rest := []) (k0 := 4) (u_Giving_giveAll l D ca o b z26 y J26 a1 a2) kc_yX4_giveAll ⟨hx, hb, hml, hown, hts⟩ wq_893 rfl rfl ⟨Nat.le_of_ble_eq_true rfl, Nat.le_of_ble_eq_true rfl⟩ wq_all hP hK hS qw_Ai (q0 := 116) (by decide) (hgU_116 ca o _ _) rfl rfl hl.1 rfl (Nat.le_of_ble_eq_true rfl) dX10_whoIsWho_123 ⟨Nat.zero_le _, Nat.zero_le _⟩ (fun z31 y31 H locs h31 hP hS _ _ => ?_)
                        have J31 : qJU b z31 := h31
                        refine lv_iload hx hb dX10_whoIsWho_126 (lv_at hl 4 rfl) ?_
                        refine lv_bipush (v := 100) hx hb dX10_whoIsWho_128 (by decide) ?_
                        refine lv_icmp_ne (tgt := 141) hx hb dX10_whoIsWho_130 (by decide) (fun c32 => ?_) (fun c32 => ?_)
                        · have t32 : a3.toInt ≠ (100 : Int) := gl_ne c32
                          refine lv_aload_n hx hb dX10_whoIsWho_141 rfl (lv_at hl 0 rfl) ?_
                          refine qf_get hx hb hts inX10 hown hK hP (q0 := 0) (by decide) (hgU_0 ca o) rfl 10 (by decide) wq_363 (v := .ref (o + 116)) rfl dX10_whoIsWho_142 ?_
                          refine qf_get hx hb hts inX4 hown hK hP (q0 := 116) (by decide) (hgU_116 ca o) rfl 3 (by decide) wq_300 (v := .int (z31 116 3)) rfl dX10_whoIsWho_145 ?_
                          refine lv_topi (fun x33 e33 => ?_)
                          refine lv_if_ne (tgt := 156) hx hb dX10_whoIsWho_148 (by decide) (fun c34 => ?_) (fun c34 => ?_)
                          · have t34 : x33.toInt ≠ (0 : Int) := gl_ne c34
                            refine lv_aload_n hx hb dX10_whoIsWho_156 rfl (lv_at hl 0 rfl) ?_
                            refine qf_get hx hb hts inX10 hown hK hP (q0 := 0) (by decide) (hgU_0 ca o) rfl 10 (by decide) wq_363 (v := .ref (o + 116)) rfl dX10_whoIsWho_157 ?_
                            refine qf_get hx hb hts inX4 hown hK hP (q0 := 116) (by decide) (hgU_116 ca o) rfl 2 (by decide) wq_298 (v := .ref (o + 119)) rfl dX10_whoIsWho_160 ?_
                            refine lv_iload hx hb dX10_whoIsWho_163 (lv_at hl 4 rfl) ?_
                            refine qa_iald hx hb hK hP (q0 := 119) (by decide) 0 (N := 6) (hgU_119 ca o) rfl (gi_in (by omega) (by omega)) dX10_whoIsWho_165 ?_
                            refine lv_topi (fun x35 e35 => ?_)
                            exact W.iret (v := x35) hx hb hr (fun t ht hW => ⟨⟨x35, (z31, y31), rfl, ⟨trivial, J31⟩, by rw [ht]; exact hP, va_K.moved hW.alike hK⟩, hS.F ht⟩) hS.2.2 dX10_whoIsWho_166
                          · have t34 : x33.toInt = (0 : Int) := gl_eq c34
                            refine lv_bipush (v := (-2)) hx hb dX10_whoIsWho_151 (by decide) ?_
                            refine lv_goto (tgt := 166) hx hb dX10_whoIsWho_153 (by decide) ?_
                            exact W.iret (v := (-2)) hx hb hr (fun t ht hW => ⟨⟨(-2), (z31, y31), rfl, ⟨trivial, J31⟩, by rw [ht]; exact hP, va_K.moved hW.alike hK⟩, hS.F ht⟩) hS.2.2 dX10_whoIsWho_166
                        · have t32 : a3.toInt = (100 : Int) := gl_eq c32
                          exfalso; omega
                      · have t30 : r29.toInt = (0 : Int) := gl_eq c30
                        refine lv_bipush (v := (-3)) hx hb dX10_whoIsWho_106 (by decide) ?_
                        exact W.iret (v := (-3)) hx hb hr (fun t ht hW => ⟨⟨(-3), (z26, y), rfl, ⟨trivial, J26⟩, by rw [ht]; exact hP, va_K.moved hW.alike hK⟩, hS.F ht⟩) hS.2.2 dX10_whoIsWho_108
                  · have t25 : x24.toInt = (0 : Int) := gl_eq c25
                    refine lv_iconst (v := (-1)) hx hb dX10_whoIsWho_82 (by decide) ?_
                    exact W.iret (v := (-1)) hx hb hr (fun t ht hW => ⟨⟨(-1), (z, y), rfl, ⟨trivial, J0⟩, by rw [ht]; exact hP, va_K.moved hW.alike hK⟩, hS.F ht⟩) hS.2.2 dX10_whoIsWho_83
              · subst hr21
                have hg21_0 : ¬ pHas (z 1 5) a3 := hf21_0
                refine lv_if_ne (tgt := 66) hx hb dX10_whoIsWho_61 (by decide) (fun q => absurd q (by decide)) (fun _ => ?_)
                refine lv_iconst (v := (-1)) hx hb dX10_whoIsWho_64 (by decide) ?_
                exact W.iret (v := (-1)) hx hb hr (fun t ht hW => ⟨⟨(-1), (z, y), rfl, ⟨trivial, J0⟩, by rw [ht]; exact hP, va_K.moved hW.alike hK⟩, hS.F ht⟩) hS.2.2 dX10_whoIsWho_65
  · subst hr1
    refine lv_if_eq (tgt := 64) hx hb dX10_whoIsWho_7 (by decide) (fun _ => ?_) (fun q => absurd (by decide) q)
    refine lv_iconst (v := (-1)) hx hb dX10_whoIsWho_64 (by decide) ?_
    exact W.iret (v := (-1)) hx hb hr (fun t ht hW => ⟨⟨(-1), (z, y), rfl, ⟨trivial, J0⟩, by rw [ht]; exact hP, va_K.moved hW.alike hK⟩, hS.F ht⟩) hS.2.2 dX10_whoIsWho_65
set_option maxRecDepth 100000 in
set_option maxHeartbeats 8000000 in
theorem u_costOfAsking (l : Launch) (D : va_G) (ca : Nat → ClassId) (o : Nat) (b z : Nat → Nat → Int32) (y : Nat → Nat → Int64) (J0 : qJU b z) (a0 : Int32) (a1 : Int32) (a2 : Int32)  : qM l yX10_costOfAsking cX10_costOfAsking 3 (some .int) 2 60 (qPre D vwCl (qT6 ca) o 132 (qG (GU ca o) z y) [.int a0, .int a1, .int a2]) (va_Qi (fun r (_ : Unit) => True) (qB D vwCl (qT6 ca) o 132 (fun _ : Unit => qG (GU ca o) z y)) (qw_A o 132)) (qw_A o 132) := by
  refine Met.ofW (cc := cX10_costOfAsking) (maxL := 3) (ret := (some .int)) (by decide) rfl ?_
  intro p e s m args below meth c s₁ B hml hv
  obtain ⟨rfl, hP, hK⟩ := hv
  have hx := B.exec
  have hb := B.bytes
  have hr := B.returns
  have hts0 := atoms_spec (ws := Cond.code yX10_costOfAsking cX10_costOfAsking 3 (some .int) :: qtbl) B.pre
  have hts : ∀ w ∈ qtbl, w.before _ s = true := fun w h => hts0 w (List.mem_cons_of_mem _ h)
  have hown : s.vm.findClass RX10 = some m.cls := findClass_of_methodNamed B.named
  have hlocks := B.notSynchronized
  have hS : va_S (qw_A o 132) s.heap s.heap [] := va_S.rf
  have hl := lv_entry ([.int a0, .int a1, .int a2]) (n := 3) (Nat.le_of_ble_eq_true rfl)
  rw [lg_entry_eq]
  generalize (lg_sl ([.int a0, .int a1, .int a2]) ++ List.replicate (3 - (lg_sl ([.int a0, .int a1, .int a2])).length) Slot.unset).toArray = ls at hl ⊢
  have hl : lv_has ls 3 [(0, .int a0), (1, .int a1), (2, .int a2)] := hl
  refine lv_iload_n hx hb dX10_costOfAsking_0 rfl (lv_at hl 0 rfl) ?_
  refine lv_if_ne (tgt := 13) hx hb dX10_costOfAsking_1 (by decide) (fun c1 => ?_) (fun c1 => ?_)
  · have t1 : a0.toInt ≠ (0 : Int) := gl_ne c1
    refine lv_iload_n hx hb dX10_costOfAsking_13 rfl (lv_at hl 0 rfl) ?_
    refine lv_iconst (v := 1) hx hb dX10_costOfAsking_14 (by decide) ?_
    refine lv_icmp_ne (tgt := 23) hx hb dX10_costOfAsking_15 (by decide) (fun c2 => ?_) (fun c2 => ?_)
    · have t2 : a0.toInt ≠ (1 : Int) := gl_ne c2
      refine lv_iload_n hx hb dX10_costOfAsking_23 rfl (lv_at hl 1 rfl) ?_
      exact W.iret (v := a1) hx hb hr (fun t ht hW => ⟨⟨a1, (), rfl, trivial, by rw [ht]; exact hP, va_K.moved hW.alike hK⟩, hS.F ht⟩) hS.2.2 dX10_costOfAsking_24
    · have t2 : a0.toInt = (1 : Int) := gl_eq c2
      refine lv_iload_n hx hb dX10_costOfAsking_18 rfl (lv_at hl 1 rfl) ?_
      refine lv_ineg hx hb dX10_costOfAsking_19 ?_
      refine lv_topi (fun x3 e3 => ?_)
      refine lv_goto (tgt := 24) hx hb dX10_costOfAsking_20 (by decide) ?_
      exact W.iret (v := x3) hx hb hr (fun t ht hW => ⟨⟨x3, (), rfl, trivial, by rw [ht]; exact hP, va_K.moved hW.alike hK⟩, hS.F ht⟩) hS.2.2 dX10_costOfAsking_24
  · have t1 : a0.toInt = (0 : Int) := gl_eq c1
    refine lv_iconst (v := 2) hx hb dX10_costOfAsking_4 (by decide) ?_
    refine lv_iload_n hx hb dX10_costOfAsking_5 rfl (lv_at hl 1 rfl) ?_
    refine lv_imul hx hb dX10_costOfAsking_6 ?_
    refine lv_topi (fun x4 e4 => ?_)
    refine lv_iload_n hx hb dX10_costOfAsking_7 rfl (lv_at hl 2 rfl) ?_
    refine lv_isub hx hb dX10_costOfAsking_8 ?_
    refine lv_topi (fun x5 e5 => ?_)
    refine va_mabs hx hb (hml.trans hl.1.symm) hown (hts _ wq_732) (hts _ wq_733) (hts _ wq_14) (hts _ wq_734) (Nat.le_of_ble_eq_true rfl) (Nat.le_of_ble_eq_true rfl) (Nat.zero_le _) (Nat.zero_le _) dX10_costOfAsking_9 ?_
    refine lv_topi (fun x6 e6 => ?_)
    exact W.iret (v := x6) hx hb hr (fun t ht hW => ⟨⟨x6, (), rfl, trivial, by rw [ht]; exact hP, va_K.moved hW.alike hK⟩, hS.F ht⟩) hS.2.2 dX10_costOfAsking_12
set_option maxRecDepth 100000 in
set_option maxHeartbeats 8000000 in
theorem u_asks (l : Launch) (D : va_G) (ca : Nat → ClassId) (o : Nat) (b z : Nat → Nat → Int32) (y : Nat → Nat → Int64) (J0 : qJU b z) (a0 : Int32) (a1 : Int32)  : qM l yX10_asks cX10_asks 9 (some .int) 6 169 (qPre D vwCl (qT6 ca) o 132 (qG (GU ca o) z y) [.ref (o + 0), .int a0, .int a1]) (va_Qi (fun r u => ((-3 : Int) ≤ r.toInt ∧ r.toInt ≤ 9) ∧ qJU b u.1) (qB D vwCl (qT6 ca) o 132 (fun u : qZ => qG (GU ca o) u.1 u.2)) (qw_A o 132)) (qw_A o 132) := by
  refine Met.ofW (cc := cX10_asks) (maxL := 9) (ret := (some .int)) (by decide) rfl ?_
  intro p e s m args below meth c s₁ B hml hv
  obtain ⟨rfl, hP, hK⟩ := hv
  have hx := B.exec
  have hb := B.bytes
  have hr := B.returns
  have hts0 := atoms_spec (ws := Cond.code yX10_asks cX10_asks 9 (some .int) :: qtbl) B.pre
  have hts : ∀ w ∈ qtbl, w.before _ s = true := fun w h => hts0 w (List.mem_cons_of_mem _ h)
  have hown : s.vm.findClass RX10 = some m.cls := findClass_of_methodNamed B.named
  have hlocks := B.notSynchronized
  have hS : va_S (qw_A o 132) s.heap s.heap [] := va_S.rf
  have hl := lv_entry ([.ref (o + 0), .int a0, .int a1]) (n := 9) (Nat.le_of_ble_eq_true rfl)
  rw [lg_entry_eq]
  generalize (lg_sl ([.ref (o + 0), .int a0, .int a1]) ++ List.replicate (9 - (lg_sl ([.ref (o + 0), .int a0, .int a1])).length) Slot.unset).toArray = ls at hl ⊢
  have hl : lv_has ls 9 [(0, .ref (o + 0)), (1, .int a0), (2, .int a1)] := hl
  refine lv_aload_n hx hb dX10_asks_0 rfl (lv_at hl 0 rfl) ?_
  refine lv_iload_n hx hb dX10_asks_1 rfl (lv_at hl 1 rfl) ?_
  refine qc_Vip (As := [.int a0]) (rest := []) (k0 := 1) (u_areRemarks l D ca o b z y J0 a0) kc_yX10_areRemarks ⟨hx, hb, hml, hown, hts⟩ wq_583 rfl rfl ⟨Nat.le_of_ble_eq_true rfl, Nat.le_of_ble_eq_true rfl⟩ wq_all hP hK hS qw_Ai (q0 := 0) (by decide) (hgU_0 ca o _ _) rfl rfl hl.1 rfl (Nat.le_of_ble_eq_true rfl) dX10_asks_2 ⟨Nat.zero_le _, Nat.zero_le _⟩ (fun r1 H locs h1 hP hS _ _ => ?_)
  have b1 : (0 : Int) ≤ r1.toInt ∧ r1.toInt ≤ 1 := h1
  refine lv_if_eq (tgt := 17) hx hb dX10_asks_5 (by decide) (fun c2 => ?_) (fun c2 => ?_)
  · have t2 : r1.toInt = (0 : Int) := gl_eq c2
    refine lv_iconst (v := (-1)) hx hb dX10_asks_17 (by decide) ?_
    exact W.iret (v := (-1)) hx hb hr (fun t ht hW => ⟨⟨(-1), (z, y), rfl, ⟨⟨by decide, by decide⟩, J0⟩, by rw [ht]; exact hP, va_K.moved hW.alike hK⟩, hS.F ht⟩) hS.2.2 dX10_asks_18
  · have t2 : r1.toInt ≠ (0 : Int) := gl_ne c2
    refine lv_iload_n hx hb dX10_asks_8 rfl (lv_at hl 2 rfl) ?_
    refine lv_if_lt (tgt := 17) hx hb dX10_asks_9 (by decide) (fun c3 => ?_) (fun c3 => ?_)
    · have t3 : a1.toInt < (0 : Int) := gl_lt c3
      refine lv_iconst (v := (-1)) hx hb dX10_asks_17 (by decide) ?_
      exact W.iret (v := (-1)) hx hb hr (fun t ht hW => ⟨⟨(-1), (z, y), rfl, ⟨⟨by decide, by decide⟩, J0⟩, by rw [ht]; exact hP, va_K.moved hW.alike hK⟩, hS.F ht⟩) hS.2.2 dX10_asks_18
    · have t3 : a1.toInt ≥ (0 : Int) := gl_nlt c3
      refine lv_iload_n hx hb dX10_asks_12 rfl (lv_at hl 2 rfl) ?_
      refine lv_iconst (v := 2) hx hb dX10_asks_13 (by decide) ?_
      refine lv_icmp_le (tgt := 19) hx hb dX10_asks_14 (by decide) (fun c4 => ?_) (fun c4 => ?_)
      · have t4 : a1.toInt ≤ (2 : Int) := gl_le c4
        refine lv_aload_n hx hb dX10_asks_19 rfl (lv_at hl 0 rfl) ?_
        refine qf_get hx hb hts inX10 hown hK hP (q0 := 0) (by decide) (hgU_0 ca o) rfl 7 (by decide) wq_360 (v := .ref (o + 108)) rfl dX10_asks_20 ?_
        refine lv_aload_n hx hb dX10_asks_23 rfl (lv_at hl 0 rfl) ?_
        refine qf_get hx hb hts inX10 hown hK hP (q0 := 0) (by decide) (hgU_0 ca o) rfl 6 (by decide) wq_359 (v := .ref (o + 104)) rfl dX10_asks_24 ?_
        refine qc_Vi2 (As := [.ref (o + 104)]) (rest := []) (k0 := 1) (u_Fits_isCounted l D ca o b z y J0) kc_yX3_isCounted ⟨hx, hb, hml, hown, hts⟩ wq_627 rfl rfl ⟨Nat.le_of_ble_eq_true rfl, Nat.le_of_ble_eq_true rfl⟩ wq_all hP hK hS qw_Ai (q0 := 108) (by decide) (hgU_108 ca o _ _) rfl rfl hl.1 rfl (Nat.le_of_ble_eq_true rfl) dX10_asks_27 ⟨Nat.zero_le _, Nat.zero_le _⟩ (fun r5 z5 y5 H locs h5 hP hS _ _ => ?_)
        have J5 : qJU b z5 := h5.2
        have b5 : (0 : Int) ≤ r5.toInt ∧ r5.toInt ≤ 1 := h5.1
        refine lv_if_ne (tgt := 36) hx hb dX10_asks_30 (by decide) (fun c6 => ?_) (fun c6 => ?_)
        · have t6 : r5.toInt ≠ (0 : Int) := gl_ne c6
          refine lv_aload_n hx hb dX10_asks_36 rfl (lv_at hl 0 rfl) ?_
          refine qf_get hx hb hts inX10 hown hK hP (q0 := 0) (by decide) (hgU_0 ca o) rfl 7 (by decide) wq_360 (v := .ref (o + 108)) rfl dX10_asks_37 ?_
          refine lv_iload_n hx hb dX10_asks_40 rfl (lv_at hl 1 rfl) ?_
          refine qc_Vip (As := [.int a0]) (rest := []) (k0 := 1) (u_Fits_of l D ca o b z5 y5 J5 a0) kc_yX3_of ⟨hx, hb, hml, hown, hts⟩ wq_644 rfl rfl ⟨Nat.le_of_ble_eq_true rfl, Nat.le_of_ble_eq_true rfl⟩ wq_all hP hK hS qw_Ai (q0 := 108) (by decide) (hgU_108 ca o _ _) rfl rfl hl.1 rfl (Nat.le_of_ble_eq_true rfl) dX10_asks_41 ⟨Nat.zero_le _, Nat.zero_le _⟩ (fun r7 H locs h7 hP hS _ _ => ?_)
          refine lv_istore_n (lv' := [(3, .int r7), (0, .ref (o + 0)), (1, .int a0), (2, .int a1)]) hx hb dX10_asks_44 rfl hl (by decide) rfl (fun ls hl => ?_)
          refine lv_bipush (v := (-2)) hx hb dX10_asks_45 (by decide) ?_
          refine lv_istore (lv' := [(4, .int ((-2))), (3, .int r7), (0, .ref (o + 0)), (1, .int a0), (2, .int a1)]) hx hb dX10_asks_47 hl (by decide) rfl (fun ls hl => ?_)
          refine lv_iconst (v := 0) hx hb dX10_asks_49 (by decide) ?_
          refine lv_istore (lv' := [(5, .int 0), (4, .int ((-2))), (3, .int r7), (0, .ref (o + 0)), (1, .int a0), (2, .int a1)]) hx hb dX10_asks_50 hl (by decide) rfl (fun ls hl => ?_)
          refine lv_iconst (v := 0) hx hb dX10_asks_52 (by decide) ?_
          refine lv_istore (lv' := [(6, .int 0), (5, .int 0), (4, .int ((-2))), (3, .int r7), (0, .ref (o + 0)), (1, .int a0), (2, .int a1)]) hx hb dX10_asks_53 hl (by decide) rfl (fun ls hl => ?_)
          have loop8 : ∀ (n : Nat) (w8_6 : Int32) (w8_5 : Int32) (w8_4 : Int32), ((10 - w8_6.toInt : Int) < (n : Int)) → ((0 : Int) ≤ w8_6.toInt ∧ w8_6.toInt ≤ 10) → ((-2 : Int) ≤ w8_4.toInt ∧ w8_4.toInt ≤ 9) → ∀ (H : Heap) (locs : List Loc), qw_P D vwCl o 132 (qG (GU ca o) z5 y5) H → va_S (qw_A o 132) s.heap H locs → ∀ (ls : Array Slot), lv_has ls 9 [(6, .int w8_6), (5, .int w8_5), (4, .int w8_4), (3, .int r7), (0, .ref (o + 0)), (1, .int a0), (2, .int a1)] → W p l e (headSpec (Cond.code yX10_asks cX10_asks 9 (some .int) :: qtbl) ({ frames := 6, cells := 0, slots := 0, locals := 169 })).room s m (([.ref (o + 0), .int a0, .int a1] : List Value).toArray) below meth c H locs 0 0 (MQ below (va_Qi (fun r u => ((-3 : Int) ≤ r.toInt ∧ r.toInt ≤ 9) ∧ qJU b u.1) (qB D vwCl (qT6 ca) o 132 (fun u : qZ => qG (GU ca o) u.1 u.2)) (qw_A o 132)) (([.ref (o + 0), .int a0, .int a1] : List Value).toArray) s 0 0 (qw_A o 132)) (F0 m 55 ls []) := by
            intro n
            induction n with
            | zero => intro w8_6 w8_5 w8_4 hb8 hv8_6 hv8_4; exfalso; omega
            | succ n8 ih8 =>
              intro w8_6 w8_5 w8_4 hb8 hv8_6 hv8_4 H locs hP hS ls hl
              refine lv_iload hx hb dX10_asks_55 (lv_at hl 0 rfl) ?_
              refine lv_bipush (v := 10) hx hb dX10_asks_57 (by decide) ?_
              refine lv_icmp_ge (tgt := 135) hx hb dX10_asks_59 (by decide) (fun c9 => ?_) (fun c9 => ?_)
              · have t9 : w8_6.toInt ≥ (10 : Int) := gl_le c9
                refine lv_iload hx hb dX10_asks_135 (lv_at hl 2 rfl) ?_
                exact W.iret (v := w8_4) hx hb hr (fun t ht hW => ⟨⟨w8_4, (z5, y5), rfl, ⟨⟨by omega, by omega⟩, J5⟩, by rw [ht]; exact hP, va_K.moved hW.alike hK⟩, hS.F ht⟩) hS.2.2 dX10_asks_137
              · have t9 : w8_6.toInt < (10 : Int) := gl_nle c9
                refine lv_iload_n hx hb dX10_asks_62 rfl (lv_at hl 3 rfl) ?_
                refine lv_if_le (tgt := 135) hx hb dX10_asks_63 (by decide) (fun c10 => ?_) (fun c10 => ?_)
                · have t10 : r7.toInt ≤ (0 : Int) := gl_le c10
                  refine lv_iload hx hb dX10_asks_135 (lv_at hl 2 rfl) ?_
                  exact W.iret (v := w8_4) hx hb hr (fun t ht hW => ⟨⟨w8_4, (z5, y5), rfl, ⟨⟨by omega, by omega⟩, J5⟩, by rw [ht]; exact hP, va_K.moved hW.alike hK⟩, hS.F ht⟩) hS.2.2 dX10_asks_137
                · have t10 : r7.toInt > (0 : Int) := gl_nle c10
                  refine lv_aload_n hx hb dX10_asks_66 rfl (lv_at hl 4 rfl) ?_
                  refine qf_get hx hb hts inX10 hown hK hP (q0 := 0) (by decide) (hgU_0 ca o) rfl 7 (by decide) wq_360 (v := .ref (o + 108)) rfl dX10_asks_67 ?_
                  refine lv_iload_n hx hb dX10_asks_70 rfl (lv_at hl 5 rfl) ?_
                  refine lv_iconst (v := 1) hx hb dX10_asks_71 (by decide) ?_
                  refine lv_iload hx hb dX10_asks_72 (lv_at hl 0 rfl) ?_
                  refine lv_ishl hx hb dX10_asks_74 ?_
                  refine lv_topi (fun x11 e11 => ?_)
                  have t11 : 1 ≤ x11.toInt ∧ x11.toInt ≤ 512 := ga_shl 9 512 e11 (by decide) (by decide) (by omega) (by omega)
                  refine lv_ior hx hb dX10_asks_75 ?_
                  refine lv_topi (fun x12 e12 => ?_)
                  refine qc_Vip (As := [.int x12]) (rest := []) (k0 := 1) (u_Fits_of l D ca o b z5 y5 J5 x12) kc_yX3_of ⟨hx, hb, hml, hown, hts⟩ wq_644 rfl rfl ⟨Nat.le_of_ble_eq_true rfl, Nat.le_of_ble_eq_true rfl⟩ wq_all hP hK hS qw_Ai (q0 := 108) (by decide) (hgU_108 ca o _ _) rfl rfl hl.1 rfl (Nat.le_of_ble_eq_true rfl) dX10_asks_76 ⟨Nat.zero_le _, Nat.zero_le _⟩ (fun r13 H locs h13 hP hS _ _ => ?_)
                  refine lv_istore (lv' := [(7, .int r13), (6, .int w8_6), (5, .int w8_5), (4, .int w8_4), (3, .int r7), (0, .ref (o + 0)), (1, .int a0), (2, .int a1)]) hx hb dX10_asks_79 hl (by decide) rfl (fun ls hl => ?_)
                  refine lv_aload_n hx hb dX10_asks_81 rfl (lv_at hl 5 rfl) ?_
                  refine lv_iload_n hx hb dX10_asks_82 rfl (lv_at hl 6 rfl) ?_
                  refine lv_iload hx hb dX10_asks_83 (lv_at hl 1 rfl) ?_
                  refine qc_Vip (As := [.int a0, .int w8_6]) (rest := []) (k0 := 2) (u_isOther l D ca o b z5 y5 J5 a0 w8_6) kc_yX10_isOther ⟨hx, hb, hml, hown, hts⟩ wq_717 rfl rfl ⟨Nat.le_of_ble_eq_true rfl, Nat.le_of_ble_eq_true rfl⟩ wq_all hP hK hS qw_Ai (q0 := 0) (by decide) (hgU_0 ca o _ _) rfl rfl hl.1 rfl (Nat.le_of_ble_eq_true rfl) dX10_asks_85 ⟨Nat.zero_le _, Nat.zero_le _⟩ (fun r14 H locs h14 hP hS _ _ => ?_)
                  have b14 : (0 : Int) ≤ r14.toInt ∧ r14.toInt ≤ 1 := h14
                  refine lv_if_eq (tgt := 129) hx hb dX10_asks_88 (by decide) (fun c15 => ?_) (fun c15 => ?_)
                  · have t15 : r14.toInt = (0 : Int) := gl_eq c15
                    obtain ⟨x16, e16⟩ : ∃ t : Int32, t = w8_6 + 1 := ⟨_, rfl⟩
                    refine lv_iinc (v := x16) (lv' := [(6, .int x16), (7, .int r13), (5, .int w8_5), (4, .int w8_4), (3, .int r7), (0, .ref (o + 0)), (1, .int a0), (2, .int a1)]) hx hb dX10_asks_129 hl (k := 1) rfl (by rw [e16]; rfl) (by decide) rfl (fun ls hl => ?_)
                    have t16 : x16.toInt = w8_6.toInt + (1 : Int) := ga_add e16 rfl rfl (by omega) (by omega)
                    refine lv_goto (tgt := 55) hx hb dX10_asks_132 (by decide) ?_
                    exact ih8 x16 w8_5 w8_4 (show (10 - x16.toInt : Int) < (n8 : Int) from by omega) ⟨by omega, by omega⟩ ⟨by omega, by omega⟩ _ _ hP hS _ (lv_sub hl [0, 2, 3, 4, 5, 6, 7] rfl)
                  · have t15 : r14.toInt ≠ (0 : Int) := gl_ne c15
                    refine lv_iload_n hx hb dX10_asks_91 rfl (lv_at hl 7 rfl) ?_
                    refine lv_if_eq (tgt := 100) hx hb dX10_asks_92 (by decide) (fun c17 => ?_) (fun c17 => ?_)
                    · have t17 : a1.toInt = (0 : Int) := gl_eq c17
                      refine lv_iload_n hx hb dX10_asks_100 rfl (lv_at hl 7 rfl) ?_
                      refine lv_iload hx hb dX10_asks_101 (lv_at hl 0 rfl) ?_
                      refine lv_iload_n hx hb dX10_asks_103 rfl (lv_at hl 4 rfl) ?_
                      refine qc_Sip (As := [.int a1, .int r13, .int r7]) (rest := []) (k0 := 3) (u_costOfAsking l D ca o b z5 y5 J5 a1 r13 r7) kc_yX10_costOfAsking ⟨hx, hb, hml, hown, hts⟩ wq_729 rfl rfl ⟨Nat.le_of_ble_eq_true rfl, Nat.le_of_ble_eq_true rfl⟩ wq_all hP hK hS qw_Ai rfl hl.1 rfl (Nat.le_of_ble_eq_true rfl) dX10_asks_104 ⟨Nat.zero_le _, Nat.zero_le _⟩ (fun r18 H locs h18 hP hS _ _ => ?_)
                      refine lv_istore (lv' := [(8, .int r18), (7, .int r13), (6, .int w8_6), (5, .int w8_5), (4, .int w8_4), (3, .int r7), (0, .ref (o + 0)), (1, .int a0), (2, .int a1)]) hx hb dX10_asks_107 hl (by decide) rfl (fun ls hl => ?_)
                      refine lv_iload hx hb dX10_asks_109 (lv_at hl 4 rfl) ?_
                      refine lv_if_lt (tgt := 121) hx hb dX10_asks_111 (by decide) (fun c19 => ?_) (fun c19 => ?_)
                      · have t19 : w8_4.toInt < (0 : Int) := gl_lt c19
                        refine lv_iload hx hb dX10_asks_121 (lv_at hl 2 rfl) ?_
                        refine lv_istore (lv' := [(4, .int w8_6), (8, .int r18), (7, .int r13), (6, .int w8_6), (5, .int w8_5), (3, .int r7), (0, .ref (o + 0)), (1, .int a0), (2, .int a1)]) hx hb dX10_asks_123 hl (by decide) rfl (fun ls hl => ?_)
                        refine lv_iload hx hb dX10_asks_125 (lv_at hl 1 rfl) ?_
                        refine lv_istore (lv' := [(5, .int r18), (4, .int w8_6), (8, .int r18), (7, .int r13), (6, .int w8_6), (3, .int r7), (0, .ref (o + 0)), (1, .int a0), (2, .int a1)]) hx hb dX10_asks_127 hl (by decide) rfl (fun ls hl => ?_)
                        obtain ⟨x20, e20⟩ : ∃ t : Int32, t = w8_6 + 1 := ⟨_, rfl⟩
                        refine lv_iinc (v := x20) (lv' := [(6, .int x20), (5, .int r18), (4, .int w8_6), (8, .int r18), (7, .int r13), (3, .int r7), (0, .ref (o + 0)), (1, .int a0), (2, .int a1)]) hx hb dX10_asks_129 hl (k := 4) rfl (by rw [e20]; rfl) (by decide) rfl (fun ls hl => ?_)
                        have t20 : x20.toInt = w8_6.toInt + (1 : Int) := ga_add e20 rfl rfl (by omega) (by omega)
                        refine lv_goto (tgt := 55) hx hb dX10_asks_132 (by decide) ?_
                        exact ih8 x20 r18 w8_6 (show (10 - x20.toInt : Int) < (n8 : Int) from by omega) ⟨by omega, by omega⟩ ⟨by omega, by omega⟩ _ _ hP hS _ (lv_sub hl [0, 1, 2, 5, 6, 7, 8] rfl)
                      · have t19 : w8_4.toInt ≥ (0 : Int) := gl_nlt c19
                        refine lv_iload hx hb dX10_asks_114 (lv_at hl 0 rfl) ?_
                        refine lv_iload hx hb dX10_asks_116 (lv_at hl 3 rfl) ?_
                        refine lv_icmp_ge (tgt := 129) hx hb dX10_asks_118 (by decide) (fun c21 => ?_) (fun c21 => ?_)
                        · have t21 : r18.toInt ≥ w8_5.toInt := gl_le c21
                          obtain ⟨x22, e22⟩ : ∃ t : Int32, t = w8_6 + 1 := ⟨_, rfl⟩
                          refine lv_iinc (v := x22) (lv' := [(6, .int x22), (8, .int r18), (7, .int r13), (5, .int w8_5), (4, .int w8_4), (3, .int r7), (0, .ref (o + 0)), (1, .int a0), (2, .int a1)]) hx hb dX10_asks_129 hl (k := 2) rfl (by rw [e22]; rfl) (by decide) rfl (fun ls hl => ?_)
                          have t22 : x22.toInt = w8_6.toInt + (1 : Int) := ga_add e22 rfl rfl (by omega) (by omega)
                          refine lv_goto (tgt := 55) hx hb dX10_asks_132 (by decide) ?_
                          exact ih8 x22 w8_5 w8_4 (show (10 - x22.toInt : Int) < (n8 : Int) from by omega) ⟨by omega, by omega⟩ ⟨by omega, by omega⟩ _ _ hP hS _ (lv_sub hl [0, 3, 4, 5, 6, 7, 8] rfl)
                        · have t21 : r18.toInt < w8_5.toInt := gl_nle c21
                          refine lv_iload hx hb dX10_asks_121 (lv_at hl 2 rfl) ?_
                          refine lv_istore (lv' := [(4, .int w8_6), (8, .int r18), (7, .int r13), (6, .int w8_6), (5, .int w8_5), (3, .int r7), (0, .ref (o + 0)), (1, .int a0), (2, .int a1)]) hx hb dX10_asks_123 hl (by decide) rfl (fun ls hl => ?_)
                          refine lv_iload hx hb dX10_asks_125 (lv_at hl 1 rfl) ?_
                          refine lv_istore (lv' := [(5, .int r18), (4, .int w8_6), (8, .int r18), (7, .int r13), (6, .int w8_6), (3, .int r7), (0, .ref (o + 0)), (1, .int a0), (2, .int a1)]) hx hb dX10_asks_127 hl (by decide) rfl (fun ls hl => ?_)
                          obtain ⟨x23, e23⟩ : ∃ t : Int32, t = w8_6 + 1 := ⟨_, rfl⟩
                          refine lv_iinc (v := x23) (lv' := [(6, .int x23), (5, .int r18), (4, .int w8_6), (8, .int r18), (7, .int r13), (3, .int r7), (0, .ref (o + 0)), (1, .int a0), (2, .int a1)]) hx hb dX10_asks_129 hl (k := 4) rfl (by rw [e23]; rfl) (by decide) rfl (fun ls hl => ?_)
                          have t23 : x23.toInt = w8_6.toInt + (1 : Int) := ga_add e23 rfl rfl (by omega) (by omega)
                          refine lv_goto (tgt := 55) hx hb dX10_asks_132 (by decide) ?_
                          exact ih8 x23 r18 w8_6 (show (10 - x23.toInt : Int) < (n8 : Int) from by omega) ⟨by omega, by omega⟩ ⟨by omega, by omega⟩ _ _ hP hS _ (lv_sub hl [0, 1, 2, 5, 6, 7, 8] rfl)
                    · have t17 : a1.toInt ≠ (0 : Int) := gl_ne c17
                      refine lv_iload hx hb dX10_asks_95 (lv_at hl 0 rfl) ?_
                      refine lv_if_le (tgt := 129) hx hb dX10_asks_97 (by decide) (fun c24 => ?_) (fun c24 => ?_)
                      · have t24 : r13.toInt ≤ (0 : Int) := gl_le c24
                        obtain ⟨x25, e25⟩ : ∃ t : Int32, t = w8_6 + 1 := ⟨_, rfl⟩
                        refine lv_iinc (v := x25) (lv' := [(6, .int x25), (7, .int r13), (5, .int w8_5), (4, .int w8_4), (3, .int r7), (0, .ref (o + 0)), (1, .int a0), (2, .int a1)]) hx hb dX10_asks_129 hl (k := 1) rfl (by rw [e25]; rfl) (by decide) rfl (fun ls hl => ?_)
                        have t25 : x25.toInt = w8_6.toInt + (1 : Int) := ga_add e25 rfl rfl (by omega) (by omega)
                        refine lv_goto (tgt := 55) hx hb dX10_asks_132 (by decide) ?_
                        exact ih8 x25 w8_5 w8_4 (show (10 - x25.toInt : Int) < (n8 : Int) from by omega) ⟨by omega, by omega⟩ ⟨by omega, by omega⟩ _ _ hP hS _ (lv_sub hl [0, 2, 3, 4, 5, 6, 7] rfl)
                      · have t24 : r13.toInt > (0 : Int) := gl_nle c24
                        refine lv_iload_n hx hb dX10_asks_100 rfl (lv_at hl 7 rfl) ?_
                        refine lv_iload hx hb dX10_asks_101 (lv_at hl 0 rfl) ?_
                        refine lv_iload_n hx hb dX10_asks_103 rfl (lv_at hl 4 rfl) ?_
                        refine qc_Sip (As := [.int a1, .int r13, .int r7]) (rest := []) (k0 := 3) (u_costOfAsking l D ca o b z5 y5 J5 a1 r13 r7) kc_yX10_costOfAsking ⟨hx, hb, hml, hown, hts⟩ wq_729 rfl rfl ⟨Nat.le_of_ble_eq_true rfl, Nat.le_of_ble_eq_true rfl⟩ wq_all hP hK hS qw_Ai rfl hl.1 rfl (Nat.le_of_ble_eq_true rfl) dX10_asks_104 ⟨Nat.zero_le _, Nat.zero_le _⟩ (fun r26 H locs h26 hP hS _ _ => ?_)
                        refine lv_istore (lv' := [(8, .int r26), (7, .int r13), (6, .int w8_6), (5, .int w8_5), (4, .int w8_4), (3, .int r7), (0, .ref (o + 0)), (1, .int a0), (2, .int a1)]) hx hb dX10_asks_107 hl (by decide) rfl (fun ls hl => ?_)
                        refine lv_iload hx hb dX10_asks_109 (lv_at hl 4 rfl) ?_
                        refine lv_if_lt (tgt := 121) hx hb dX10_asks_111 (by decide) (fun c27 => ?_) (fun c27 => ?_)
                        · have t27 : w8_4.toInt < (0 : Int) := gl_lt c27
                          refine lv_iload hx hb dX10_asks_121 (lv_at hl 2 rfl) ?_
                          refine lv_istore (lv' := [(4, .int w8_6), (8, .int r26), (7, .int r13), (6, .int w8_6), (5, .int w8_5), (3, .int r7), (0, .ref (o + 0)), (1, .int a0), (2, .int a1)]) hx hb dX10_asks_123 hl (by decide) rfl (fun ls hl => ?_)
                          refine lv_iload hx hb dX10_asks_125 (lv_at hl 1 rfl) ?_
                          refine lv_istore (lv' := [(5, .int r26), (4, .int w8_6), (8, .int r26), (7, .int r13), (6, .int w8_6), (3, .int r7), (0, .ref (o + 0)), (1, .int a0), (2, .int a1)]) hx hb dX10_asks_127 hl (by decide) rfl (fun ls hl => ?_)
                          obtain ⟨x28, e28⟩ : ∃ t : Int32, t = w8_6 + 1 := ⟨_, rfl⟩
                          refine lv_iinc (v := x28) (lv' := [(6, .int x28), (5, .int r26), (4, .int w8_6), (8, .int r26), (7, .int r13), (3, .int r7), (0, .ref (o + 0)), (1, .int a0), (2, .int a1)]) hx hb dX10_asks_129 hl (k := 4) rfl (by rw [e28]; rfl) (by decide) rfl (fun ls hl => ?_)
                          have t28 : x28.toInt = w8_6.toInt + (1 : Int) := ga_add e28 rfl rfl (by omega) (by omega)
                          refine lv_goto (tgt := 55) hx hb dX10_asks_132 (by decide) ?_
                          exact ih8 x28 r26 w8_6 (show (10 - x28.toInt : Int) < (n8 : Int) from by omega) ⟨by omega, by omega⟩ ⟨by omega, by omega⟩ _ _ hP hS _ (lv_sub hl [0, 1, 2, 5, 6, 7, 8] rfl)
                        · have t27 : w8_4.toInt ≥ (0 : Int) := gl_nlt c27
                          refine lv_iload hx hb dX10_asks_114 (lv_at hl 0 rfl) ?_
                          refine lv_iload hx hb dX10_asks_116 (lv_at hl 3 rfl) ?_
                          refine lv_icmp_ge (tgt := 129) hx hb dX10_asks_118 (by decide) (fun c29 => ?_) (fun c29 => ?_)
                          · have t29 : r26.toInt ≥ w8_5.toInt := gl_le c29
                            obtain ⟨x30, e30⟩ : ∃ t : Int32, t = w8_6 + 1 := ⟨_, rfl⟩
                            refine lv_iinc (v := x30) (lv' := [(6, .int x30), (8, .int r26), (7, .int r13), (5, .int w8_5), (4, .int w8_4), (3, .int r7), (0, .ref (o + 0)), (1, .int a0), (2, .int a1)]) hx hb dX10_asks_129 hl (k := 2) rfl (by rw [e30]; rfl) (by decide) rfl (fun ls hl => ?_)
                            have t30 : x30.toInt = w8_6.toInt + (1 : Int) := ga_add e30 rfl rfl (by omega) (by omega)
                            refine lv_goto (tgt := 55) hx hb dX10_asks_132 (by decide) ?_
                            exact ih8 x30 w8_5 w8_4 (show (10 - x30.toInt : Int) < (n8 : Int) from by omega) ⟨by omega, by omega⟩ ⟨by omega, by omega⟩ _ _ hP hS _ (lv_sub hl [0, 3, 4, 5, 6, 7, 8] rfl)
                          · have t29 : r26.toInt < w8_5.toInt := gl_nle c29
                            refine lv_iload hx hb dX10_asks_121 (lv_at hl 2 rfl) ?_
                            refine lv_istore (lv' := [(4, .int w8_6), (8, .int r26), (7, .int r13), (6, .int w8_6), (5, .int w8_5), (3, .int r7), (0, .ref (o + 0)), (1, .int a0), (2, .int a1)]) hx hb dX10_asks_123 hl (by decide) rfl (fun ls hl => ?_)
                            refine lv_iload hx hb dX10_asks_125 (lv_at hl 1 rfl) ?_
                            refine lv_istore (lv' := [(5, .int r26), (4, .int w8_6), (8, .int r26), (7, .int r13), (6, .int w8_6), (3, .int r7), (0, .ref (o + 0)), (1, .int a0), (2, .int a1)]) hx hb dX10_asks_127 hl (by decide) rfl (fun ls hl => ?_)
                            obtain ⟨x31, e31⟩ : ∃ t : Int32, t = w8_6 + 1 := ⟨_, rfl⟩
                            refine lv_iinc (v := x31) (lv' := [(6, .int x31), (5, .int r26), (4, .int w8_6), (8, .int r26), (7, .int r13), (3, .int r7), (0, .ref (o + 0)), (1, .int a0), (2, .int a1)]) hx hb dX10_asks_129 hl (k := 4) rfl (by rw [e31]; rfl) (by decide) rfl (fun ls hl => ?_)
                            have t31 : x31.toInt = w8_6.toInt + (1 : Int) := ga_add e31 rfl rfl (by omega) (by omega)
                            refine lv_goto (tgt := 55) hx hb dX10_asks_132 (by decide) ?_
                            exact ih8 x31 r26 w8_6 (show (10 - x31.toInt : Int) < (n8 : Int) from by omega) ⟨by omega, by omega⟩ ⟨by omega, by omega⟩ _ _ hP hS _ (lv_sub hl [0, 1, 2, 5, 6, 7, 8] rfl)
          exact loop8 11 0 0 (-2) (show (10 - (0 : Int) : Int) < ((11 : Nat) : Int) from by omega) ⟨by decide, by decide⟩ ⟨by decide, by decide⟩ _ _ hP hS _ (lv_sub hl [0, 1, 2, 3, 4, 5, 6] rfl)
        · have t6 : r5.toInt = (0 : Int) := gl_eq c6
          refine lv_bipush (v := (-3)) hx hb dX10_asks_33 (by decide) ?_
          exact W.iret (v := (-3)) hx hb hr (fun t ht hW => ⟨⟨(-3), (z5, y5), rfl, ⟨⟨by decide, by decide⟩, J5⟩, by rw [ht]; exact hP, va_K.moved hW.alike hK⟩, hS.F ht⟩) hS.2.2 dX10_asks_35
      · have t4 : a1.toInt > (2 : Int) := gl_nle c4
        refine lv_iconst (v := (-1)) hx hb dX10_asks_17 (by decide) ?_
        exact W.iret (v := (-1)) hx hb hr (fun t ht hW => ⟨⟨(-1), (z, y), rfl, ⟨⟨by decide, by decide⟩, J0⟩, by rw [ht]; exact hP, va_K.moved hW.alike hK⟩, hS.F ht⟩) hS.2.2 dX10_asks_18
set_option maxRecDepth 100000 in
set_option maxHeartbeats 8000000 in
theorem u_unlike (l : Launch) (D : va_G) (ca : Nat → ClassId) (o : Nat) (b z : Nat → Nat → Int32) (y : Nat → Nat → Int64) (J0 : qJU b z) (a0 : Int32) (a1 : Int32)  : qM l yX10_unlike cX10_unlike 3 (some .int) 6 169 (qPre D vwCl (qT6 ca) o 132 (qG (GU ca o) z y) [.ref (o + 0), .int a0, .int a1]) (va_Qi (fun r u => True ∧ qJU b u.1) (qB D vwCl (qT6 ca) o 132 (fun u : qZ => qG (GU ca o) u.1 u.2)) (qw_A o 132)) (qw_A o 132) := by
  refine Met.ofW (cc := cX10_unlike) (maxL := 3) (ret := (some .int)) (by decide) rfl ?_
  intro p e s m args below meth c s₁ B hml hv
  obtain ⟨rfl, hP, hK⟩ := hv
  have hx := B.exec
  have hb := B.bytes
  have hr := B.returns
  have hts0 := atoms_spec (ws := Cond.code yX10_unlike cX10_unlike 3 (some .int) :: qtbl) B.pre
  have hts : ∀ w ∈ qtbl, w.before _ s = true := fun w h => hts0 w (List.mem_cons_of_mem _ h)
  have hown : s.vm.findClass RX10 = some m.cls := findClass_of_methodNamed B.named
  have hlocks := B.notSynchronized
  have hS : va_S (qw_A o 132) s.heap s.heap [] := va_S.rf
  have hl := lv_entry ([.ref (o + 0), .int a0, .int a1]) (n := 3) (Nat.le_of_ble_eq_true rfl)
  rw [lg_entry_eq]
  generalize (lg_sl ([.ref (o + 0), .int a0, .int a1]) ++ List.replicate (3 - (lg_sl ([.ref (o + 0), .int a0, .int a1])).length) Slot.unset).toArray = ls at hl ⊢
  have hl : lv_has ls 3 [(0, .ref (o + 0)), (1, .int a0), (2, .int a1)] := hl
  refine lv_aload_n hx hb dX10_unlike_0 rfl (lv_at hl 0 rfl) ?_
  refine lv_iload_n hx hb dX10_unlike_1 rfl (lv_at hl 1 rfl) ?_
  refine qc_Vip (As := [.int a0]) (rest := []) (k0 := 1) (u_areRemarks l D ca o b z y J0 a0) kc_yX10_areRemarks ⟨hx, hb, hml, hown, hts⟩ wq_583 rfl rfl ⟨Nat.le_of_ble_eq_true rfl, Nat.le_of_ble_eq_true rfl⟩ wq_all hP hK hS qw_Ai (q0 := 0) (by decide) (hgU_0 ca o _ _) rfl rfl hl.1 rfl (Nat.le_of_ble_eq_true rfl) dX10_unlike_2 ⟨Nat.zero_le _, Nat.zero_le _⟩ (fun r1 H locs h1 hP hS _ _ => ?_)
  have b1 : (0 : Int) ≤ r1.toInt ∧ r1.toInt ≤ 1 := h1
  refine lv_if_eq (tgt := 16) hx hb dX10_unlike_5 (by decide) (fun c2 => ?_) (fun c2 => ?_)
  · have t2 : r1.toInt = (0 : Int) := gl_eq c2
    refine lv_iconst (v := (-1)) hx hb dX10_unlike_16 (by decide) ?_
    exact W.iret (v := (-1)) hx hb hr (fun t ht hW => ⟨⟨(-1), (z, y), rfl, ⟨trivial, J0⟩, by rw [ht]; exact hP, va_K.moved hW.alike hK⟩, hS.F ht⟩) hS.2.2 dX10_unlike_17
  · have t2 : r1.toInt ≠ (0 : Int) := gl_ne c2
    refine lv_aload_n hx hb dX10_unlike_8 rfl (lv_at hl 0 rfl) ?_
    refine lv_iload_n hx hb dX10_unlike_9 rfl (lv_at hl 2 rfl) ?_
    refine qc_Vip (As := [.int a1]) (rest := []) (k0 := 1) (u_areRemarks l D ca o b z y J0 a1) kc_yX10_areRemarks ⟨hx, hb, hml, hown, hts⟩ wq_583 rfl rfl ⟨Nat.le_of_ble_eq_true rfl, Nat.le_of_ble_eq_true rfl⟩ wq_all hP hK hS qw_Ai (q0 := 0) (by decide) (hgU_0 ca o _ _) rfl rfl hl.1 rfl (Nat.le_of_ble_eq_true rfl) dX10_unlike_10 ⟨Nat.zero_le _, Nat.zero_le _⟩ (fun r3 H locs h3 hP hS _ _ => ?_)
    have b3 : (0 : Int) ≤ r3.toInt ∧ r3.toInt ≤ 1 := h3
    refine lv_if_ne (tgt := 18) hx hb dX10_unlike_13 (by decide) (fun c4 => ?_) (fun c4 => ?_)
    · have t4 : r3.toInt ≠ (0 : Int) := gl_ne c4
      refine lv_aload_n hx hb dX10_unlike_18 rfl (lv_at hl 0 rfl) ?_
      refine qf_get hx hb hts inX10 hown hK hP (q0 := 0) (by decide) (hgU_0 ca o) rfl 7 (by decide) wq_360 (v := .ref (o + 108)) rfl dX10_unlike_19 ?_
      refine lv_aload_n hx hb dX10_unlike_22 rfl (lv_at hl 0 rfl) ?_
      refine qf_get hx hb hts inX10 hown hK hP (q0 := 0) (by decide) (hgU_0 ca o) rfl 6 (by decide) wq_359 (v := .ref (o + 104)) rfl dX10_unlike_23 ?_
      refine qc_Vi2 (As := [.ref (o + 104)]) (rest := []) (k0 := 1) (u_Fits_isCounted l D ca o b z y J0) kc_yX3_isCounted ⟨hx, hb, hml, hown, hts⟩ wq_627 rfl rfl ⟨Nat.le_of_ble_eq_true rfl, Nat.le_of_ble_eq_true rfl⟩ wq_all hP hK hS qw_Ai (q0 := 108) (by decide) (hgU_108 ca o _ _) rfl rfl hl.1 rfl (Nat.le_of_ble_eq_true rfl) dX10_unlike_26 ⟨Nat.zero_le _, Nat.zero_le _⟩ (fun r5 z5 y5 H locs h5 hP hS _ _ => ?_)
      have J5 : qJU b z5 := h5.2
      have b5 : (0 : Int) ≤ r5.toInt ∧ r5.toInt ≤ 1 := h5.1
      refine lv_if_ne (tgt := 35) hx hb dX10_unlike_29 (by decide) (fun c6 => ?_) (fun c6 => ?_)
      · have t6 : r5.toInt ≠ (0 : Int) := gl_ne c6
        refine lv_aload_n hx hb dX10_unlike_35 rfl (lv_at hl 0 rfl) ?_
        refine qf_get hx hb hts inX10 hown hK hP (q0 := 0) (by decide) (hgU_0 ca o) rfl 7 (by decide) wq_360 (v := .ref (o + 108)) rfl dX10_unlike_36 ?_
        refine lv_iload_n hx hb dX10_unlike_39 rfl (lv_at hl 1 rfl) ?_
        refine qc_Vip (As := [.int a0]) (rest := []) (k0 := 1) (u_Fits_of l D ca o b z5 y5 J5 a0) kc_yX3_of ⟨hx, hb, hml, hown, hts⟩ wq_644 rfl rfl ⟨Nat.le_of_ble_eq_true rfl, Nat.le_of_ble_eq_true rfl⟩ wq_all hP hK hS qw_Ai (q0 := 108) (by decide) (hgU_108 ca o _ _) rfl rfl hl.1 rfl (Nat.le_of_ble_eq_true rfl) dX10_unlike_40 ⟨Nat.zero_le _, Nat.zero_le _⟩ (fun r7 H locs h7 hP hS _ _ => ?_)
        refine lv_aload_n hx hb dX10_unlike_43 rfl (lv_at hl 0 rfl) ?_
        refine qf_get hx hb hts inX10 hown hK hP (q0 := 0) (by decide) (hgU_0 ca o) rfl 7 (by decide) wq_360 (v := .ref (o + 108)) rfl dX10_unlike_44 ?_
        refine lv_iload_n hx hb dX10_unlike_47 rfl (lv_at hl 2 rfl) ?_
        refine qc_Vip (As := [.int a1]) (rest := [.int r7]) (k0 := 1) (u_Fits_of l D ca o b z5 y5 J5 a1) kc_yX3_of ⟨hx, hb, hml, hown, hts⟩ wq_644 rfl rfl ⟨Nat.le_of_ble_eq_true rfl, Nat.le_of_ble_eq_true rfl⟩ wq_all hP hK hS qw_Ai (q0 := 108) (by decide) (hgU_108 ca o _ _) rfl rfl hl.1 rfl (Nat.le_of_ble_eq_true rfl) dX10_unlike_48 ⟨Nat.zero_le _, Nat.zero_le _⟩ (fun r8 H locs h8 hP hS _ _ => ?_)
        refine lv_iadd hx hb dX10_unlike_51 ?_
        refine lv_topi (fun x9 e9 => ?_)
        refine lv_iconst (v := 2) hx hb dX10_unlike_52 (by decide) ?_
        refine lv_aload_n hx hb dX10_unlike_53 rfl (lv_at hl 0 rfl) ?_
        refine qf_get hx hb hts inX10 hown hK hP (q0 := 0) (by decide) (hgU_0 ca o) rfl 7 (by decide) wq_360 (v := .ref (o + 108)) rfl dX10_unlike_54 ?_
        refine lv_iload_n hx hb dX10_unlike_57 rfl (lv_at hl 1 rfl) ?_
        refine lv_iload_n hx hb dX10_unlike_58 rfl (lv_at hl 2 rfl) ?_
        refine lv_ior hx hb dX10_unlike_59 ?_
        refine lv_topi (fun x10 e10 => ?_)
        refine qc_Vip (As := [.int x10]) (rest := [.int 2, .int x9]) (k0 := 1) (u_Fits_of l D ca o b z5 y5 J5 x10) kc_yX3_of ⟨hx, hb, hml, hown, hts⟩ wq_644 rfl rfl ⟨Nat.le_of_ble_eq_true rfl, Nat.le_of_ble_eq_true rfl⟩ wq_all hP hK hS qw_Ai (q0 := 108) (by decide) (hgU_108 ca o _ _) rfl rfl hl.1 rfl (Nat.le_of_ble_eq_true rfl) dX10_unlike_60 ⟨Nat.zero_le _, Nat.zero_le _⟩ (fun r11 H locs h11 hP hS _ _ => ?_)
        refine lv_imul hx hb dX10_unlike_63 ?_
        refine lv_topi (fun x12 e12 => ?_)
        refine lv_isub hx hb dX10_unlike_64 ?_
        refine lv_topi (fun x13 e13 => ?_)
        exact W.iret (v := x13) hx hb hr (fun t ht hW => ⟨⟨x13, (z5, y5), rfl, ⟨trivial, J5⟩, by rw [ht]; exact hP, va_K.moved hW.alike hK⟩, hS.F ht⟩) hS.2.2 dX10_unlike_65
      · have t6 : r5.toInt = (0 : Int) := gl_eq c6
        refine lv_bipush (v := (-3)) hx hb dX10_unlike_32 (by decide) ?_
        exact W.iret (v := (-3)) hx hb hr (fun t ht hW => ⟨⟨(-3), (z5, y5), rfl, ⟨trivial, J5⟩, by rw [ht]; exact hP, va_K.moved hW.alike hK⟩, hS.F ht⟩) hS.2.2 dX10_unlike_34
    · have t4 : r3.toInt = (0 : Int) := gl_eq c4
      refine lv_iconst (v := (-1)) hx hb dX10_unlike_16 (by decide) ?_
      exact W.iret (v := (-1)) hx hb hr (fun t ht hW => ⟨⟨(-1), (z, y), rfl, ⟨trivial, J0⟩, by rw [ht]; exact hP, va_K.moved hW.alike hK⟩, hS.F ht⟩) hS.2.2 dX10_unlike_17
set_option maxRecDepth 100000 in
set_option maxHeartbeats 8000000 in
theorem u_Shortest_leavesOne (l : Launch) (D : va_G) (ca : Nat → ClassId) (o : Nat) (b z : Nat → Nat → Int32) (y : Nat → Nat → Int64) (J0 : qJU b z) (a2 : Int32) (a3 : Int32) (a4 : Int32) (a5 : Int32) (ha3 : (0 : Int) ≤ a3.toInt ∧ a3.toInt ≤ 5) (ha4 : (0 : Int) ≤ a4.toInt ∧ a4.toInt ≤ 5) : qM l yX8_leavesOne cX8_leavesOne 11 (some .boolean) 3 82 (qPre D vwCl (qT6 ca) o 132 (qG (GU ca o) z y) [.ref (o + 110), .ref (o + 1), .int a2, .int a3, .int a4, .int a5]) (va_Qi (fun r (_ : Unit) => ((0 : Int) ≤ r.toInt ∧ r.toInt ≤ 1)) (qB D vwCl (qT6 ca) o 132 (fun _ : Unit => qG (GU ca o) z y)) (qw_A o 132)) (qw_A o 132) := by
  refine Met.ofW (cc := cX8_leavesOne) (maxL := 11) (ret := (some .boolean)) (by decide) rfl ?_
  intro p e s m args below meth c s₁ B hml hv
  obtain ⟨rfl, hP, hK⟩ := hv
  have hx := B.exec
  have hb := B.bytes
  have hr := B.returns
  have hts0 := atoms_spec (ws := Cond.code yX8_leavesOne cX8_leavesOne 11 (some .boolean) :: qtbl) B.pre
  have hts : ∀ w ∈ qtbl, w.before _ s = true := fun w h => hts0 w (List.mem_cons_of_mem _ h)
  have hown : s.vm.findClass RX8 = some m.cls := findClass_of_methodNamed B.named
  have hlocks := B.notSynchronized
  have hS : va_S (qw_A o 132) s.heap s.heap [] := va_S.rf
  have hl := lv_entry ([.ref (o + 110), .ref (o + 1), .int a2, .int a3, .int a4, .int a5]) (n := 11) (Nat.le_of_ble_eq_true rfl)
  rw [lg_entry_eq]
  generalize (lg_sl ([.ref (o + 110), .ref (o + 1), .int a2, .int a3, .int a4, .int a5]) ++ List.replicate (11 - (lg_sl ([.ref (o + 110), .ref (o + 1), .int a2, .int a3, .int a4, .int a5])).length) Slot.unset).toArray = ls at hl ⊢
  have hl : lv_has ls 11 [(0, .ref (o + 110)), (1, .ref (o + 1)), (2, .int a2), (3, .int a3), (4, .int a4), (5, .int a5)] := hl
  refine lv_iconst (v := 0) hx hb dX8_leavesOne_0 (by decide) ?_
  refine lv_istore (lv' := [(6, .int 0), (0, .ref (o + 110)), (1, .ref (o + 1)), (2, .int a2), (3, .int a3), (4, .int a4), (5, .int a5)]) hx hb dX8_leavesOne_1 hl (by decide) rfl (fun ls hl => ?_)
  refine lv_iconst (v := 0) hx hb dX8_leavesOne_3 (by decide) ?_
  refine lv_istore (lv' := [(7, .int 0), (6, .int 0), (0, .ref (o + 110)), (1, .ref (o + 1)), (2, .int a2), (3, .int a3), (4, .int a4), (5, .int a5)]) hx hb dX8_leavesOne_4 hl (by decide) rfl (fun ls hl => ?_)
  have loop1 : ∀ (n : Nat) (w1_7 : Int32) (w1_6 : Int32), ((2000 - w1_7.toInt : Int) < (n : Int)) → ((0 : Int) ≤ w1_7.toInt ∧ w1_7.toInt ≤ 2000) → ((0 : Int) ≤ w1_6.toInt ∧ w1_6.toInt ≤ 2) → ∀ (H : Heap) (locs : List Loc), qw_P D vwCl o 132 (qG (GU ca o) z y) H → va_S (qw_A o 132) s.heap H locs → ∀ (ls : Array Slot), lv_has ls 11 [(7, .int w1_7), (6, .int w1_6), (0, .ref (o + 110)), (1, .ref (o + 1)), (2, .int a2), (3, .int a3), (4, .int a4), (5, .int a5)] → W p l e (headSpec (Cond.code yX8_leavesOne cX8_leavesOne 11 (some .boolean) :: qtbl) ({ frames := 3, cells := 0, slots := 0, locals := 82 })).room s m (([.ref (o + 110), .ref (o + 1), .int a2, .int a3, .int a4, .int a5] : List Value).toArray) below meth c H locs 0 0 (MQ below (va_Qi (fun r (_ : Unit) => ((0 : Int) ≤ r.toInt ∧ r.toInt ≤ 1)) (qB D vwCl (qT6 ca) o 132 (fun _ : Unit => qG (GU ca o) z y)) (qw_A o 132)) (([.ref (o + 110), .ref (o + 1), .int a2, .int a3, .int a4, .int a5] : List Value).toArray) s 0 0 (qw_A o 132)) (F0 m 6 ls []) := by
    intro n
    induction n with
    | zero => intro w1_7 w1_6 hb1 hv1_7 hv1_6; exfalso; omega
    | succ n1 ih1 =>
      intro w1_7 w1_6 hb1 hv1_7 hv1_6 H locs hP hS ls hl
      refine lv_iload hx hb dX8_leavesOne_6 (lv_at hl 0 rfl) ?_
      refine lv_aload_n hx hb dX8_leavesOne_8 rfl (lv_at hl 2 rfl) ?_
      refine qf_get hx hb hts inX2 hown hK hP (q0 := 110) (by decide) (hgU_110 ca o) rfl 3 (by decide) wq_234 (v := .int (z 110 3)) rfl dX8_leavesOne_9 ?_
      refine lv_topi (fun x2 e2 => ?_)
      have b2 := iU_110_3 J0 e2
      refine lv_icmp_ge (tgt := 105) hx hb dX8_leavesOne_12 (by decide) (fun c3 => ?_) (fun c3 => ?_)
      · have t3 : w1_7.toInt ≥ x2.toInt := gl_le c3
        refine lv_iload hx hb dX8_leavesOne_105 (lv_at hl 1 rfl) ?_
        refine lv_iconst (v := 1) hx hb dX8_leavesOne_107 (by decide) ?_
        refine lv_icmp_ne (tgt := 115) hx hb dX8_leavesOne_108 (by decide) (fun c4 => ?_) (fun c4 => ?_)
        · have t4 : w1_6.toInt ≠ (1 : Int) := gl_ne c4
          refine lv_iconst (v := 0) hx hb dX8_leavesOne_115 (by decide) ?_
          exact W.zret (v := 0) (ty := .boolean) hx hb hr rfl (fun t ht hW => ⟨⟨0, (), rfl, ⟨by decide, by decide⟩, by rw [ht]; exact hP, va_K.moved hW.alike hK⟩, hS.F ht⟩) hS.2.2 dX8_leavesOne_116
        · have t4 : w1_6.toInt = (1 : Int) := gl_eq c4
          refine lv_iconst (v := 1) hx hb dX8_leavesOne_111 (by decide) ?_
          refine lv_goto (tgt := 116) hx hb dX8_leavesOne_112 (by decide) ?_
          exact W.zret (v := 1) (ty := .boolean) hx hb hr rfl (fun t ht hW => ⟨⟨1, (), rfl, ⟨by decide, by decide⟩, by rw [ht]; exact hP, va_K.moved hW.alike hK⟩, hS.F ht⟩) hS.2.2 dX8_leavesOne_116
      · have t3 : w1_7.toInt < x2.toInt := gl_nle c3
        refine lv_iload hx hb dX8_leavesOne_15 (lv_at hl 1 rfl) ?_
        refine lv_iconst (v := 2) hx hb dX8_leavesOne_17 (by decide) ?_
        refine lv_icmp_ge (tgt := 105) hx hb dX8_leavesOne_18 (by decide) (fun c5 => ?_) (fun c5 => ?_)
        · have t5 : w1_6.toInt ≥ (2 : Int) := gl_le c5
          refine lv_iload hx hb dX8_leavesOne_105 (lv_at hl 1 rfl) ?_
          refine lv_iconst (v := 1) hx hb dX8_leavesOne_107 (by decide) ?_
          refine lv_icmp_ne (tgt := 115) hx hb dX8_leavesOne_108 (by decide) (fun c6 => ?_) (fun c6 => ?_)
          · have t6 : w1_6.toInt ≠ (1 : Int) := gl_ne c6
            refine lv_iconst (v := 0) hx hb dX8_leavesOne_115 (by decide) ?_
            exact W.zret (v := 0) (ty := .boolean) hx hb hr rfl (fun t ht hW => ⟨⟨0, (), rfl, ⟨by decide, by decide⟩, by rw [ht]; exact hP, va_K.moved hW.alike hK⟩, hS.F ht⟩) hS.2.2 dX8_leavesOne_116
          · have t6 : w1_6.toInt = (1 : Int) := gl_eq c6
            exfalso; omega
        · have t5 : w1_6.toInt < (2 : Int) := gl_nle c5
          refine lv_aload_n hx hb dX8_leavesOne_21 rfl (lv_at hl 2 rfl) ?_
          refine lv_iload hx hb dX8_leavesOne_22 (lv_at hl 0 rfl) ?_
          refine lv_iload_n hx hb dX8_leavesOne_24 rfl (lv_at hl 5 rfl) ?_
          refine qc_Vip (As := [.int w1_7, .int a3]) (rest := []) (k0 := 2) (u_Few_ageOf l D ca o b z y J0 w1_7 a3 ⟨by omega, by omega⟩ ⟨by omega, by omega⟩) kc_yX2_ageOf ⟨hx, hb, hml, hown, hts⟩ wq_864 rfl rfl ⟨Nat.le_of_ble_eq_true rfl, Nat.le_of_ble_eq_true rfl⟩ wq_all hP hK hS qw_Ai (q0 := 110) (by decide) (hgU_110 ca o _ _) rfl rfl hl.1 rfl (Nat.le_of_ble_eq_true rfl) dX8_leavesOne_25 ⟨Nat.zero_le _, Nat.zero_le _⟩ (fun r7 H locs h7 hP hS _ _ => ?_)
          refine lv_aload_n hx hb dX8_leavesOne_28 rfl (lv_at hl 3 rfl) ?_
          refine lv_iload_n hx hb dX8_leavesOne_29 rfl (lv_at hl 5 rfl) ?_
          refine qc_Vip (As := [.int a3]) (rest := [.int r7]) (k0 := 1) (u_Told_lived l D ca o b z y J0 a3) kc_yX9_lived ⟨hx, hb, hml, hown, hts⟩ wq_865 rfl rfl ⟨Nat.le_of_ble_eq_true rfl, Nat.le_of_ble_eq_true rfl⟩ wq_all hP hK hS qw_Ai (q0 := 1) (by decide) (hgU_1 ca o _ _) rfl rfl hl.1 rfl (Nat.le_of_ble_eq_true rfl) dX8_leavesOne_30 ⟨Nat.zero_le _, Nat.zero_le _⟩ (fun r8 H locs h8 hP hS _ _ => ?_)
          refine lv_iadd hx hb dX8_leavesOne_33 ?_
          refine lv_topi (fun x9 e9 => ?_)
          refine lv_istore (lv' := [(8, .int x9), (7, .int w1_7), (6, .int w1_6), (0, .ref (o + 110)), (1, .ref (o + 1)), (2, .int a2), (3, .int a3), (4, .int a4), (5, .int a5)]) hx hb dX8_leavesOne_34 hl (by decide) rfl (fun ls hl => ?_)
          refine lv_aload_n hx hb dX8_leavesOne_36 rfl (lv_at hl 3 rfl) ?_
          refine lv_iload hx hb dX8_leavesOne_37 (lv_at hl 1 rfl) ?_
          refine lv_iload hx hb dX8_leavesOne_39 (lv_at hl 7 rfl) ?_
          refine qc_Vip (As := [.int w1_7, .int a4]) (rest := []) (k0 := 2) (u_Few_ageOf l D ca o b z y J0 w1_7 a4 ⟨by omega, by omega⟩ ⟨by omega, by omega⟩) kc_yX2_ageOf ⟨hx, hb, hml, hown, hts⟩ wq_864 rfl rfl ⟨Nat.le_of_ble_eq_true rfl, Nat.le_of_ble_eq_true rfl⟩ wq_all hP hK hS qw_Ai (q0 := 110) (by decide) (hgU_110 ca o _ _) rfl rfl hl.1 rfl (Nat.le_of_ble_eq_true rfl) dX8_leavesOne_41 ⟨Nat.zero_le _, Nat.zero_le _⟩ (fun r10 H locs h10 hP hS _ _ => ?_)
          refine lv_aload_n hx hb dX8_leavesOne_44 rfl (lv_at hl 4 rfl) ?_
          refine lv_iload hx hb dX8_leavesOne_45 (lv_at hl 7 rfl) ?_
          refine qc_Vip (As := [.int a4]) (rest := [.int r10]) (k0 := 1) (u_Told_lived l D ca o b z y J0 a4) kc_yX9_lived ⟨hx, hb, hml, hown, hts⟩ wq_865 rfl rfl ⟨Nat.le_of_ble_eq_true rfl, Nat.le_of_ble_eq_true rfl⟩ wq_all hP hK hS qw_Ai (q0 := 1) (by decide) (hgU_1 ca o _ _) rfl rfl hl.1 rfl (Nat.le_of_ble_eq_true rfl) dX8_leavesOne_47 ⟨Nat.zero_le _, Nat.zero_le _⟩ (fun r11 H locs h11 hP hS _ _ => ?_)
          refine lv_iadd hx hb dX8_leavesOne_50 ?_
          refine lv_topi (fun x12 e12 => ?_)
          refine lv_istore (lv' := [(9, .int x12), (8, .int x9), (7, .int w1_7), (6, .int w1_6), (0, .ref (o + 110)), (1, .ref (o + 1)), (2, .int a2), (3, .int a3), (4, .int a4), (5, .int a5)]) hx hb dX8_leavesOne_51 hl (by decide) rfl (fun ls hl => ?_)
          refine lv_iload_n hx hb dX8_leavesOne_53 rfl (lv_at hl 6 rfl) ?_
          refine lv_if_ne (tgt := 62) hx hb dX8_leavesOne_54 (by decide) (fun c13 => ?_) (fun c13 => ?_)
          · have t13 : a2.toInt ≠ (0 : Int) := gl_ne c13
            refine lv_iload_n hx hb dX8_leavesOne_62 rfl (lv_at hl 6 rfl) ?_
            refine lv_iconst (v := 1) hx hb dX8_leavesOne_63 (by decide) ?_
            refine lv_icmp_ne (tgt := 75) hx hb dX8_leavesOne_64 (by decide) (fun c14 => ?_) (fun c14 => ?_)
            · have t14 : a2.toInt ≠ (1 : Int) := gl_ne c14
              refine lv_iload hx hb dX8_leavesOne_75 (lv_at hl 9 rfl) ?_
              refine lv_iload hx hb dX8_leavesOne_77 (lv_at hl 0 rfl) ?_
              refine lv_imul hx hb dX8_leavesOne_79 ?_
              refine lv_topi (fun x15 e15 => ?_)
              refine lv_istore (lv' := [(10, .int x15), (9, .int x12), (8, .int x9), (7, .int w1_7), (6, .int w1_6), (0, .ref (o + 110)), (1, .ref (o + 1)), (2, .int a2), (3, .int a3), (4, .int a4), (5, .int a5)]) hx hb dX8_leavesOne_80 hl (by decide) rfl (fun ls hl => ?_)
              refine lv_iload hx hb dX8_leavesOne_82 (lv_at hl 4 rfl) ?_
              refine lv_iload hx hb dX8_leavesOne_84 (lv_at hl 2 rfl) ?_
              refine lv_iload hx hb dX8_leavesOne_86 (lv_at hl 0 rfl) ?_
              refine lv_icmp_ne (tgt := 95) hx hb dX8_leavesOne_88 (by decide) (fun c16 => ?_) (fun c16 => ?_)
              · have t16 : x9.toInt ≠ x15.toInt := gl_ne c16
                refine lv_iconst (v := 0) hx hb dX8_leavesOne_95 (by decide) ?_
                refine lv_iadd hx hb dX8_leavesOne_96 ?_
                refine lv_topi (fun x17 e17 => ?_)
                have t17 : x17.toInt = w1_6.toInt + (0 : Int) := ga_add e17 rfl rfl (by omega) (by omega)
                refine lv_istore (lv' := [(6, .int x17), (10, .int x15), (9, .int x12), (8, .int x9), (7, .int w1_7), (0, .ref (o + 110)), (1, .ref (o + 1)), (2, .int a2), (3, .int a3), (4, .int a4), (5, .int a5)]) hx hb dX8_leavesOne_97 hl (by decide) rfl (fun ls hl => ?_)
                obtain ⟨x18, e18⟩ : ∃ t : Int32, t = w1_7 + 1 := ⟨_, rfl⟩
                refine lv_iinc (v := x18) (lv' := [(7, .int x18), (6, .int x17), (10, .int x15), (9, .int x12), (8, .int x9), (0, .ref (o + 110)), (1, .ref (o + 1)), (2, .int a2), (3, .int a3), (4, .int a4), (5, .int a5)]) hx hb dX8_leavesOne_99 hl (k := 4) rfl (by rw [e18]; rfl) (by decide) rfl (fun ls hl => ?_)
                have t18 : x18.toInt = w1_7.toInt + (1 : Int) := ga_add e18 rfl rfl (by omega) (by omega)
                refine lv_goto (tgt := 6) hx hb dX8_leavesOne_102 (by decide) ?_
                exact ih1 x18 x17 (show (2000 - x18.toInt : Int) < (n1 : Int) from by omega) ⟨by omega, by omega⟩ ⟨by omega, by omega⟩ _ _ hP hS _ (lv_sub hl [0, 1, 5, 6, 7, 8, 9, 10] rfl)
              · have t16 : x9.toInt = x15.toInt := gl_eq c16
                refine lv_iconst (v := 1) hx hb dX8_leavesOne_91 (by decide) ?_
                refine lv_goto (tgt := 96) hx hb dX8_leavesOne_92 (by decide) ?_
                refine lv_iadd hx hb dX8_leavesOne_96 ?_
                refine lv_topi (fun x19 e19 => ?_)
                have t19 : x19.toInt = w1_6.toInt + (1 : Int) := ga_add e19 rfl rfl (by omega) (by omega)
                refine lv_istore (lv' := [(6, .int x19), (10, .int x15), (9, .int x12), (8, .int x9), (7, .int w1_7), (0, .ref (o + 110)), (1, .ref (o + 1)), (2, .int a2), (3, .int a3), (4, .int a4), (5, .int a5)]) hx hb dX8_leavesOne_97 hl (by decide) rfl (fun ls hl => ?_)
                obtain ⟨x20, e20⟩ : ∃ t : Int32, t = w1_7 + 1 := ⟨_, rfl⟩
                refine lv_iinc (v := x20) (lv' := [(7, .int x20), (6, .int x19), (10, .int x15), (9, .int x12), (8, .int x9), (0, .ref (o + 110)), (1, .ref (o + 1)), (2, .int a2), (3, .int a3), (4, .int a4), (5, .int a5)]) hx hb dX8_leavesOne_99 hl (k := 4) rfl (by rw [e20]; rfl) (by decide) rfl (fun ls hl => ?_)
                have t20 : x20.toInt = w1_7.toInt + (1 : Int) := ga_add e20 rfl rfl (by omega) (by omega)
                refine lv_goto (tgt := 6) hx hb dX8_leavesOne_102 (by decide) ?_
                exact ih1 x20 x19 (show (2000 - x20.toInt : Int) < (n1 : Int) from by omega) ⟨by omega, by omega⟩ ⟨by omega, by omega⟩ _ _ hP hS _ (lv_sub hl [0, 1, 5, 6, 7, 8, 9, 10] rfl)
            · have t14 : a2.toInt = (1 : Int) := gl_eq c14
              refine lv_iload hx hb dX8_leavesOne_67 (lv_at hl 0 rfl) ?_
              refine lv_iload hx hb dX8_leavesOne_69 (lv_at hl 9 rfl) ?_
              refine lv_iadd hx hb dX8_leavesOne_71 ?_
              refine lv_topi (fun x21 e21 => ?_)
              refine lv_goto (tgt := 80) hx hb dX8_leavesOne_72 (by decide) ?_
              refine lv_istore (lv' := [(10, .int x21), (9, .int x12), (8, .int x9), (7, .int w1_7), (6, .int w1_6), (0, .ref (o + 110)), (1, .ref (o + 1)), (2, .int a2), (3, .int a3), (4, .int a4), (5, .int a5)]) hx hb dX8_leavesOne_80 hl (by decide) rfl (fun ls hl => ?_)
              refine lv_iload hx hb dX8_leavesOne_82 (lv_at hl 4 rfl) ?_
              refine lv_iload hx hb dX8_leavesOne_84 (lv_at hl 2 rfl) ?_
              refine lv_iload hx hb dX8_leavesOne_86 (lv_at hl 0 rfl) ?_
              refine lv_icmp_ne (tgt := 95) hx hb dX8_leavesOne_88 (by decide) (fun c22 => ?_) (fun c22 => ?_)
              · have t22 : x9.toInt ≠ x21.toInt := gl_ne c22
                refine lv_iconst (v := 0) hx hb dX8_leavesOne_95 (by decide) ?_
                refine lv_iadd hx hb dX8_leavesOne_96 ?_
                refine lv_topi (fun x23 e23 => ?_)
                have t23 : x23.toInt = w1_6.toInt + (0 : Int) := ga_add e23 rfl rfl (by omega) (by omega)
                refine lv_istore (lv' := [(6, .int x23), (10, .int x21), (9, .int x12), (8, .int x9), (7, .int w1_7), (0, .ref (o + 110)), (1, .ref (o + 1)), (2, .int a2), (3, .int a3), (4, .int a4), (5, .int a5)]) hx hb dX8_leavesOne_97 hl (by decide) rfl (fun ls hl => ?_)
                obtain ⟨x24, e24⟩ : ∃ t : Int32, t = w1_7 + 1 := ⟨_, rfl⟩
                refine lv_iinc (v := x24) (lv' := [(7, .int x24), (6, .int x23), (10, .int x21), (9, .int x12), (8, .int x9), (0, .ref (o + 110)), (1, .ref (o + 1)), (2, .int a2), (3, .int a3), (4, .int a4), (5, .int a5)]) hx hb dX8_leavesOne_99 hl (k := 4) rfl (by rw [e24]; rfl) (by decide) rfl (fun ls hl => ?_)
                have t24 : x24.toInt = w1_7.toInt + (1 : Int) := ga_add e24 rfl rfl (by omega) (by omega)
                refine lv_goto (tgt := 6) hx hb dX8_leavesOne_102 (by decide) ?_
                exact ih1 x24 x23 (show (2000 - x24.toInt : Int) < (n1 : Int) from by omega) ⟨by omega, by omega⟩ ⟨by omega, by omega⟩ _ _ hP hS _ (lv_sub hl [0, 1, 5, 6, 7, 8, 9, 10] rfl)
              · have t22 : x9.toInt = x21.toInt := gl_eq c22
                refine lv_iconst (v := 1) hx hb dX8_leavesOne_91 (by decide) ?_
                refine lv_goto (tgt := 96) hx hb dX8_leavesOne_92 (by decide) ?_
                refine lv_iadd hx hb dX8_leavesOne_96 ?_
                refine lv_topi (fun x25 e25 => ?_)
                have t25 : x25.toInt = w1_6.toInt + (1 : Int) := ga_add e25 rfl rfl (by omega) (by omega)
                refine lv_istore (lv' := [(6, .int x25), (10, .int x21), (9, .int x12), (8, .int x9), (7, .int w1_7), (0, .ref (o + 110)), (1, .ref (o + 1)), (2, .int a2), (3, .int a3), (4, .int a4), (5, .int a5)]) hx hb dX8_leavesOne_97 hl (by decide) rfl (fun ls hl => ?_)
                obtain ⟨x26, e26⟩ : ∃ t : Int32, t = w1_7 + 1 := ⟨_, rfl⟩
                refine lv_iinc (v := x26) (lv' := [(7, .int x26), (6, .int x25), (10, .int x21), (9, .int x12), (8, .int x9), (0, .ref (o + 110)), (1, .ref (o + 1)), (2, .int a2), (3, .int a3), (4, .int a4), (5, .int a5)]) hx hb dX8_leavesOne_99 hl (k := 4) rfl (by rw [e26]; rfl) (by decide) rfl (fun ls hl => ?_)
                have t26 : x26.toInt = w1_7.toInt + (1 : Int) := ga_add e26 rfl rfl (by omega) (by omega)
                refine lv_goto (tgt := 6) hx hb dX8_leavesOne_102 (by decide) ?_
                exact ih1 x26 x25 (show (2000 - x26.toInt : Int) < (n1 : Int) from by omega) ⟨by omega, by omega⟩ ⟨by omega, by omega⟩ _ _ hP hS _ (lv_sub hl [0, 1, 5, 6, 7, 8, 9, 10] rfl)
          · have t13 : a2.toInt = (0 : Int) := gl_eq c13
            refine lv_iload hx hb dX8_leavesOne_57 (lv_at hl 9 rfl) ?_
            refine lv_goto (tgt := 80) hx hb dX8_leavesOne_59 (by decide) ?_
            refine lv_istore (lv' := [(10, .int a5), (9, .int x12), (8, .int x9), (7, .int w1_7), (6, .int w1_6), (0, .ref (o + 110)), (1, .ref (o + 1)), (2, .int a2), (3, .int a3), (4, .int a4), (5, .int a5)]) hx hb dX8_leavesOne_80 hl (by decide) rfl (fun ls hl => ?_)
            refine lv_iload hx hb dX8_leavesOne_82 (lv_at hl 4 rfl) ?_
            refine lv_iload hx hb dX8_leavesOne_84 (lv_at hl 2 rfl) ?_
            refine lv_iload hx hb dX8_leavesOne_86 (lv_at hl 0 rfl) ?_
            refine lv_icmp_ne (tgt := 95) hx hb dX8_leavesOne_88 (by decide) (fun c27 => ?_) (fun c27 => ?_)
            · have t27 : x9.toInt ≠ a5.toInt := gl_ne c27
              refine lv_iconst (v := 0) hx hb dX8_leavesOne_95 (by decide) ?_
              refine lv_iadd hx hb dX8_leavesOne_96 ?_
              refine lv_topi (fun x28 e28 => ?_)
              have t28 : x28.toInt = w1_6.toInt + (0 : Int) := ga_add e28 rfl rfl (by omega) (by omega)
              refine lv_istore (lv' := [(6, .int x28), (10, .int a5), (9, .int x12), (8, .int x9), (7, .int w1_7), (0, .ref (o + 110)), (1, .ref (o + 1)), (2, .int a2), (3, .int a3), (4, .int a4), (5, .int a5)]) hx hb dX8_leavesOne_97 hl (by decide) rfl (fun ls hl => ?_)
              obtain ⟨x29, e29⟩ : ∃ t : Int32, t = w1_7 + 1 := ⟨_, rfl⟩
              refine lv_iinc (v := x29) (lv' := [(7, .int x29), (6, .int x28), (10, .int a5), (9, .int x12), (8, .int x9), (0, .ref (o + 110)), (1, .ref (o + 1)), (2, .int a2), (3, .int a3), (4, .int a4), (5, .int a5)]) hx hb dX8_leavesOne_99 hl (k := 4) rfl (by rw [e29]; rfl) (by decide) rfl (fun ls hl => ?_)
              have t29 : x29.toInt = w1_7.toInt + (1 : Int) := ga_add e29 rfl rfl (by omega) (by omega)
              refine lv_goto (tgt := 6) hx hb dX8_leavesOne_102 (by decide) ?_
              exact ih1 x29 x28 (show (2000 - x29.toInt : Int) < (n1 : Int) from by omega) ⟨by omega, by omega⟩ ⟨by omega, by omega⟩ _ _ hP hS _ (lv_sub hl [0, 1, 5, 6, 7, 8, 9, 10] rfl)
            · have t27 : x9.toInt = a5.toInt := gl_eq c27
              refine lv_iconst (v := 1) hx hb dX8_leavesOne_91 (by decide) ?_
              refine lv_goto (tgt := 96) hx hb dX8_leavesOne_92 (by decide) ?_
              refine lv_iadd hx hb dX8_leavesOne_96 ?_
              refine lv_topi (fun x30 e30 => ?_)
              have t30 : x30.toInt = w1_6.toInt + (1 : Int) := ga_add e30 rfl rfl (by omega) (by omega)
              refine lv_istore (lv' := [(6, .int x30), (10, .int a5), (9, .int x12), (8, .int x9), (7, .int w1_7), (0, .ref (o + 110)), (1, .ref (o + 1)), (2, .int a2), (3, .int a3), (4, .int a4), (5, .int a5)]) hx hb dX8_leavesOne_97 hl (by decide) rfl (fun ls hl => ?_)
              obtain ⟨x31, e31⟩ : ∃ t : Int32, t = w1_7 + 1 := ⟨_, rfl⟩
              refine lv_iinc (v := x31) (lv' := [(7, .int x31), (6, .int x30), (10, .int a5), (9, .int x12), (8, .int x9), (0, .ref (o + 110)), (1, .ref (o + 1)), (2, .int a2), (3, .int a3), (4, .int a4), (5, .int a5)]) hx hb dX8_leavesOne_99 hl (k := 4) rfl (by rw [e31]; rfl) (by decide) rfl (fun ls hl => ?_)
              have t31 : x31.toInt = w1_7.toInt + (1 : Int) := ga_add e31 rfl rfl (by omega) (by omega)
              refine lv_goto (tgt := 6) hx hb dX8_leavesOne_102 (by decide) ?_
              exact ih1 x31 x30 (show (2000 - x31.toInt : Int) < (n1 : Int) from by omega) ⟨by omega, by omega⟩ ⟨by omega, by omega⟩ _ _ hP hS _ (lv_sub hl [0, 1, 5, 6, 7, 8, 9, 10] rfl)
  exact loop1 2001 0 0 (show (2000 - (0 : Int) : Int) < ((2001 : Nat) : Int) from by omega) ⟨by decide, by decide⟩ ⟨by decide, by decide⟩ _ _ hP hS _ (lv_sub hl [0, 1, 2, 3, 4, 5, 6, 7] rfl)
set_option maxRecDepth 100000 in
set_option maxHeartbeats 8000000 in
theorem u_Shortest_offer (l : Launch) (D : va_G) (ca : Nat → ClassId) (o : Nat) (b z : Nat → Nat → Int32) (y : Nat → Nat → Int64) (J0 : qJU b z) (a2 : Int32) (a3 : Int32) (a4 : Int32) (a5 : Int32) (ha3 : (0 : Int) ≤ a3.toInt ∧ a3.toInt ≤ 5) (ha4 : (0 : Int) ≤ a4.toInt ∧ a4.toInt ≤ 5) : qM l yX8_offer cX8_offer 9 none 4 112 (qPre D vwCl (qT6 ca) o 132 (qG (GU ca o) z y) [.ref (o + 114), .ref (o + 110), .ref (o + 1), .int a2, .int a3, .int a4, .int a5]) (va_Qv (fun u => qJU b u.1) (qB D vwCl (qT6 ca) o 132 (fun u : qZ => qG (GU ca o) u.1 u.2)) (qw_A o 132)) (qw_A o 132) := by
  refine Met.ofW (cc := cX8_offer) (maxL := 9) (ret := none) (by decide) rfl ?_
  intro p e s m args below meth c s₁ B hml hv
  obtain ⟨rfl, hP, hK⟩ := hv
  have hx := B.exec
  have hb := B.bytes
  have hr := B.returns
  have hts0 := atoms_spec (ws := Cond.code yX8_offer cX8_offer 9 none :: qtbl) B.pre
  have hts : ∀ w ∈ qtbl, w.before _ s = true := fun w h => hts0 w (List.mem_cons_of_mem _ h)
  have hown : s.vm.findClass RX8 = some m.cls := findClass_of_methodNamed B.named
  have hlocks := B.notSynchronized
  have hS : va_S (qw_A o 132) s.heap s.heap [] := va_S.rf
  have hl := lv_entry ([.ref (o + 114), .ref (o + 110), .ref (o + 1), .int a2, .int a3, .int a4, .int a5]) (n := 9) (Nat.le_of_ble_eq_true rfl)
  rw [lg_entry_eq]
  generalize (lg_sl ([.ref (o + 114), .ref (o + 110), .ref (o + 1), .int a2, .int a3, .int a4, .int a5]) ++ List.replicate (9 - (lg_sl ([.ref (o + 114), .ref (o + 110), .ref (o + 1), .int a2, .int a3, .int a4, .int a5])).length) Slot.unset).toArray = ls at hl ⊢
  have hl : lv_has ls 9 [(0, .ref (o + 114)), (1, .ref (o + 110)), (2, .ref (o + 1)), (3, .int a2), (4, .int a3), (5, .int a4), (6, .int a5)] := hl
  refine lv_iload hx hb dX8_offer_0 (lv_at hl 6 rfl) ?_
  refine lv_bipush (v := 99) hx hb dX8_offer_2 (by decide) ?_
  refine lv_icmp_le (tgt := 11) hx hb dX8_offer_4 (by decide) (fun c1 => ?_) (fun c1 => ?_)
  · have t1 : a5.toInt ≤ (99 : Int) := gl_le c1
    refine lv_iload hx hb dX8_offer_11 (lv_at hl 6 rfl) ?_
    refine lv_bipush (v := 9) hx hb dX8_offer_13 (by decide) ?_
    refine lv_icmp_le (tgt := 22) hx hb dX8_offer_15 (by decide) (fun c2 => ?_) (fun c2 => ?_)
    · have t2 : a5.toInt ≤ (9 : Int) := gl_le c2
      refine lv_iconst (v := 1) hx hb dX8_offer_22 (by decide) ?_
      refine lv_istore (lv' := [(7, .int 1), (0, .ref (o + 114)), (1, .ref (o + 110)), (2, .ref (o + 1)), (3, .int a2), (4, .int a3), (5, .int a4), (6, .int a5)]) hx hb dX8_offer_23 hl (by decide) rfl (fun ls hl => ?_)
      refine lv_iload hx hb dX8_offer_25 (lv_at hl 0 rfl) ?_
      refine lv_iload_n hx hb dX8_offer_27 rfl (lv_at hl 4 rfl) ?_
      refine lv_if_ne (tgt := 35) hx hb dX8_offer_28 (by decide) (fun c3 => ?_) (fun c3 => ?_)
      · have t3 : a2.toInt ≠ (0 : Int) := gl_ne c3
        refine lv_iconst (v := 4) hx hb dX8_offer_35 (by decide) ?_
        refine lv_iadd hx hb dX8_offer_36 ?_
        refine qtop (x' := 5) (by decide) ?_
        refine lv_istore (lv' := [(8, .int 5), (7, .int 1), (0, .ref (o + 114)), (1, .ref (o + 110)), (2, .ref (o + 1)), (3, .int a2), (4, .int a3), (5, .int a4), (6, .int a5)]) hx hb dX8_offer_37 hl (by decide) rfl (fun ls hl => ?_)
        refine lv_iload hx hb dX8_offer_39 (lv_at hl 0 rfl) ?_
        refine lv_aload_n hx hb dX8_offer_41 rfl (lv_at hl 2 rfl) ?_
        refine qf_get hx hb hts inX8 hown hK hP (q0 := 114) (by decide) (hgU_114 ca o) rfl 1 (by decide) wq_266 (v := .int (z 114 1)) rfl dX8_offer_42 ?_
        refine lv_topi (fun x4 e4 => ?_)
        refine lv_icmp_ge (tgt := 63) hx hb dX8_offer_45 (by decide) (fun c5 => ?_) (fun c5 => ?_)
        · have t5 : (5 : Int) ≥ x4.toInt := gl_le c5
          exact W.vret hx hb hr (fun t ht hW => ⟨⟨(z, y), rfl, J0, by rw [ht]; exact hP, va_K.moved hW.alike hK⟩, hS.F ht⟩) hS.2.2 dX8_offer_63
        · have t5 : (5 : Int) < x4.toInt := gl_nle c5
          refine lv_aload_n hx hb dX8_offer_48 rfl (lv_at hl 3 rfl) ?_
          refine lv_aload_n hx hb dX8_offer_49 rfl (lv_at hl 4 rfl) ?_
          refine lv_iload_n hx hb dX8_offer_50 rfl (lv_at hl 5 rfl) ?_
          refine lv_iload hx hb dX8_offer_51 (lv_at hl 6 rfl) ?_
          refine lv_iload hx hb dX8_offer_53 (lv_at hl 7 rfl) ?_
          refine lv_iload hx hb dX8_offer_55 (lv_at hl 8 rfl) ?_
          refine qc_Sip (As := [.ref (o + 110), .ref (o + 1), .int a2, .int a3, .int a4, .int a5]) (rest := []) (k0 := 6) (u_Shortest_leavesOne l D ca o b z y J0 a2 a3 a4 a5 ⟨by omega, by omega⟩ ⟨by omega, by omega⟩) kc_yX8_leavesOne ⟨hx, hb, hml, hown, hts⟩ wq_871 rfl rfl ⟨Nat.le_of_ble_eq_true rfl, Nat.le_of_ble_eq_true rfl⟩ wq_all hP hK hS qw_Ai rfl hl.1 rfl (Nat.le_of_ble_eq_true rfl) dX8_offer_57 ⟨Nat.zero_le _, Nat.zero_le _⟩ (fun r6 H locs h6 hP hS _ _ => ?_)
          have b6 : (0 : Int) ≤ r6.toInt ∧ r6.toInt ≤ 1 := h6
          refine lv_if_ne (tgt := 64) hx hb dX8_offer_60 (by decide) (fun c7 => ?_) (fun c7 => ?_)
          · have t7 : r6.toInt ≠ (0 : Int) := gl_ne c7
            refine lv_aload_n hx hb dX8_offer_64 rfl (lv_at hl 2 rfl) ?_
            refine lv_iload hx hb dX8_offer_65 (lv_at hl 0 rfl) ?_
            refine qf_put2 hx hb hts inX8 tyX8 tyX8_ok nmX8 hown hK hP hS qw_Ai (q0 := 114) (by decide) (hgU_114 ca o) rfl 1 (by decide) wq_266 rfl (x := 5) 1 rfl rfl rfl (Nat.le_of_ble_eq_true rfl) dX8_offer_67 (fun z8 H locs hz8 hP hS => ?_)
            have J8 := jU_114_1 J0 hz8
            refine lv_aload_n hx hb dX8_offer_70 rfl (lv_at hl 2 rfl) ?_
            refine lv_iload_n hx hb dX8_offer_71 rfl (lv_at hl 5 rfl) ?_
            refine qf_put2 hx hb hts inX8 tyX8 tyX8_ok nmX8 hown hK hP hS qw_Ai (q0 := 114) (by decide) (hgU_114 ca o) rfl 2 (by decide) wq_268 rfl (x := a2) 2 rfl rfl rfl (Nat.le_of_ble_eq_true rfl) dX8_offer_72 (fun z9 H locs hz9 hP hS => ?_)
            have J9 := jU_114_2 J8 hz9
            refine lv_aload_n hx hb dX8_offer_75 rfl (lv_at hl 2 rfl) ?_
            refine lv_iload hx hb dX8_offer_76 (lv_at hl 6 rfl) ?_
            refine qf_put2 hx hb hts inX8 tyX8 tyX8_ok nmX8 hown hK hP hS qw_Ai (q0 := 114) (by decide) (hgU_114 ca o) rfl 3 (by decide) wq_270 rfl (x := a3) 3 rfl rfl rfl (Nat.le_of_ble_eq_true rfl) dX8_offer_78 (fun z10 H locs hz10 hP hS => ?_)
            have J10 := jU_114_3 J9 hz10
            refine lv_aload_n hx hb dX8_offer_81 rfl (lv_at hl 2 rfl) ?_
            refine lv_iload hx hb dX8_offer_82 (lv_at hl 7 rfl) ?_
            refine qf_put2 hx hb hts inX8 tyX8 tyX8_ok nmX8 hown hK hP hS qw_Ai (q0 := 114) (by decide) (hgU_114 ca o) rfl 4 (by decide) wq_272 rfl (x := a4) 4 rfl rfl rfl (Nat.le_of_ble_eq_true rfl) dX8_offer_84 (fun z11 H locs hz11 hP hS => ?_)
            have J11 := jU_114_4 J10 hz11
            refine lv_aload_n hx hb dX8_offer_87 rfl (lv_at hl 2 rfl) ?_
            refine lv_iload hx hb dX8_offer_88 (lv_at hl 8 rfl) ?_
            refine qf_put2 hx hb hts inX8 tyX8 tyX8_ok nmX8 hown hK hP hS qw_Ai (q0 := 114) (by decide) (hgU_114 ca o) rfl 5 (by decide) wq_274 rfl (x := a5) 5 rfl rfl rfl (Nat.le_of_ble_eq_true rfl) dX8_offer_90 (fun z12 H locs hz12 hP hS => ?_)
            have J12 := jU_114_5 J11 hz12
            exact W.vret hx hb hr (fun t ht hW => ⟨⟨(z12, y), rfl, J12, by rw [ht]; exact hP, va_K.moved hW.alike hK⟩, hS.F ht⟩) hS.2.2 dX8_offer_93
          · have t7 : r6.toInt = (0 : Int) := gl_eq c7
            exact W.vret hx hb hr (fun t ht hW => ⟨⟨(z, y), rfl, J0, by rw [ht]; exact hP, va_K.moved hW.alike hK⟩, hS.F ht⟩) hS.2.2 dX8_offer_63
      · have t3 : a2.toInt = (0 : Int) := gl_eq c3
        refine lv_iconst (v := 2) hx hb dX8_offer_31 (by decide) ?_
        refine lv_goto (tgt := 36) hx hb dX8_offer_32 (by decide) ?_
        refine lv_iadd hx hb dX8_offer_36 ?_
        refine qtop (x' := 3) (by decide) ?_
        refine lv_istore (lv' := [(8, .int 3), (7, .int 1), (0, .ref (o + 114)), (1, .ref (o + 110)), (2, .ref (o + 1)), (3, .int a2), (4, .int a3), (5, .int a4), (6, .int a5)]) hx hb dX8_offer_37 hl (by decide) rfl (fun ls hl => ?_)
        refine lv_iload hx hb dX8_offer_39 (lv_at hl 0 rfl) ?_
        refine lv_aload_n hx hb dX8_offer_41 rfl (lv_at hl 2 rfl) ?_
        refine qf_get hx hb hts inX8 hown hK hP (q0 := 114) (by decide) (hgU_114 ca o) rfl 1 (by decide) wq_266 (v := .int (z 114 1)) rfl dX8_offer_42 ?_
        refine lv_topi (fun x13 e13 => ?_)
        refine lv_icmp_ge (tgt := 63) hx hb dX8_offer_45 (by decide) (fun c14 => ?_) (fun c14 => ?_)
        · have t14 : (3 : Int) ≥ x13.toInt := gl_le c14
          exact W.vret hx hb hr (fun t ht hW => ⟨⟨(z, y), rfl, J0, by rw [ht]; exact hP, va_K.moved hW.alike hK⟩, hS.F ht⟩) hS.2.2 dX8_offer_63
        · have t14 : (3 : Int) < x13.toInt := gl_nle c14
          refine lv_aload_n hx hb dX8_offer_48 rfl (lv_at hl 3 rfl) ?_
          refine lv_aload_n hx hb dX8_offer_49 rfl (lv_at hl 4 rfl) ?_
          refine lv_iload_n hx hb dX8_offer_50 rfl (lv_at hl 5 rfl) ?_
          refine lv_iload hx hb dX8_offer_51 (lv_at hl 6 rfl) ?_
          refine lv_iload hx hb dX8_offer_53 (lv_at hl 7 rfl) ?_
          refine lv_iload hx hb dX8_offer_55 (lv_at hl 8 rfl) ?_
          refine qc_Sip (As := [.ref (o + 110), .ref (o + 1), .int a2, .int a3, .int a4, .int a5]) (rest := []) (k0 := 6) (u_Shortest_leavesOne l D ca o b z y J0 a2 a3 a4 a5 ⟨by omega, by omega⟩ ⟨by omega, by omega⟩) kc_yX8_leavesOne ⟨hx, hb, hml, hown, hts⟩ wq_871 rfl rfl ⟨Nat.le_of_ble_eq_true rfl, Nat.le_of_ble_eq_true rfl⟩ wq_all hP hK hS qw_Ai rfl hl.1 rfl (Nat.le_of_ble_eq_true rfl) dX8_offer_57 ⟨Nat.zero_le _, Nat.zero_le _⟩ (fun r15 H locs h15 hP hS _ _ => ?_)
          have b15 : (0 : Int) ≤ r15.toInt ∧ r15.toInt ≤ 1 := h15
          refine lv_if_ne (tgt := 64) hx hb dX8_offer_60 (by decide) (fun c16 => ?_) (fun c16 => ?_)
          · have t16 : r15.toInt ≠ (0 : Int) := gl_ne c16
            refine lv_aload_n hx hb dX8_offer_64 rfl (lv_at hl 2 rfl) ?_
            refine lv_iload hx hb dX8_offer_65 (lv_at hl 0 rfl) ?_
            refine qf_put2 hx hb hts inX8 tyX8 tyX8_ok nmX8 hown hK hP hS qw_Ai (q0 := 114) (by decide) (hgU_114 ca o) rfl 1 (by decide) wq_266 rfl (x := 3) 1 rfl rfl rfl (Nat.le_of_ble_eq_true rfl) dX8_offer_67 (fun z17 H locs hz17 hP hS => ?_)
            have J17 := jU_114_1 J0 hz17
            refine lv_aload_n hx hb dX8_offer_70 rfl (lv_at hl 2 rfl) ?_
            refine lv_iload_n hx hb dX8_offer_71 rfl (lv_at hl 5 rfl) ?_
            refine qf_put2 hx hb hts inX8 tyX8 tyX8_ok nmX8 hown hK hP hS qw_Ai (q0 := 114) (by decide) (hgU_114 ca o) rfl 2 (by decide) wq_268 rfl (x := a2) 2 rfl rfl rfl (Nat.le_of_ble_eq_true rfl) dX8_offer_72 (fun z18 H locs hz18 hP hS => ?_)
            have J18 := jU_114_2 J17 hz18
            refine lv_aload_n hx hb dX8_offer_75 rfl (lv_at hl 2 rfl) ?_
            refine lv_iload hx hb dX8_offer_76 (lv_at hl 6 rfl) ?_
            refine qf_put2 hx hb hts inX8 tyX8 tyX8_ok nmX8 hown hK hP hS qw_Ai (q0 := 114) (by decide) (hgU_114 ca o) rfl 3 (by decide) wq_270 rfl (x := a3) 3 rfl rfl rfl (Nat.le_of_ble_eq_true rfl) dX8_offer_78 (fun z19 H locs hz19 hP hS => ?_)
            have J19 := jU_114_3 J18 hz19
            refine lv_aload_n hx hb dX8_offer_81 rfl (lv_at hl 2 rfl) ?_
            refine lv_iload hx hb dX8_offer_82 (lv_at hl 7 rfl) ?_
            refine qf_put2 hx hb hts inX8 tyX8 tyX8_ok nmX8 hown hK hP hS qw_Ai (q0 := 114) (by decide) (hgU_114 ca o) rfl 4 (by decide) wq_272 rfl (x := a4) 4 rfl rfl rfl (Nat.le_of_ble_eq_true rfl) dX8_offer_84 (fun z20 H locs hz20 hP hS => ?_)
            have J20 := jU_114_4 J19 hz20
            refine lv_aload_n hx hb dX8_offer_87 rfl (lv_at hl 2 rfl) ?_
            refine lv_iload hx hb dX8_offer_88 (lv_at hl 8 rfl) ?_
            refine qf_put2 hx hb hts inX8 tyX8 tyX8_ok nmX8 hown hK hP hS qw_Ai (q0 := 114) (by decide) (hgU_114 ca o) rfl 5 (by decide) wq_274 rfl (x := a5) 5 rfl rfl rfl (Nat.le_of_ble_eq_true rfl) dX8_offer_90 (fun z21 H locs hz21 hP hS => ?_)
            have J21 := jU_114_5 J20 hz21
            exact W.vret hx hb hr (fun t ht hW => ⟨⟨(z21, y), rfl, J21, by rw [ht]; exact hP, va_K.moved hW.alike hK⟩, hS.F ht⟩) hS.2.2 dX8_offer_93
          · have t16 : r15.toInt = (0 : Int) := gl_eq c16
            exact W.vret hx hb hr (fun t ht hW => ⟨⟨(z, y), rfl, J0, by rw [ht]; exact hP, va_K.moved hW.alike hK⟩, hS.F ht⟩) hS.2.2 dX8_offer_63
    · have t2 : a5.toInt > (9 : Int) := gl_nle c2
      refine lv_iconst (v := 2) hx hb dX8_offer_18 (by decide) ?_
      refine lv_goto (tgt := 23) hx hb dX8_offer_19 (by decide) ?_
      refine lv_istore (lv' := [(7, .int 2), (0, .ref (o + 114)), (1, .ref (o + 110)), (2, .ref (o + 1)), (3, .int a2), (4, .int a3), (5, .int a4), (6, .int a5)]) hx hb dX8_offer_23 hl (by decide) rfl (fun ls hl => ?_)
      refine lv_iload hx hb dX8_offer_25 (lv_at hl 0 rfl) ?_
      refine lv_iload_n hx hb dX8_offer_27 rfl (lv_at hl 4 rfl) ?_
      refine lv_if_ne (tgt := 35) hx hb dX8_offer_28 (by decide) (fun c22 => ?_) (fun c22 => ?_)
      · have t22 : a2.toInt ≠ (0 : Int) := gl_ne c22
        refine lv_iconst (v := 4) hx hb dX8_offer_35 (by decide) ?_
        refine lv_iadd hx hb dX8_offer_36 ?_
        refine qtop (x' := 6) (by decide) ?_
        refine lv_istore (lv' := [(8, .int 6), (7, .int 2), (0, .ref (o + 114)), (1, .ref (o + 110)), (2, .ref (o + 1)), (3, .int a2), (4, .int a3), (5, .int a4), (6, .int a5)]) hx hb dX8_offer_37 hl (by decide) rfl (fun ls hl => ?_)
        refine lv_iload hx hb dX8_offer_39 (lv_at hl 0 rfl) ?_
        refine lv_aload_n hx hb dX8_offer_41 rfl (lv_at hl 2 rfl) ?_
        refine qf_get hx hb hts inX8 hown hK hP (q0 := 114) (by decide) (hgU_114 ca o) rfl 1 (by decide) wq_266 (v := .int (z 114 1)) rfl dX8_offer_42 ?_
        refine lv_topi (fun x23 e23 => ?_)
        refine lv_icmp_ge (tgt := 63) hx hb dX8_offer_45 (by decide) (fun c24 => ?_) (fun c24 => ?_)
        · have t24 : (6 : Int) ≥ x23.toInt := gl_le c24
          exact W.vret hx hb hr (fun t ht hW => ⟨⟨(z, y), rfl, J0, by rw [ht]; exact hP, va_K.moved hW.alike hK⟩, hS.F ht⟩) hS.2.2 dX8_offer_63
        · have t24 : (6 : Int) < x23.toInt := gl_nle c24
          refine lv_aload_n hx hb dX8_offer_48 rfl (lv_at hl 3 rfl) ?_
          refine lv_aload_n hx hb dX8_offer_49 rfl (lv_at hl 4 rfl) ?_
          refine lv_iload_n hx hb dX8_offer_50 rfl (lv_at hl 5 rfl) ?_
          refine lv_iload hx hb dX8_offer_51 (lv_at hl 6 rfl) ?_
          refine lv_iload hx hb dX8_offer_53 (lv_at hl 7 rfl) ?_
          refine lv_iload hx hb dX8_offer_55 (lv_at hl 8 rfl) ?_
          refine qc_Sip (As := [.ref (o + 110), .ref (o + 1), .int a2, .int a3, .int a4, .int a5]) (rest := []) (k0 := 6) (u_Shortest_leavesOne l D ca o b z y J0 a2 a3 a4 a5 ⟨by omega, by omega⟩ ⟨by omega, by omega⟩) kc_yX8_leavesOne ⟨hx, hb, hml, hown, hts⟩ wq_871 rfl rfl ⟨Nat.le_of_ble_eq_true rfl, Nat.le_of_ble_eq_true rfl⟩ wq_all hP hK hS qw_Ai rfl hl.1 rfl (Nat.le_of_ble_eq_true rfl) dX8_offer_57 ⟨Nat.zero_le _, Nat.zero_le _⟩ (fun r25 H locs h25 hP hS _ _ => ?_)
          have b25 : (0 : Int) ≤ r25.toInt ∧ r25.toInt ≤ 1 := h25
          refine lv_if_ne (tgt := 64) hx hb dX8_offer_60 (by decide) (fun c26 => ?_) (fun c26 => ?_)
          · have t26 : r25.toInt ≠ (0 : Int) := gl_ne c26
            refine lv_aload_n hx hb dX8_offer_64 rfl (lv_at hl 2 rfl) ?_
            refine lv_iload hx hb dX8_offer_65 (lv_at hl 0 rfl) ?_
            refine qf_put2 hx hb hts inX8 tyX8 tyX8_ok nmX8 hown hK hP hS qw_Ai (q0 := 114) (by decide) (hgU_114 ca o) rfl 1 (by decide) wq_266 rfl (x := 6) 1 rfl rfl rfl (Nat.le_of_ble_eq_true rfl) dX8_offer_67 (fun z27 H locs hz27 hP hS => ?_)
            have J27 := jU_114_1 J0 hz27
            refine lv_aload_n hx hb dX8_offer_70 rfl (lv_at hl 2 rfl) ?_
            refine lv_iload_n hx hb dX8_offer_71 rfl (lv_at hl 5 rfl) ?_
            refine qf_put2 hx hb hts inX8 tyX8 tyX8_ok nmX8 hown hK hP hS qw_Ai (q0 := 114) (by decide) (hgU_114 ca o) rfl 2 (by decide) wq_268 rfl (x := a2) 2 rfl rfl rfl (Nat.le_of_ble_eq_true rfl) dX8_offer_72 (fun z28 H locs hz28 hP hS => ?_)
            have J28 := jU_114_2 J27 hz28
            refine lv_aload_n hx hb dX8_offer_75 rfl (lv_at hl 2 rfl) ?_
            refine lv_iload hx hb dX8_offer_76 (lv_at hl 6 rfl) ?_
            refine qf_put2 hx hb hts inX8 tyX8 tyX8_ok nmX8 hown hK hP hS qw_Ai (q0 := 114) (by decide) (hgU_114 ca o) rfl 3 (by decide) wq_270 rfl (x := a3) 3 rfl rfl rfl (Nat.le_of_ble_eq_true rfl) dX8_offer_78 (fun z29 H locs hz29 hP hS => ?_)
            have J29 := jU_114_3 J28 hz29
            refine lv_aload_n hx hb dX8_offer_81 rfl (lv_at hl 2 rfl) ?_
            refine lv_iload hx hb dX8_offer_82 (lv_at hl 7 rfl) ?_
            refine qf_put2 hx hb hts inX8 tyX8 tyX8_ok nmX8 hown hK hP hS qw_Ai (q0 := 114) (by decide) (hgU_114 ca o) rfl 4 (by decide) wq_272 rfl (x := a4) 4 rfl rfl rfl (Nat.le_of_ble_eq_true rfl) dX8_offer_84 (fun z30 H locs hz30 hP hS => ?_)
            have J30 := jU_114_4 J29 hz30
            refine lv_aload_n hx hb dX8_offer_87 rfl (lv_at hl 2 rfl) ?_
            refine lv_iload hx hb dX8_offer_88 (lv_at hl 8 rfl) ?_
            refine qf_put2 hx hb hts inX8 tyX8 tyX8_ok nmX8 hown hK hP hS qw_Ai (q0 := 114) (by decide) (hgU_114 ca o) rfl 5 (by decide) wq_274 rfl (x := a5) 5 rfl rfl rfl (Nat.le_of_ble_eq_true rfl) dX8_offer_90 (fun z31 H locs hz31 hP hS => ?_)
            have J31 := jU_114_5 J30 hz31
            exact W.vret hx hb hr (fun t ht hW => ⟨⟨(z31, y), rfl, J31, by rw [ht]; exact hP, va_K.moved hW.alike hK⟩, hS.F ht⟩) hS.2.2 dX8_offer_93
          · have t26 : r25.toInt = (0 : Int) := gl_eq c26
            exact W.vret hx hb hr (fun t ht hW => ⟨⟨(z, y), rfl, J0, by rw [ht]; exact hP, va_K.moved hW.alike hK⟩, hS.F ht⟩) hS.2.2 dX8_offer_63
      · have t22 : a2.toInt = (0 : Int) := gl_eq c22
        refine lv_iconst (v := 2) hx hb dX8_offer_31 (by decide) ?_
        refine lv_goto (tgt := 36) hx hb dX8_offer_32 (by decide) ?_
        refine lv_iadd hx hb dX8_offer_36 ?_
        refine qtop (x' := 4) (by decide) ?_
        refine lv_istore (lv' := [(8, .int 4), (7, .int 2), (0, .ref (o + 114)), (1, .ref (o + 110)), (2, .ref (o + 1)), (3, .int a2), (4, .int a3), (5, .int a4), (6, .int a5)]) hx hb dX8_offer_37 hl (by decide) rfl (fun ls hl => ?_)
        refine lv_iload hx hb dX8_offer_39 (lv_at hl 0 rfl) ?_
        refine lv_aload_n hx hb dX8_offer_41 rfl (lv_at hl 2 rfl) ?_
        refine qf_get hx hb hts inX8 hown hK hP (q0 := 114) (by decide) (hgU_114 ca o) rfl 1 (by decide) wq_266 (v := .int (z 114 1)) rfl dX8_offer_42 ?_
        refine lv_topi (fun x32 e32 => ?_)
        refine lv_icmp_ge (tgt := 63) hx hb dX8_offer_45 (by decide) (fun c33 => ?_) (fun c33 => ?_)
        · have t33 : (4 : Int) ≥ x32.toInt := gl_le c33
          exact W.vret hx hb hr (fun t ht hW => ⟨⟨(z, y), rfl, J0, by rw [ht]; exact hP, va_K.moved hW.alike hK⟩, hS.F ht⟩) hS.2.2 dX8_offer_63
        · have t33 : (4 : Int) < x32.toInt := gl_nle c33
          refine lv_aload_n hx hb dX8_offer_48 rfl (lv_at hl 3 rfl) ?_
          refine lv_aload_n hx hb dX8_offer_49 rfl (lv_at hl 4 rfl) ?_
          refine lv_iload_n hx hb dX8_offer_50 rfl (lv_at hl 5 rfl) ?_
          refine lv_iload hx hb dX8_offer_51 (lv_at hl 6 rfl) ?_
          refine lv_iload hx hb dX8_offer_53 (lv_at hl 7 rfl) ?_
          refine lv_iload hx hb dX8_offer_55 (lv_at hl 8 rfl) ?_
          refine qc_Sip (As := [.ref (o + 110), .ref (o + 1), .int a2, .int a3, .int a4, .int a5]) (rest := []) (k0 := 6) (u_Shortest_leavesOne l D ca o b z y J0 a2 a3 a4 a5 ⟨by omega, by omega⟩ ⟨by omega, by omega⟩) kc_yX8_leavesOne ⟨hx, hb, hml, hown, hts⟩ wq_871 rfl rfl ⟨Nat.le_of_ble_eq_true rfl, Nat.le_of_ble_eq_true rfl⟩ wq_all hP hK hS qw_Ai rfl hl.1 rfl (Nat.le_of_ble_eq_true rfl) dX8_offer_57 ⟨Nat.zero_le _, Nat.zero_le _⟩ (fun r34 H locs h34 hP hS _ _ => ?_)
          have b34 : (0 : Int) ≤ r34.toInt ∧ r34.toInt ≤ 1 := h34
          refine lv_if_ne (tgt := 64) hx hb dX8_offer_60 (by decide) (fun c35 => ?_) (fun c35 => ?_)
          · have t35 : r34.toInt ≠ (0 : Int) := gl_ne c35
            refine lv_aload_n hx hb dX8_offer_64 rfl (lv_at hl 2 rfl) ?_
            refine lv_iload hx hb dX8_offer_65 (lv_at hl 0 rfl) ?_
            refine qf_put2 hx hb hts inX8 tyX8 tyX8_ok nmX8 hown hK hP hS qw_Ai (q0 := 114) (by decide) (hgU_114 ca o) rfl 1 (by decide) wq_266 rfl (x := 4) 1 rfl rfl rfl (Nat.le_of_ble_eq_true rfl) dX8_offer_67 (fun z36 H locs hz36 hP hS => ?_)
            have J36 := jU_114_1 J0 hz36
            refine lv_aload_n hx hb dX8_offer_70 rfl (lv_at hl 2 rfl) ?_
            refine lv_iload_n hx hb dX8_offer_71 rfl (lv_at hl 5 rfl) ?_
            refine qf_put2 hx hb hts inX8 tyX8 tyX8_ok nmX8 hown hK hP hS qw_Ai (q0 := 114) (by decide) (hgU_114 ca o) rfl 2 (by decide) wq_268 rfl (x := a2) 2 rfl rfl rfl (Nat.le_of_ble_eq_true rfl) dX8_offer_72 (fun z37 H locs hz37 hP hS => ?_)
            have J37 := jU_114_2 J36 hz37
            refine lv_aload_n hx hb dX8_offer_75 rfl (lv_at hl 2 rfl) ?_
            refine lv_iload hx hb dX8_offer_76 (lv_at hl 6 rfl) ?_
            refine qf_put2 hx hb hts inX8 tyX8 tyX8_ok nmX8 hown hK hP hS qw_Ai (q0 := 114) (by decide) (hgU_114 ca o) rfl 3 (by decide) wq_270 rfl (x := a3) 3 rfl rfl rfl (Nat.le_of_ble_eq_true rfl) dX8_offer_78 (fun z38 H locs hz38 hP hS => ?_)
            have J38 := jU_114_3 J37 hz38
            refine lv_aload_n hx hb dX8_offer_81 rfl (lv_at hl 2 rfl) ?_
            refine lv_iload hx hb dX8_offer_82 (lv_at hl 7 rfl) ?_
            refine qf_put2 hx hb hts inX8 tyX8 tyX8_ok nmX8 hown hK hP hS qw_Ai (q0 := 114) (by decide) (hgU_114 ca o) rfl 4 (by decide) wq_272 rfl (x := a4) 4 rfl rfl rfl (Nat.le_of_ble_eq_true rfl) dX8_offer_84 (fun z39 H locs hz39 hP hS => ?_)
            have J39 := jU_114_4 J38 hz39
            refine lv_aload_n hx hb dX8_offer_87 rfl (lv_at hl 2 rfl) ?_
            refine lv_iload hx hb dX8_offer_88 (lv_at hl 8 rfl) ?_
            refine qf_put2 hx hb hts inX8 tyX8 tyX8_ok nmX8 hown hK hP hS qw_Ai (q0 := 114) (by decide) (hgU_114 ca o) rfl 5 (by decide) wq_274 rfl (x := a5) 5 rfl rfl rfl (Nat.le_of_ble_eq_true rfl) dX8_offer_90 (fun z40 H locs hz40 hP hS => ?_)
            have J40 := jU_114_5 J39 hz40
            exact W.vret hx hb hr (fun t ht hW => ⟨⟨(z40, y), rfl, J40, by rw [ht]; exact hP, va_K.moved hW.alike hK⟩, hS.F ht⟩) hS.2.2 dX8_offer_93
          · have t35 : r34.toInt = (0 : Int) := gl_eq c35
            exact W.vret hx hb hr (fun t ht hW => ⟨⟨(z, y), rfl, J0, by rw [ht]; exact hP, va_K.moved hW.alike hK⟩, hS.F ht⟩) hS.2.2 dX8_offer_63
  · have t1 : a5.toInt > (99 : Int) := gl_nle c1
    refine lv_iconst (v := 3) hx hb dX8_offer_7 (by decide) ?_
    refine lv_goto (tgt := 23) hx hb dX8_offer_8 (by decide) ?_
    refine lv_istore (lv' := [(7, .int 3), (0, .ref (o + 114)), (1, .ref (o + 110)), (2, .ref (o + 1)), (3, .int a2), (4, .int a3), (5, .int a4), (6, .int a5)]) hx hb dX8_offer_23 hl (by decide) rfl (fun ls hl => ?_)
    refine lv_iload hx hb dX8_offer_25 (lv_at hl 0 rfl) ?_
    refine lv_iload_n hx hb dX8_offer_27 rfl (lv_at hl 4 rfl) ?_
    refine lv_if_ne (tgt := 35) hx hb dX8_offer_28 (by decide) (fun c41 => ?_) (fun c41 => ?_)
    · have t41 : a2.toInt ≠ (0 : Int) := gl_ne c41
      refine lv_iconst (v := 4) hx hb dX8_offer_35 (by decide) ?_
      refine lv_iadd hx hb dX8_offer_36 ?_
      refine qtop (x' := 7) (by decide) ?_
      refine lv_istore (lv' := [(8, .int 7), (7, .int 3), (0, .ref (o + 114)), (1, .ref (o + 110)), (2, .ref (o + 1)), (3, .int a2), (4, .int a3), (5, .int a4), (6, .int a5)]) hx hb dX8_offer_37 hl (by decide) rfl (fun ls hl => ?_)
      refine lv_iload hx hb dX8_offer_39 (lv_at hl 0 rfl) ?_
      refine lv_aload_n hx hb dX8_offer_41 rfl (lv_at hl 2 rfl) ?_
      refine qf_get hx hb hts inX8 hown hK hP (q0 := 114) (by decide) (hgU_114 ca o) rfl 1 (by decide) wq_266 (v := .int (z 114 1)) rfl dX8_offer_42 ?_
      refine lv_topi (fun x42 e42 => ?_)
      refine lv_icmp_ge (tgt := 63) hx hb dX8_offer_45 (by decide) (fun c43 => ?_) (fun c43 => ?_)
      · have t43 : (7 : Int) ≥ x42.toInt := gl_le c43
        exact W.vret hx hb hr (fun t ht hW => ⟨⟨(z, y), rfl, J0, by rw [ht]; exact hP, va_K.moved hW.alike hK⟩, hS.F ht⟩) hS.2.2 dX8_offer_63
      · have t43 : (7 : Int) < x42.toInt := gl_nle c43
        refine lv_aload_n hx hb dX8_offer_48 rfl (lv_at hl 3 rfl) ?_
        refine lv_aload_n hx hb dX8_offer_49 rfl (lv_at hl 4 rfl) ?_
        refine lv_iload_n hx hb dX8_offer_50 rfl (lv_at hl 5 rfl) ?_
        refine lv_iload hx hb dX8_offer_51 (lv_at hl 6 rfl) ?_
        refine lv_iload hx hb dX8_offer_53 (lv_at hl 7 rfl) ?_
        refine lv_iload hx hb dX8_offer_55 (lv_at hl 8 rfl) ?_
        refine qc_Sip (As := [.ref (o + 110), .ref (o + 1), .int a2, .int a3, .int a4, .int a5]) (rest := []) (k0 := 6) (u_Shortest_leavesOne l D ca o b z y J0 a2 a3 a4 a5 ⟨by omega, by omega⟩ ⟨by omega, by omega⟩) kc_yX8_leavesOne ⟨hx, hb, hml, hown, hts⟩ wq_871 rfl rfl ⟨Nat.le_of_ble_eq_true rfl, Nat.le_of_ble_eq_true rfl⟩ wq_all hP hK hS qw_Ai rfl hl.1 rfl (Nat.le_of_ble_eq_true rfl) dX8_offer_57 ⟨Nat.zero_le _, Nat.zero_le _⟩ (fun r44 H locs h44 hP hS _ _ => ?_)
        have b44 : (0 : Int) ≤ r44.toInt ∧ r44.toInt ≤ 1 := h44
        refine lv_if_ne (tgt := 64) hx hb dX8_offer_60 (by decide) (fun c45 => ?_) (fun c45 => ?_)
        · have t45 : r44.toInt ≠ (0 : Int) := gl_ne c45
          refine lv_aload_n hx hb dX8_offer_64 rfl (lv_at hl 2 rfl) ?_
          refine lv_iload hx hb dX8_offer_65 (lv_at hl 0 rfl) ?_
          refine qf_put2 hx hb hts inX8 tyX8 tyX8_ok nmX8 hown hK hP hS qw_Ai (q0 := 114) (by decide) (hgU_114 ca o) rfl 1 (by decide) wq_266 rfl (x := 7) 1 rfl rfl rfl (Nat.le_of_ble_eq_true rfl) dX8_offer_67 (fun z46 H locs hz46 hP hS => ?_)
          have J46 := jU_114_1 J0 hz46
          refine lv_aload_n hx hb dX8_offer_70 rfl (lv_at hl 2 rfl) ?_
          refine lv_iload_n hx hb dX8_offer_71 rfl (lv_at hl 5 rfl) ?_
          refine qf_put2 hx hb hts inX8 tyX8 tyX8_ok nmX8 hown hK hP hS qw_Ai (q0 := 114) (by decide) (hgU_114 ca o) rfl 2 (by decide) wq_268 rfl (x := a2) 2 rfl rfl rfl (Nat.le_of_ble_eq_true rfl) dX8_offer_72 (fun z47 H locs hz47 hP hS => ?_)
          have J47 := jU_114_2 J46 hz47
          refine lv_aload_n hx hb dX8_offer_75 rfl (lv_at hl 2 rfl) ?_
          refine lv_iload hx hb dX8_offer_76 (lv_at hl 6 rfl) ?_
          refine qf_put2 hx hb hts inX8 tyX8 tyX8_ok nmX8 hown hK hP hS qw_Ai (q0 := 114) (by decide) (hgU_114 ca o) rfl 3 (by decide) wq_270 rfl (x := a3) 3 rfl rfl rfl (Nat.le_of_ble_eq_true rfl) dX8_offer_78 (fun z48 H locs hz48 hP hS => ?_)
          have J48 := jU_114_3 J47 hz48
          refine lv_aload_n hx hb dX8_offer_81 rfl (lv_at hl 2 rfl) ?_
          refine lv_iload hx hb dX8_offer_82 (lv_at hl 7 rfl) ?_
          refine qf_put2 hx hb hts inX8 tyX8 tyX8_ok nmX8 hown hK hP hS qw_Ai (q0 := 114) (by decide) (hgU_114 ca o) rfl 4 (by decide) wq_272 rfl (x := a4) 4 rfl rfl rfl (Nat.le_of_ble_eq_true rfl) dX8_offer_84 (fun z49 H locs hz49 hP hS => ?_)
          have J49 := jU_114_4 J48 hz49
          refine lv_aload_n hx hb dX8_offer_87 rfl (lv_at hl 2 rfl) ?_
          refine lv_iload hx hb dX8_offer_88 (lv_at hl 8 rfl) ?_
          refine qf_put2 hx hb hts inX8 tyX8 tyX8_ok nmX8 hown hK hP hS qw_Ai (q0 := 114) (by decide) (hgU_114 ca o) rfl 5 (by decide) wq_274 rfl (x := a5) 5 rfl rfl rfl (Nat.le_of_ble_eq_true rfl) dX8_offer_90 (fun z50 H locs hz50 hP hS => ?_)
          have J50 := jU_114_5 J49 hz50
          exact W.vret hx hb hr (fun t ht hW => ⟨⟨(z50, y), rfl, J50, by rw [ht]; exact hP, va_K.moved hW.alike hK⟩, hS.F ht⟩) hS.2.2 dX8_offer_93
        · have t45 : r44.toInt = (0 : Int) := gl_eq c45
          exact W.vret hx hb hr (fun t ht hW => ⟨⟨(z, y), rfl, J0, by rw [ht]; exact hP, va_K.moved hW.alike hK⟩, hS.F ht⟩) hS.2.2 dX8_offer_63
    · have t41 : a2.toInt = (0 : Int) := gl_eq c41
      refine lv_iconst (v := 2) hx hb dX8_offer_31 (by decide) ?_
      refine lv_goto (tgt := 36) hx hb dX8_offer_32 (by decide) ?_
      refine lv_iadd hx hb dX8_offer_36 ?_
      refine qtop (x' := 5) (by decide) ?_
      refine lv_istore (lv' := [(8, .int 5), (7, .int 3), (0, .ref (o + 114)), (1, .ref (o + 110)), (2, .ref (o + 1)), (3, .int a2), (4, .int a3), (5, .int a4), (6, .int a5)]) hx hb dX8_offer_37 hl (by decide) rfl (fun ls hl => ?_)
      refine lv_iload hx hb dX8_offer_39 (lv_at hl 0 rfl) ?_
      refine lv_aload_n hx hb dX8_offer_41 rfl (lv_at hl 2 rfl) ?_
      refine qf_get hx hb hts inX8 hown hK hP (q0 := 114) (by decide) (hgU_114 ca o) rfl 1 (by decide) wq_266 (v := .int (z 114 1)) rfl dX8_offer_42 ?_
      refine lv_topi (fun x51 e51 => ?_)
      refine lv_icmp_ge (tgt := 63) hx hb dX8_offer_45 (by decide) (fun c52 => ?_) (fun c52 => ?_)
      · have t52 : (5 : Int) ≥ x51.toInt := gl_le c52
        exact W.vret hx hb hr (fun t ht hW => ⟨⟨(z, y), rfl, J0, by rw [ht]; exact hP, va_K.moved hW.alike hK⟩, hS.F ht⟩) hS.2.2 dX8_offer_63
      · have t52 : (5 : Int) < x51.toInt := gl_nle c52
        refine lv_aload_n hx hb dX8_offer_48 rfl (lv_at hl 3 rfl) ?_
        refine lv_aload_n hx hb dX8_offer_49 rfl (lv_at hl 4 rfl) ?_
        refine lv_iload_n hx hb dX8_offer_50 rfl (lv_at hl 5 rfl) ?_
        refine lv_iload hx hb dX8_offer_51 (lv_at hl 6 rfl) ?_
        refine lv_iload hx hb dX8_offer_53 (lv_at hl 7 rfl) ?_
        refine lv_iload hx hb dX8_offer_55 (lv_at hl 8 rfl) ?_
        refine qc_Sip (As := [.ref (o + 110), .ref (o + 1), .int a2, .int a3, .int a4, .int a5]) (rest := []) (k0 := 6) (u_Shortest_leavesOne l D ca o b z y J0 a2 a3 a4 a5 ⟨by omega, by omega⟩ ⟨by omega, by omega⟩) kc_yX8_leavesOne ⟨hx, hb, hml, hown, hts⟩ wq_871 rfl rfl ⟨Nat.le_of_ble_eq_true rfl, Nat.le_of_ble_eq_true rfl⟩ wq_all hP hK hS qw_Ai rfl hl.1 rfl (Nat.le_of_ble_eq_true rfl) dX8_offer_57 ⟨Nat.zero_le _, Nat.zero_le _⟩ (fun r53 H locs h53 hP hS _ _ => ?_)
        have b53 : (0 : Int) ≤ r53.toInt ∧ r53.toInt ≤ 1 := h53
        refine lv_if_ne (tgt := 64) hx hb dX8_offer_60 (by decide) (fun c54 => ?_) (fun c54 => ?_)
        · have t54 : r53.toInt ≠ (0 : Int) := gl_ne c54
          refine lv_aload_n hx hb dX8_offer_64 rfl (lv_at hl 2 rfl) ?_
          refine lv_iload hx hb dX8_offer_65 (lv_at hl 0 rfl) ?_
          refine qf_put2 hx hb hts inX8 tyX8 tyX8_ok nmX8 hown hK hP hS qw_Ai (q0 := 114) (by decide) (hgU_114 ca o) rfl 1 (by decide) wq_266 rfl (x := 5) 1 rfl rfl rfl (Nat.le_of_ble_eq_true rfl) dX8_offer_67 (fun z55 H locs hz55 hP hS => ?_)
          have J55 := jU_114_1 J0 hz55
          refine lv_aload_n hx hb dX8_offer_70 rfl (lv_at hl 2 rfl) ?_
          refine lv_iload_n hx hb dX8_offer_71 rfl (lv_at hl 5 rfl) ?_
          refine qf_put2 hx hb hts inX8 tyX8 tyX8_ok nmX8 hown hK hP hS qw_Ai (q0 := 114) (by decide) (hgU_114 ca o) rfl 2 (by decide) wq_268 rfl (x := a2) 2 rfl rfl rfl (Nat.le_of_ble_eq_true rfl) dX8_offer_72 (fun z56 H locs hz56 hP hS => ?_)
          have J56 := jU_114_2 J55 hz56
          refine lv_aload_n hx hb dX8_offer_75 rfl (lv_at hl 2 rfl) ?_
          refine lv_iload hx hb dX8_offer_76 (lv_at hl 6 rfl) ?_
          refine qf_put2 hx hb hts inX8 tyX8 tyX8_ok nmX8 hown hK hP hS qw_Ai (q0 := 114) (by decide) (hgU_114 ca o) rfl 3 (by decide) wq_270 rfl (x := a3) 3 rfl rfl rfl (Nat.le_of_ble_eq_true rfl) dX8_offer_78 (fun z57 H locs hz57 hP hS => ?_)
          have J57 := jU_114_3 J56 hz57
          refine lv_aload_n hx hb dX8_offer_81 rfl (lv_at hl 2 rfl) ?_
          refine lv_iload hx hb dX8_offer_82 (lv_at hl 7 rfl) ?_
          refine qf_put2 hx hb hts inX8 tyX8 tyX8_ok nmX8 hown hK hP hS qw_Ai (q0 := 114) (by decide) (hgU_114 ca o) rfl 4 (by decide) wq_272 rfl (x := a4) 4 rfl rfl rfl (Nat.le_of_ble_eq_true rfl) dX8_offer_84 (fun z58 H locs hz58 hP hS => ?_)
          have J58 := jU_114_4 J57 hz58
          refine lv_aload_n hx hb dX8_offer_87 rfl (lv_at hl 2 rfl) ?_
          refine lv_iload hx hb dX8_offer_88 (lv_at hl 8 rfl) ?_
          refine qf_put2 hx hb hts inX8 tyX8 tyX8_ok nmX8 hown hK hP hS qw_Ai (q0 := 114) (by decide) (hgU_114 ca o) rfl 5 (by decide) wq_274 rfl (x := a5) 5 rfl rfl rfl (Nat.le_of_ble_eq_true rfl) dX8_offer_90 (fun z59 H locs hz59 hP hS => ?_)
          have J59 := jU_114_5 J58 hz59
          exact W.vret hx hb hr (fun t ht hW => ⟨⟨(z59, y), rfl, J59, by rw [ht]; exact hP, va_K.moved hW.alike hK⟩, hS.F ht⟩) hS.2.2 dX8_offer_93
        · have t54 : r53.toInt = (0 : Int) := gl_eq c54
          exact W.vret hx hb hr (fun t ht hW => ⟨⟨(z, y), rfl, J0, by rw [ht]; exact hP, va_K.moved hW.alike hK⟩, hS.F ht⟩) hS.2.2 dX8_offer_63
set_option maxRecDepth 100000 in
set_option maxHeartbeats 8000000 in
theorem u_Shortest_numberBetween (l : Launch) (D : va_G) (ca : Nat → ClassId) (o : Nat) (b z : Nat → Nat → Int32) (y : Nat → Nat → Int64) (J0 : qJU b z) (a0 : Int32) (a1 : Int32) (a2 : Int32)  : qM l yX8_numberBetween cX8_numberBetween 4 (some .int) 1 60 (qPre D vwCl (qT6 ca) o 132 (qG (GU ca o) z y) [.int a0, .int a1, .int a2]) (va_Qi (fun r (_ : Unit) => True) (qB D vwCl (qT6 ca) o 132 (fun _ : Unit => qG (GU ca o) z y)) (qw_A o 132)) (qw_A o 132) := by
  refine Met.ofW (cc := cX8_numberBetween) (maxL := 4) (ret := (some .int)) (by decide) rfl ?_
  intro p e s m args below meth c s₁ B hml hv
  obtain ⟨rfl, hP, hK⟩ := hv
  have hx := B.exec
  have hb := B.bytes
  have hr := B.returns
  have hts0 := atoms_spec (ws := Cond.code yX8_numberBetween cX8_numberBetween 4 (some .int) :: qtbl) B.pre
  have hts : ∀ w ∈ qtbl, w.before _ s = true := fun w h => hts0 w (List.mem_cons_of_mem _ h)
  have hown : s.vm.findClass RX8 = some m.cls := findClass_of_methodNamed B.named
  have hlocks := B.notSynchronized
  have hS : va_S (qw_A o 132) s.heap s.heap [] := va_S.rf
  have hl := lv_entry ([.int a0, .int a1, .int a2]) (n := 4) (Nat.le_of_ble_eq_true rfl)
  rw [lg_entry_eq]
  generalize (lg_sl ([.int a0, .int a1, .int a2]) ++ List.replicate (4 - (lg_sl ([.int a0, .int a1, .int a2])).length) Slot.unset).toArray = ls at hl ⊢
  have hl : lv_has ls 4 [(0, .int a0), (1, .int a1), (2, .int a2)] := hl
  refine lv_iload_n hx hb dX8_numberBetween_0 rfl (lv_at hl 0 rfl) ?_
  refine lv_iconst (v := 1) hx hb dX8_numberBetween_1 (by decide) ?_
  refine lv_icmp_ne (tgt := 18) hx hb dX8_numberBetween_2 (by decide) (fun c1 => ?_) (fun c1 => ?_)
  · have t1 : a0.toInt ≠ (1 : Int) := gl_ne c1
    refine lv_iload_n hx hb dX8_numberBetween_18 rfl (lv_at hl 2 rfl) ?_
    refine lv_if_le (tgt := 28) hx hb dX8_numberBetween_19 (by decide) (fun c2 => ?_) (fun c2 => ?_)
    · have t2 : a2.toInt ≤ (0 : Int) := gl_le c2
      refine lv_iconst (v := (-1)) hx hb dX8_numberBetween_28 (by decide) ?_
      exact W.iret (v := (-1)) hx hb hr (fun t ht hW => ⟨⟨(-1), (), rfl, trivial, by rw [ht]; exact hP, va_K.moved hW.alike hK⟩, hS.F ht⟩) hS.2.2 dX8_numberBetween_29
    · have t2 : a2.toInt > (0 : Int) := gl_nle c2
      refine lv_iload_n hx hb dX8_numberBetween_22 rfl (lv_at hl 1 rfl) ?_
      refine lv_iload_n hx hb dX8_numberBetween_23 rfl (lv_at hl 2 rfl) ?_
      refine lv_irem hx hb dX8_numberBetween_24 (gr_ne (show a2.toInt ≠ (0 : Int) from by omega)) ?_
      refine lv_topi (fun x3 e3 => ?_)
      refine lv_if_eq (tgt := 30) hx hb dX8_numberBetween_25 (by decide) (fun c4 => ?_) (fun c4 => ?_)
      · have t4 : x3.toInt = (0 : Int) := gl_eq c4
        refine lv_iload_n hx hb dX8_numberBetween_30 rfl (lv_at hl 1 rfl) ?_
        refine lv_iload_n hx hb dX8_numberBetween_31 rfl (lv_at hl 2 rfl) ?_
        refine lv_idiv hx hb dX8_numberBetween_32 (gr_ne (show a2.toInt ≠ (0 : Int) from by omega)) ?_
        refine lv_topi (fun x5 e5 => ?_)
        refine lv_istore_n (lv' := [(3, .int x5), (0, .int a0), (1, .int a1), (2, .int a2)]) hx hb dX8_numberBetween_33 rfl hl (by decide) rfl (fun ls hl => ?_)
        refine lv_iload_n hx hb dX8_numberBetween_34 rfl (lv_at hl 0 rfl) ?_
        refine lv_iconst (v := 2) hx hb dX8_numberBetween_35 (by decide) ?_
        refine lv_icmp_lt (tgt := 49) hx hb dX8_numberBetween_36 (by decide) (fun c6 => ?_) (fun c6 => ?_)
        · have t6 : x5.toInt < (2 : Int) := gl_lt c6
          refine lv_iconst (v := (-1)) hx hb dX8_numberBetween_49 (by decide) ?_
          exact W.iret (v := (-1)) hx hb hr (fun t ht hW => ⟨⟨(-1), (), rfl, trivial, by rw [ht]; exact hP, va_K.moved hW.alike hK⟩, hS.F ht⟩) hS.2.2 dX8_numberBetween_50
        · have t6 : x5.toInt ≥ (2 : Int) := gl_nlt c6
          refine lv_iload_n hx hb dX8_numberBetween_39 rfl (lv_at hl 0 rfl) ?_
          refine lv_bipush (v := 99) hx hb dX8_numberBetween_40 (by decide) ?_
          refine lv_icmp_gt (tgt := 49) hx hb dX8_numberBetween_42 (by decide) (fun c7 => ?_) (fun c7 => ?_)
          · have t7 : x5.toInt > (99 : Int) := gl_lt c7
            refine lv_iconst (v := (-1)) hx hb dX8_numberBetween_49 (by decide) ?_
            exact W.iret (v := (-1)) hx hb hr (fun t ht hW => ⟨⟨(-1), (), rfl, trivial, by rw [ht]; exact hP, va_K.moved hW.alike hK⟩, hS.F ht⟩) hS.2.2 dX8_numberBetween_50
          · have t7 : x5.toInt ≤ (99 : Int) := gl_nlt c7
            refine lv_iload_n hx hb dX8_numberBetween_45 rfl (lv_at hl 0 rfl) ?_
            refine lv_goto (tgt := 50) hx hb dX8_numberBetween_46 (by decide) ?_
            exact W.iret (v := x5) hx hb hr (fun t ht hW => ⟨⟨x5, (), rfl, trivial, by rw [ht]; exact hP, va_K.moved hW.alike hK⟩, hS.F ht⟩) hS.2.2 dX8_numberBetween_50
      · have t4 : x3.toInt ≠ (0 : Int) := gl_ne c4
        refine lv_iconst (v := (-1)) hx hb dX8_numberBetween_28 (by decide) ?_
        exact W.iret (v := (-1)) hx hb hr (fun t ht hW => ⟨⟨(-1), (), rfl, trivial, by rw [ht]; exact hP, va_K.moved hW.alike hK⟩, hS.F ht⟩) hS.2.2 dX8_numberBetween_29
  · have t1 : a0.toInt = (1 : Int) := gl_eq c1
    refine lv_iload_n hx hb dX8_numberBetween_5 rfl (lv_at hl 1 rfl) ?_
    refine lv_iload_n hx hb dX8_numberBetween_6 rfl (lv_at hl 2 rfl) ?_
    refine lv_icmp_le (tgt := 16) hx hb dX8_numberBetween_7 (by decide) (fun c8 => ?_) (fun c8 => ?_)
    · have t8 : a1.toInt ≤ a2.toInt := gl_le c8
      refine lv_iconst (v := (-1)) hx hb dX8_numberBetween_16 (by decide) ?_
      exact W.iret (v := (-1)) hx hb hr (fun t ht hW => ⟨⟨(-1), (), rfl, trivial, by rw [ht]; exact hP, va_K.moved hW.alike hK⟩, hS.F ht⟩) hS.2.2 dX8_numberBetween_17
    · have t8 : a1.toInt > a2.toInt := gl_nle c8
      refine lv_iload_n hx hb dX8_numberBetween_10 rfl (lv_at hl 1 rfl) ?_
      refine lv_iload_n hx hb dX8_numberBetween_11 rfl (lv_at hl 2 rfl) ?_
      refine lv_isub hx hb dX8_numberBetween_12 ?_
      refine lv_topi (fun x9 e9 => ?_)
      refine lv_goto (tgt := 17) hx hb dX8_numberBetween_13 (by decide) ?_
      exact W.iret (v := x9) hx hb hr (fun t ht hW => ⟨⟨x9, (), rfl, trivial, by rw [ht]; exact hP, va_K.moved hW.alike hK⟩, hS.F ht⟩) hS.2.2 dX8_numberBetween_17
set_option maxRecDepth 100000 in
set_option maxHeartbeats 8000000 in
theorem u_Shortest_offerPairs (l : Launch) (D : va_G) (ca : Nat → ClassId) (o : Nat) (b z : Nat → Nat → Int32) (y : Nat → Nat → Int64) (J0 : qJU b z) (a2 : Int32)  : qM l yX8_offerPairs cX8_offerPairs 7 none 5 140 (qPre D vwCl (qT6 ca) o 132 (qG (GU ca o) z y) [.ref (o + 114), .ref (o + 110), .ref (o + 1), .int a2]) (va_Qv (fun u => qJU b u.1) (qB D vwCl (qT6 ca) o 132 (fun u : qZ => qG (GU ca o) u.1 u.2)) (qw_A o 132)) (qw_A o 132) := by
  refine Met.ofW (cc := cX8_offerPairs) (maxL := 7) (ret := none) (by decide) rfl ?_
  intro p e s m args below meth c s₁ B hml hv
  obtain ⟨rfl, hP, hK⟩ := hv
  have hx := B.exec
  have hb := B.bytes
  have hr := B.returns
  have hts0 := atoms_spec (ws := Cond.code yX8_offerPairs cX8_offerPairs 7 none :: qtbl) B.pre
  have hts : ∀ w ∈ qtbl, w.before _ s = true := fun w h => hts0 w (List.mem_cons_of_mem _ h)
  have hown : s.vm.findClass RX8 = some m.cls := findClass_of_methodNamed B.named
  have hlocks := B.notSynchronized
  have hS : va_S (qw_A o 132) s.heap s.heap [] := va_S.rf
  have hl := lv_entry ([.ref (o + 114), .ref (o + 110), .ref (o + 1), .int a2]) (n := 7) (Nat.le_of_ble_eq_true rfl)
  rw [lg_entry_eq]
  generalize (lg_sl ([.ref (o + 114), .ref (o + 110), .ref (o + 1), .int a2]) ++ List.replicate (7 - (lg_sl ([.ref (o + 114), .ref (o + 110), .ref (o + 1), .int a2])).length) Slot.unset).toArray = ls at hl ⊢
  have hl : lv_has ls 7 [(0, .ref (o + 114)), (1, .ref (o + 110)), (2, .ref (o + 1)), (3, .int a2)] := hl
  refine lv_iconst (v := 0) hx hb dX8_offerPairs_0 (by decide) ?_
  refine lv_istore (lv' := [(4, .int 0), (0, .ref (o + 114)), (1, .ref (o + 110)), (2, .ref (o + 1)), (3, .int a2)]) hx hb dX8_offerPairs_1 hl (by decide) rfl (fun ls hl => ?_)
  have loop1 : ∀ (n : Nat) (w1_4 : Int32) (z1 : Nat → Nat → Int32) (y1 : Nat → Nat → Int64), ((6 - w1_4.toInt : Int) < (n : Int)) → ((0 : Int) ≤ w1_4.toInt ∧ w1_4.toInt ≤ 6) → (qJU b z1) → ∀ (H : Heap) (locs : List Loc), qw_P D vwCl o 132 (qG (GU ca o) z1 y1) H → va_S (qw_A o 132) s.heap H locs → ∀ (ls : Array Slot), lv_has ls 7 [(4, .int w1_4), (0, .ref (o + 114)), (1, .ref (o + 110)), (2, .ref (o + 1)), (3, .int a2)] → W p l e (headSpec (Cond.code yX8_offerPairs cX8_offerPairs 7 none :: qtbl) ({ frames := 5, cells := 0, slots := 0, locals := 140 })).room s m (([.ref (o + 114), .ref (o + 110), .ref (o + 1), .int a2] : List Value).toArray) below meth c H locs 0 0 (MQ below (va_Qv (fun u => qJU b u.1) (qB D vwCl (qT6 ca) o 132 (fun u : qZ => qG (GU ca o) u.1 u.2)) (qw_A o 132)) (([.ref (o + 114), .ref (o + 110), .ref (o + 1), .int a2] : List Value).toArray) s 0 0 (qw_A o 132)) (F0 m 3 ls []) := by
    intro n
    induction n with
    | zero => intro w1_4 z1 y1 hb1 hv1_4 J1; exfalso; omega
    | succ n1 ih1 =>
      intro w1_4 z1 y1 hb1 hv1_4 J1 H locs hP hS ls hl
      refine lv_iload hx hb dX8_offerPairs_3 (lv_at hl 0 rfl) ?_
      refine lv_bipush (v := 6) hx hb dX8_offerPairs_5 (by decide) ?_
      refine lv_icmp_ge (tgt := 95) hx hb dX8_offerPairs_7 (by decide) (fun c2 => ?_) (fun c2 => ?_)
      · have t2 : w1_4.toInt ≥ (6 : Int) := gl_le c2
        exact W.vret hx hb hr (fun t ht hW => ⟨⟨(z1, y1), rfl, J1, by rw [ht]; exact hP, va_K.moved hW.alike hK⟩, hS.F ht⟩) hS.2.2 dX8_offerPairs_95
      · have t2 : w1_4.toInt < (6 : Int) := gl_nle c2
        refine lv_iconst (v := 0) hx hb dX8_offerPairs_10 (by decide) ?_
        refine lv_istore (lv' := [(5, .int 0), (4, .int w1_4), (0, .ref (o + 114)), (1, .ref (o + 110)), (2, .ref (o + 1)), (3, .int a2)]) hx hb dX8_offerPairs_11 hl (by decide) rfl (fun ls hl => ?_)
        have loop3 : ∀ (n : Nat) (w3_5 : Int32) (z3 : Nat → Nat → Int32) (y3 : Nat → Nat → Int64), ((6 - w3_5.toInt : Int) < (n : Int)) → ((0 : Int) ≤ w3_5.toInt ∧ w3_5.toInt ≤ 6) → (qJU b z3) → ∀ (H : Heap) (locs : List Loc), qw_P D vwCl o 132 (qG (GU ca o) z3 y3) H → va_S (qw_A o 132) s.heap H locs → ∀ (ls : Array Slot), lv_has ls 7 [(5, .int w3_5), (4, .int w1_4), (0, .ref (o + 114)), (1, .ref (o + 110)), (2, .ref (o + 1)), (3, .int a2)] → W p l e (headSpec (Cond.code yX8_offerPairs cX8_offerPairs 7 none :: qtbl) ({ frames := 5, cells := 0, slots := 0, locals := 140 })).room s m (([.ref (o + 114), .ref (o + 110), .ref (o + 1), .int a2] : List Value).toArray) below meth c H locs 0 0 (MQ below (va_Qv (fun u => qJU b u.1) (qB D vwCl (qT6 ca) o 132 (fun u : qZ => qG (GU ca o) u.1 u.2)) (qw_A o 132)) (([.ref (o + 114), .ref (o + 110), .ref (o + 1), .int a2] : List Value).toArray) s 0 0 (qw_A o 132)) (F0 m 13 ls []) := by
          intro n
          induction n with
          | zero => intro w3_5 z3 y3 hb3 hv3_5 J3; exfalso; omega
          | succ n3 ih3 =>
            intro w3_5 z3 y3 hb3 hv3_5 J3 H locs hP hS ls hl
            refine lv_iload hx hb dX8_offerPairs_13 (lv_at hl 0 rfl) ?_
            refine lv_bipush (v := 6) hx hb dX8_offerPairs_15 (by decide) ?_
            refine lv_icmp_ge (tgt := 89) hx hb dX8_offerPairs_17 (by decide) (fun c4 => ?_) (fun c4 => ?_)
            · have t4 : w3_5.toInt ≥ (6 : Int) := gl_le c4
              obtain ⟨x5, e5⟩ : ∃ t : Int32, t = w1_4 + 1 := ⟨_, rfl⟩
              refine lv_iinc (v := x5) (lv' := [(4, .int x5), (5, .int w3_5), (0, .ref (o + 114)), (1, .ref (o + 110)), (2, .ref (o + 1)), (3, .int a2)]) hx hb dX8_offerPairs_89 hl (k := 1) rfl (by rw [e5]; rfl) (by decide) rfl (fun ls hl => ?_)
              have t5 : x5.toInt = w1_4.toInt + (1 : Int) := ga_add e5 rfl rfl (by omega) (by omega)
              refine lv_goto (tgt := 3) hx hb dX8_offerPairs_92 (by decide) ?_
              exact ih1 x5 z3 y3 (show (6 - x5.toInt : Int) < (n1 : Int) from by omega) ⟨by omega, by omega⟩ J3 _ _ hP hS _ (lv_sub hl [0, 2, 3, 4, 5] rfl)
            · have t4 : w3_5.toInt < (6 : Int) := gl_nle c4
              refine lv_iload_n hx hb dX8_offerPairs_20 rfl (lv_at hl 5 rfl) ?_
              refine lv_aload_n hx hb dX8_offerPairs_21 rfl (lv_at hl 2 rfl) ?_
              refine qf_get hx hb hts inX8 hown hK hP (q0 := 114) (by decide) (hgU_114 ca o) rfl 0 (by decide) wq_265 (v := .ref (o + 115)) rfl dX8_offerPairs_22 ?_
              refine lv_iload hx hb dX8_offerPairs_25 (lv_at hl 1 rfl) ?_
              refine qa_iald hx hb hK hP (q0 := 115) (by decide) 0 (N := 6) (hgU_115 ca o) rfl (gi_in (by omega) (by omega)) dX8_offerPairs_27 ?_
              refine lv_topi (fun x6 e6 => ?_)
              refine lv_aload_n hx hb dX8_offerPairs_28 rfl (lv_at hl 2 rfl) ?_
              refine qf_get hx hb hts inX8 hown hK hP (q0 := 114) (by decide) (hgU_114 ca o) rfl 0 (by decide) wq_265 (v := .ref (o + 115)) rfl dX8_offerPairs_29 ?_
              refine lv_iload hx hb dX8_offerPairs_32 (lv_at hl 0 rfl) ?_
              refine qa_iald hx hb hK hP (q0 := 115) (by decide) 0 (N := 6) (hgU_115 ca o) rfl (gi_in (by omega) (by omega)) dX8_offerPairs_34 ?_
              refine lv_topi (fun x7 e7 => ?_)
              refine qc_Sip (As := [.int a2, .int x6, .int x7]) (rest := []) (k0 := 3) (u_Shortest_numberBetween l D ca o b z3 y3 J3 a2 x6 x7) kc_yX8_numberBetween ⟨hx, hb, hml, hown, hts⟩ wq_878 rfl rfl ⟨Nat.le_of_ble_eq_true rfl, Nat.le_of_ble_eq_true rfl⟩ wq_all hP hK hS qw_Ai rfl hl.1 rfl (Nat.le_of_ble_eq_true rfl) dX8_offerPairs_35 ⟨Nat.zero_le _, Nat.zero_le _⟩ (fun r8 H locs h8 hP hS _ _ => ?_)
              refine lv_istore (lv' := [(6, .int r8), (5, .int w3_5), (4, .int w1_4), (0, .ref (o + 114)), (1, .ref (o + 110)), (2, .ref (o + 1)), (3, .int a2)]) hx hb dX8_offerPairs_38 hl (by decide) rfl (fun ls hl => ?_)
              refine lv_aload_n hx hb dX8_offerPairs_40 rfl (lv_at hl 5 rfl) ?_
              refine lv_iload hx hb dX8_offerPairs_41 (lv_at hl 2 rfl) ?_
              refine qc_Vip (As := [.int w1_4]) (rest := []) (k0 := 1) (u_Told_hasPerson l D ca o b z3 y3 J3 w1_4) kc_yX9_hasPerson ⟨hx, hb, hml, hown, hts⟩ wq_866 rfl rfl ⟨Nat.le_of_ble_eq_true rfl, Nat.le_of_ble_eq_true rfl⟩ wq_all hP hK hS qw_Ai (q0 := 1) (by decide) (hgU_1 ca o _ _) rfl rfl hl.1 rfl (Nat.le_of_ble_eq_true rfl) dX8_offerPairs_43 ⟨Nat.zero_le _, Nat.zero_le _⟩ (fun r9 H locs h9 hP hS _ _ => ?_)
              rcases h9 with ⟨hr9, hf9_0, hf9_1⟩ | ⟨hr9, hf9_0⟩
              · subst hr9
                have hg9_0 : pHas (z3 1 5) w1_4 := hf9_0
                have hg9_1 : 0 ≤ w1_4.toInt ∧ w1_4.toInt ≤ 5 := hf9_1
                refine lv_if_eq (tgt := 83) hx hb dX8_offerPairs_46 (by decide) (fun q => absurd q (by decide)) (fun _ => ?_)
                refine lv_aload_n hx hb dX8_offerPairs_49 rfl (lv_at hl 5 rfl) ?_
                refine lv_iload hx hb dX8_offerPairs_50 (lv_at hl 1 rfl) ?_
                refine qc_Vip (As := [.int w3_5]) (rest := []) (k0 := 1) (u_Told_hasPerson l D ca o b z3 y3 J3 w3_5) kc_yX9_hasPerson ⟨hx, hb, hml, hown, hts⟩ wq_866 rfl rfl ⟨Nat.le_of_ble_eq_true rfl, Nat.le_of_ble_eq_true rfl⟩ wq_all hP hK hS qw_Ai (q0 := 1) (by decide) (hgU_1 ca o _ _) rfl rfl hl.1 rfl (Nat.le_of_ble_eq_true rfl) dX8_offerPairs_52 ⟨Nat.zero_le _, Nat.zero_le _⟩ (fun r10 H locs h10 hP hS _ _ => ?_)
                rcases h10 with ⟨hr10, hf10_0, hf10_1⟩ | ⟨hr10, hf10_0⟩
                · subst hr10
                  have hg10_0 : pHas (z3 1 5) w3_5 := hf10_0
                  have hg10_1 : 0 ≤ w3_5.toInt ∧ w3_5.toInt ≤ 5 := hf10_1
                  refine lv_if_eq (tgt := 83) hx hb dX8_offerPairs_55 (by decide) (fun q => absurd q (by decide)) (fun _ => ?_)
                  refine lv_iload hx hb dX8_offerPairs_58 (lv_at hl 2 rfl) ?_
                  refine lv_iload hx hb dX8_offerPairs_60 (lv_at hl 1 rfl) ?_
                  refine lv_icmp_eq (tgt := 83) hx hb dX8_offerPairs_62 (by decide) (fun c11 => ?_) (fun c11 => ?_)
                  · have t11 : w1_4.toInt = w3_5.toInt := gl_eq c11
                    obtain ⟨x12, e12⟩ : ∃ t : Int32, t = w3_5 + 1 := ⟨_, rfl⟩
                    refine lv_iinc (v := x12) (lv' := [(5, .int x12), (6, .int r8), (4, .int w1_4), (0, .ref (o + 114)), (1, .ref (o + 110)), (2, .ref (o + 1)), (3, .int a2)]) hx hb dX8_offerPairs_83 hl (k := 1) rfl (by rw [e12]; rfl) (by decide) rfl (fun ls hl => ?_)
                    have t12 : x12.toInt = w3_5.toInt + (1 : Int) := ga_add e12 rfl rfl (by omega) (by omega)
                    refine lv_goto (tgt := 13) hx hb dX8_offerPairs_86 (by decide) ?_
                    exact ih3 x12 z3 y3 (show (6 - x12.toInt : Int) < (n3 : Int) from by omega) ⟨by omega, by omega⟩ J3 _ _ hP hS _ (lv_sub hl [0, 2, 3, 4, 5, 6] rfl)
                  · have t11 : w1_4.toInt ≠ w3_5.toInt := gl_ne c11
                    refine lv_iload hx hb dX8_offerPairs_65 (lv_at hl 0 rfl) ?_
                    refine lv_if_le (tgt := 83) hx hb dX8_offerPairs_67 (by decide) (fun c13 => ?_) (fun c13 => ?_)
                    · have t13 : r8.toInt ≤ (0 : Int) := gl_le c13
                      obtain ⟨x14, e14⟩ : ∃ t : Int32, t = w3_5 + 1 := ⟨_, rfl⟩
                      refine lv_iinc (v := x14) (lv' := [(5, .int x14), (6, .int r8), (4, .int w1_4), (0, .ref (o + 114)), (1, .ref (o + 110)), (2, .ref (o + 1)), (3, .int a2)]) hx hb dX8_offerPairs_83 hl (k := 1) rfl (by rw [e14]; rfl) (by decide) rfl (fun ls hl => ?_)
                      have t14 : x14.toInt = w3_5.toInt + (1 : Int) := ga_add e14 rfl rfl (by omega) (by omega)
                      refine lv_goto (tgt := 13) hx hb dX8_offerPairs_86 (by decide) ?_
                      exact ih3 x14 z3 y3 (show (6 - x14.toInt : Int) < (n3 : Int) from by omega) ⟨by omega, by omega⟩ J3 _ _ hP hS _ (lv_sub hl [0, 2, 3, 4, 5, 6] rfl)
                    · have t13 : r8.toInt > (0 : Int) := gl_nle c13
                      refine lv_aload_n hx hb dX8_offerPairs_70 rfl (lv_at hl 3 rfl) ?_
                      refine lv_aload_n hx hb dX8_offerPairs_71 rfl (lv_at hl 4 rfl) ?_
                      refine lv_aload_n hx hb dX8_offerPairs_72 rfl (lv_at hl 5 rfl) ?_
                      refine lv_iload_n hx hb dX8_offerPairs_73 rfl (lv_at hl 6 rfl) ?_
                      refine lv_iload hx hb dX8_offerPairs_74 (lv_at hl 2 rfl) ?_
                      refine lv_iload hx hb dX8_offerPairs_76 (lv_at hl 1 rfl) ?_
                      refine lv_iload hx hb dX8_offerPairs_78 (lv_at hl 0 rfl) ?_
                      refine qc_Vv2 (As := [.ref (o + 110), .ref (o + 1), .int a2, .int w1_4, .int w3_5, .int r8]) (rest := []) (k0 := 6) (u_Shortest_offer l D ca o b z3 y3 J3 a2 w1_4 w3_5 r8 ⟨by omega, by omega⟩ ⟨by omega, by omega⟩) kc_yX8_offer ⟨hx, hb, hml, hown, hts⟩ wq_867 rfl rfl ⟨Nat.le_of_ble_eq_true rfl, Nat.le_of_ble_eq_true rfl⟩ wq_all hP hK hS qw_Ai (q0 := 114) (by decide) (hgU_114 ca o _ _) rfl rfl hl.1 rfl (Nat.le_of_ble_eq_true rfl) dX8_offerPairs_80 ⟨Nat.zero_le _, Nat.zero_le _⟩ (fun z15 y15 H locs h15 hP hS _ _ => ?_)
                      have J15 : qJU b z15 := h15
                      obtain ⟨x16, e16⟩ : ∃ t : Int32, t = w3_5 + 1 := ⟨_, rfl⟩
                      refine lv_iinc (v := x16) (lv' := [(5, .int x16), (6, .int r8), (4, .int w1_4), (0, .ref (o + 114)), (1, .ref (o + 110)), (2, .ref (o + 1)), (3, .int a2)]) hx hb dX8_offerPairs_83 hl (k := 1) rfl (by rw [e16]; rfl) (by decide) rfl (fun ls hl => ?_)
                      have t16 : x16.toInt = w3_5.toInt + (1 : Int) := ga_add e16 rfl rfl (by omega) (by omega)
                      refine lv_goto (tgt := 13) hx hb dX8_offerPairs_86 (by decide) ?_
                      exact ih3 x16 z15 y15 (show (6 - x16.toInt : Int) < (n3 : Int) from by omega) ⟨by omega, by omega⟩ J15 _ _ hP hS _ (lv_sub hl [0, 2, 3, 4, 5, 6] rfl)
                · subst hr10
                  have hg10_0 : ¬ pHas (z3 1 5) w3_5 := hf10_0
                  refine lv_if_eq (tgt := 83) hx hb dX8_offerPairs_55 (by decide) (fun _ => ?_) (fun q => absurd (by decide) q)
                  obtain ⟨x17, e17⟩ : ∃ t : Int32, t = w3_5 + 1 := ⟨_, rfl⟩
                  refine lv_iinc (v := x17) (lv' := [(5, .int x17), (6, .int r8), (4, .int w1_4), (0, .ref (o + 114)), (1, .ref (o + 110)), (2, .ref (o + 1)), (3, .int a2)]) hx hb dX8_offerPairs_83 hl (k := 1) rfl (by rw [e17]; rfl) (by decide) rfl (fun ls hl => ?_)
                  have t17 : x17.toInt = w3_5.toInt + (1 : Int) := ga_add e17 rfl rfl (by omega) (by omega)
                  refine lv_goto (tgt := 13) hx hb dX8_offerPairs_86 (by decide) ?_
                  exact ih3 x17 z3 y3 (show (6 - x17.toInt : Int) < (n3 : Int) from by omega) ⟨by omega, by omega⟩ J3 _ _ hP hS _ (lv_sub hl [0, 2, 3, 4, 5, 6] rfl)
              · subst hr9
                have hg9_0 : ¬ pHas (z3 1 5) w1_4 := hf9_0
                refine lv_if_eq (tgt := 83) hx hb dX8_offerPairs_46 (by decide) (fun _ => ?_) (fun q => absurd (by decide) q)
                obtain ⟨x18, e18⟩ : ∃ t : Int32, t = w3_5 + 1 := ⟨_, rfl⟩
                refine lv_iinc (v := x18) (lv' := [(5, .int x18), (6, .int r8), (4, .int w1_4), (0, .ref (o + 114)), (1, .ref (o + 110)), (2, .ref (o + 1)), (3, .int a2)]) hx hb dX8_offerPairs_83 hl (k := 1) rfl (by rw [e18]; rfl) (by decide) rfl (fun ls hl => ?_)
                have t18 : x18.toInt = w3_5.toInt + (1 : Int) := ga_add e18 rfl rfl (by omega) (by omega)
                refine lv_goto (tgt := 13) hx hb dX8_offerPairs_86 (by decide) ?_
                exact ih3 x18 z3 y3 (show (6 - x18.toInt : Int) < (n3 : Int) from by omega) ⟨by omega, by omega⟩ J3 _ _ hP hS _ (lv_sub hl [0, 2, 3, 4, 5, 6] rfl)
        exact loop3 7 0 z1 y1 (show (6 - (0 : Int) : Int) < ((7 : Nat) : Int) from by omega) ⟨by decide, by decide⟩ J1 _ _ hP hS _ (lv_sub hl [0, 1, 2, 3, 4, 5] rfl)
  exact loop1 7 0 z y (show (6 - (0 : Int) : Int) < ((7 : Nat) : Int) from by omega) ⟨by decide, by decide⟩ J0 _ _ hP hS _ (lv_sub hl [0, 1, 2, 3, 4] rfl)
set_option maxRecDepth 100000 in
set_option maxHeartbeats 8000000 in
theorem u_Shortest_find (l : Launch) (D : va_G) (ca : Nat → ClassId) (o : Nat) (b z : Nat → Nat → Int32) (y : Nat → Nat → Int64) (J0 : qJU b z)   : qM l yX8_find cX8_find 4 (some .boolean) 6 166 (qPre D vwCl (qT6 ca) o 132 (qG (GU ca o) z y) [.ref (o + 114), .ref (o + 110), .ref (o + 1)]) (va_Qi (fun r u => ((0 : Int) ≤ r.toInt ∧ r.toInt ≤ 1) ∧ qJU b u.1) (qB D vwCl (qT6 ca) o 132 (fun u : qZ => qG (GU ca o) u.1 u.2)) (qw_A o 132)) (qw_A o 132) := by
  refine Met.ofW (cc := cX8_find) (maxL := 4) (ret := (some .boolean)) (by decide) rfl ?_
  intro p e s m args below meth c s₁ B hml hv
  obtain ⟨rfl, hP, hK⟩ := hv
  have hx := B.exec
  have hb := B.bytes
  have hr := B.returns
  have hts0 := atoms_spec (ws := Cond.code yX8_find cX8_find 4 (some .boolean) :: qtbl) B.pre
  have hts : ∀ w ∈ qtbl, w.before _ s = true := fun w h => hts0 w (List.mem_cons_of_mem _ h)
  have hown : s.vm.findClass RX8 = some m.cls := findClass_of_methodNamed B.named
  have hlocks := B.notSynchronized
  have hS : va_S (qw_A o 132) s.heap s.heap [] := va_S.rf
  have hl := lv_entry ([.ref (o + 114), .ref (o + 110), .ref (o + 1)]) (n := 4) (Nat.le_of_ble_eq_true rfl)
  rw [lg_entry_eq]
  generalize (lg_sl ([.ref (o + 114), .ref (o + 110), .ref (o + 1)]) ++ List.replicate (4 - (lg_sl ([.ref (o + 114), .ref (o + 110), .ref (o + 1)])).length) Slot.unset).toArray = ls at hl ⊢
  have hl : lv_has ls 4 [(0, .ref (o + 114)), (1, .ref (o + 110)), (2, .ref (o + 1))] := hl
  refine lv_aload_n hx hb dX8_find_0 rfl (lv_at hl 0 rfl) ?_
  refine lv_bipush (v := 61) hx hb dX8_find_1 (by decide) ?_
  refine qf_put2 hx hb hts inX8 tyX8 tyX8_ok nmX8 hown hK hP hS qw_Ai (q0 := 114) (by decide) (hgU_114 ca o) rfl 1 (by decide) wq_266 rfl (x := 61) 1 rfl rfl rfl (Nat.le_of_ble_eq_true rfl) dX8_find_3 (fun z1 H locs hz1 hP hS => ?_)
  have J1 := jU_114_1 J0 hz1
  refine lv_iconst (v := 0) hx hb dX8_find_6 (by decide) ?_
  refine lv_istore_n (lv' := [(3, .int 0), (0, .ref (o + 114)), (1, .ref (o + 110)), (2, .ref (o + 1))]) hx hb dX8_find_7 rfl hl (by decide) rfl (fun ls hl => ?_)
  have loop2 : ∀ (n : Nat) (w2_3 : Int32) (z2 : Nat → Nat → Int32) (y2 : Nat → Nat → Int64), ((6 - w2_3.toInt : Int) < (n : Int)) → ((0 : Int) ≤ w2_3.toInt ∧ w2_3.toInt ≤ 6) → (qJU b z2) → ∀ (H : Heap) (locs : List Loc), qw_P D vwCl o 132 (qG (GU ca o) z2 y2) H → va_S (qw_A o 132) s.heap H locs → ∀ (ls : Array Slot), lv_has ls 4 [(3, .int w2_3), (0, .ref (o + 114)), (1, .ref (o + 110)), (2, .ref (o + 1))] → W p l e (headSpec (Cond.code yX8_find cX8_find 4 (some .boolean) :: qtbl) ({ frames := 6, cells := 0, slots := 0, locals := 166 })).room s m (([.ref (o + 114), .ref (o + 110), .ref (o + 1)] : List Value).toArray) below meth c H locs 0 0 (MQ below (va_Qi (fun r u => ((0 : Int) ≤ r.toInt ∧ r.toInt ≤ 1) ∧ qJU b u.1) (qB D vwCl (qT6 ca) o 132 (fun u : qZ => qG (GU ca o) u.1 u.2)) (qw_A o 132)) (([.ref (o + 114), .ref (o + 110), .ref (o + 1)] : List Value).toArray) s 0 0 (qw_A o 132)) (F0 m 8 ls []) := by
    intro n
    induction n with
    | zero => intro w2_3 z2 y2 hb2 hv2_3 J2; exfalso; omega
    | succ n2 ih2 =>
      intro w2_3 z2 y2 hb2 hv2_3 J2 H locs hP hS ls hl
      refine lv_iload_n hx hb dX8_find_8 rfl (lv_at hl 0 rfl) ?_
      refine lv_bipush (v := 6) hx hb dX8_find_9 (by decide) ?_
      refine lv_icmp_ge (tgt := 38) hx hb dX8_find_11 (by decide) (fun c3 => ?_) (fun c3 => ?_)
      · have t3 : w2_3.toInt ≥ (6 : Int) := gl_le c3
        refine lv_iconst (v := 0) hx hb dX8_find_38 (by decide) ?_
        refine lv_istore_n (lv' := [(3, .int 0), (0, .ref (o + 114)), (1, .ref (o + 110)), (2, .ref (o + 1))]) hx hb dX8_find_39 rfl hl (by decide) rfl (fun ls hl => ?_)
        have loop4 : ∀ (n : Nat) (w4_3 : Int32) (z4 : Nat → Nat → Int32) (y4 : Nat → Nat → Int64), ((6 - w4_3.toInt : Int) < (n : Int)) → ((0 : Int) ≤ w4_3.toInt ∧ w4_3.toInt ≤ 6) → (qJU b z4) → ∀ (H : Heap) (locs : List Loc), qw_P D vwCl o 132 (qG (GU ca o) z4 y4) H → va_S (qw_A o 132) s.heap H locs → ∀ (ls : Array Slot), lv_has ls 4 [(3, .int w4_3), (0, .ref (o + 114)), (1, .ref (o + 110)), (2, .ref (o + 1))] → W p l e (headSpec (Cond.code yX8_find cX8_find 4 (some .boolean) :: qtbl) ({ frames := 6, cells := 0, slots := 0, locals := 166 })).room s m (([.ref (o + 114), .ref (o + 110), .ref (o + 1)] : List Value).toArray) below meth c H locs 0 0 (MQ below (va_Qi (fun r u => ((0 : Int) ≤ r.toInt ∧ r.toInt ≤ 1) ∧ qJU b u.1) (qB D vwCl (qT6 ca) o 132 (fun u : qZ => qG (GU ca o) u.1 u.2)) (qw_A o 132)) (([.ref (o + 114), .ref (o + 110), .ref (o + 1)] : List Value).toArray) s 0 0 (qw_A o 132)) (F0 m 40 ls []) := by
          intro n
          induction n with
          | zero => intro w4_3 z4 y4 hb4 hv4_3 J4; exfalso; omega
          | succ n4 ih4 =>
            intro w4_3 z4 y4 hb4 hv4_3 J4 H locs hP hS ls hl
            refine lv_iload_n hx hb dX8_find_40 rfl (lv_at hl 0 rfl) ?_
            refine lv_bipush (v := 6) hx hb dX8_find_41 (by decide) ?_
            refine lv_icmp_ge (tgt := 75) hx hb dX8_find_43 (by decide) (fun c5 => ?_) (fun c5 => ?_)
            · have t5 : w4_3.toInt ≥ (6 : Int) := gl_le c5
              refine lv_aload_n hx hb dX8_find_75 rfl (lv_at hl 1 rfl) ?_
              refine lv_aload_n hx hb dX8_find_76 rfl (lv_at hl 2 rfl) ?_
              refine lv_aload_n hx hb dX8_find_77 rfl (lv_at hl 3 rfl) ?_
              refine lv_iconst (v := 1) hx hb dX8_find_78 (by decide) ?_
              refine qc_Vv2 (As := [.ref (o + 110), .ref (o + 1), .int 1]) (rest := []) (k0 := 3) (u_Shortest_offerPairs l D ca o b z4 y4 J4 1) kc_yX8_offerPairs ⟨hx, hb, hml, hown, hts⟩ wq_874 rfl rfl ⟨Nat.le_of_ble_eq_true rfl, Nat.le_of_ble_eq_true rfl⟩ wq_all hP hK hS qw_Ai (q0 := 114) (by decide) (hgU_114 ca o _ _) rfl rfl hl.1 rfl (Nat.le_of_ble_eq_true rfl) dX8_find_79 ⟨Nat.zero_le _, Nat.zero_le _⟩ (fun z6 y6 H locs h6 hP hS _ _ => ?_)
              have J6 : qJU b z6 := h6
              refine lv_aload_n hx hb dX8_find_82 rfl (lv_at hl 1 rfl) ?_
              refine lv_aload_n hx hb dX8_find_83 rfl (lv_at hl 2 rfl) ?_
              refine lv_aload_n hx hb dX8_find_84 rfl (lv_at hl 3 rfl) ?_
              refine lv_iconst (v := 2) hx hb dX8_find_85 (by decide) ?_
              refine qc_Vv2 (As := [.ref (o + 110), .ref (o + 1), .int 2]) (rest := []) (k0 := 3) (u_Shortest_offerPairs l D ca o b z6 y6 J6 2) kc_yX8_offerPairs ⟨hx, hb, hml, hown, hts⟩ wq_874 rfl rfl ⟨Nat.le_of_ble_eq_true rfl, Nat.le_of_ble_eq_true rfl⟩ wq_all hP hK hS qw_Ai (q0 := 114) (by decide) (hgU_114 ca o _ _) rfl rfl hl.1 rfl (Nat.le_of_ble_eq_true rfl) dX8_find_86 ⟨Nat.zero_le _, Nat.zero_le _⟩ (fun z7 y7 H locs h7 hP hS _ _ => ?_)
              have J7 : qJU b z7 := h7
              refine lv_aload_n hx hb dX8_find_89 rfl (lv_at hl 1 rfl) ?_
              refine qf_get hx hb hts inX8 hown hK hP (q0 := 114) (by decide) (hgU_114 ca o) rfl 1 (by decide) wq_266 (v := .int (z7 114 1)) rfl dX8_find_90 ?_
              refine lv_topi (fun x8 e8 => ?_)
              refine lv_bipush (v := 60) hx hb dX8_find_93 (by decide) ?_
              refine lv_icmp_gt (tgt := 102) hx hb dX8_find_95 (by decide) (fun c9 => ?_) (fun c9 => ?_)
              · have t9 : x8.toInt > (60 : Int) := gl_lt c9
                refine lv_iconst (v := 0) hx hb dX8_find_102 (by decide) ?_
                exact W.zret (v := 0) (ty := .boolean) hx hb hr rfl (fun t ht hW => ⟨⟨0, (z7, y7), rfl, ⟨⟨by decide, by decide⟩, J7⟩, by rw [ht]; exact hP, va_K.moved hW.alike hK⟩, hS.F ht⟩) hS.2.2 dX8_find_103
              · have t9 : x8.toInt ≤ (60 : Int) := gl_nlt c9
                refine lv_iconst (v := 1) hx hb dX8_find_98 (by decide) ?_
                refine lv_goto (tgt := 103) hx hb dX8_find_99 (by decide) ?_
                exact W.zret (v := 1) (ty := .boolean) hx hb hr rfl (fun t ht hW => ⟨⟨1, (z7, y7), rfl, ⟨⟨by decide, by decide⟩, J7⟩, by rw [ht]; exact hP, va_K.moved hW.alike hK⟩, hS.F ht⟩) hS.2.2 dX8_find_103
            · have t5 : w4_3.toInt < (6 : Int) := gl_nle c5
              refine lv_aload_n hx hb dX8_find_46 rfl (lv_at hl 3 rfl) ?_
              refine lv_iload_n hx hb dX8_find_47 rfl (lv_at hl 0 rfl) ?_
              refine qc_Vip (As := [.int w4_3]) (rest := []) (k0 := 1) (u_Told_hasPerson l D ca o b z4 y4 J4 w4_3) kc_yX9_hasPerson ⟨hx, hb, hml, hown, hts⟩ wq_866 rfl rfl ⟨Nat.le_of_ble_eq_true rfl, Nat.le_of_ble_eq_true rfl⟩ wq_all hP hK hS qw_Ai (q0 := 1) (by decide) (hgU_1 ca o _ _) rfl rfl hl.1 rfl (Nat.le_of_ble_eq_true rfl) dX8_find_48 ⟨Nat.zero_le _, Nat.zero_le _⟩ (fun r10 H locs h10 hP hS _ _ => ?_)
              rcases h10 with ⟨hr10, hf10_0, hf10_1⟩ | ⟨hr10, hf10_0⟩
              · subst hr10
                have hg10_0 : pHas (z4 1 5) w4_3 := hf10_0
                have hg10_1 : 0 ≤ w4_3.toInt ∧ w4_3.toInt ≤ 5 := hf10_1
                refine lv_if_eq (tgt := 69) hx hb dX8_find_51 (by decide) (fun q => absurd q (by decide)) (fun _ => ?_)
                refine lv_aload_n hx hb dX8_find_54 rfl (lv_at hl 1 rfl) ?_
                refine lv_aload_n hx hb dX8_find_55 rfl (lv_at hl 2 rfl) ?_
                refine lv_aload_n hx hb dX8_find_56 rfl (lv_at hl 3 rfl) ?_
                refine lv_iconst (v := 0) hx hb dX8_find_57 (by decide) ?_
                refine lv_iload_n hx hb dX8_find_58 rfl (lv_at hl 0 rfl) ?_
                refine lv_iload_n hx hb dX8_find_59 rfl (lv_at hl 0 rfl) ?_
                refine lv_aload_n hx hb dX8_find_60 rfl (lv_at hl 1 rfl) ?_
                refine qf_get hx hb hts inX8 hown hK hP (q0 := 114) (by decide) (hgU_114 ca o) rfl 0 (by decide) wq_265 (v := .ref (o + 115)) rfl dX8_find_61 ?_
                refine lv_iload_n hx hb dX8_find_64 rfl (lv_at hl 0 rfl) ?_
                refine qa_iald hx hb hK hP (q0 := 115) (by decide) 0 (N := 6) (hgU_115 ca o) rfl (gi_in (by omega) (by omega)) dX8_find_65 ?_
                refine lv_topi (fun x11 e11 => ?_)
                refine qc_Vv2 (As := [.ref (o + 110), .ref (o + 1), .int 0, .int w4_3, .int w4_3, .int x11]) (rest := []) (k0 := 6) (u_Shortest_offer l D ca o b z4 y4 J4 0 w4_3 w4_3 x11 ⟨by omega, by omega⟩ ⟨by omega, by omega⟩) kc_yX8_offer ⟨hx, hb, hml, hown, hts⟩ wq_867 rfl rfl ⟨Nat.le_of_ble_eq_true rfl, Nat.le_of_ble_eq_true rfl⟩ wq_all hP hK hS qw_Ai (q0 := 114) (by decide) (hgU_114 ca o _ _) rfl rfl hl.1 rfl (Nat.le_of_ble_eq_true rfl) dX8_find_66 ⟨Nat.zero_le _, Nat.zero_le _⟩ (fun z12 y12 H locs h12 hP hS _ _ => ?_)
                have J12 : qJU b z12 := h12
                obtain ⟨x13, e13⟩ : ∃ t : Int32, t = w4_3 + 1 := ⟨_, rfl⟩
                refine lv_iinc (v := x13) (lv' := [(3, .int x13), (0, .ref (o + 114)), (1, .ref (o + 110)), (2, .ref (o + 1))]) hx hb dX8_find_69 hl (k := 0) rfl (by rw [e13]; rfl) (by decide) rfl (fun ls hl => ?_)
                have t13 : x13.toInt = w4_3.toInt + (1 : Int) := ga_add e13 rfl rfl (by omega) (by omega)
                refine lv_goto (tgt := 40) hx hb dX8_find_72 (by decide) ?_
                exact ih4 x13 z12 y12 (show (6 - x13.toInt : Int) < (n4 : Int) from by omega) ⟨by omega, by omega⟩ J12 _ _ hP hS _ (lv_sub hl [0, 1, 2, 3] rfl)
              · subst hr10
                have hg10_0 : ¬ pHas (z4 1 5) w4_3 := hf10_0
                refine lv_if_eq (tgt := 69) hx hb dX8_find_51 (by decide) (fun _ => ?_) (fun q => absurd (by decide) q)
                obtain ⟨x14, e14⟩ : ∃ t : Int32, t = w4_3 + 1 := ⟨_, rfl⟩
                refine lv_iinc (v := x14) (lv' := [(3, .int x14), (0, .ref (o + 114)), (1, .ref (o + 110)), (2, .ref (o + 1))]) hx hb dX8_find_69 hl (k := 0) rfl (by rw [e14]; rfl) (by decide) rfl (fun ls hl => ?_)
                have t14 : x14.toInt = w4_3.toInt + (1 : Int) := ga_add e14 rfl rfl (by omega) (by omega)
                refine lv_goto (tgt := 40) hx hb dX8_find_72 (by decide) ?_
                exact ih4 x14 z4 y4 (show (6 - x14.toInt : Int) < (n4 : Int) from by omega) ⟨by omega, by omega⟩ J4 _ _ hP hS _ (lv_sub hl [0, 1, 2, 3] rfl)
        exact loop4 7 0 z2 y2 (show (6 - (0 : Int) : Int) < ((7 : Nat) : Int) from by omega) ⟨by decide, by decide⟩ J2 _ _ hP hS _ (lv_sub hl [0, 1, 2, 3] rfl)
      · have t3 : w2_3.toInt < (6 : Int) := gl_nle c3
        refine lv_aload_n hx hb dX8_find_14 rfl (lv_at hl 1 rfl) ?_
        refine qf_get hx hb hts inX8 hown hK hP (q0 := 114) (by decide) (hgU_114 ca o) rfl 0 (by decide) wq_265 (v := .ref (o + 115)) rfl dX8_find_15 ?_
        refine lv_iload_n hx hb dX8_find_18 rfl (lv_at hl 0 rfl) ?_
        refine lv_aload_n hx hb dX8_find_19 rfl (lv_at hl 2 rfl) ?_
        refine lv_iconst (v := 0) hx hb dX8_find_20 (by decide) ?_
        refine lv_iload_n hx hb dX8_find_21 rfl (lv_at hl 0 rfl) ?_
        refine qc_Vip (As := [.int 0, .int w2_3]) (rest := [.int w2_3, .ref (o + 115)]) (k0 := 2) (u_Few_ageOf l D ca o b z2 y2 J2 0 w2_3 ⟨by decide, by decide⟩ ⟨by omega, by omega⟩) kc_yX2_ageOf ⟨hx, hb, hml, hown, hts⟩ wq_864 rfl rfl ⟨Nat.le_of_ble_eq_true rfl, Nat.le_of_ble_eq_true rfl⟩ wq_all hP hK hS qw_Ai (q0 := 110) (by decide) (hgU_110 ca o _ _) rfl rfl hl.1 rfl (Nat.le_of_ble_eq_true rfl) dX8_find_22 ⟨Nat.zero_le _, Nat.zero_le _⟩ (fun r15 H locs h15 hP hS _ _ => ?_)
        refine lv_aload_n hx hb dX8_find_25 rfl (lv_at hl 3 rfl) ?_
        refine lv_iload_n hx hb dX8_find_26 rfl (lv_at hl 0 rfl) ?_
        refine qc_Vip (As := [.int w2_3]) (rest := [.int r15, .int w2_3, .ref (o + 115)]) (k0 := 1) (u_Told_lived l D ca o b z2 y2 J2 w2_3) kc_yX9_lived ⟨hx, hb, hml, hown, hts⟩ wq_865 rfl rfl ⟨Nat.le_of_ble_eq_true rfl, Nat.le_of_ble_eq_true rfl⟩ wq_all hP hK hS qw_Ai (q0 := 1) (by decide) (hgU_1 ca o _ _) rfl rfl hl.1 rfl (Nat.le_of_ble_eq_true rfl) dX8_find_27 ⟨Nat.zero_le _, Nat.zero_le _⟩ (fun r16 H locs h16 hP hS _ _ => ?_)
        refine lv_iadd hx hb dX8_find_30 ?_
        refine lv_topi (fun x17 e17 => ?_)
        refine qa_iast2 hx hb hK hP hS qw_Ai (q0 := 115) (by decide) 0 (N := 6) (hgU_115 ca o) rfl (i := w2_3) (x := x17) (gi_in (by omega) (by omega)) dX8_find_31 (fun z18 H locs hz18 hP hS => ?_)
        have J18 := jU_115 J2 hz18
        obtain ⟨x19, e19⟩ : ∃ t : Int32, t = w2_3 + 1 := ⟨_, rfl⟩
        refine lv_iinc (v := x19) (lv' := [(3, .int x19), (0, .ref (o + 114)), (1, .ref (o + 110)), (2, .ref (o + 1))]) hx hb dX8_find_32 hl (k := 0) rfl (by rw [e19]; rfl) (by decide) rfl (fun ls hl => ?_)
        have t19 : x19.toInt = w2_3.toInt + (1 : Int) := ga_add e19 rfl rfl (by omega) (by omega)
        refine lv_goto (tgt := 8) hx hb dX8_find_35 (by decide) ?_
        exact ih2 x19 z18 y2 (show (6 - x19.toInt : Int) < (n2 : Int) from by omega) ⟨by omega, by omega⟩ J18 _ _ hP hS _ (lv_sub hl [0, 1, 2, 3] rfl)
  exact loop2 7 0 z1 y (show (6 - (0 : Int) : Int) < ((7 : Nat) : Int) from by omega) ⟨by decide, by decide⟩ J1 _ _ hP hS _ (lv_sub hl [0, 1, 2, 3] rfl)
set_option maxRecDepth 100000 in
set_option maxHeartbeats 8000000 in
theorem u_shortest (l : Launch) (D : va_G) (ca : Nat → ClassId) (o : Nat) (b z : Nat → Nat → Int32) (y : Nat → Nat → Int64) (J0 : qJU b z) (a0 : Int32) (a1 : Int32)  : qM l yX10_shortest cX10_shortest 3 (some .int) 7 189 (qPre D vwCl (qT6 ca) o 132 (qG (GU ca o) z y) [.ref (o + 0), .int a0, .int a1]) (va_Qi (fun r u => True ∧ qJU b u.1) (qB D vwCl (qT6 ca) o 132 (fun u : qZ => qG (GU ca o) u.1 u.2)) (qw_A o 132)) (qw_A o 132) := by
  refine Met.ofW (cc := cX10_shortest) (maxL := 3) (ret := (some .int)) (by decide) rfl ?_
  intro p e s m args below meth c s₁ B hml hv
  obtain ⟨rfl, hP, hK⟩ := hv
  have hx := B.exec
  have hb := B.bytes
  have hr := B.returns
  have hts0 := atoms_spec (ws := Cond.code yX10_shortest cX10_shortest 3 (some .int) :: qtbl) B.pre
  have hts : ∀ w ∈ qtbl, w.before _ s = true := fun w h => hts0 w (List.mem_cons_of_mem _ h)
  have hown : s.vm.findClass RX10 = some m.cls := findClass_of_methodNamed B.named
  have hlocks := B.notSynchronized
  have hS : va_S (qw_A o 132) s.heap s.heap [] := va_S.rf
  have hl := lv_entry ([.ref (o + 0), .int a0, .int a1]) (n := 3) (Nat.le_of_ble_eq_true rfl)
  rw [lg_entry_eq]
  generalize (lg_sl ([.ref (o + 0), .int a0, .int a1]) ++ List.replicate (3 - (lg_sl ([.ref (o + 0), .int a0, .int a1])).length) Slot.unset).toArray = ls at hl ⊢
  have hl : lv_has ls 3 [(0, .ref (o + 0)), (1, .int a0), (2, .int a1)] := hl
  refine lv_aload_n hx hb dX10_shortest_0 rfl (lv_at hl 0 rfl) ?_
  refine lv_iload_n hx hb dX10_shortest_1 rfl (lv_at hl 1 rfl) ?_
  refine qc_Vip (As := [.int a0]) (rest := []) (k0 := 1) (u_areRemarks l D ca o b z y J0 a0) kc_yX10_areRemarks ⟨hx, hb, hml, hown, hts⟩ wq_583 rfl rfl ⟨Nat.le_of_ble_eq_true rfl, Nat.le_of_ble_eq_true rfl⟩ wq_all hP hK hS qw_Ai (q0 := 0) (by decide) (hgU_0 ca o _ _) rfl rfl hl.1 rfl (Nat.le_of_ble_eq_true rfl) dX10_shortest_2 ⟨Nat.zero_le _, Nat.zero_le _⟩ (fun r1 H locs h1 hP hS _ _ => ?_)
  have b1 : (0 : Int) ≤ r1.toInt ∧ r1.toInt ≤ 1 := h1
  refine lv_if_eq (tgt := 17) hx hb dX10_shortest_5 (by decide) (fun c2 => ?_) (fun c2 => ?_)
  · have t2 : r1.toInt = (0 : Int) := gl_eq c2
    refine lv_iconst (v := (-1)) hx hb dX10_shortest_17 (by decide) ?_
    exact W.iret (v := (-1)) hx hb hr (fun t ht hW => ⟨⟨(-1), (z, y), rfl, ⟨trivial, J0⟩, by rw [ht]; exact hP, va_K.moved hW.alike hK⟩, hS.F ht⟩) hS.2.2 dX10_shortest_18
  · have t2 : r1.toInt ≠ (0 : Int) := gl_ne c2
    refine lv_iload_n hx hb dX10_shortest_8 rfl (lv_at hl 2 rfl) ?_
    refine lv_if_lt (tgt := 17) hx hb dX10_shortest_9 (by decide) (fun c3 => ?_) (fun c3 => ?_)
    · have t3 : a1.toInt < (0 : Int) := gl_lt c3
      refine lv_iconst (v := (-1)) hx hb dX10_shortest_17 (by decide) ?_
      exact W.iret (v := (-1)) hx hb hr (fun t ht hW => ⟨⟨(-1), (z, y), rfl, ⟨trivial, J0⟩, by rw [ht]; exact hP, va_K.moved hW.alike hK⟩, hS.F ht⟩) hS.2.2 dX10_shortest_18
    · have t3 : a1.toInt ≥ (0 : Int) := gl_nlt c3
      refine lv_iload_n hx hb dX10_shortest_12 rfl (lv_at hl 2 rfl) ?_
      refine lv_iconst (v := 4) hx hb dX10_shortest_13 (by decide) ?_
      refine lv_icmp_le (tgt := 19) hx hb dX10_shortest_14 (by decide) (fun c4 => ?_) (fun c4 => ?_)
      · have t4 : a1.toInt ≤ (4 : Int) := gl_le c4
        refine lv_aload_n hx hb dX10_shortest_19 rfl (lv_at hl 0 rfl) ?_
        refine qf_get hx hb hts inX10 hown hK hP (q0 := 0) (by decide) (hgU_0 ca o) rfl 8 (by decide) wq_361 (v := .ref (o + 110)) rfl dX10_shortest_20 ?_
        refine lv_aload_n hx hb dX10_shortest_23 rfl (lv_at hl 0 rfl) ?_
        refine qf_get hx hb hts inX10 hown hK hP (q0 := 0) (by decide) (hgU_0 ca o) rfl 6 (by decide) wq_359 (v := .ref (o + 104)) rfl dX10_shortest_24 ?_
        refine lv_iload_n hx hb dX10_shortest_27 rfl (lv_at hl 1 rfl) ?_
        refine qc_Vi2 (As := [.ref (o + 104), .int a0]) (rest := []) (k0 := 2) (u_Few_gather l D ca o b z y J0 a0) kc_yX2_gather ⟨hx, hb, hml, hown, hts⟩ wq_747 rfl rfl ⟨Nat.le_of_ble_eq_true rfl, Nat.le_of_ble_eq_true rfl⟩ wq_all hP hK hS qw_Ai (q0 := 110) (by decide) (hgU_110 ca o _ _) rfl rfl hl.1 rfl (Nat.le_of_ble_eq_true rfl) dX10_shortest_28 ⟨Nat.zero_le _, Nat.zero_le _⟩ (fun r5 z5 y5 H locs h5 hP hS _ _ => ?_)
        have J5 : qJU b z5 := h5.2
        have b5 : (0 : Int) ≤ r5.toInt ∧ r5.toInt ≤ 1 := h5.1
        refine lv_if_ne (tgt := 37) hx hb dX10_shortest_31 (by decide) (fun c6 => ?_) (fun c6 => ?_)
        · have t6 : r5.toInt ≠ (0 : Int) := gl_ne c6
          refine lv_aload_n hx hb dX10_shortest_37 rfl (lv_at hl 0 rfl) ?_
          refine qf_get hx hb hts inX10 hown hK hP (q0 := 0) (by decide) (hgU_0 ca o) rfl 8 (by decide) wq_361 (v := .ref (o + 110)) rfl dX10_shortest_38 ?_
          refine qf_get hx hb hts inX2 hown hK hP (q0 := 110) (by decide) (hgU_110 ca o) rfl 3 (by decide) wq_235 (v := .int (z5 110 3)) rfl dX10_shortest_41 ?_
          refine lv_topi (fun x7 e7 => ?_)
          have b7 := iU_110_3 J5 e7
          refine lv_if_eq (tgt := 65) hx hb dX10_shortest_44 (by decide) (fun c8 => ?_) (fun c8 => ?_)
          · have t8 : x7.toInt = (0 : Int) := gl_eq c8
            refine lv_bipush (v := (-2)) hx hb dX10_shortest_65 (by decide) ?_
            exact W.iret (v := (-2)) hx hb hr (fun t ht hW => ⟨⟨(-2), (z5, y5), rfl, ⟨trivial, J5⟩, by rw [ht]; exact hP, va_K.moved hW.alike hK⟩, hS.F ht⟩) hS.2.2 dX10_shortest_67
          · have t8 : x7.toInt ≠ (0 : Int) := gl_ne c8
            refine lv_aload_n hx hb dX10_shortest_47 rfl (lv_at hl 0 rfl) ?_
            refine qf_get hx hb hts inX10 hown hK hP (q0 := 0) (by decide) (hgU_0 ca o) rfl 9 (by decide) wq_362 (v := .ref (o + 114)) rfl dX10_shortest_48 ?_
            refine lv_aload_n hx hb dX10_shortest_51 rfl (lv_at hl 0 rfl) ?_
            refine qf_get hx hb hts inX10 hown hK hP (q0 := 0) (by decide) (hgU_0 ca o) rfl 8 (by decide) wq_361 (v := .ref (o + 110)) rfl dX10_shortest_52 ?_
            refine lv_aload_n hx hb dX10_shortest_55 rfl (lv_at hl 0 rfl) ?_
            refine qf_get hx hb hts inX10 hown hK hP (q0 := 0) (by decide) (hgU_0 ca o) rfl 0 (by decide) wq_353 (v := .ref (o + 1)) rfl dX10_shortest_56 ?_
            refine qc_Vi2 (As := [.ref (o + 110), .ref (o + 1)]) (rest := []) (k0 := 2) (u_Shortest_find l D ca o b z5 y5 J5) kc_yX8_find ⟨hx, hb, hml, hown, hts⟩ wq_860 rfl rfl ⟨Nat.le_of_ble_eq_true rfl, Nat.le_of_ble_eq_true rfl⟩ wq_all hP hK hS qw_Ai (q0 := 114) (by decide) (hgU_114 ca o _ _) rfl rfl hl.1 rfl (Nat.le_of_ble_eq_true rfl) dX10_shortest_59 ⟨Nat.zero_le _, Nat.zero_le _⟩ (fun r9 z9 y9 H locs h9 hP hS _ _ => ?_)
            have J9 : qJU b z9 := h9.2
            have b9 : (0 : Int) ≤ r9.toInt ∧ r9.toInt ≤ 1 := h9.1
            refine lv_if_ne (tgt := 68) hx hb dX10_shortest_62 (by decide) (fun c10 => ?_) (fun c10 => ?_)
            · have t10 : r9.toInt ≠ (0 : Int) := gl_ne c10
              refine lv_iload_n hx hb dX10_shortest_68 rfl (lv_at hl 2 rfl) ?_
              rcases (by omega : a1.toInt = 0 ∨ a1.toInt = 1 ∨ a1.toInt = 2 ∨ a1.toInt = 3 ∨ a1.toInt < 0 ∨ 3 < a1.toInt) with c11 | c11 | c11 | c11 | c11 | c11
              · refine lv_tableIn (tgt := 100) hx hb dX10_shortest_69 (by omega) (by omega) (by rw [c11]; rfl) (by decide) ?_
                refine lv_aload_n hx hb dX10_shortest_100 rfl (lv_at hl 0 rfl) ?_
                refine qf_get hx hb hts inX10 hown hK hP (q0 := 0) (by decide) (hgU_0 ca o) rfl 9 (by decide) wq_362 (v := .ref (o + 114)) rfl dX10_shortest_101 ?_
                refine qf_get hx hb hts inX8 hown hK hP (q0 := 114) (by decide) (hgU_114 ca o) rfl 1 (by decide) wq_267 (v := .int (z9 114 1)) rfl dX10_shortest_104 ?_
                refine lv_topi (fun x12 e12 => ?_)
                exact W.iret (v := x12) hx hb hr (fun t ht hW => ⟨⟨x12, (z9, y9), rfl, ⟨trivial, J9⟩, by rw [ht]; exact hP, va_K.moved hW.alike hK⟩, hS.F ht⟩) hS.2.2 dX10_shortest_107
              · refine lv_tableIn (tgt := 108) hx hb dX10_shortest_69 (by omega) (by omega) (by rw [c11]; rfl) (by decide) ?_
                refine lv_aload_n hx hb dX10_shortest_108 rfl (lv_at hl 0 rfl) ?_
                refine qf_get hx hb hts inX10 hown hK hP (q0 := 0) (by decide) (hgU_0 ca o) rfl 9 (by decide) wq_362 (v := .ref (o + 114)) rfl dX10_shortest_109 ?_
                refine qf_get hx hb hts inX8 hown hK hP (q0 := 114) (by decide) (hgU_114 ca o) rfl 2 (by decide) wq_269 (v := .int (z9 114 2)) rfl dX10_shortest_112 ?_
                refine lv_topi (fun x13 e13 => ?_)
                exact W.iret (v := x13) hx hb hr (fun t ht hW => ⟨⟨x13, (z9, y9), rfl, ⟨trivial, J9⟩, by rw [ht]; exact hP, va_K.moved hW.alike hK⟩, hS.F ht⟩) hS.2.2 dX10_shortest_115
              · refine lv_tableIn (tgt := 116) hx hb dX10_shortest_69 (by omega) (by omega) (by rw [c11]; rfl) (by decide) ?_
                refine lv_aload_n hx hb dX10_shortest_116 rfl (lv_at hl 0 rfl) ?_
                refine qf_get hx hb hts inX10 hown hK hP (q0 := 0) (by decide) (hgU_0 ca o) rfl 9 (by decide) wq_362 (v := .ref (o + 114)) rfl dX10_shortest_117 ?_
                refine qf_get hx hb hts inX8 hown hK hP (q0 := 114) (by decide) (hgU_114 ca o) rfl 3 (by decide) wq_271 (v := .int (z9 114 3)) rfl dX10_shortest_120 ?_
                refine lv_topi (fun x14 e14 => ?_)
                exact W.iret (v := x14) hx hb hr (fun t ht hW => ⟨⟨x14, (z9, y9), rfl, ⟨trivial, J9⟩, by rw [ht]; exact hP, va_K.moved hW.alike hK⟩, hS.F ht⟩) hS.2.2 dX10_shortest_123
              · refine lv_tableIn (tgt := 124) hx hb dX10_shortest_69 (by omega) (by omega) (by rw [c11]; rfl) (by decide) ?_
                refine lv_aload_n hx hb dX10_shortest_124 rfl (lv_at hl 0 rfl) ?_
                refine qf_get hx hb hts inX10 hown hK hP (q0 := 0) (by decide) (hgU_0 ca o) rfl 9 (by decide) wq_362 (v := .ref (o + 114)) rfl dX10_shortest_125 ?_
                refine qf_get hx hb hts inX8 hown hK hP (q0 := 114) (by decide) (hgU_114 ca o) rfl 2 (by decide) wq_269 (v := .int (z9 114 2)) rfl dX10_shortest_128 ?_
                refine lv_topi (fun x15 e15 => ?_)
                refine lv_if_ne (tgt := 139) hx hb dX10_shortest_131 (by decide) (fun c16 => ?_) (fun c16 => ?_)
                · have t16 : x15.toInt ≠ (0 : Int) := gl_ne c16
                  refine lv_aload_n hx hb dX10_shortest_139 rfl (lv_at hl 0 rfl) ?_
                  refine qf_get hx hb hts inX10 hown hK hP (q0 := 0) (by decide) (hgU_0 ca o) rfl 9 (by decide) wq_362 (v := .ref (o + 114)) rfl dX10_shortest_140 ?_
                  refine qf_get hx hb hts inX8 hown hK hP (q0 := 114) (by decide) (hgU_114 ca o) rfl 4 (by decide) wq_273 (v := .int (z9 114 4)) rfl dX10_shortest_143 ?_
                  refine lv_topi (fun x17 e17 => ?_)
                  exact W.iret (v := x17) hx hb hr (fun t ht hW => ⟨⟨x17, (z9, y9), rfl, ⟨trivial, J9⟩, by rw [ht]; exact hP, va_K.moved hW.alike hK⟩, hS.F ht⟩) hS.2.2 dX10_shortest_146
                · have t16 : x15.toInt = (0 : Int) := gl_eq c16
                  refine lv_bipush (v := (-2)) hx hb dX10_shortest_134 (by decide) ?_
                  refine lv_goto (tgt := 146) hx hb dX10_shortest_136 (by decide) ?_
                  exact W.iret (v := (-2)) hx hb hr (fun t ht hW => ⟨⟨(-2), (z9, y9), rfl, ⟨trivial, J9⟩, by rw [ht]; exact hP, va_K.moved hW.alike hK⟩, hS.F ht⟩) hS.2.2 dX10_shortest_146
              · exfalso; omega
              · refine lv_tableOut (tgt := 147) hx hb dX10_shortest_69 (Or.inr c11) (by decide) ?_
                refine lv_aload_n hx hb dX10_shortest_147 rfl (lv_at hl 0 rfl) ?_
                refine qf_get hx hb hts inX10 hown hK hP (q0 := 0) (by decide) (hgU_0 ca o) rfl 9 (by decide) wq_362 (v := .ref (o + 114)) rfl dX10_shortest_148 ?_
                refine qf_get hx hb hts inX8 hown hK hP (q0 := 114) (by decide) (hgU_114 ca o) rfl 5 (by decide) wq_275 (v := .int (z9 114 5)) rfl dX10_shortest_151 ?_
                refine lv_topi (fun x18 e18 => ?_)
                exact W.iret (v := x18) hx hb hr (fun t ht hW => ⟨⟨x18, (z9, y9), rfl, ⟨trivial, J9⟩, by rw [ht]; exact hP, va_K.moved hW.alike hK⟩, hS.F ht⟩) hS.2.2 dX10_shortest_154
            · have t10 : r9.toInt = (0 : Int) := gl_eq c10
              refine lv_bipush (v := (-2)) hx hb dX10_shortest_65 (by decide) ?_
              exact W.iret (v := (-2)) hx hb hr (fun t ht hW => ⟨⟨(-2), (z9, y9), rfl, ⟨trivial, J9⟩, by rw [ht]; exact hP, va_K.moved hW.alike hK⟩, hS.F ht⟩) hS.2.2 dX10_shortest_67
        · have t6 : r5.toInt = (0 : Int) := gl_eq c6
          refine lv_bipush (v := (-3)) hx hb dX10_shortest_34 (by decide) ?_
          exact W.iret (v := (-3)) hx hb hr (fun t ht hW => ⟨⟨(-3), (z5, y5), rfl, ⟨trivial, J5⟩, by rw [ht]; exact hP, va_K.moved hW.alike hK⟩, hS.F ht⟩) hS.2.2 dX10_shortest_36
      · have t4 : a1.toInt > (4 : Int) := gl_nle c4
        refine lv_iconst (v := (-1)) hx hb dX10_shortest_17 (by decide) ?_
        exact W.iret (v := (-1)) hx hb hr (fun t ht hW => ⟨⟨(-1), (z, y), rfl, ⟨trivial, J0⟩, by rw [ht]; exact hP, va_K.moved hW.alike hK⟩, hS.F ht⟩) hS.2.2 dX10_shortest_18
set_option maxRecDepth 100000 in
set_option maxHeartbeats 8000000 in
theorem u_Few_countNumbers (l : Launch) (D : va_G) (ca : Nat → ClassId) (o : Nat) (b z : Nat → Nat → Int32) (y : Nat → Nat → Int64) (J0 : qJU b z)   : qM l yX2_countNumbers cX2_countNumbers 4 none 2 81 (qPre D vwCl (qT6 ca) o 132 (qG (GU ca o) z y) [.ref (o + 110)]) (va_Qv (fun u => qJU b u.1) (qB D vwCl (qT6 ca) o 132 (fun u : qZ => qG (GU ca o) u.1 u.2)) (qw_A o 132)) (qw_A o 132) := by
  refine Met.ofW (cc := cX2_countNumbers) (maxL := 4) (ret := none) (by decide) rfl ?_
  intro p e s m args below meth c s₁ B hml hv
  obtain ⟨rfl, hP, hK⟩ := hv
  have hx := B.exec
  have hb := B.bytes
  have hr := B.returns
  have hts0 := atoms_spec (ws := Cond.code yX2_countNumbers cX2_countNumbers 4 none :: qtbl) B.pre
  have hts : ∀ w ∈ qtbl, w.before _ s = true := fun w h => hts0 w (List.mem_cons_of_mem _ h)
  have hown : s.vm.findClass RX2 = some m.cls := findClass_of_methodNamed B.named
  have hlocks := B.notSynchronized
  have hS : va_S (qw_A o 132) s.heap s.heap [] := va_S.rf
  have hl := lv_entry ([.ref (o + 110)]) (n := 4) (Nat.le_of_ble_eq_true rfl)
  rw [lg_entry_eq]
  generalize (lg_sl ([.ref (o + 110)]) ++ List.replicate (4 - (lg_sl ([.ref (o + 110)])).length) Slot.unset).toArray = ls at hl ⊢
  have hl : lv_has ls 4 [(0, .ref (o + 110))] := hl
  refine lv_aload_n hx hb dX2_countNumbers_0 rfl (lv_at hl 0 rfl) ?_
  refine lv_iconst (v := 0) hx hb dX2_countNumbers_1 (by decide) ?_
  refine qf_put2 hx hb hts inX2 tyX2 tyX2_ok nmX2 hown hK hP hS qw_Ai (q0 := 110) (by decide) (hgU_110 ca o) rfl 4 (by decide) wq_236 rfl (x := 0) 4 rfl rfl rfl (Nat.le_of_ble_eq_true rfl) dX2_countNumbers_2 (fun z1 H locs hz1 hP hS => ?_)
  have J1 := jU_110_4 J0 hz1
  refine lv_aload_n hx hb dX2_countNumbers_5 rfl (lv_at hl 0 rfl) ?_
  refine lv_iconst (v := 0) hx hb dX2_countNumbers_6 (by decide) ?_
  refine qf_put2 hx hb hts inX2 tyX2 tyX2_ok nmX2 hown hK hP hS qw_Ai (q0 := 110) (by decide) (hgU_110 ca o) rfl 5 (by decide) wq_238 rfl (x := 0) 5 rfl rfl rfl (Nat.le_of_ble_eq_true rfl) dX2_countNumbers_7 (fun z2 H locs hz2 hP hS => ?_)
  have J2 := jU_110_5 J1 hz2
  refine lv_aload_n hx hb dX2_countNumbers_10 rfl (lv_at hl 0 rfl) ?_
  refine lv_iconst (v := 0) hx hb dX2_countNumbers_11 (by decide) ?_
  refine qf_put2 hx hb hts inX2 tyX2 tyX2_ok nmX2 hown hK hP hS qw_Ai (q0 := 110) (by decide) (hgU_110 ca o) rfl 6 (by decide) wq_240 rfl (x := 0) 6 rfl rfl rfl (Nat.le_of_ble_eq_true rfl) dX2_countNumbers_12 (fun z3 H locs hz3 hP hS => ?_)
  have J3 := jU_110_6 J2 hz3
  refine lv_iconst (v := 0) hx hb dX2_countNumbers_15 (by decide) ?_
  refine lv_istore_n (lv' := [(1, .int 0), (0, .ref (o + 110))]) hx hb dX2_countNumbers_16 rfl hl (by decide) rfl (fun ls hl => ?_)
  refine lv_iconst (v := 0) hx hb dX2_countNumbers_17 (by decide) ?_
  refine lv_istore_n (lv' := [(2, .int 0), (1, .int 0), (0, .ref (o + 110))]) hx hb dX2_countNumbers_18 rfl hl (by decide) rfl (fun ls hl => ?_)
  have loop4 : ∀ (n : Nat) (w4_2 : Int32) (w4_1 : Int32) (z4 : Nat → Nat → Int32) (y4 : Nat → Nat → Int64), ((2000 - w4_2.toInt : Int) < (n : Int)) → ((0 : Int) ≤ w4_2.toInt ∧ w4_2.toInt ≤ 2000) → (qJU b z4) → ∀ (H : Heap) (locs : List Loc), qw_P D vwCl o 132 (qG (GU ca o) z4 y4) H → va_S (qw_A o 132) s.heap H locs → ∀ (ls : Array Slot), lv_has ls 4 [(2, .int w4_2), (1, .int w4_1), (0, .ref (o + 110))] → W p l e (headSpec (Cond.code yX2_countNumbers cX2_countNumbers 4 none :: qtbl) ({ frames := 2, cells := 0, slots := 0, locals := 81 })).room s m (([.ref (o + 110)] : List Value).toArray) below meth c H locs 0 0 (MQ below (va_Qv (fun u => qJU b u.1) (qB D vwCl (qT6 ca) o 132 (fun u : qZ => qG (GU ca o) u.1 u.2)) (qw_A o 132)) (([.ref (o + 110)] : List Value).toArray) s 0 0 (qw_A o 132)) (F0 m 19 ls []) := by
    intro n
    induction n with
    | zero => intro w4_2 w4_1 z4 y4 hb4 hv4_2 J4; exfalso; omega
    | succ n4 ih4 =>
      intro w4_2 w4_1 z4 y4 hb4 hv4_2 J4 H locs hP hS ls hl
      refine lv_iload_n hx hb dX2_countNumbers_19 rfl (lv_at hl 0 rfl) ?_
      refine lv_aload_n hx hb dX2_countNumbers_20 rfl (lv_at hl 2 rfl) ?_
      refine qf_get hx hb hts inX2 hown hK hP (q0 := 110) (by decide) (hgU_110 ca o) rfl 3 (by decide) wq_233 (v := .int (z4 110 3)) rfl dX2_countNumbers_21 ?_
      refine lv_topi (fun x5 e5 => ?_)
      have b5 := iU_110_3 J4 e5
      refine lv_icmp_ge (tgt := 110) hx hb dX2_countNumbers_24 (by decide) (fun c6 => ?_) (fun c6 => ?_)
      · have t6 : w4_2.toInt ≥ x5.toInt := gl_le c6
        exact W.vret hx hb hr (fun t ht hW => ⟨⟨(z4, y4), rfl, J4, by rw [ht]; exact hP, va_K.moved hW.alike hK⟩, hS.F ht⟩) hS.2.2 dX2_countNumbers_110
      · have t6 : w4_2.toInt < x5.toInt := gl_nle c6
        refine lv_iload_n hx hb dX2_countNumbers_27 rfl (lv_at hl 0 rfl) ?_
        refine lv_if_eq (tgt := 46) hx hb dX2_countNumbers_28 (by decide) (fun c7 => ?_) (fun c7 => ?_)
        · have t7 : w4_2.toInt = (0 : Int) := gl_eq c7
          refine lv_iconst (v := 1) hx hb dX2_countNumbers_46 (by decide) ?_
          refine lv_goto (tgt := 51) hx hb dX2_countNumbers_47 (by decide) ?_
          refine lv_istore_n (lv' := [(3, .int 1), (2, .int w4_2), (1, .int w4_1), (0, .ref (o + 110))]) hx hb dX2_countNumbers_51 rfl hl (by decide) rfl (fun ls hl => ?_)
          refine lv_aload_n hx hb dX2_countNumbers_52 rfl (lv_at hl 3 rfl) ?_
          refine lv_dup hx hb dX2_countNumbers_53 rfl ?_
          refine qf_get hx hb hts inX2 hown hK hP (q0 := 110) (by decide) (hgU_110 ca o) rfl 4 (by decide) wq_236 (v := .int (z4 110 4)) rfl dX2_countNumbers_54 ?_
          refine lv_topi (fun x8 e8 => ?_)
          refine lv_iload_n hx hb dX2_countNumbers_57 rfl (lv_at hl 0 rfl) ?_
          refine lv_if_eq (tgt := 65) hx hb dX2_countNumbers_58 (by decide) (fun q => absurd q (by decide)) (fun _ => ?_)
          refine lv_iconst (v := 1) hx hb dX2_countNumbers_61 (by decide) ?_
          refine lv_goto (tgt := 66) hx hb dX2_countNumbers_62 (by decide) ?_
          refine lv_iadd hx hb dX2_countNumbers_66 ?_
          refine lv_topi (fun x9 e9 => ?_)
          refine qf_put2 hx hb hts inX2 tyX2 tyX2_ok nmX2 hown hK hP hS qw_Ai (q0 := 110) (by decide) (hgU_110 ca o) rfl 4 (by decide) wq_236 rfl (x := x9) 4 rfl rfl rfl (Nat.le_of_ble_eq_true rfl) dX2_countNumbers_67 (fun z10 H locs hz10 hP hS => ?_)
          have J10 := jU_110_4 J4 hz10
          refine lv_iload_n hx hb dX2_countNumbers_70 rfl (lv_at hl 0 rfl) ?_
          refine lv_if_eq (tgt := 78) hx hb dX2_countNumbers_71 (by decide) (fun q => absurd q (by decide)) (fun _ => ?_)
          refine lv_iconst (v := 1) hx hb dX2_countNumbers_74 (by decide) ?_
          refine lv_goto (tgt := 81) hx hb dX2_countNumbers_75 (by decide) ?_
          refine lv_istore_n (lv' := [(1, .int 1), (3, .int 1), (2, .int w4_2), (0, .ref (o + 110))]) hx hb dX2_countNumbers_81 rfl hl (by decide) rfl (fun ls hl => ?_)
          refine lv_iload_n hx hb dX2_countNumbers_82 rfl (lv_at hl 0 rfl) ?_
          refine lv_aload_n hx hb dX2_countNumbers_83 rfl (lv_at hl 3 rfl) ?_
          refine qf_get hx hb hts inX2 hown hK hP (q0 := 110) (by decide) (hgU_110 ca o) rfl 5 (by decide) wq_238 (v := .int (z10 110 5)) rfl dX2_countNumbers_84 ?_
          refine lv_topi (fun x11 e11 => ?_)
          refine lv_icmp_le (tgt := 104) hx hb dX2_countNumbers_87 (by decide) (fun c12 => ?_) (fun c12 => ?_)
          · have t12 : (1 : Int) ≤ x11.toInt := gl_le c12
            obtain ⟨x13, e13⟩ : ∃ t : Int32, t = w4_2 + 1 := ⟨_, rfl⟩
            refine lv_iinc (v := x13) (lv' := [(2, .int x13), (1, .int 1), (3, .int 1), (0, .ref (o + 110))]) hx hb dX2_countNumbers_104 hl (k := 2) rfl (by rw [e13]; rfl) (by decide) rfl (fun ls hl => ?_)
            have t13 : x13.toInt = w4_2.toInt + (1 : Int) := ga_add e13 rfl rfl (by omega) (by omega)
            refine lv_goto (tgt := 19) hx hb dX2_countNumbers_107 (by decide) ?_
            exact ih4 x13 1 z10 y4 (show (2000 - x13.toInt : Int) < (n4 : Int) from by omega) ⟨by omega, by omega⟩ J10 _ _ hP hS _ (lv_sub hl [0, 1, 3] rfl)
          · have t12 : (1 : Int) > x11.toInt := gl_nle c12
            refine lv_aload_n hx hb dX2_countNumbers_90 rfl (lv_at hl 3 rfl) ?_
            refine lv_iload_n hx hb dX2_countNumbers_91 rfl (lv_at hl 0 rfl) ?_
            refine qf_put2 hx hb hts inX2 tyX2 tyX2_ok nmX2 hown hK hP hS qw_Ai (q0 := 110) (by decide) (hgU_110 ca o) rfl 5 (by decide) wq_238 rfl (x := 1) 5 rfl rfl rfl (Nat.le_of_ble_eq_true rfl) dX2_countNumbers_92 (fun z14 H locs hz14 hP hS => ?_)
            have J14 := jU_110_5 J10 hz14
            refine lv_aload_n hx hb dX2_countNumbers_95 rfl (lv_at hl 3 rfl) ?_
            refine lv_aload_n hx hb dX2_countNumbers_96 rfl (lv_at hl 3 rfl) ?_
            refine lv_iload_n hx hb dX2_countNumbers_97 rfl (lv_at hl 2 rfl) ?_
            refine qc_Vip (As := [.int w4_2]) (rest := [.ref (o + 110)]) (k0 := 1) (u_Few_toldAt l D ca o b z14 y4 J14 w4_2 ⟨by omega, by omega⟩) kc_yX2_toldAt ⟨hx, hb, hml, hown, hts⟩ wq_767 rfl rfl ⟨Nat.le_of_ble_eq_true rfl, Nat.le_of_ble_eq_true rfl⟩ wq_all hP hK hS qw_Ai (q0 := 110) (by decide) (hgU_110 ca o _ _) rfl rfl hl.1 rfl (Nat.le_of_ble_eq_true rfl) dX2_countNumbers_98 ⟨Nat.zero_le _, Nat.zero_le _⟩ (fun r15 H locs h15 hP hS _ _ => ?_)
            refine qf_put2 hx hb hts inX2 tyX2 tyX2_ok nmX2 hown hK hP hS qw_Ai (q0 := 110) (by decide) (hgU_110 ca o) rfl 6 (by decide) wq_240 rfl (x := r15) 6 rfl rfl rfl (Nat.le_of_ble_eq_true rfl) dX2_countNumbers_101 (fun z16 H locs hz16 hP hS => ?_)
            have J16 := jU_110_6 J14 hz16
            obtain ⟨x17, e17⟩ : ∃ t : Int32, t = w4_2 + 1 := ⟨_, rfl⟩
            refine lv_iinc (v := x17) (lv' := [(2, .int x17), (1, .int 1), (3, .int 1), (0, .ref (o + 110))]) hx hb dX2_countNumbers_104 hl (k := 2) rfl (by rw [e17]; rfl) (by decide) rfl (fun ls hl => ?_)
            have t17 : x17.toInt = w4_2.toInt + (1 : Int) := ga_add e17 rfl rfl (by omega) (by omega)
            refine lv_goto (tgt := 19) hx hb dX2_countNumbers_107 (by decide) ?_
            exact ih4 x17 1 z16 y4 (show (2000 - x17.toInt : Int) < (n4 : Int) from by omega) ⟨by omega, by omega⟩ J16 _ _ hP hS _ (lv_sub hl [0, 1, 3] rfl)
        · have t7 : w4_2.toInt ≠ (0 : Int) := gl_ne c7
          refine lv_aload_n hx hb dX2_countNumbers_31 rfl (lv_at hl 2 rfl) ?_
          refine lv_iload_n hx hb dX2_countNumbers_32 rfl (lv_at hl 0 rfl) ?_
          refine lv_iconst (v := 1) hx hb dX2_countNumbers_33 (by decide) ?_
          refine lv_isub hx hb dX2_countNumbers_34 ?_
          refine lv_topi (fun x18 e18 => ?_)
          have t18 : x18.toInt = w4_2.toInt - (1 : Int) := ga_sub e18 rfl rfl (by omega) (by omega)
          refine qc_Vip (As := [.int x18]) (rest := []) (k0 := 1) (u_Few_toldAt l D ca o b z4 y4 J4 x18 ⟨by omega, by omega⟩) kc_yX2_toldAt ⟨hx, hb, hml, hown, hts⟩ wq_767 rfl rfl ⟨Nat.le_of_ble_eq_true rfl, Nat.le_of_ble_eq_true rfl⟩ wq_all hP hK hS qw_Ai (q0 := 110) (by decide) (hgU_110 ca o _ _) rfl rfl hl.1 rfl (Nat.le_of_ble_eq_true rfl) dX2_countNumbers_35 ⟨Nat.zero_le _, Nat.zero_le _⟩ (fun r19 H locs h19 hP hS _ _ => ?_)
          refine lv_aload_n hx hb dX2_countNumbers_38 rfl (lv_at hl 2 rfl) ?_
          refine lv_iload_n hx hb dX2_countNumbers_39 rfl (lv_at hl 0 rfl) ?_
          refine qc_Vip (As := [.int w4_2]) (rest := [.int r19]) (k0 := 1) (u_Few_toldAt l D ca o b z4 y4 J4 w4_2 ⟨by omega, by omega⟩) kc_yX2_toldAt ⟨hx, hb, hml, hown, hts⟩ wq_767 rfl rfl ⟨Nat.le_of_ble_eq_true rfl, Nat.le_of_ble_eq_true rfl⟩ wq_all hP hK hS qw_Ai (q0 := 110) (by decide) (hgU_110 ca o _ _) rfl rfl hl.1 rfl (Nat.le_of_ble_eq_true rfl) dX2_countNumbers_40 ⟨Nat.zero_le _, Nat.zero_le _⟩ (fun r20 H locs h20 hP hS _ _ => ?_)
          refine lv_icmp_eq (tgt := 50) hx hb dX2_countNumbers_43 (by decide) (fun c21 => ?_) (fun c21 => ?_)
          · have t21 : r19.toInt = r20.toInt := gl_eq c21
            refine lv_iconst (v := 0) hx hb dX2_countNumbers_50 (by decide) ?_
            refine lv_istore_n (lv' := [(3, .int 0), (2, .int w4_2), (1, .int w4_1), (0, .ref (o + 110))]) hx hb dX2_countNumbers_51 rfl hl (by decide) rfl (fun ls hl => ?_)
            refine lv_aload_n hx hb dX2_countNumbers_52 rfl (lv_at hl 3 rfl) ?_
            refine lv_dup hx hb dX2_countNumbers_53 rfl ?_
            refine qf_get hx hb hts inX2 hown hK hP (q0 := 110) (by decide) (hgU_110 ca o) rfl 4 (by decide) wq_236 (v := .int (z4 110 4)) rfl dX2_countNumbers_54 ?_
            refine lv_topi (fun x22 e22 => ?_)
            refine lv_iload_n hx hb dX2_countNumbers_57 rfl (lv_at hl 0 rfl) ?_
            refine lv_if_eq (tgt := 65) hx hb dX2_countNumbers_58 (by decide) (fun _ => ?_) (fun q => absurd (by decide) q)
            refine lv_iconst (v := 0) hx hb dX2_countNumbers_65 (by decide) ?_
            refine lv_iadd hx hb dX2_countNumbers_66 ?_
            refine lv_topi (fun x23 e23 => ?_)
            have gb23_0 := gl_b x22
            have gb23_1 := gl_b w4_2
            have gb23_2 := gl_b x5
            have gb23_3 := gl_b r19
            have gb23_4 := gl_b r20
            have t23 : x23.toInt = x22.toInt + (0 : Int) := ga_add e23 rfl rfl (by omega) (by omega)
            refine qf_put2 hx hb hts inX2 tyX2 tyX2_ok nmX2 hown hK hP hS qw_Ai (q0 := 110) (by decide) (hgU_110 ca o) rfl 4 (by decide) wq_236 rfl (x := x23) 4 rfl rfl rfl (Nat.le_of_ble_eq_true rfl) dX2_countNumbers_67 (fun z24 H locs hz24 hP hS => ?_)
            have J24 := jU_110_4 J4 hz24
            refine lv_iload_n hx hb dX2_countNumbers_70 rfl (lv_at hl 0 rfl) ?_
            refine lv_if_eq (tgt := 78) hx hb dX2_countNumbers_71 (by decide) (fun _ => ?_) (fun q => absurd (by decide) q)
            refine lv_iload_n hx hb dX2_countNumbers_78 rfl (lv_at hl 2 rfl) ?_
            refine lv_iconst (v := 1) hx hb dX2_countNumbers_79 (by decide) ?_
            refine lv_iadd hx hb dX2_countNumbers_80 ?_
            refine lv_topi (fun x25 e25 => ?_)
            refine lv_istore_n (lv' := [(1, .int x25), (3, .int 0), (2, .int w4_2), (0, .ref (o + 110))]) hx hb dX2_countNumbers_81 rfl hl (by decide) rfl (fun ls hl => ?_)
            refine lv_iload_n hx hb dX2_countNumbers_82 rfl (lv_at hl 0 rfl) ?_
            refine lv_aload_n hx hb dX2_countNumbers_83 rfl (lv_at hl 3 rfl) ?_
            refine qf_get hx hb hts inX2 hown hK hP (q0 := 110) (by decide) (hgU_110 ca o) rfl 5 (by decide) wq_238 (v := .int (z24 110 5)) rfl dX2_countNumbers_84 ?_
            refine lv_topi (fun x26 e26 => ?_)
            refine lv_icmp_le (tgt := 104) hx hb dX2_countNumbers_87 (by decide) (fun c27 => ?_) (fun c27 => ?_)
            · have t27 : x25.toInt ≤ x26.toInt := gl_le c27
              obtain ⟨x28, e28⟩ : ∃ t : Int32, t = w4_2 + 1 := ⟨_, rfl⟩
              refine lv_iinc (v := x28) (lv' := [(2, .int x28), (1, .int x25), (3, .int 0), (0, .ref (o + 110))]) hx hb dX2_countNumbers_104 hl (k := 2) rfl (by rw [e28]; rfl) (by decide) rfl (fun ls hl => ?_)
              have t28 : x28.toInt = w4_2.toInt + (1 : Int) := ga_add e28 rfl rfl (by omega) (by omega)
              refine lv_goto (tgt := 19) hx hb dX2_countNumbers_107 (by decide) ?_
              exact ih4 x28 x25 z24 y4 (show (2000 - x28.toInt : Int) < (n4 : Int) from by omega) ⟨by omega, by omega⟩ J24 _ _ hP hS _ (lv_sub hl [0, 1, 3] rfl)
            · have t27 : x25.toInt > x26.toInt := gl_nle c27
              refine lv_aload_n hx hb dX2_countNumbers_90 rfl (lv_at hl 3 rfl) ?_
              refine lv_iload_n hx hb dX2_countNumbers_91 rfl (lv_at hl 0 rfl) ?_
              refine qf_put2 hx hb hts inX2 tyX2 tyX2_ok nmX2 hown hK hP hS qw_Ai (q0 := 110) (by decide) (hgU_110 ca o) rfl 5 (by decide) wq_238 rfl (x := x25) 5 rfl rfl rfl (Nat.le_of_ble_eq_true rfl) dX2_countNumbers_92 (fun z29 H locs hz29 hP hS => ?_)
              have J29 := jU_110_5 J24 hz29
              refine lv_aload_n hx hb dX2_countNumbers_95 rfl (lv_at hl 3 rfl) ?_
              refine lv_aload_n hx hb dX2_countNumbers_96 rfl (lv_at hl 3 rfl) ?_
              refine lv_iload_n hx hb dX2_countNumbers_97 rfl (lv_at hl 2 rfl) ?_
              refine qc_Vip (As := [.int w4_2]) (rest := [.ref (o + 110)]) (k0 := 1) (u_Few_toldAt l D ca o b z29 y4 J29 w4_2 ⟨by omega, by omega⟩) kc_yX2_toldAt ⟨hx, hb, hml, hown, hts⟩ wq_767 rfl rfl ⟨Nat.le_of_ble_eq_true rfl, Nat.le_of_ble_eq_true rfl⟩ wq_all hP hK hS qw_Ai (q0 := 110) (by decide) (hgU_110 ca o _ _) rfl rfl hl.1 rfl (Nat.le_of_ble_eq_true rfl) dX2_countNumbers_98 ⟨Nat.zero_le _, Nat.zero_le _⟩ (fun r30 H locs h30 hP hS _ _ => ?_)
              refine qf_put2 hx hb hts inX2 tyX2 tyX2_ok nmX2 hown hK hP hS qw_Ai (q0 := 110) (by decide) (hgU_110 ca o) rfl 6 (by decide) wq_240 rfl (x := r30) 6 rfl rfl rfl (Nat.le_of_ble_eq_true rfl) dX2_countNumbers_101 (fun z31 H locs hz31 hP hS => ?_)
              have J31 := jU_110_6 J29 hz31
              obtain ⟨x32, e32⟩ : ∃ t : Int32, t = w4_2 + 1 := ⟨_, rfl⟩
              refine lv_iinc (v := x32) (lv' := [(2, .int x32), (1, .int x25), (3, .int 0), (0, .ref (o + 110))]) hx hb dX2_countNumbers_104 hl (k := 2) rfl (by rw [e32]; rfl) (by decide) rfl (fun ls hl => ?_)
              have t32 : x32.toInt = w4_2.toInt + (1 : Int) := ga_add e32 rfl rfl (by omega) (by omega)
              refine lv_goto (tgt := 19) hx hb dX2_countNumbers_107 (by decide) ?_
              exact ih4 x32 x25 z31 y4 (show (2000 - x32.toInt : Int) < (n4 : Int) from by omega) ⟨by omega, by omega⟩ J31 _ _ hP hS _ (lv_sub hl [0, 1, 3] rfl)
          · have t21 : r19.toInt ≠ r20.toInt := gl_ne c21
            refine lv_iconst (v := 1) hx hb dX2_countNumbers_46 (by decide) ?_
            refine lv_goto (tgt := 51) hx hb dX2_countNumbers_47 (by decide) ?_
            refine lv_istore_n (lv' := [(3, .int 1), (2, .int w4_2), (1, .int w4_1), (0, .ref (o + 110))]) hx hb dX2_countNumbers_51 rfl hl (by decide) rfl (fun ls hl => ?_)
            refine lv_aload_n hx hb dX2_countNumbers_52 rfl (lv_at hl 3 rfl) ?_
            refine lv_dup hx hb dX2_countNumbers_53 rfl ?_
            refine qf_get hx hb hts inX2 hown hK hP (q0 := 110) (by decide) (hgU_110 ca o) rfl 4 (by decide) wq_236 (v := .int (z4 110 4)) rfl dX2_countNumbers_54 ?_
            refine lv_topi (fun x33 e33 => ?_)
            refine lv_iload_n hx hb dX2_countNumbers_57 rfl (lv_at hl 0 rfl) ?_
            refine lv_if_eq (tgt := 65) hx hb dX2_countNumbers_58 (by decide) (fun q => absurd q (by decide)) (fun _ => ?_)
            refine lv_iconst (v := 1) hx hb dX2_countNumbers_61 (by decide) ?_
            refine lv_goto (tgt := 66) hx hb dX2_countNumbers_62 (by decide) ?_
            refine lv_iadd hx hb dX2_countNumbers_66 ?_
            refine lv_topi (fun x34 e34 => ?_)
            refine qf_put2 hx hb hts inX2 tyX2 tyX2_ok nmX2 hown hK hP hS qw_Ai (q0 := 110) (by decide) (hgU_110 ca o) rfl 4 (by decide) wq_236 rfl (x := x34) 4 rfl rfl rfl (Nat.le_of_ble_eq_true rfl) dX2_countNumbers_67 (fun z35 H locs hz35 hP hS => ?_)
            have J35 := jU_110_4 J4 hz35
            refine lv_iload_n hx hb dX2_countNumbers_70 rfl (lv_at hl 0 rfl) ?_
            refine lv_if_eq (tgt := 78) hx hb dX2_countNumbers_71 (by decide) (fun q => absurd q (by decide)) (fun _ => ?_)
            refine lv_iconst (v := 1) hx hb dX2_countNumbers_74 (by decide) ?_
            refine lv_goto (tgt := 81) hx hb dX2_countNumbers_75 (by decide) ?_
            refine lv_istore_n (lv' := [(1, .int 1), (3, .int 1), (2, .int w4_2), (0, .ref (o + 110))]) hx hb dX2_countNumbers_81 rfl hl (by decide) rfl (fun ls hl => ?_)
            refine lv_iload_n hx hb dX2_countNumbers_82 rfl (lv_at hl 0 rfl) ?_
            refine lv_aload_n hx hb dX2_countNumbers_83 rfl (lv_at hl 3 rfl) ?_
            refine qf_get hx hb hts inX2 hown hK hP (q0 := 110) (by decide) (hgU_110 ca o) rfl 5 (by decide) wq_238 (v := .int (z35 110 5)) rfl dX2_countNumbers_84 ?_
            refine lv_topi (fun x36 e36 => ?_)
            refine lv_icmp_le (tgt := 104) hx hb dX2_countNumbers_87 (by decide) (fun c37 => ?_) (fun c37 => ?_)
            · have t37 : (1 : Int) ≤ x36.toInt := gl_le c37
              obtain ⟨x38, e38⟩ : ∃ t : Int32, t = w4_2 + 1 := ⟨_, rfl⟩
              refine lv_iinc (v := x38) (lv' := [(2, .int x38), (1, .int 1), (3, .int 1), (0, .ref (o + 110))]) hx hb dX2_countNumbers_104 hl (k := 2) rfl (by rw [e38]; rfl) (by decide) rfl (fun ls hl => ?_)
              have t38 : x38.toInt = w4_2.toInt + (1 : Int) := ga_add e38 rfl rfl (by omega) (by omega)
              refine lv_goto (tgt := 19) hx hb dX2_countNumbers_107 (by decide) ?_
              exact ih4 x38 1 z35 y4 (show (2000 - x38.toInt : Int) < (n4 : Int) from by omega) ⟨by omega, by omega⟩ J35 _ _ hP hS _ (lv_sub hl [0, 1, 3] rfl)
            · have t37 : (1 : Int) > x36.toInt := gl_nle c37
              refine lv_aload_n hx hb dX2_countNumbers_90 rfl (lv_at hl 3 rfl) ?_
              refine lv_iload_n hx hb dX2_countNumbers_91 rfl (lv_at hl 0 rfl) ?_
              refine qf_put2 hx hb hts inX2 tyX2 tyX2_ok nmX2 hown hK hP hS qw_Ai (q0 := 110) (by decide) (hgU_110 ca o) rfl 5 (by decide) wq_238 rfl (x := 1) 5 rfl rfl rfl (Nat.le_of_ble_eq_true rfl) dX2_countNumbers_92 (fun z39 H locs hz39 hP hS => ?_)
              have J39 := jU_110_5 J35 hz39
              refine lv_aload_n hx hb dX2_countNumbers_95 rfl (lv_at hl 3 rfl) ?_
              refine lv_aload_n hx hb dX2_countNumbers_96 rfl (lv_at hl 3 rfl) ?_
              refine lv_iload_n hx hb dX2_countNumbers_97 rfl (lv_at hl 2 rfl) ?_
              refine qc_Vip (As := [.int w4_2]) (rest := [.ref (o + 110)]) (k0 := 1) (u_Few_toldAt l D ca o b z39 y4 J39 w4_2 ⟨by omega, by omega⟩) kc_yX2_toldAt ⟨hx, hb, hml, hown, hts⟩ wq_767 rfl rfl ⟨Nat.le_of_ble_eq_true rfl, Nat.le_of_ble_eq_true rfl⟩ wq_all hP hK hS qw_Ai (q0 := 110) (by decide) (hgU_110 ca o _ _) rfl rfl hl.1 rfl (Nat.le_of_ble_eq_true rfl) dX2_countNumbers_98 ⟨Nat.zero_le _, Nat.zero_le _⟩ (fun r40 H locs h40 hP hS _ _ => ?_)
              refine qf_put2 hx hb hts inX2 tyX2 tyX2_ok nmX2 hown hK hP hS qw_Ai (q0 := 110) (by decide) (hgU_110 ca o) rfl 6 (by decide) wq_240 rfl (x := r40) 6 rfl rfl rfl (Nat.le_of_ble_eq_true rfl) dX2_countNumbers_101 (fun z41 H locs hz41 hP hS => ?_)
              have J41 := jU_110_6 J39 hz41
              obtain ⟨x42, e42⟩ : ∃ t : Int32, t = w4_2 + 1 := ⟨_, rfl⟩
              refine lv_iinc (v := x42) (lv' := [(2, .int x42), (1, .int 1), (3, .int 1), (0, .ref (o + 110))]) hx hb dX2_countNumbers_104 hl (k := 2) rfl (by rw [e42]; rfl) (by decide) rfl (fun ls hl => ?_)
              have t42 : x42.toInt = w4_2.toInt + (1 : Int) := ga_add e42 rfl rfl (by omega) (by omega)
              refine lv_goto (tgt := 19) hx hb dX2_countNumbers_107 (by decide) ?_
              exact ih4 x42 1 z41 y4 (show (2000 - x42.toInt : Int) < (n4 : Int) from by omega) ⟨by omega, by omega⟩ J41 _ _ hP hS _ (lv_sub hl [0, 1, 3] rfl)
  exact loop4 2001 0 0 z3 y (show (2000 - (0 : Int) : Int) < ((2001 : Nat) : Int) from by omega) ⟨by decide, by decide⟩ J3 _ _ hP hS _ (lv_sub hl [0, 1, 2] rfl)
