set_option maxRecDepth 100000 in
set_option maxHeartbeats 8000000 in
theorem m_together (l : Launch) (D : va_G) (ca : Nat → ClassId) (o : Nat) (b z : Nat → Nat → Int32) (y : Nat → Nat → Int64) (J0 : qJM b z) (a0 : Int32) (a1 : Int32) (a2 : Int32)  : qM l yX11_together cX11_together 6 (some .int) 5 146 (qPre D vwCl (qT6 ca) o 41 (qG (GM ca o) z y) [.ref (o + 0), .int a0, .int a1, .int a2]) (va_Qi (fun r u => True ∧ qJM b u.1) (qB D vwCl (qT6 ca) o 41 (fun u : qZ => qG (GM ca o) u.1 u.2)) (qw_A o 41)) (qw_A o 41) := by
  refine Met.ofW (cc := cX11_together) (maxL := 6) (ret := (some .int)) (by decide) rfl ?_
  intro p e s m args below meth c s₁ B hml hv
  obtain ⟨rfl, hP, hK⟩ := hv
  have hx := B.exec
  have hb := B.bytes
  have hr := B.returns
  have hts0 := atoms_spec (ws := Cond.code yX11_together cX11_together 6 (some .int) :: qtbl) B.pre
  have hts : ∀ w ∈ qtbl, w.before _ s = true := fun w h => hts0 w (List.mem_cons_of_mem _ h)
  have hown : s.vm.findClass RX11 = some m.cls := findClass_of_methodNamed B.named
  have hlocks := B.notSynchronized
  have hS : va_S (qw_A o 41) s.heap s.heap [] := va_S.rf
  have hl := lv_entry ([.ref (o + 0), .int a0, .int a1, .int a2]) (n := 6) (Nat.le_of_ble_eq_true rfl)
  rw [lg_entry_eq]
  generalize (lg_sl ([.ref (o + 0), .int a0, .int a1, .int a2]) ++ List.replicate (6 - (lg_sl ([.ref (o + 0), .int a0, .int a1, .int a2])).length) Slot.unset).toArray = ls at hl ⊢
  have hl : lv_has ls 6 [(0, .ref (o + 0)), (1, .int a0), (2, .int a1), (3, .int a2)] := hl
  refine lv_aload_n hx hb dX11_together_0 rfl (lv_at hl 0 rfl) ?_
  refine lv_iload_n hx hb dX11_together_1 rfl (lv_at hl 1 rfl) ?_
  refine qc_Vip (As := [.int a0]) (rest := []) (k0 := 1) (m_areRemarks l D ca o b z y J0 a0) kc_yX11_areRemarks ⟨hx, hb, hml, hown, hts⟩ wq_1324 rfl rfl ⟨Nat.le_of_ble_eq_true rfl, Nat.le_of_ble_eq_true rfl⟩ wq_all hP hK hS qw_Ai (q0 := 0) (by decide) (hgM_0 ca o _ _) rfl rfl hl.1 rfl (Nat.le_of_ble_eq_true rfl) dX11_together_2 ⟨Nat.zero_le _, Nat.zero_le _⟩ (fun r1 H locs h1 hP hS _ _ => ?_)
  have b1 : (0 : Int) ≤ r1.toInt ∧ r1.toInt ≤ 1 := h1
  refine lv_if_eq (tgt := 51) hx hb dX11_together_5 (by decide) (fun c2 => ?_) (fun c2 => ?_)
  · have t2 : r1.toInt = (0 : Int) := gl_eq c2
    refine lv_sipush (v := (-4000)) hx hb dX11_together_51 (by decide) ?_
    exact W.iret (v := (-4000)) hx hb hr (fun t ht hW => ⟨⟨(-4000), (z, y), rfl, ⟨trivial, J0⟩, by rw [ht]; exact hP, va_K.moved hW.alike hK⟩, hS.F ht⟩) hS.2.2 dX11_together_54
  · have t2 : r1.toInt ≠ (0 : Int) := gl_ne c2
    refine lv_aload_n hx hb dX11_together_8 rfl (lv_at hl 0 rfl) ?_
    refine lv_iload_n hx hb dX11_together_9 rfl (lv_at hl 2 rfl) ?_
    refine qc_Vip (As := [.int a1]) (rest := []) (k0 := 1) (m_isPerson l D ca o b z y J0 a1) kc_yX11_isPerson ⟨hx, hb, hml, hown, hts⟩ wq_1194 rfl rfl ⟨Nat.le_of_ble_eq_true rfl, Nat.le_of_ble_eq_true rfl⟩ wq_all hP hK hS qw_Ai (q0 := 0) (by decide) (hgM_0 ca o _ _) rfl rfl hl.1 rfl (Nat.le_of_ble_eq_true rfl) dX11_together_10 ⟨Nat.zero_le _, Nat.zero_le _⟩ (fun r3 H locs h3 hP hS _ _ => ?_)
    rcases h3 with ⟨hr3, hf3_0, hf3_1⟩ | ⟨hr3, hf3_0⟩
    · subst hr3
      have hg3_0 : pHas (z 0 4) a1 := hf3_0
      have hg3_1 : 0 ≤ a1.toInt ∧ a1.toInt ≤ 5 := hf3_1
      refine lv_if_eq (tgt := 51) hx hb dX11_together_13 (by decide) (fun q => absurd q (by decide)) (fun _ => ?_)
      refine lv_iload_n hx hb dX11_together_16 rfl (lv_at hl 3 rfl) ?_
      refine lv_if_lt (tgt := 51) hx hb dX11_together_17 (by decide) (fun c4 => ?_) (fun c4 => ?_)
      · have t4 : a2.toInt < (0 : Int) := gl_lt c4
        refine lv_sipush (v := (-4000)) hx hb dX11_together_51 (by decide) ?_
        exact W.iret (v := (-4000)) hx hb hr (fun t ht hW => ⟨⟨(-4000), (z, y), rfl, ⟨trivial, J0⟩, by rw [ht]; exact hP, va_K.moved hW.alike hK⟩, hS.F ht⟩) hS.2.2 dX11_together_54
      · have t4 : a2.toInt ≥ (0 : Int) := gl_nlt c4
        refine lv_iload_n hx hb dX11_together_20 rfl (lv_at hl 3 rfl) ?_
        refine lv_aload_n hx hb dX11_together_21 rfl (lv_at hl 0 rfl) ?_
        refine qf_get hx hb hts inX11 hown hK hP (q0 := 0) (by decide) (hgM_0 ca o) rfl 4 (by decide) wq_997 (v := .int (z 0 4)) rfl dX11_together_22 ?_
        refine lv_topi (fun x5 e5 => ?_)
        refine lv_iconst (v := (-1)) hx hb dX11_together_25 (by decide) ?_
        refine lv_ixor hx hb dX11_together_26 ?_
        refine lv_topi (fun x6 e6 => ?_)
        refine lv_iand hx hb dX11_together_27 ?_
        refine lv_topi (fun x7 e7 => ?_)
        have t7 : 0 ≤ x7.toInt ∧ x7.toInt ≤ a2.toInt := ga_and' e7 rfl (by omega)
        refine lv_if_ne (tgt := 51) hx hb dX11_together_28 (by decide) (fun c8 => ?_) (fun c8 => ?_)
        · have t8 : x7.toInt ≠ (0 : Int) := gl_ne c8
          refine lv_sipush (v := (-4000)) hx hb dX11_together_51 (by decide) ?_
          exact W.iret (v := (-4000)) hx hb hr (fun t ht hW => ⟨⟨(-4000), (z, y), rfl, ⟨trivial, J0⟩, by rw [ht]; exact hP, va_K.moved hW.alike hK⟩, hS.F ht⟩) hS.2.2 dX11_together_54
        · have t8 : x7.toInt = (0 : Int) := gl_eq c8
          refine lv_iload_n hx hb dX11_together_31 rfl (lv_at hl 3 rfl) ?_
          refine lv_iload_n hx hb dX11_together_32 rfl (lv_at hl 2 rfl) ?_
          refine qc_Sip (As := [.int a2, .int a1]) (rest := []) (k0 := 2) (m_has l D ca o b z y J0 a2 a1) kc_yX11_has ⟨hx, hb, hml, hown, hts⟩ wq_1198 rfl rfl ⟨Nat.le_of_ble_eq_true rfl, Nat.le_of_ble_eq_true rfl⟩ wq_all hP hK hS qw_Ai rfl hl.1 rfl (Nat.le_of_ble_eq_true rfl) dX11_together_33 ⟨Nat.zero_le _, Nat.zero_le _⟩ (fun r9 H locs h9 hP hS _ _ => ?_)
          rcases h9 with ⟨hr9, hf9_0⟩ | ⟨hr9, hf9_0⟩
          · subst hr9
            have hg9_0 : bitAt a2 a1 ≠ 0 := hf9_0
            refine lv_if_ne (tgt := 51) hx hb dX11_together_36 (by decide) (fun _ => ?_) (fun q => absurd q (by decide))
            refine lv_sipush (v := (-4000)) hx hb dX11_together_51 (by decide) ?_
            exact W.iret (v := (-4000)) hx hb hr (fun t ht hW => ⟨⟨(-4000), (z, y), rfl, ⟨trivial, J0⟩, by rw [ht]; exact hP, va_K.moved hW.alike hK⟩, hS.F ht⟩) hS.2.2 dX11_together_54
          · subst hr9
            have hg9_0 : bitAt a2 a1 = 0 := hf9_0
            refine lv_if_ne (tgt := 51) hx hb dX11_together_36 (by decide) (fun q => absurd q (by decide)) (fun _ => ?_)
            refine lv_iload_n hx hb dX11_together_39 rfl (lv_at hl 3 rfl) ?_
            refine qc_Sip (As := [.int a2]) (rest := []) (k0 := 1) (m_bits l D ca o b z y J0 a2) kc_yX11_bits ⟨hx, hb, hml, hown, hts⟩ wq_1296 rfl rfl ⟨Nat.le_of_ble_eq_true rfl, Nat.le_of_ble_eq_true rfl⟩ wq_all hP hK hS qw_Ai rfl hl.1 rfl (Nat.le_of_ble_eq_true rfl) dX11_together_40 ⟨Nat.zero_le _, Nat.zero_le _⟩ (fun r10 H locs h10 hP hS _ _ => ?_)
            have p10_1 : r10 = bsum a2 16 := h10.2
            refine lv_iconst (v := 2) hx hb dX11_together_43 (by decide) ?_
            refine lv_iconst (v := 5) hx hb dX11_together_44 (by decide) ?_
            refine qc_Sip (As := [.int r10, .int 2, .int 5]) (rest := []) (k0 := 3) (m_in l D ca o b z y J0 r10 2 5) kc_yX11_in ⟨hx, hb, hml, hown, hts⟩ wq_1187 rfl rfl ⟨Nat.le_of_ble_eq_true rfl, Nat.le_of_ble_eq_true rfl⟩ wq_all hP hK hS qw_Ai rfl hl.1 rfl (Nat.le_of_ble_eq_true rfl) dX11_together_45 ⟨Nat.zero_le _, Nat.zero_le _⟩ (fun r11 H locs h11 hP hS _ _ => ?_)
            rcases h11 with ⟨hr11, hf11_0⟩ | ⟨hr11, hf11_0⟩
            · subst hr11
              have hg11_0 : (2 : Int) ≤ r10.toInt ∧ r10.toInt ≤ (5 : Int) := hf11_0
              refine lv_if_ne (tgt := 55) hx hb dX11_together_48 (by decide) (fun _ => ?_) (fun q => absurd q (by decide))
              refine lv_aload_n hx hb dX11_together_55 rfl (lv_at hl 0 rfl) ?_
              refine qc_Vip (As := []) (rest := []) (k0 := 0) (m_rowMany l D ca o b z y J0) kc_yX11_rowMany ⟨hx, hb, hml, hown, hts⟩ wq_1315 rfl rfl ⟨Nat.le_of_ble_eq_true rfl, Nat.le_of_ble_eq_true rfl⟩ wq_all hP hK hS qw_Ai (q0 := 0) (by decide) (hgM_0 ca o _ _) rfl rfl hl.1 rfl (Nat.le_of_ble_eq_true rfl) dX11_together_56 ⟨Nat.zero_le _, Nat.zero_le _⟩ (fun r12 H locs h12 hP hS _ _ => ?_)
              have p12_1 : rmI z 6 r12 := h12.2
              refine lv_ldcw (v := 200000) hx hb hown (hts _ wq_1319) dX11_together_59 ?_
              refine lv_icmp_le (tgt := 69) hx hb dX11_together_62 (by decide) (fun c13 => ?_) (fun c13 => ?_)
              · have t13 : r12.toInt ≤ (200000 : Int) := gl_le c13
                refine lv_aload_n hx hb dX11_together_69 rfl (lv_at hl 0 rfl) ?_
                refine lv_iload_n hx hb dX11_together_70 rfl (lv_at hl 1 rfl) ?_
                refine qc_Vi2 (As := [.int a0]) (rest := []) (k0 := 1) (m_findsRow l D ca o b z y J0 a0) kc_yX11_findsRow ⟨hx, hb, hml, hown, hts⟩ wq_1332 rfl rfl ⟨Nat.le_of_ble_eq_true rfl, Nat.le_of_ble_eq_true rfl⟩ wq_all hP hK hS qw_Ai (q0 := 0) (by decide) (hgM_0 ca o _ _) rfl rfl hl.1 rfl (Nat.le_of_ble_eq_true rfl) dX11_together_71 ⟨Nat.zero_le _, Nat.zero_le _⟩ (fun r14 z14 y14 H locs h14 hP hS _ _ => ?_)
                have J14 : qJM b z14 := h14.2
                have b14 : (0 : Int) ≤ r14.toInt ∧ r14.toInt ≤ 1 := h14.1
                refine lv_if_ne (tgt := 81) hx hb dX11_together_74 (by decide) (fun c15 => ?_) (fun c15 => ?_)
                · have t15 : r14.toInt ≠ (0 : Int) := gl_ne c15
                  refine lv_aload_n hx hb dX11_together_81 rfl (lv_at hl 0 rfl) ?_
                  refine qf_get hx hb hts inX11 hown hK hP (q0 := 0) (by decide) (hgM_0 ca o) rfl 36 (by decide) wq_1028 (v := .ref (o + 23)) rfl dX11_together_82 ?_
                  refine lv_iload_n hx hb dX11_together_85 rfl (lv_at hl 2 rfl) ?_
                  refine qa_iald hx hb hK hP (q0 := 23) (by decide) 0 (N := 6) (hgM_23 ca o) rfl (gi_in (by omega) (by omega)) dX11_together_86 ?_
                  refine lv_topi (fun x16 e16 => ?_)
                  have b16 := iM_23 J14 e16
                  refine lv_aload_n hx hb dX11_together_87 rfl (lv_at hl 0 rfl) ?_
                  refine qf_get hx hb hts inX11 hown hK hP (q0 := 0) (by decide) (hgM_0 ca o) rfl 5 (by decide) wq_998 (v := .int (z14 0 5)) rfl dX11_together_88 ?_
                  refine lv_topi (fun x17 e17 => ?_)
                  have b17 := iM_0_5 J14 e17
                  refine lv_iadd hx hb dX11_together_91 ?_
                  refine lv_topi (fun x18 e18 => ?_)
                  have t18 : x18.toInt = x16.toInt + x17.toInt := ga_add e18 rfl rfl (by omega) (by omega)
                  refine lv_istore (lv' := [(4, .int x18), (0, .ref (o + 0)), (1, .int a0), (2, .int a1), (3, .int a2)]) hx hb dX11_together_92 hl (by decide) rfl (fun ls hl => ?_)
                  refine lv_iconst (v := 0) hx hb dX11_together_94 (by decide) ?_
                  refine lv_istore (lv' := [(5, .int 0), (4, .int x18), (0, .ref (o + 0)), (1, .int a0), (2, .int a1), (3, .int a2)]) hx hb dX11_together_95 hl (by decide) rfl (fun ls hl => ?_)
                  have loop19 : ∀ (n : Nat) (w19_5 : Int32) (w19_4 : Int32), ((6 - w19_5.toInt : Int) < (n : Int)) → ((0 : Int) ≤ w19_5.toInt ∧ w19_5.toInt ≤ 6) → ∀ (H : Heap) (locs : List Loc), qw_P D vwCl o 41 (qG (GM ca o) z14 y14) H → va_S (qw_A o 41) s.heap H locs → ∀ (ls : Array Slot), lv_has ls 6 [(5, .int w19_5), (4, .int w19_4), (0, .ref (o + 0)), (1, .int a0), (2, .int a1), (3, .int a2)] → W p l e (headSpec (Cond.code yX11_together cX11_together 6 (some .int) :: qtbl) ({ frames := 5, cells := 0, slots := 0, locals := 146 })).room s m (([.ref (o + 0), .int a0, .int a1, .int a2] : List Value).toArray) below meth c H locs 0 0 (MQ below (va_Qi (fun r u => True ∧ qJM b u.1) (qB D vwCl (qT6 ca) o 41 (fun u : qZ => qG (GM ca o) u.1 u.2)) (qw_A o 41)) (([.ref (o + 0), .int a0, .int a1, .int a2] : List Value).toArray) s 0 0 (qw_A o 41)) (F0 m 97 ls []) := by
                    intro n
                    induction n with
                    | zero => intro w19_5 w19_4 hb19 hv19_5; exfalso; omega
                    | succ n19 ih19 =>
                      intro w19_5 w19_4 hb19 hv19_5 H locs hP hS ls hl
                      refine lv_iload hx hb dX11_together_97 (lv_at hl 0 rfl) ?_
                      refine lv_bipush (v := 6) hx hb dX11_together_99 (by decide) ?_
                      refine lv_icmp_ge (tgt := 136) hx hb dX11_together_101 (by decide) (fun c20 => ?_) (fun c20 => ?_)
                      · have t20 : w19_5.toInt ≥ (6 : Int) := gl_le c20
                        refine lv_iload_n hx hb dX11_together_136 rfl (lv_at hl 5 rfl) ?_
                        refine qc_Sip (As := [.int a2]) (rest := []) (k0 := 1) (m_bits l D ca o b z14 y14 J14 a2) kc_yX11_bits ⟨hx, hb, hml, hown, hts⟩ wq_1296 rfl rfl ⟨Nat.le_of_ble_eq_true rfl, Nat.le_of_ble_eq_true rfl⟩ wq_all hP hK hS qw_Ai rfl hl.1 rfl (Nat.le_of_ble_eq_true rfl) dX11_together_137 ⟨Nat.zero_le _, Nat.zero_le _⟩ (fun r21 H locs h21 hP hS _ _ => ?_)
                        have p21_1 : r21 = bsum a2 16 := h21.2
                        have bb21 : r21.toInt = r10.toInt := congrArg Int32.toInt (p21_1.trans p10_1.symm)
                        refine lv_iconst (v := 1) hx hb dX11_together_140 (by decide) ?_
                        refine lv_isub hx hb dX11_together_141 ?_
                        refine lv_topi (fun x22 e22 => ?_)
                        have t22 : x22.toInt = r21.toInt - (1 : Int) := ga_sub e22 rfl rfl (by omega) (by omega)
                        refine lv_istore (lv' := [(5, .int x22), (4, .int w19_4), (0, .ref (o + 0)), (1, .int a0), (2, .int a1), (3, .int a2)]) hx hb dX11_together_142 hl (by decide) rfl (fun ls hl => ?_)
                        refine lv_iload hx hb dX11_together_144 (lv_at hl 1 rfl) ?_
                        refine lv_iload hx hb dX11_together_146 (lv_at hl 0 rfl) ?_
                        refine lv_irem hx hb dX11_together_148 (gr_ne (show x22.toInt ≠ (0 : Int) from by omega)) ?_
                        refine lv_topi (fun x23 e23 => ?_)
                        refine lv_if_ne (tgt := 160) hx hb dX11_together_149 (by decide) (fun c24 => ?_) (fun c24 => ?_)
                        · have t24 : x23.toInt ≠ (0 : Int) := gl_ne c24
                          refine lv_sipush (v := (-1000)) hx hb dX11_together_160 (by decide) ?_
                          exact W.iret (v := (-1000)) hx hb hr (fun t ht hW => ⟨⟨(-1000), (z14, y14), rfl, ⟨trivial, J14⟩, by rw [ht]; exact hP, va_K.moved hW.alike hK⟩, hS.F ht⟩) hS.2.2 dX11_together_163
                        · have t24 : x23.toInt = (0 : Int) := gl_eq c24
                          refine lv_iload hx hb dX11_together_152 (lv_at hl 1 rfl) ?_
                          refine lv_iload hx hb dX11_together_154 (lv_at hl 0 rfl) ?_
                          refine lv_idiv hx hb dX11_together_156 (gr_ne (show x22.toInt ≠ (0 : Int) from by omega)) ?_
                          refine lv_topi (fun x25 e25 => ?_)
                          refine lv_goto (tgt := 163) hx hb dX11_together_157 (by decide) ?_
                          exact W.iret (v := x25) hx hb hr (fun t ht hW => ⟨⟨x25, (z14, y14), rfl, ⟨trivial, J14⟩, by rw [ht]; exact hP, va_K.moved hW.alike hK⟩, hS.F ht⟩) hS.2.2 dX11_together_163
                      · have t20 : w19_5.toInt < (6 : Int) := gl_nle c20
                        refine lv_iload_n hx hb dX11_together_104 rfl (lv_at hl 5 rfl) ?_
                        refine lv_iload hx hb dX11_together_105 (lv_at hl 0 rfl) ?_
                        refine qc_Sip (As := [.int a2, .int w19_5]) (rest := []) (k0 := 2) (m_has l D ca o b z14 y14 J14 a2 w19_5) kc_yX11_has ⟨hx, hb, hml, hown, hts⟩ wq_1198 rfl rfl ⟨Nat.le_of_ble_eq_true rfl, Nat.le_of_ble_eq_true rfl⟩ wq_all hP hK hS qw_Ai rfl hl.1 rfl (Nat.le_of_ble_eq_true rfl) dX11_together_107 ⟨Nat.zero_le _, Nat.zero_le _⟩ (fun r26 H locs h26 hP hS _ _ => ?_)
                        rcases h26 with ⟨hr26, hf26_0⟩ | ⟨hr26, hf26_0⟩
                        · subst hr26
                          have hg26_0 : bitAt a2 w19_5 ≠ 0 := hf26_0
                          refine lv_if_eq (tgt := 130) hx hb dX11_together_110 (by decide) (fun q => absurd q (by decide)) (fun _ => ?_)
                          refine lv_iload hx hb dX11_together_113 (lv_at hl 1 rfl) ?_
                          refine lv_aload_n hx hb dX11_together_115 rfl (lv_at hl 2 rfl) ?_
                          refine qf_get hx hb hts inX11 hown hK hP (q0 := 0) (by decide) (hgM_0 ca o) rfl 36 (by decide) wq_1028 (v := .ref (o + 23)) rfl dX11_together_116 ?_
                          refine lv_iload hx hb dX11_together_119 (lv_at hl 0 rfl) ?_
                          refine qa_iald hx hb hK hP (q0 := 23) (by decide) 0 (N := 6) (hgM_23 ca o) rfl (gi_in (by omega) (by omega)) dX11_together_121 ?_
                          refine lv_topi (fun x27 e27 => ?_)
                          have b27 := iM_23 J14 e27
                          refine lv_isub hx hb dX11_together_122 ?_
                          refine lv_topi (fun x28 e28 => ?_)
                          refine lv_aload_n hx hb dX11_together_123 rfl (lv_at hl 2 rfl) ?_
                          refine qf_get hx hb hts inX11 hown hK hP (q0 := 0) (by decide) (hgM_0 ca o) rfl 5 (by decide) wq_998 (v := .int (z14 0 5)) rfl dX11_together_124 ?_
                          refine lv_topi (fun x29 e29 => ?_)
                          have b29 := iM_0_5 J14 e29
                          have ag29 : x29.toInt = x17.toInt := congrArg Int32.toInt (e29.trans e17.symm)
                          refine lv_isub hx hb dX11_together_127 ?_
                          refine lv_topi (fun x30 e30 => ?_)
                          refine lv_istore (lv' := [(4, .int x30), (5, .int w19_5), (0, .ref (o + 0)), (1, .int a0), (2, .int a1), (3, .int a2)]) hx hb dX11_together_128 hl (by decide) rfl (fun ls hl => ?_)
                          obtain ⟨x31, e31⟩ : ∃ t : Int32, t = w19_5 + 1 := ⟨_, rfl⟩
                          refine lv_iinc (v := x31) (lv' := [(5, .int x31), (4, .int x30), (0, .ref (o + 0)), (1, .int a0), (2, .int a1), (3, .int a2)]) hx hb dX11_together_130 hl (k := 1) rfl (by rw [e31]; rfl) (by decide) rfl (fun ls hl => ?_)
                          have t31 : x31.toInt = w19_5.toInt + (1 : Int) := ga_add e31 rfl rfl (by omega) (by omega)
                          refine lv_goto (tgt := 97) hx hb dX11_together_133 (by decide) ?_
                          exact ih19 x31 x30 (show (6 - x31.toInt : Int) < (n19 : Int) from by omega) ⟨by omega, by omega⟩ _ _ hP hS _ (lv_sub hl [0, 1, 2, 3, 4, 5] rfl)
                        · subst hr26
                          have hg26_0 : bitAt a2 w19_5 = 0 := hf26_0
                          refine lv_if_eq (tgt := 130) hx hb dX11_together_110 (by decide) (fun _ => ?_) (fun q => absurd (by decide) q)
                          obtain ⟨x32, e32⟩ : ∃ t : Int32, t = w19_5 + 1 := ⟨_, rfl⟩
                          refine lv_iinc (v := x32) (lv' := [(5, .int x32), (4, .int w19_4), (0, .ref (o + 0)), (1, .int a0), (2, .int a1), (3, .int a2)]) hx hb dX11_together_130 hl (k := 0) rfl (by rw [e32]; rfl) (by decide) rfl (fun ls hl => ?_)
                          have t32 : x32.toInt = w19_5.toInt + (1 : Int) := ga_add e32 rfl rfl (by omega) (by omega)
                          refine lv_goto (tgt := 97) hx hb dX11_together_133 (by decide) ?_
                          exact ih19 x32 w19_4 (show (6 - x32.toInt : Int) < (n19 : Int) from by omega) ⟨by omega, by omega⟩ _ _ hP hS _ (lv_sub hl [0, 1, 2, 3, 4, 5] rfl)
                  exact loop19 7 0 x18 (show (6 - (0 : Int) : Int) < ((7 : Nat) : Int) from by omega) ⟨by decide, by decide⟩ _ _ hP hS _ (lv_sub hl [0, 1, 2, 3, 4, 5] rfl)
                · have t15 : r14.toInt = (0 : Int) := gl_eq c15
                  refine lv_sipush (v := (-2000)) hx hb dX11_together_77 (by decide) ?_
                  exact W.iret (v := (-2000)) hx hb hr (fun t ht hW => ⟨⟨(-2000), (z14, y14), rfl, ⟨trivial, J14⟩, by rw [ht]; exact hP, va_K.moved hW.alike hK⟩, hS.F ht⟩) hS.2.2 dX11_together_80
              · have t13 : r12.toInt > (200000 : Int) := gl_nle c13
                refine lv_sipush (v := (-3000)) hx hb dX11_together_65 (by decide) ?_
                exact W.iret (v := (-3000)) hx hb hr (fun t ht hW => ⟨⟨(-3000), (z, y), rfl, ⟨trivial, J0⟩, by rw [ht]; exact hP, va_K.moved hW.alike hK⟩, hS.F ht⟩) hS.2.2 dX11_together_68
            · subst hr11
              have hg11_0 : ¬ ((2 : Int) ≤ r10.toInt ∧ r10.toInt ≤ (5 : Int)) := hf11_0
              refine lv_if_ne (tgt := 55) hx hb dX11_together_48 (by decide) (fun q => absurd q (by decide)) (fun _ => ?_)
              refine lv_sipush (v := (-4000)) hx hb dX11_together_51 (by decide) ?_
              exact W.iret (v := (-4000)) hx hb hr (fun t ht hW => ⟨⟨(-4000), (z, y), rfl, ⟨trivial, J0⟩, by rw [ht]; exact hP, va_K.moved hW.alike hK⟩, hS.F ht⟩) hS.2.2 dX11_together_54
    · subst hr3
      have hg3_0 : ¬ pHas (z 0 4) a1 := hf3_0
      refine lv_if_eq (tgt := 51) hx hb dX11_together_13 (by decide) (fun _ => ?_) (fun q => absurd (by decide) q)
      refine lv_sipush (v := (-4000)) hx hb dX11_together_51 (by decide) ?_
      exact W.iret (v := (-4000)) hx hb hr (fun t ht hW => ⟨⟨(-4000), (z, y), rfl, ⟨trivial, J0⟩, by rw [ht]; exact hP, va_K.moved hW.alike hK⟩, hS.F ht⟩) hS.2.2 dX11_together_54
set_option maxRecDepth 100000 in
set_option maxHeartbeats 8000000 in
theorem m_areTwo (l : Launch) (D : va_G) (ca : Nat → ClassId) (o : Nat) (b z : Nat → Nat → Int32) (y : Nat → Nat → Int64) (J0 : qJM b z) (a0 : Int32) (a1 : Int32)  : qM l yX11_areTwo cX11_areTwo 3 (some .boolean) 3 103 (qPre D vwCl (qT6 ca) o 41 (qG (GM ca o) z y) [.ref (o + 0), .int a0, .int a1]) (va_Qi (fun r (_ : Unit) => ((r = 1 ∧ (pHas (z 0 4) a0 ∧ pHas (z 0 4) a1 ∧ a0.toInt ≠ a1.toInt) ∧ (0 ≤ a0.toInt ∧ a0.toInt ≤ 5 ∧ 0 ≤ a1.toInt ∧ a1.toInt ≤ 5)) ∨ (r = 0 ∧ (¬ (pHas (z 0 4) a0 ∧ pHas (z 0 4) a1 ∧ a0.toInt ≠ a1.toInt))))) (qB D vwCl (qT6 ca) o 41 (fun _ : Unit => qG (GM ca o) z y)) (qw_A o 41)) (qw_A o 41) := by
  refine Met.ofW (cc := cX11_areTwo) (maxL := 3) (ret := (some .boolean)) (by decide) rfl ?_
  intro p e s m args below meth c s₁ B hml hv
  obtain ⟨rfl, hP, hK⟩ := hv
  have hx := B.exec
  have hb := B.bytes
  have hr := B.returns
  have hts0 := atoms_spec (ws := Cond.code yX11_areTwo cX11_areTwo 3 (some .boolean) :: qtbl) B.pre
  have hts : ∀ w ∈ qtbl, w.before _ s = true := fun w h => hts0 w (List.mem_cons_of_mem _ h)
  have hown : s.vm.findClass RX11 = some m.cls := findClass_of_methodNamed B.named
  have hlocks := B.notSynchronized
  have hS : va_S (qw_A o 41) s.heap s.heap [] := va_S.rf
  have hl := lv_entry ([.ref (o + 0), .int a0, .int a1]) (n := 3) (Nat.le_of_ble_eq_true rfl)
  rw [lg_entry_eq]
  generalize (lg_sl ([.ref (o + 0), .int a0, .int a1]) ++ List.replicate (3 - (lg_sl ([.ref (o + 0), .int a0, .int a1])).length) Slot.unset).toArray = ls at hl ⊢
  have hl : lv_has ls 3 [(0, .ref (o + 0)), (1, .int a0), (2, .int a1)] := hl
  refine lv_aload_n hx hb dX11_areTwo_0 rfl (lv_at hl 0 rfl) ?_
  refine lv_iload_n hx hb dX11_areTwo_1 rfl (lv_at hl 1 rfl) ?_
  refine qc_Vip (As := [.int a0]) (rest := []) (k0 := 1) (m_isPerson l D ca o b z y J0 a0) kc_yX11_isPerson ⟨hx, hb, hml, hown, hts⟩ wq_1194 rfl rfl ⟨Nat.le_of_ble_eq_true rfl, Nat.le_of_ble_eq_true rfl⟩ wq_all hP hK hS qw_Ai (q0 := 0) (by decide) (hgM_0 ca o _ _) rfl rfl hl.1 rfl (Nat.le_of_ble_eq_true rfl) dX11_areTwo_2 ⟨Nat.zero_le _, Nat.zero_le _⟩ (fun r1 H locs h1 hP hS _ _ => ?_)
  rcases h1 with ⟨hr1, hf1_0, hf1_1⟩ | ⟨hr1, hf1_0⟩
  · subst hr1
    have hg1_0 : pHas (z 0 4) a0 := hf1_0
    have hg1_1 : 0 ≤ a0.toInt ∧ a0.toInt ≤ 5 := hf1_1
    refine lv_if_eq (tgt := 25) hx hb dX11_areTwo_5 (by decide) (fun q => absurd q (by decide)) (fun _ => ?_)
    refine lv_aload_n hx hb dX11_areTwo_8 rfl (lv_at hl 0 rfl) ?_
    refine lv_iload_n hx hb dX11_areTwo_9 rfl (lv_at hl 2 rfl) ?_
    refine qc_Vip (As := [.int a1]) (rest := []) (k0 := 1) (m_isPerson l D ca o b z y J0 a1) kc_yX11_isPerson ⟨hx, hb, hml, hown, hts⟩ wq_1194 rfl rfl ⟨Nat.le_of_ble_eq_true rfl, Nat.le_of_ble_eq_true rfl⟩ wq_all hP hK hS qw_Ai (q0 := 0) (by decide) (hgM_0 ca o _ _) rfl rfl hl.1 rfl (Nat.le_of_ble_eq_true rfl) dX11_areTwo_10 ⟨Nat.zero_le _, Nat.zero_le _⟩ (fun r2 H locs h2 hP hS _ _ => ?_)
    rcases h2 with ⟨hr2, hf2_0, hf2_1⟩ | ⟨hr2, hf2_0⟩
    · subst hr2
      have hg2_0 : pHas (z 0 4) a1 := hf2_0
      have hg2_1 : 0 ≤ a1.toInt ∧ a1.toInt ≤ 5 := hf2_1
      refine lv_if_eq (tgt := 25) hx hb dX11_areTwo_13 (by decide) (fun q => absurd q (by decide)) (fun _ => ?_)
      refine lv_iload_n hx hb dX11_areTwo_16 rfl (lv_at hl 1 rfl) ?_
      refine lv_iload_n hx hb dX11_areTwo_17 rfl (lv_at hl 2 rfl) ?_
      refine lv_icmp_eq (tgt := 25) hx hb dX11_areTwo_18 (by decide) (fun c3 => ?_) (fun c3 => ?_)
      · have t3 : a0.toInt = a1.toInt := gl_eq c3
        refine lv_iconst (v := 0) hx hb dX11_areTwo_25 (by decide) ?_
        exact W.zret (v := 0) (ty := .boolean) hx hb hr rfl (fun t ht hW => ⟨⟨0, (), rfl, Or.inr ⟨rfl, (fun h => h.2.2 (by omega))⟩, by rw [ht]; exact hP, va_K.moved hW.alike hK⟩, hS.F ht⟩) hS.2.2 dX11_areTwo_26
      · have t3 : a0.toInt ≠ a1.toInt := gl_ne c3
        refine lv_iconst (v := 1) hx hb dX11_areTwo_21 (by decide) ?_
        refine lv_goto (tgt := 26) hx hb dX11_areTwo_22 (by decide) ?_
        exact W.zret (v := 1) (ty := .boolean) hx hb hr rfl (fun t ht hW => ⟨⟨1, (), rfl, Or.inl ⟨rfl, ⟨hg1_0, hg2_0, by omega⟩, ⟨by omega, by omega, by omega, by omega⟩⟩, by rw [ht]; exact hP, va_K.moved hW.alike hK⟩, hS.F ht⟩) hS.2.2 dX11_areTwo_26
    · subst hr2
      have hg2_0 : ¬ pHas (z 0 4) a1 := hf2_0
      refine lv_if_eq (tgt := 25) hx hb dX11_areTwo_13 (by decide) (fun _ => ?_) (fun q => absurd (by decide) q)
      refine lv_iconst (v := 0) hx hb dX11_areTwo_25 (by decide) ?_
      exact W.zret (v := 0) (ty := .boolean) hx hb hr rfl (fun t ht hW => ⟨⟨0, (), rfl, Or.inr ⟨rfl, (fun h => hg2_0 h.2.1)⟩, by rw [ht]; exact hP, va_K.moved hW.alike hK⟩, hS.F ht⟩) hS.2.2 dX11_areTwo_26
  · subst hr1
    have hg1_0 : ¬ pHas (z 0 4) a0 := hf1_0
    refine lv_if_eq (tgt := 25) hx hb dX11_areTwo_5 (by decide) (fun _ => ?_) (fun q => absurd (by decide) q)
    refine lv_iconst (v := 0) hx hb dX11_areTwo_25 (by decide) ?_
    exact W.zret (v := 0) (ty := .boolean) hx hb hr rfl (fun t ht hW => ⟨⟨0, (), rfl, Or.inr ⟨rfl, (fun h => hg1_0 h.1)⟩, by rw [ht]; exact hP, va_K.moved hW.alike hK⟩, hS.F ht⟩) hS.2.2 dX11_areTwo_26
set_option maxRecDepth 100000 in
set_option maxHeartbeats 8000000 in
theorem m_areTurned (l : Launch) (D : va_G) (ca : Nat → ClassId) (o : Nat) (b z : Nat → Nat → Int32) (y : Nat → Nat → Int64) (J0 : qJM b z) (a0 : Int32) (a1 : Int32)  : qM l yX11_areTurned cX11_areTurned 2 (some .boolean) 2 82 (qPre D vwCl (qT6 ca) o 41 (qG (GM ca o) z y) [.int a0, .int a1]) (va_Qi (fun r (_ : Unit) => ((0 : Int) ≤ r.toInt ∧ r.toInt ≤ 1)) (qB D vwCl (qT6 ca) o 41 (fun _ : Unit => qG (GM ca o) z y)) (qw_A o 41)) (qw_A o 41) := by
  refine Met.ofW (cc := cX11_areTurned) (maxL := 2) (ret := (some .boolean)) (by decide) rfl ?_
  intro p e s m args below meth c s₁ B hml hv
  obtain ⟨rfl, hP, hK⟩ := hv
  have hx := B.exec
  have hb := B.bytes
  have hr := B.returns
  have hts0 := atoms_spec (ws := Cond.code yX11_areTurned cX11_areTurned 2 (some .boolean) :: qtbl) B.pre
  have hts : ∀ w ∈ qtbl, w.before _ s = true := fun w h => hts0 w (List.mem_cons_of_mem _ h)
  have hown : s.vm.findClass RX11 = some m.cls := findClass_of_methodNamed B.named
  have hlocks := B.notSynchronized
  have hS : va_S (qw_A o 41) s.heap s.heap [] := va_S.rf
  have hl := lv_entry ([.int a0, .int a1]) (n := 2) (Nat.le_of_ble_eq_true rfl)
  rw [lg_entry_eq]
  generalize (lg_sl ([.int a0, .int a1]) ++ List.replicate (2 - (lg_sl ([.int a0, .int a1])).length) Slot.unset).toArray = ls at hl ⊢
  have hl : lv_has ls 2 [(0, .int a0), (1, .int a1)] := hl
  refine lv_iload_n hx hb dX11_areTurned_0 rfl (lv_at hl 0 rfl) ?_
  refine lv_bipush (v := 10) hx hb dX11_areTurned_1 (by decide) ?_
  refine lv_bipush (v := 99) hx hb dX11_areTurned_3 (by decide) ?_
  refine qc_Sip (As := [.int a0, .int 10, .int 99]) (rest := []) (k0 := 3) (m_in l D ca o b z y J0 a0 10 99) kc_yX11_in ⟨hx, hb, hml, hown, hts⟩ wq_1187 rfl rfl ⟨Nat.le_of_ble_eq_true rfl, Nat.le_of_ble_eq_true rfl⟩ wq_all hP hK hS qw_Ai rfl hl.1 rfl (Nat.le_of_ble_eq_true rfl) dX11_areTurned_5 ⟨Nat.zero_le _, Nat.zero_le _⟩ (fun r1 H locs h1 hP hS _ _ => ?_)
  rcases h1 with ⟨hr1, hf1_0⟩ | ⟨hr1, hf1_0⟩
  · subst hr1
    have hg1_0 : (10 : Int) ≤ a0.toInt ∧ a0.toInt ≤ (99 : Int) := hf1_0
    refine lv_if_eq (tgt := 48) hx hb dX11_areTurned_8 (by decide) (fun q => absurd q (by decide)) (fun _ => ?_)
    refine lv_iload_n hx hb dX11_areTurned_11 rfl (lv_at hl 1 rfl) ?_
    refine lv_bipush (v := 10) hx hb dX11_areTurned_12 (by decide) ?_
    refine lv_bipush (v := 99) hx hb dX11_areTurned_14 (by decide) ?_
    refine qc_Sip (As := [.int a1, .int 10, .int 99]) (rest := []) (k0 := 3) (m_in l D ca o b z y J0 a1 10 99) kc_yX11_in ⟨hx, hb, hml, hown, hts⟩ wq_1187 rfl rfl ⟨Nat.le_of_ble_eq_true rfl, Nat.le_of_ble_eq_true rfl⟩ wq_all hP hK hS qw_Ai rfl hl.1 rfl (Nat.le_of_ble_eq_true rfl) dX11_areTurned_16 ⟨Nat.zero_le _, Nat.zero_le _⟩ (fun r2 H locs h2 hP hS _ _ => ?_)
    rcases h2 with ⟨hr2, hf2_0⟩ | ⟨hr2, hf2_0⟩
    · subst hr2
      have hg2_0 : (10 : Int) ≤ a1.toInt ∧ a1.toInt ≤ (99 : Int) := hf2_0
      refine lv_if_eq (tgt := 48) hx hb dX11_areTurned_19 (by decide) (fun q => absurd q (by decide)) (fun _ => ?_)
      refine lv_iload_n hx hb dX11_areTurned_22 rfl (lv_at hl 0 rfl) ?_
      refine lv_bipush (v := 10) hx hb dX11_areTurned_23 (by decide) ?_
      refine lv_idiv hx hb dX11_areTurned_25 (by decide) ?_
      refine lv_topi (fun x3 e3 => ?_)
      have t3 : x3.toInt = a0.toInt / 10 := ga_div e3 rfl (by omega) (by decide)
      refine lv_iload_n hx hb dX11_areTurned_26 rfl (lv_at hl 1 rfl) ?_
      refine lv_bipush (v := 10) hx hb dX11_areTurned_27 (by decide) ?_
      refine lv_irem hx hb dX11_areTurned_29 (by decide) ?_
      refine lv_topi (fun x4 e4 => ?_)
      have t4 : x4.toInt = a1.toInt % 10 := ga_rem e4 rfl (by omega) (by decide)
      refine lv_icmp_ne (tgt := 48) hx hb dX11_areTurned_30 (by decide) (fun c5 => ?_) (fun c5 => ?_)
      · have t5 : x3.toInt ≠ x4.toInt := gl_ne c5
        refine lv_iconst (v := 0) hx hb dX11_areTurned_48 (by decide) ?_
        exact W.zret (v := 0) (ty := .boolean) hx hb hr rfl (fun t ht hW => ⟨⟨0, (), rfl, ⟨by decide, by decide⟩, by rw [ht]; exact hP, va_K.moved hW.alike hK⟩, hS.F ht⟩) hS.2.2 dX11_areTurned_49
      · have t5 : x3.toInt = x4.toInt := gl_eq c5
        refine lv_iload_n hx hb dX11_areTurned_33 rfl (lv_at hl 0 rfl) ?_
        refine lv_bipush (v := 10) hx hb dX11_areTurned_34 (by decide) ?_
        refine lv_irem hx hb dX11_areTurned_36 (by decide) ?_
        refine lv_topi (fun x6 e6 => ?_)
        have t6 : x6.toInt = a0.toInt % 10 := ga_rem e6 rfl (by omega) (by decide)
        refine lv_iload_n hx hb dX11_areTurned_37 rfl (lv_at hl 1 rfl) ?_
        refine lv_bipush (v := 10) hx hb dX11_areTurned_38 (by decide) ?_
        refine lv_idiv hx hb dX11_areTurned_40 (by decide) ?_
        refine lv_topi (fun x7 e7 => ?_)
        have t7 : x7.toInt = a1.toInt / 10 := ga_div e7 rfl (by omega) (by decide)
        refine lv_icmp_ne (tgt := 48) hx hb dX11_areTurned_41 (by decide) (fun c8 => ?_) (fun c8 => ?_)
        · have t8 : x6.toInt ≠ x7.toInt := gl_ne c8
          refine lv_iconst (v := 0) hx hb dX11_areTurned_48 (by decide) ?_
          exact W.zret (v := 0) (ty := .boolean) hx hb hr rfl (fun t ht hW => ⟨⟨0, (), rfl, ⟨by decide, by decide⟩, by rw [ht]; exact hP, va_K.moved hW.alike hK⟩, hS.F ht⟩) hS.2.2 dX11_areTurned_49
        · have t8 : x6.toInt = x7.toInt := gl_eq c8
          refine lv_iconst (v := 1) hx hb dX11_areTurned_44 (by decide) ?_
          refine lv_goto (tgt := 49) hx hb dX11_areTurned_45 (by decide) ?_
          exact W.zret (v := 1) (ty := .boolean) hx hb hr rfl (fun t ht hW => ⟨⟨1, (), rfl, ⟨by decide, by decide⟩, by rw [ht]; exact hP, va_K.moved hW.alike hK⟩, hS.F ht⟩) hS.2.2 dX11_areTurned_49
    · subst hr2
      have hg2_0 : ¬ ((10 : Int) ≤ a1.toInt ∧ a1.toInt ≤ (99 : Int)) := hf2_0
      refine lv_if_eq (tgt := 48) hx hb dX11_areTurned_19 (by decide) (fun _ => ?_) (fun q => absurd (by decide) q)
      refine lv_iconst (v := 0) hx hb dX11_areTurned_48 (by decide) ?_
      exact W.zret (v := 0) (ty := .boolean) hx hb hr rfl (fun t ht hW => ⟨⟨0, (), rfl, ⟨by decide, by decide⟩, by rw [ht]; exact hP, va_K.moved hW.alike hK⟩, hS.F ht⟩) hS.2.2 dX11_areTurned_49
  · subst hr1
    have hg1_0 : ¬ ((10 : Int) ≤ a0.toInt ∧ a0.toInt ≤ (99 : Int)) := hf1_0
    refine lv_if_eq (tgt := 48) hx hb dX11_areTurned_8 (by decide) (fun _ => ?_) (fun q => absurd (by decide) q)
    refine lv_iconst (v := 0) hx hb dX11_areTurned_48 (by decide) ?_
    exact W.zret (v := 0) (ty := .boolean) hx hb hr rfl (fun t ht hW => ⟨⟨0, (), rfl, ⟨by decide, by decide⟩, by rw [ht]; exact hP, va_K.moved hW.alike hK⟩, hS.F ht⟩) hS.2.2 dX11_areTurned_49
set_option maxRecDepth 100000 in
set_option maxHeartbeats 8000000 in
theorem m_turned (l : Launch) (D : va_G) (ca : Nat → ClassId) (o : Nat) (b z : Nat → Nat → Int32) (y : Nat → Nat → Int64) (J0 : qJM b z) (a0 : Int32) (a1 : Int32) (a2 : Int32) (a3 : Int32)  : qM l yX11_turned cX11_turned 8 (some .int) 5 146 (qPre D vwCl (qT6 ca) o 41 (qG (GM ca o) z y) [.ref (o + 0), .int a0, .int a1, .int a2, .int a3]) (va_Qi (fun r u => True ∧ qJM b u.1) (qB D vwCl (qT6 ca) o 41 (fun u : qZ => qG (GM ca o) u.1 u.2)) (qw_A o 41)) (qw_A o 41) := by
  refine Met.ofW (cc := cX11_turned) (maxL := 8) (ret := (some .int)) (by decide) rfl ?_
  intro p e s m args below meth c s₁ B hml hv
  obtain ⟨rfl, hP, hK⟩ := hv
  have hx := B.exec
  have hb := B.bytes
  have hr := B.returns
  have hts0 := atoms_spec (ws := Cond.code yX11_turned cX11_turned 8 (some .int) :: qtbl) B.pre
  have hts : ∀ w ∈ qtbl, w.before _ s = true := fun w h => hts0 w (List.mem_cons_of_mem _ h)
  have hown : s.vm.findClass RX11 = some m.cls := findClass_of_methodNamed B.named
  have hlocks := B.notSynchronized
  have hS : va_S (qw_A o 41) s.heap s.heap [] := va_S.rf
  have hl := lv_entry ([.ref (o + 0), .int a0, .int a1, .int a2, .int a3]) (n := 8) (Nat.le_of_ble_eq_true rfl)
  rw [lg_entry_eq]
  generalize (lg_sl ([.ref (o + 0), .int a0, .int a1, .int a2, .int a3]) ++ List.replicate (8 - (lg_sl ([.ref (o + 0), .int a0, .int a1, .int a2, .int a3])).length) Slot.unset).toArray = ls at hl ⊢
  have hl : lv_has ls 8 [(0, .ref (o + 0)), (1, .int a0), (2, .int a1), (3, .int a2), (4, .int a3)] := hl
  refine lv_aload_n hx hb dX11_turned_0 rfl (lv_at hl 0 rfl) ?_
  refine lv_iload_n hx hb dX11_turned_1 rfl (lv_at hl 1 rfl) ?_
  refine qc_Vip (As := [.int a0]) (rest := []) (k0 := 1) (m_areRemarks l D ca o b z y J0 a0) kc_yX11_areRemarks ⟨hx, hb, hml, hown, hts⟩ wq_1324 rfl rfl ⟨Nat.le_of_ble_eq_true rfl, Nat.le_of_ble_eq_true rfl⟩ wq_all hP hK hS qw_Ai (q0 := 0) (by decide) (hgM_0 ca o _ _) rfl rfl hl.1 rfl (Nat.le_of_ble_eq_true rfl) dX11_turned_2 ⟨Nat.zero_le _, Nat.zero_le _⟩ (fun r1 H locs h1 hP hS _ _ => ?_)
  have b1 : (0 : Int) ≤ r1.toInt ∧ r1.toInt ≤ 1 := h1
  refine lv_if_eq (tgt := 27) hx hb dX11_turned_5 (by decide) (fun c2 => ?_) (fun c2 => ?_)
  · have t2 : r1.toInt = (0 : Int) := gl_eq c2
    refine lv_iconst (v := (-1)) hx hb dX11_turned_27 (by decide) ?_
    exact W.iret (v := (-1)) hx hb hr (fun t ht hW => ⟨⟨(-1), (z, y), rfl, ⟨trivial, J0⟩, by rw [ht]; exact hP, va_K.moved hW.alike hK⟩, hS.F ht⟩) hS.2.2 dX11_turned_28
  · have t2 : r1.toInt ≠ (0 : Int) := gl_ne c2
    refine lv_aload_n hx hb dX11_turned_8 rfl (lv_at hl 0 rfl) ?_
    refine lv_iload_n hx hb dX11_turned_9 rfl (lv_at hl 2 rfl) ?_
    refine lv_iload_n hx hb dX11_turned_10 rfl (lv_at hl 3 rfl) ?_
    refine qc_Vip (As := [.int a1, .int a2]) (rest := []) (k0 := 2) (m_areTwo l D ca o b z y J0 a1 a2) kc_yX11_areTwo ⟨hx, hb, hml, hown, hts⟩ wq_1384 rfl rfl ⟨Nat.le_of_ble_eq_true rfl, Nat.le_of_ble_eq_true rfl⟩ wq_all hP hK hS qw_Ai (q0 := 0) (by decide) (hgM_0 ca o _ _) rfl rfl hl.1 rfl (Nat.le_of_ble_eq_true rfl) dX11_turned_11 ⟨Nat.zero_le _, Nat.zero_le _⟩ (fun r3 H locs h3 hP hS _ _ => ?_)
    rcases h3 with ⟨hr3, hf3_0, hf3_1⟩ | ⟨hr3, hf3_0⟩
    · subst hr3
      have hg3_0 : pHas (z 0 4) a1 ∧ pHas (z 0 4) a2 ∧ a1.toInt ≠ a2.toInt := hf3_0
      have hg3_1 : 0 ≤ a1.toInt ∧ a1.toInt ≤ 5 ∧ 0 ≤ a2.toInt ∧ a2.toInt ≤ 5 := hf3_1
      refine lv_if_eq (tgt := 27) hx hb dX11_turned_14 (by decide) (fun q => absurd q (by decide)) (fun _ => ?_)
      refine lv_iload hx hb dX11_turned_17 (lv_at hl 4 rfl) ?_
      refine lv_iconst (v := 0) hx hb dX11_turned_19 (by decide) ?_
      refine lv_iconst (v := 1) hx hb dX11_turned_20 (by decide) ?_
      refine qc_Sip (As := [.int a3, .int 0, .int 1]) (rest := []) (k0 := 3) (m_in l D ca o b z y J0 a3 0 1) kc_yX11_in ⟨hx, hb, hml, hown, hts⟩ wq_1187 rfl rfl ⟨Nat.le_of_ble_eq_true rfl, Nat.le_of_ble_eq_true rfl⟩ wq_all hP hK hS qw_Ai rfl hl.1 rfl (Nat.le_of_ble_eq_true rfl) dX11_turned_21 ⟨Nat.zero_le _, Nat.zero_le _⟩ (fun r4 H locs h4 hP hS _ _ => ?_)
      rcases h4 with ⟨hr4, hf4_0⟩ | ⟨hr4, hf4_0⟩
      · subst hr4
        have hg4_0 : (0 : Int) ≤ a3.toInt ∧ a3.toInt ≤ (1 : Int) := hf4_0
        refine lv_if_ne (tgt := 29) hx hb dX11_turned_24 (by decide) (fun _ => ?_) (fun q => absurd q (by decide))
        refine lv_aload_n hx hb dX11_turned_29 rfl (lv_at hl 0 rfl) ?_
        refine qc_Vip (As := []) (rest := []) (k0 := 0) (m_rowMany l D ca o b z y J0) kc_yX11_rowMany ⟨hx, hb, hml, hown, hts⟩ wq_1315 rfl rfl ⟨Nat.le_of_ble_eq_true rfl, Nat.le_of_ble_eq_true rfl⟩ wq_all hP hK hS qw_Ai (q0 := 0) (by decide) (hgM_0 ca o _ _) rfl rfl hl.1 rfl (Nat.le_of_ble_eq_true rfl) dX11_turned_30 ⟨Nat.zero_le _, Nat.zero_le _⟩ (fun r5 H locs h5 hP hS _ _ => ?_)
        have p5_1 : rmI z 6 r5 := h5.2
        refine lv_ldcw (v := 200000) hx hb hown (hts _ wq_1319) dX11_turned_33 ?_
        refine lv_icmp_le (tgt := 42) hx hb dX11_turned_36 (by decide) (fun c6 => ?_) (fun c6 => ?_)
        · have t6 : r5.toInt ≤ (200000 : Int) := gl_le c6
          refine lv_aload_n hx hb dX11_turned_42 rfl (lv_at hl 0 rfl) ?_
          refine lv_iload_n hx hb dX11_turned_43 rfl (lv_at hl 1 rfl) ?_
          refine qc_Vi2 (As := [.int a0]) (rest := []) (k0 := 1) (m_findsRow l D ca o b z y J0 a0) kc_yX11_findsRow ⟨hx, hb, hml, hown, hts⟩ wq_1332 rfl rfl ⟨Nat.le_of_ble_eq_true rfl, Nat.le_of_ble_eq_true rfl⟩ wq_all hP hK hS qw_Ai (q0 := 0) (by decide) (hgM_0 ca o _ _) rfl rfl hl.1 rfl (Nat.le_of_ble_eq_true rfl) dX11_turned_44 ⟨Nat.zero_le _, Nat.zero_le _⟩ (fun r7 z7 y7 H locs h7 hP hS _ _ => ?_)
          have J7 : qJM b z7 := h7.2
          have b7 : (0 : Int) ≤ r7.toInt ∧ r7.toInt ≤ 1 := h7.1
          refine lv_if_ne (tgt := 53) hx hb dX11_turned_47 (by decide) (fun c8 => ?_) (fun c8 => ?_)
          · have t8 : r7.toInt ≠ (0 : Int) := gl_ne c8
            refine lv_iconst (v := 0) hx hb dX11_turned_53 (by decide) ?_
            refine lv_istore (lv' := [(5, .int 0), (0, .ref (o + 0)), (1, .int a0), (2, .int a1), (3, .int a2), (4, .int a3)]) hx hb dX11_turned_54 hl (by decide) rfl (fun ls hl => ?_)
            refine lv_bipush (v := (-2)) hx hb dX11_turned_56 (by decide) ?_
            refine lv_istore (lv' := [(6, .int ((-2))), (5, .int 0), (0, .ref (o + 0)), (1, .int a0), (2, .int a1), (3, .int a2), (4, .int a3)]) hx hb dX11_turned_58 hl (by decide) rfl (fun ls hl => ?_)
            refine lv_iconst (v := 0) hx hb dX11_turned_60 (by decide) ?_
            refine lv_istore (lv' := [(7, .int 0), (6, .int ((-2))), (5, .int 0), (0, .ref (o + 0)), (1, .int a0), (2, .int a1), (3, .int a2), (4, .int a3)]) hx hb dX11_turned_61 hl (by decide) rfl (fun ls hl => ?_)
            have loop9 : ∀ (n : Nat) (w9_7 : Int32) (w9_6 : Int32) (w9_5 : Int32), ((100 - w9_7.toInt : Int) < (n : Int)) → ((0 : Int) ≤ w9_7.toInt ∧ w9_7.toInt ≤ 100) → ((-2 : Int) ≤ w9_6.toInt ∧ w9_6.toInt ≤ 99) → ∀ (H : Heap) (locs : List Loc), qw_P D vwCl o 41 (qG (GM ca o) z7 y7) H → va_S (qw_A o 41) s.heap H locs → ∀ (ls : Array Slot), lv_has ls 8 [(7, .int w9_7), (6, .int w9_6), (5, .int w9_5), (0, .ref (o + 0)), (1, .int a0), (2, .int a1), (3, .int a2), (4, .int a3)] → W p l e (headSpec (Cond.code yX11_turned cX11_turned 8 (some .int) :: qtbl) ({ frames := 5, cells := 0, slots := 0, locals := 146 })).room s m (([.ref (o + 0), .int a0, .int a1, .int a2, .int a3] : List Value).toArray) below meth c H locs 0 0 (MQ below (va_Qi (fun r u => True ∧ qJM b u.1) (qB D vwCl (qT6 ca) o 41 (fun u : qZ => qG (GM ca o) u.1 u.2)) (qw_A o 41)) (([.ref (o + 0), .int a0, .int a1, .int a2, .int a3] : List Value).toArray) s 0 0 (qw_A o 41)) (F0 m 63 ls []) := by
              intro n
              induction n with
              | zero => intro w9_7 w9_6 w9_5 hb9 hv9_7 hv9_6; exfalso; omega
              | succ n9 ih9 =>
                intro w9_7 w9_6 w9_5 hb9 hv9_7 hv9_6 H locs hP hS ls hl
                refine lv_iload hx hb dX11_turned_63 (lv_at hl 0 rfl) ?_
                refine lv_bipush (v := 100) hx hb dX11_turned_65 (by decide) ?_
                refine lv_icmp_ge (tgt := 135) hx hb dX11_turned_67 (by decide) (fun c10 => ?_) (fun c10 => ?_)
                · have t10 : w9_7.toInt ≥ (100 : Int) := gl_le c10
                  refine lv_iload hx hb dX11_turned_135 (lv_at hl 7 rfl) ?_
                  refine lv_if_ne (tgt := 145) hx hb dX11_turned_137 (by decide) (fun c11 => ?_) (fun c11 => ?_)
                  · have t11 : a3.toInt ≠ (0 : Int) := gl_ne c11
                    refine lv_iload hx hb dX11_turned_145 (lv_at hl 1 rfl) ?_
                    exact W.iret (v := w9_6) hx hb hr (fun t ht hW => ⟨⟨w9_6, (z7, y7), rfl, ⟨trivial, J7⟩, by rw [ht]; exact hP, va_K.moved hW.alike hK⟩, hS.F ht⟩) hS.2.2 dX11_turned_147
                  · have t11 : a3.toInt = (0 : Int) := gl_eq c11
                    refine lv_iload hx hb dX11_turned_140 (lv_at hl 2 rfl) ?_
                    refine lv_goto (tgt := 147) hx hb dX11_turned_142 (by decide) ?_
                    exact W.iret (v := w9_5) hx hb hr (fun t ht hW => ⟨⟨w9_5, (z7, y7), rfl, ⟨trivial, J7⟩, by rw [ht]; exact hP, va_K.moved hW.alike hK⟩, hS.F ht⟩) hS.2.2 dX11_turned_147
                · have t10 : w9_7.toInt < (100 : Int) := gl_nle c10
                  refine lv_aload_n hx hb dX11_turned_70 rfl (lv_at hl 3 rfl) ?_
                  refine qf_get hx hb hts inX11 hown hK hP (q0 := 0) (by decide) (hgM_0 ca o) rfl 36 (by decide) wq_1028 (v := .ref (o + 23)) rfl dX11_turned_71 ?_
                  refine lv_iload_n hx hb dX11_turned_74 rfl (lv_at hl 5 rfl) ?_
                  refine qa_iald hx hb hK hP (q0 := 23) (by decide) 0 (N := 6) (hgM_23 ca o) rfl (gi_in (by omega) (by omega)) dX11_turned_75 ?_
                  refine lv_topi (fun x12 e12 => ?_)
                  have b12 := iM_23 J7 e12
                  refine lv_aload_n hx hb dX11_turned_76 rfl (lv_at hl 3 rfl) ?_
                  refine qf_get hx hb hts inX11 hown hK hP (q0 := 0) (by decide) (hgM_0 ca o) rfl 5 (by decide) wq_998 (v := .int (z7 0 5)) rfl dX11_turned_77 ?_
                  refine lv_topi (fun x13 e13 => ?_)
                  have b13 := iM_0_5 J7 e13
                  refine lv_iadd hx hb dX11_turned_80 ?_
                  refine lv_topi (fun x14 e14 => ?_)
                  have t14 : x14.toInt = x12.toInt + x13.toInt := ga_add e14 rfl rfl (by omega) (by omega)
                  refine lv_iload hx hb dX11_turned_81 (lv_at hl 0 rfl) ?_
                  refine lv_iadd hx hb dX11_turned_83 ?_
                  refine lv_topi (fun x15 e15 => ?_)
                  have t15 : x15.toInt = x14.toInt + w9_7.toInt := ga_add e15 rfl rfl (by omega) (by omega)
                  refine lv_aload_n hx hb dX11_turned_84 rfl (lv_at hl 3 rfl) ?_
                  refine qf_get hx hb hts inX11 hown hK hP (q0 := 0) (by decide) (hgM_0 ca o) rfl 36 (by decide) wq_1028 (v := .ref (o + 23)) rfl dX11_turned_85 ?_
                  refine lv_iload_n hx hb dX11_turned_88 rfl (lv_at hl 6 rfl) ?_
                  refine qa_iald hx hb hK hP (q0 := 23) (by decide) 0 (N := 6) (hgM_23 ca o) rfl (gi_in (by omega) (by omega)) dX11_turned_89 ?_
                  refine lv_topi (fun x16 e16 => ?_)
                  have b16 := iM_23 J7 e16
                  refine lv_aload_n hx hb dX11_turned_90 rfl (lv_at hl 3 rfl) ?_
                  refine qf_get hx hb hts inX11 hown hK hP (q0 := 0) (by decide) (hgM_0 ca o) rfl 5 (by decide) wq_998 (v := .int (z7 0 5)) rfl dX11_turned_91 ?_
                  refine lv_topi (fun x17 e17 => ?_)
                  have b17 := iM_0_5 J7 e17
                  have ag17 : x17.toInt = x13.toInt := congrArg Int32.toInt (e17.trans e13.symm)
                  refine lv_iadd hx hb dX11_turned_94 ?_
                  refine lv_topi (fun x18 e18 => ?_)
                  have t18 : x18.toInt = x16.toInt + x17.toInt := ga_add e18 rfl rfl (by omega) (by omega)
                  refine lv_iload hx hb dX11_turned_95 (lv_at hl 0 rfl) ?_
                  refine lv_iadd hx hb dX11_turned_97 ?_
                  refine lv_topi (fun x19 e19 => ?_)
                  have t19 : x19.toInt = x18.toInt + w9_7.toInt := ga_add e19 rfl rfl (by omega) (by omega)
                  refine qc_Sip (As := [.int x15, .int x19]) (rest := []) (k0 := 2) (m_areTurned l D ca o b z7 y7 J7 x15 x19) kc_yX11_areTurned ⟨hx, hb, hml, hown, hts⟩ wq_1504 rfl rfl ⟨Nat.le_of_ble_eq_true rfl, Nat.le_of_ble_eq_true rfl⟩ wq_all hP hK hS qw_Ai rfl hl.1 rfl (Nat.le_of_ble_eq_true rfl) dX11_turned_98 ⟨Nat.zero_le _, Nat.zero_le _⟩ (fun r20 H locs h20 hP hS _ _ => ?_)
                  have b20 : (0 : Int) ≤ r20.toInt ∧ r20.toInt ≤ 1 := h20
                  refine lv_if_ne (tgt := 107) hx hb dX11_turned_101 (by decide) (fun c21 => ?_) (fun c21 => ?_)
                  · have t21 : r20.toInt ≠ (0 : Int) := gl_ne c21
                    refine lv_iload hx hb dX11_turned_107 (lv_at hl 2 rfl) ?_
                    refine lv_iconst (v := 1) hx hb dX11_turned_109 (by decide) ?_
                    refine lv_iadd hx hb dX11_turned_110 ?_
                    refine lv_topi (fun x22 e22 => ?_)
                    refine lv_istore (lv' := [(5, .int x22), (7, .int w9_7), (6, .int w9_6), (0, .ref (o + 0)), (1, .int a0), (2, .int a1), (3, .int a2), (4, .int a3)]) hx hb dX11_turned_111 hl (by decide) rfl (fun ls hl => ?_)
                    refine lv_iload hx hb dX11_turned_113 (lv_at hl 2 rfl) ?_
                    refine lv_bipush (v := (-2)) hx hb dX11_turned_115 (by decide) ?_
                    refine lv_icmp_ne (tgt := 125) hx hb dX11_turned_117 (by decide) (fun c23 => ?_) (fun c23 => ?_)
                    · have t23 : w9_6.toInt ≠ (-2 : Int) := gl_ne c23
                      refine lv_iload hx hb dX11_turned_125 (lv_at hl 2 rfl) ?_
                      refine lv_istore (lv' := [(6, .int w9_6), (5, .int x22), (7, .int w9_7), (0, .ref (o + 0)), (1, .int a0), (2, .int a1), (3, .int a2), (4, .int a3)]) hx hb dX11_turned_127 hl (by decide) rfl (fun ls hl => ?_)
                      obtain ⟨x24, e24⟩ : ∃ t : Int32, t = w9_7 + 1 := ⟨_, rfl⟩
                      refine lv_iinc (v := x24) (lv' := [(7, .int x24), (6, .int w9_6), (5, .int x22), (0, .ref (o + 0)), (1, .int a0), (2, .int a1), (3, .int a2), (4, .int a3)]) hx hb dX11_turned_129 hl (k := 2) rfl (by rw [e24]; rfl) (by decide) rfl (fun ls hl => ?_)
                      have t24 : x24.toInt = w9_7.toInt + (1 : Int) := ga_add e24 rfl rfl (by omega) (by omega)
                      refine lv_goto (tgt := 63) hx hb dX11_turned_132 (by decide) ?_
                      exact ih9 x24 w9_6 x22 (show (100 - x24.toInt : Int) < (n9 : Int) from by omega) ⟨by omega, by omega⟩ ⟨by omega, by omega⟩ _ _ hP hS _ (lv_sub hl [0, 1, 2, 3, 4, 5, 6, 7] rfl)
                    · have t23 : w9_6.toInt = (-2 : Int) := gl_eq c23
                      refine lv_iload hx hb dX11_turned_120 (lv_at hl 1 rfl) ?_
                      refine lv_goto (tgt := 127) hx hb dX11_turned_122 (by decide) ?_
                      refine lv_istore (lv' := [(6, .int w9_7), (5, .int x22), (7, .int w9_7), (0, .ref (o + 0)), (1, .int a0), (2, .int a1), (3, .int a2), (4, .int a3)]) hx hb dX11_turned_127 hl (by decide) rfl (fun ls hl => ?_)
                      obtain ⟨x25, e25⟩ : ∃ t : Int32, t = w9_7 + 1 := ⟨_, rfl⟩
                      refine lv_iinc (v := x25) (lv' := [(7, .int x25), (6, .int w9_7), (5, .int x22), (0, .ref (o + 0)), (1, .int a0), (2, .int a1), (3, .int a2), (4, .int a3)]) hx hb dX11_turned_129 hl (k := 2) rfl (by rw [e25]; rfl) (by decide) rfl (fun ls hl => ?_)
                      have t25 : x25.toInt = w9_7.toInt + (1 : Int) := ga_add e25 rfl rfl (by omega) (by omega)
                      refine lv_goto (tgt := 63) hx hb dX11_turned_132 (by decide) ?_
                      exact ih9 x25 w9_7 x22 (show (100 - x25.toInt : Int) < (n9 : Int) from by omega) ⟨by omega, by omega⟩ ⟨by omega, by omega⟩ _ _ hP hS _ (lv_sub hl [0, 1, 2, 3, 4, 5, 6, 7] rfl)
                  · have t21 : r20.toInt = (0 : Int) := gl_eq c21
                    refine lv_goto (tgt := 129) hx hb dX11_turned_104 (by decide) ?_
                    obtain ⟨x26, e26⟩ : ∃ t : Int32, t = w9_7 + 1 := ⟨_, rfl⟩
                    refine lv_iinc (v := x26) (lv' := [(7, .int x26), (6, .int w9_6), (5, .int w9_5), (0, .ref (o + 0)), (1, .int a0), (2, .int a1), (3, .int a2), (4, .int a3)]) hx hb dX11_turned_129 hl (k := 0) rfl (by rw [e26]; rfl) (by decide) rfl (fun ls hl => ?_)
                    have t26 : x26.toInt = w9_7.toInt + (1 : Int) := ga_add e26 rfl rfl (by omega) (by omega)
                    refine lv_goto (tgt := 63) hx hb dX11_turned_132 (by decide) ?_
                    exact ih9 x26 w9_6 w9_5 (show (100 - x26.toInt : Int) < (n9 : Int) from by omega) ⟨by omega, by omega⟩ ⟨by omega, by omega⟩ _ _ hP hS _ (lv_sub hl [0, 1, 2, 3, 4, 5, 6, 7] rfl)
            exact loop9 101 0 (-2) 0 (show (100 - (0 : Int) : Int) < ((101 : Nat) : Int) from by omega) ⟨by decide, by decide⟩ ⟨by decide, by decide⟩ _ _ hP hS _ (lv_sub hl [0, 1, 2, 3, 4, 5, 6, 7] rfl)
          · have t8 : r7.toInt = (0 : Int) := gl_eq c8
            refine lv_bipush (v := (-2)) hx hb dX11_turned_50 (by decide) ?_
            exact W.iret (v := (-2)) hx hb hr (fun t ht hW => ⟨⟨(-2), (z7, y7), rfl, ⟨trivial, J7⟩, by rw [ht]; exact hP, va_K.moved hW.alike hK⟩, hS.F ht⟩) hS.2.2 dX11_turned_52
        · have t6 : r5.toInt > (200000 : Int) := gl_nle c6
          refine lv_bipush (v := (-3)) hx hb dX11_turned_39 (by decide) ?_
          exact W.iret (v := (-3)) hx hb hr (fun t ht hW => ⟨⟨(-3), (z, y), rfl, ⟨trivial, J0⟩, by rw [ht]; exact hP, va_K.moved hW.alike hK⟩, hS.F ht⟩) hS.2.2 dX11_turned_41
      · subst hr4
        have hg4_0 : ¬ ((0 : Int) ≤ a3.toInt ∧ a3.toInt ≤ (1 : Int)) := hf4_0
        refine lv_if_ne (tgt := 29) hx hb dX11_turned_24 (by decide) (fun q => absurd q (by decide)) (fun _ => ?_)
        refine lv_iconst (v := (-1)) hx hb dX11_turned_27 (by decide) ?_
        exact W.iret (v := (-1)) hx hb hr (fun t ht hW => ⟨⟨(-1), (z, y), rfl, ⟨trivial, J0⟩, by rw [ht]; exact hP, va_K.moved hW.alike hK⟩, hS.F ht⟩) hS.2.2 dX11_turned_28
    · subst hr3
      have hg3_0 : ¬ (pHas (z 0 4) a1 ∧ pHas (z 0 4) a2 ∧ a1.toInt ≠ a2.toInt) := hf3_0
      refine lv_if_eq (tgt := 27) hx hb dX11_turned_14 (by decide) (fun _ => ?_) (fun q => absurd (by decide) q)
      refine lv_iconst (v := (-1)) hx hb dX11_turned_27 (by decide) ?_
      exact W.iret (v := (-1)) hx hb hr (fun t ht hW => ⟨⟨(-1), (z, y), rfl, ⟨trivial, J0⟩, by rw [ht]; exact hP, va_K.moved hW.alike hK⟩, hS.F ht⟩) hS.2.2 dX11_turned_28
set_option maxRecDepth 100000 in
set_option maxHeartbeats 8000000 in
theorem m_squaresIn (l : Launch) (D : va_G) (ca : Nat → ClassId) (o : Nat) (b z : Nat → Nat → Int32) (y : Nat → Nat → Int64) (J0 : qJM b z) (a0 : Int32) (ha0 : (0 : Int) ≤ a0.toInt ∧ a0.toInt ≤ 99) : qM l yX11_squaresIn cX11_squaresIn 5 (some .int) 3 103 (qPre D vwCl (qT6 ca) o 41 (qG (GM ca o) z y) [.ref (o + 0), .int a0]) (va_Qi (fun r (_ : Unit) => True) (qB D vwCl (qT6 ca) o 41 (fun _ : Unit => qG (GM ca o) z y)) (qw_A o 41)) (qw_A o 41) := by
  refine Met.ofW (cc := cX11_squaresIn) (maxL := 5) (ret := (some .int)) (by decide) rfl ?_
  intro p e s m args below meth c s₁ B hml hv
  obtain ⟨rfl, hP, hK⟩ := hv
  have hx := B.exec
  have hb := B.bytes
  have hr := B.returns
  have hts0 := atoms_spec (ws := Cond.code yX11_squaresIn cX11_squaresIn 5 (some .int) :: qtbl) B.pre
  have hts : ∀ w ∈ qtbl, w.before _ s = true := fun w h => hts0 w (List.mem_cons_of_mem _ h)
  have hown : s.vm.findClass RX11 = some m.cls := findClass_of_methodNamed B.named
  have hlocks := B.notSynchronized
  have hS : va_S (qw_A o 41) s.heap s.heap [] := va_S.rf
  have hl := lv_entry ([.ref (o + 0), .int a0]) (n := 5) (Nat.le_of_ble_eq_true rfl)
  rw [lg_entry_eq]
  generalize (lg_sl ([.ref (o + 0), .int a0]) ++ List.replicate (5 - (lg_sl ([.ref (o + 0), .int a0])).length) Slot.unset).toArray = ls at hl ⊢
  have hl : lv_has ls 5 [(0, .ref (o + 0)), (1, .int a0)] := hl
  refine lv_iconst (v := 0) hx hb dX11_squaresIn_0 (by decide) ?_
  refine lv_istore_n (lv' := [(2, .int 0), (0, .ref (o + 0)), (1, .int a0)]) hx hb dX11_squaresIn_1 rfl hl (by decide) rfl (fun ls hl => ?_)
  refine lv_iconst (v := 0) hx hb dX11_squaresIn_2 (by decide) ?_
  refine lv_istore_n (lv' := [(3, .int 0), (2, .int 0), (0, .ref (o + 0)), (1, .int a0)]) hx hb dX11_squaresIn_3 rfl hl (by decide) rfl (fun ls hl => ?_)
  have loop1 : ∀ (n : Nat) (w1_3 : Int32) (w1_2 : Int32), ((6 - w1_3.toInt : Int) < (n : Int)) → ((0 : Int) ≤ w1_3.toInt ∧ w1_3.toInt ≤ 6) → ∀ (H : Heap) (locs : List Loc), qw_P D vwCl o 41 (qG (GM ca o) z y) H → va_S (qw_A o 41) s.heap H locs → ∀ (ls : Array Slot), lv_has ls 5 [(3, .int w1_3), (2, .int w1_2), (0, .ref (o + 0)), (1, .int a0)] → W p l e (headSpec (Cond.code yX11_squaresIn cX11_squaresIn 5 (some .int) :: qtbl) ({ frames := 3, cells := 0, slots := 0, locals := 103 })).room s m (([.ref (o + 0), .int a0] : List Value).toArray) below meth c H locs 0 0 (MQ below (va_Qi (fun r (_ : Unit) => True) (qB D vwCl (qT6 ca) o 41 (fun _ : Unit => qG (GM ca o) z y)) (qw_A o 41)) (([.ref (o + 0), .int a0] : List Value).toArray) s 0 0 (qw_A o 41)) (F0 m 4 ls []) := by
    intro n
    induction n with
    | zero => intro w1_3 w1_2 hb1 hv1_3; exfalso; omega
    | succ n1 ih1 =>
      intro w1_3 w1_2 hb1 hv1_3 H locs hP hS ls hl
      refine lv_iload_n hx hb dX11_squaresIn_4 rfl (lv_at hl 0 rfl) ?_
      refine lv_bipush (v := 6) hx hb dX11_squaresIn_5 (by decide) ?_
      refine lv_icmp_ge (tgt := 94) hx hb dX11_squaresIn_7 (by decide) (fun c2 => ?_) (fun c2 => ?_)
      · have t2 : w1_3.toInt ≥ (6 : Int) := gl_le c2
        refine lv_iload_n hx hb dX11_squaresIn_94 rfl (lv_at hl 1 rfl) ?_
        exact W.iret (v := w1_2) hx hb hr (fun t ht hW => ⟨⟨w1_2, (), rfl, trivial, by rw [ht]; exact hP, va_K.moved hW.alike hK⟩, hS.F ht⟩) hS.2.2 dX11_squaresIn_95
      · have t2 : w1_3.toInt < (6 : Int) := gl_nle c2
        refine lv_iconst (v := 0) hx hb dX11_squaresIn_10 (by decide) ?_
        refine lv_istore (lv' := [(4, .int 0), (3, .int w1_3), (2, .int w1_2), (0, .ref (o + 0)), (1, .int a0)]) hx hb dX11_squaresIn_11 hl (by decide) rfl (fun ls hl => ?_)
        have loop3 : ∀ (n : Nat) (w3_4 : Int32), ((18 - w3_4.toInt : Int) < (n : Int)) → ((0 : Int) ≤ w3_4.toInt ∧ w3_4.toInt ≤ 18) → ∀ (H : Heap) (locs : List Loc), qw_P D vwCl o 41 (qG (GM ca o) z y) H → va_S (qw_A o 41) s.heap H locs → ∀ (ls : Array Slot), lv_has ls 5 [(4, .int w3_4), (3, .int w1_3), (2, .int w1_2), (0, .ref (o + 0)), (1, .int a0)] → W p l e (headSpec (Cond.code yX11_squaresIn cX11_squaresIn 5 (some .int) :: qtbl) ({ frames := 3, cells := 0, slots := 0, locals := 103 })).room s m (([.ref (o + 0), .int a0] : List Value).toArray) below meth c H locs 0 0 (MQ below (va_Qi (fun r (_ : Unit) => True) (qB D vwCl (qT6 ca) o 41 (fun _ : Unit => qG (GM ca o) z y)) (qw_A o 41)) (([.ref (o + 0), .int a0] : List Value).toArray) s 0 0 (qw_A o 41)) (F0 m 13 ls []) := by
          intro n
          induction n with
          | zero => intro w3_4 hb3 hv3_4; exfalso; omega
          | succ n3 ih3 =>
            intro w3_4 hb3 hv3_4 H locs hP hS ls hl
            refine lv_aload_n hx hb dX11_squaresIn_13 rfl (lv_at hl 3 rfl) ?_
            refine lv_iload_n hx hb dX11_squaresIn_14 rfl (lv_at hl 1 rfl) ?_
            refine qc_Vip (As := [.int w1_3]) (rest := []) (k0 := 1) (m_isPerson l D ca o b z y J0 w1_3) kc_yX11_isPerson ⟨hx, hb, hml, hown, hts⟩ wq_1194 rfl rfl ⟨Nat.le_of_ble_eq_true rfl, Nat.le_of_ble_eq_true rfl⟩ wq_all hP hK hS qw_Ai (q0 := 0) (by decide) (hgM_0 ca o _ _) rfl rfl hl.1 rfl (Nat.le_of_ble_eq_true rfl) dX11_squaresIn_15 ⟨Nat.zero_le _, Nat.zero_le _⟩ (fun r4 H locs h4 hP hS _ _ => ?_)
            rcases h4 with ⟨hr4, hf4_0, hf4_1⟩ | ⟨hr4, hf4_0⟩
            · subst hr4
              have hg4_0 : pHas (z 0 4) w1_3 := hf4_0
              have hg4_1 : 0 ≤ w1_3.toInt ∧ w1_3.toInt ≤ 5 := hf4_1
              refine lv_if_eq (tgt := 51) hx hb dX11_squaresIn_18 (by decide) (fun q => absurd q (by decide)) (fun _ => ?_)
              refine lv_iload hx hb dX11_squaresIn_21 (lv_at hl 0 rfl) ?_
              refine lv_iload hx hb dX11_squaresIn_23 (lv_at hl 0 rfl) ?_
              refine lv_imul hx hb dX11_squaresIn_25 ?_
              refine lv_topi (fun x5 e5 => ?_)
              have sq5 := sq_b e5 (by omega) (by omega)
              refine lv_aload_n hx hb dX11_squaresIn_26 rfl (lv_at hl 3 rfl) ?_
              refine qf_get hx hb hts inX11 hown hK hP (q0 := 0) (by decide) (hgM_0 ca o) rfl 36 (by decide) wq_1028 (v := .ref (o + 23)) rfl dX11_squaresIn_27 ?_
              refine lv_iload_n hx hb dX11_squaresIn_30 rfl (lv_at hl 1 rfl) ?_
              refine qa_iald hx hb hK hP (q0 := 23) (by decide) 0 (N := 6) (hgM_23 ca o) rfl (gi_in (by omega) (by omega)) dX11_squaresIn_31 ?_
              refine lv_topi (fun x6 e6 => ?_)
              have b6 := iM_23 J0 e6
              refine lv_aload_n hx hb dX11_squaresIn_32 rfl (lv_at hl 3 rfl) ?_
              refine qf_get hx hb hts inX11 hown hK hP (q0 := 0) (by decide) (hgM_0 ca o) rfl 5 (by decide) wq_998 (v := .int (z 0 5)) rfl dX11_squaresIn_33 ?_
              refine lv_topi (fun x7 e7 => ?_)
              have b7 := iM_0_5 J0 e7
              refine lv_iadd hx hb dX11_squaresIn_36 ?_
              refine lv_topi (fun x8 e8 => ?_)
              have t8 : x8.toInt = x6.toInt + x7.toInt := ga_add e8 rfl rfl (by omega) (by omega)
              refine lv_iload_n hx hb dX11_squaresIn_37 rfl (lv_at hl 4 rfl) ?_
              refine lv_iadd hx hb dX11_squaresIn_38 ?_
              refine lv_topi (fun x9 e9 => ?_)
              have t9 : x9.toInt = x8.toInt + a0.toInt := ga_add e9 rfl rfl (by omega) (by omega)
              refine lv_icmp_ge (tgt := 51) hx hb dX11_squaresIn_39 (by decide) (fun c10 => ?_) (fun c10 => ?_)
              · have t10 : x5.toInt ≥ x9.toInt := gl_le c10
                refine lv_iload_n hx hb dX11_squaresIn_51 rfl (lv_at hl 2 rfl) ?_
                refine lv_aload_n hx hb dX11_squaresIn_52 rfl (lv_at hl 3 rfl) ?_
                refine lv_iload_n hx hb dX11_squaresIn_53 rfl (lv_at hl 1 rfl) ?_
                refine qc_Vip (As := [.int w1_3]) (rest := [.int w1_2]) (k0 := 1) (m_isPerson l D ca o b z y J0 w1_3) kc_yX11_isPerson ⟨hx, hb, hml, hown, hts⟩ wq_1194 rfl rfl ⟨Nat.le_of_ble_eq_true rfl, Nat.le_of_ble_eq_true rfl⟩ wq_all hP hK hS qw_Ai (q0 := 0) (by decide) (hgM_0 ca o _ _) rfl rfl hl.1 rfl (Nat.le_of_ble_eq_true rfl) dX11_squaresIn_54 ⟨Nat.zero_le _, Nat.zero_le _⟩ (fun r11 H locs h11 hP hS _ _ => ?_)
                rcases h11 with ⟨hr11, hf11_0, hf11_1⟩ | ⟨hr11, hf11_0⟩
                · subst hr11
                  have hg11_0 : pHas (z 0 4) w1_3 := hf11_0
                  have hg11_1 : 0 ≤ w1_3.toInt ∧ w1_3.toInt ≤ 5 := hf11_1
                  refine lv_if_eq (tgt := 85) hx hb dX11_squaresIn_57 (by decide) (fun q => absurd q (by decide)) (fun _ => ?_)
                  refine lv_iload hx hb dX11_squaresIn_60 (lv_at hl 0 rfl) ?_
                  refine lv_iload hx hb dX11_squaresIn_62 (lv_at hl 0 rfl) ?_
                  refine lv_imul hx hb dX11_squaresIn_64 ?_
                  refine lv_topi (fun x12 e12 => ?_)
                  have t12 : x12.toInt = x5.toInt := congrArg Int32.toInt (e12.trans e5.symm)
                  refine lv_aload_n hx hb dX11_squaresIn_65 rfl (lv_at hl 3 rfl) ?_
                  refine qf_get hx hb hts inX11 hown hK hP (q0 := 0) (by decide) (hgM_0 ca o) rfl 36 (by decide) wq_1028 (v := .ref (o + 23)) rfl dX11_squaresIn_66 ?_
                  refine lv_iload_n hx hb dX11_squaresIn_69 rfl (lv_at hl 1 rfl) ?_
                  refine qa_iald hx hb hK hP (q0 := 23) (by decide) 0 (N := 6) (hgM_23 ca o) rfl (gi_in (by omega) (by omega)) dX11_squaresIn_70 ?_
                  refine lv_topi (fun x13 e13 => ?_)
                  have b13 := iM_23 J0 e13
                  have ag13 : x13.toInt = x6.toInt := congrArg Int32.toInt (e13.trans e6.symm)
                  refine lv_aload_n hx hb dX11_squaresIn_71 rfl (lv_at hl 3 rfl) ?_
                  refine qf_get hx hb hts inX11 hown hK hP (q0 := 0) (by decide) (hgM_0 ca o) rfl 5 (by decide) wq_998 (v := .int (z 0 5)) rfl dX11_squaresIn_72 ?_
                  refine lv_topi (fun x14 e14 => ?_)
                  have b14 := iM_0_5 J0 e14
                  have ag14 : x14.toInt = x7.toInt := congrArg Int32.toInt (e14.trans e7.symm)
                  refine lv_iadd hx hb dX11_squaresIn_75 ?_
                  refine lv_topi (fun x15 e15 => ?_)
                  have t15 : x15.toInt = x13.toInt + x14.toInt := ga_add e15 rfl rfl (by omega) (by omega)
                  refine lv_iload_n hx hb dX11_squaresIn_76 rfl (lv_at hl 4 rfl) ?_
                  refine lv_iadd hx hb dX11_squaresIn_77 ?_
                  refine lv_topi (fun x16 e16 => ?_)
                  have t16 : x16.toInt = x15.toInt + a0.toInt := ga_add e16 rfl rfl (by omega) (by omega)
                  refine lv_icmp_ne (tgt := 85) hx hb dX11_squaresIn_78 (by decide) (fun c17 => ?_) (fun c17 => ?_)
                  · have t17 : x12.toInt ≠ x16.toInt := gl_ne c17
                    refine lv_iconst (v := 0) hx hb dX11_squaresIn_85 (by decide) ?_
                    refine lv_iadd hx hb dX11_squaresIn_86 ?_
                    refine lv_topi (fun x18 e18 => ?_)
                    have gb18_0 := gl_b w1_2
                    have gb18_1 := gl_b w1_3
                    have gb18_2 := gl_b x5
                    have gb18_3 := gl_b x9
                    have gb18_4 := gl_b x12
                    have gb18_5 := gl_b x16
                    have t18 : x18.toInt = w1_2.toInt + (0 : Int) := ga_add e18 rfl rfl (by omega) (by omega)
                    refine lv_istore_n (lv' := [(2, .int x18), (4, .int w3_4), (3, .int w1_3), (0, .ref (o + 0)), (1, .int a0)]) hx hb dX11_squaresIn_87 rfl hl (by decide) rfl (fun ls hl => ?_)
                    obtain ⟨x19, e19⟩ : ∃ t : Int32, t = w1_3 + 1 := ⟨_, rfl⟩
                    refine lv_iinc (v := x19) (lv' := [(3, .int x19), (2, .int x18), (4, .int w3_4), (0, .ref (o + 0)), (1, .int a0)]) hx hb dX11_squaresIn_88 hl (k := 2) rfl (by rw [e19]; rfl) (by decide) rfl (fun ls hl => ?_)
                    have t19 : x19.toInt = w1_3.toInt + (1 : Int) := ga_add e19 rfl rfl (by omega) (by omega)
                    refine lv_goto (tgt := 4) hx hb dX11_squaresIn_91 (by decide) ?_
                    exact ih1 x19 x18 (show (6 - x19.toInt : Int) < (n1 : Int) from by omega) ⟨by omega, by omega⟩ _ _ hP hS _ (lv_sub hl [0, 1, 3, 4] rfl)
                  · have t17 : x12.toInt = x16.toInt := gl_eq c17
                    refine lv_iconst (v := 1) hx hb dX11_squaresIn_81 (by decide) ?_
                    refine lv_goto (tgt := 86) hx hb dX11_squaresIn_82 (by decide) ?_
                    refine lv_iadd hx hb dX11_squaresIn_86 ?_
                    refine lv_topi (fun x20 e20 => ?_)
                    refine lv_istore_n (lv' := [(2, .int x20), (4, .int w3_4), (3, .int w1_3), (0, .ref (o + 0)), (1, .int a0)]) hx hb dX11_squaresIn_87 rfl hl (by decide) rfl (fun ls hl => ?_)
                    obtain ⟨x21, e21⟩ : ∃ t : Int32, t = w1_3 + 1 := ⟨_, rfl⟩
                    refine lv_iinc (v := x21) (lv' := [(3, .int x21), (2, .int x20), (4, .int w3_4), (0, .ref (o + 0)), (1, .int a0)]) hx hb dX11_squaresIn_88 hl (k := 2) rfl (by rw [e21]; rfl) (by decide) rfl (fun ls hl => ?_)
                    have t21 : x21.toInt = w1_3.toInt + (1 : Int) := ga_add e21 rfl rfl (by omega) (by omega)
                    refine lv_goto (tgt := 4) hx hb dX11_squaresIn_91 (by decide) ?_
                    exact ih1 x21 x20 (show (6 - x21.toInt : Int) < (n1 : Int) from by omega) ⟨by omega, by omega⟩ _ _ hP hS _ (lv_sub hl [0, 1, 3, 4] rfl)
                · subst hr11
                  have hg11_0 : ¬ pHas (z 0 4) w1_3 := hf11_0
                  refine lv_if_eq (tgt := 85) hx hb dX11_squaresIn_57 (by decide) (fun _ => ?_) (fun q => absurd (by decide) q)
                  refine lv_iconst (v := 0) hx hb dX11_squaresIn_85 (by decide) ?_
                  refine lv_iadd hx hb dX11_squaresIn_86 ?_
                  refine lv_topi (fun x22 e22 => ?_)
                  have gb22_0 := gl_b w1_2
                  have gb22_1 := gl_b w1_3
                  have gb22_2 := gl_b x5
                  have gb22_3 := gl_b x9
                  have t22 : x22.toInt = w1_2.toInt + (0 : Int) := ga_add e22 rfl rfl (by omega) (by omega)
                  refine lv_istore_n (lv' := [(2, .int x22), (4, .int w3_4), (3, .int w1_3), (0, .ref (o + 0)), (1, .int a0)]) hx hb dX11_squaresIn_87 rfl hl (by decide) rfl (fun ls hl => ?_)
                  obtain ⟨x23, e23⟩ : ∃ t : Int32, t = w1_3 + 1 := ⟨_, rfl⟩
                  refine lv_iinc (v := x23) (lv' := [(3, .int x23), (2, .int x22), (4, .int w3_4), (0, .ref (o + 0)), (1, .int a0)]) hx hb dX11_squaresIn_88 hl (k := 2) rfl (by rw [e23]; rfl) (by decide) rfl (fun ls hl => ?_)
                  have t23 : x23.toInt = w1_3.toInt + (1 : Int) := ga_add e23 rfl rfl (by omega) (by omega)
                  refine lv_goto (tgt := 4) hx hb dX11_squaresIn_91 (by decide) ?_
                  exact ih1 x23 x22 (show (6 - x23.toInt : Int) < (n1 : Int) from by omega) ⟨by omega, by omega⟩ _ _ hP hS _ (lv_sub hl [0, 1, 3, 4] rfl)
              · have t10 : x5.toInt < x9.toInt := gl_nle c10
                refine lv_iload hx hb dX11_squaresIn_42 (lv_at hl 0 rfl) ?_
                refine lv_iconst (v := 1) hx hb dX11_squaresIn_44 (by decide) ?_
                refine lv_iadd hx hb dX11_squaresIn_45 ?_
                refine lv_topi (fun x24 e24 => ?_)
                have t24 : x24.toInt = w3_4.toInt + (1 : Int) := ga_add e24 rfl rfl (by omega) (by omega)
                refine lv_istore (lv' := [(4, .int x24), (3, .int w1_3), (2, .int w1_2), (0, .ref (o + 0)), (1, .int a0)]) hx hb dX11_squaresIn_46 hl (by decide) rfl (fun ls hl => ?_)
                refine lv_goto (tgt := 13) hx hb dX11_squaresIn_48 (by decide) ?_
                exact ih3 x24 (show (18 - x24.toInt : Int) < (n3 : Int) from by omega) ⟨by omega, by omega⟩ _ _ hP hS _ (lv_sub hl [0, 1, 2, 3, 4] rfl)
            · subst hr4
              have hg4_0 : ¬ pHas (z 0 4) w1_3 := hf4_0
              refine lv_if_eq (tgt := 51) hx hb dX11_squaresIn_18 (by decide) (fun _ => ?_) (fun q => absurd (by decide) q)
              refine lv_iload_n hx hb dX11_squaresIn_51 rfl (lv_at hl 2 rfl) ?_
              refine lv_aload_n hx hb dX11_squaresIn_52 rfl (lv_at hl 3 rfl) ?_
              refine lv_iload_n hx hb dX11_squaresIn_53 rfl (lv_at hl 1 rfl) ?_
              refine qc_Vip (As := [.int w1_3]) (rest := [.int w1_2]) (k0 := 1) (m_isPerson l D ca o b z y J0 w1_3) kc_yX11_isPerson ⟨hx, hb, hml, hown, hts⟩ wq_1194 rfl rfl ⟨Nat.le_of_ble_eq_true rfl, Nat.le_of_ble_eq_true rfl⟩ wq_all hP hK hS qw_Ai (q0 := 0) (by decide) (hgM_0 ca o _ _) rfl rfl hl.1 rfl (Nat.le_of_ble_eq_true rfl) dX11_squaresIn_54 ⟨Nat.zero_le _, Nat.zero_le _⟩ (fun r25 H locs h25 hP hS _ _ => ?_)
              rcases h25 with ⟨hr25, hf25_0, hf25_1⟩ | ⟨hr25, hf25_0⟩
              · subst hr25
                have hg25_0 : pHas (z 0 4) w1_3 := hf25_0
                have hg25_1 : 0 ≤ w1_3.toInt ∧ w1_3.toInt ≤ 5 := hf25_1
                refine lv_if_eq (tgt := 85) hx hb dX11_squaresIn_57 (by decide) (fun q => absurd q (by decide)) (fun _ => ?_)
                refine lv_iload hx hb dX11_squaresIn_60 (lv_at hl 0 rfl) ?_
                refine lv_iload hx hb dX11_squaresIn_62 (lv_at hl 0 rfl) ?_
                refine lv_imul hx hb dX11_squaresIn_64 ?_
                refine lv_topi (fun x26 e26 => ?_)
                have sq26 := sq_b e26 (by omega) (by omega)
                refine lv_aload_n hx hb dX11_squaresIn_65 rfl (lv_at hl 3 rfl) ?_
                refine qf_get hx hb hts inX11 hown hK hP (q0 := 0) (by decide) (hgM_0 ca o) rfl 36 (by decide) wq_1028 (v := .ref (o + 23)) rfl dX11_squaresIn_66 ?_
                refine lv_iload_n hx hb dX11_squaresIn_69 rfl (lv_at hl 1 rfl) ?_
                refine qa_iald hx hb hK hP (q0 := 23) (by decide) 0 (N := 6) (hgM_23 ca o) rfl (gi_in (by omega) (by omega)) dX11_squaresIn_70 ?_
                refine lv_topi (fun x27 e27 => ?_)
                have b27 := iM_23 J0 e27
                refine lv_aload_n hx hb dX11_squaresIn_71 rfl (lv_at hl 3 rfl) ?_
                refine qf_get hx hb hts inX11 hown hK hP (q0 := 0) (by decide) (hgM_0 ca o) rfl 5 (by decide) wq_998 (v := .int (z 0 5)) rfl dX11_squaresIn_72 ?_
                refine lv_topi (fun x28 e28 => ?_)
                have b28 := iM_0_5 J0 e28
                refine lv_iadd hx hb dX11_squaresIn_75 ?_
                refine lv_topi (fun x29 e29 => ?_)
                have t29 : x29.toInt = x27.toInt + x28.toInt := ga_add e29 rfl rfl (by omega) (by omega)
                refine lv_iload_n hx hb dX11_squaresIn_76 rfl (lv_at hl 4 rfl) ?_
                refine lv_iadd hx hb dX11_squaresIn_77 ?_
                refine lv_topi (fun x30 e30 => ?_)
                have t30 : x30.toInt = x29.toInt + a0.toInt := ga_add e30 rfl rfl (by omega) (by omega)
                refine lv_icmp_ne (tgt := 85) hx hb dX11_squaresIn_78 (by decide) (fun c31 => ?_) (fun c31 => ?_)
                · have t31 : x26.toInt ≠ x30.toInt := gl_ne c31
                  refine lv_iconst (v := 0) hx hb dX11_squaresIn_85 (by decide) ?_
                  refine lv_iadd hx hb dX11_squaresIn_86 ?_
                  refine lv_topi (fun x32 e32 => ?_)
                  have gb32_0 := gl_b w1_2
                  have gb32_1 := gl_b w1_3
                  have gb32_2 := gl_b x26
                  have gb32_3 := gl_b x30
                  have t32 : x32.toInt = w1_2.toInt + (0 : Int) := ga_add e32 rfl rfl (by omega) (by omega)
                  refine lv_istore_n (lv' := [(2, .int x32), (4, .int w3_4), (3, .int w1_3), (0, .ref (o + 0)), (1, .int a0)]) hx hb dX11_squaresIn_87 rfl hl (by decide) rfl (fun ls hl => ?_)
                  obtain ⟨x33, e33⟩ : ∃ t : Int32, t = w1_3 + 1 := ⟨_, rfl⟩
                  refine lv_iinc (v := x33) (lv' := [(3, .int x33), (2, .int x32), (4, .int w3_4), (0, .ref (o + 0)), (1, .int a0)]) hx hb dX11_squaresIn_88 hl (k := 2) rfl (by rw [e33]; rfl) (by decide) rfl (fun ls hl => ?_)
                  have t33 : x33.toInt = w1_3.toInt + (1 : Int) := ga_add e33 rfl rfl (by omega) (by omega)
                  refine lv_goto (tgt := 4) hx hb dX11_squaresIn_91 (by decide) ?_
                  exact ih1 x33 x32 (show (6 - x33.toInt : Int) < (n1 : Int) from by omega) ⟨by omega, by omega⟩ _ _ hP hS _ (lv_sub hl [0, 1, 3, 4] rfl)
                · have t31 : x26.toInt = x30.toInt := gl_eq c31
                  refine lv_iconst (v := 1) hx hb dX11_squaresIn_81 (by decide) ?_
                  refine lv_goto (tgt := 86) hx hb dX11_squaresIn_82 (by decide) ?_
                  refine lv_iadd hx hb dX11_squaresIn_86 ?_
                  refine lv_topi (fun x34 e34 => ?_)
                  refine lv_istore_n (lv' := [(2, .int x34), (4, .int w3_4), (3, .int w1_3), (0, .ref (o + 0)), (1, .int a0)]) hx hb dX11_squaresIn_87 rfl hl (by decide) rfl (fun ls hl => ?_)
                  obtain ⟨x35, e35⟩ : ∃ t : Int32, t = w1_3 + 1 := ⟨_, rfl⟩
                  refine lv_iinc (v := x35) (lv' := [(3, .int x35), (2, .int x34), (4, .int w3_4), (0, .ref (o + 0)), (1, .int a0)]) hx hb dX11_squaresIn_88 hl (k := 2) rfl (by rw [e35]; rfl) (by decide) rfl (fun ls hl => ?_)
                  have t35 : x35.toInt = w1_3.toInt + (1 : Int) := ga_add e35 rfl rfl (by omega) (by omega)
                  refine lv_goto (tgt := 4) hx hb dX11_squaresIn_91 (by decide) ?_
                  exact ih1 x35 x34 (show (6 - x35.toInt : Int) < (n1 : Int) from by omega) ⟨by omega, by omega⟩ _ _ hP hS _ (lv_sub hl [0, 1, 3, 4] rfl)
              · subst hr25
                have hg25_0 : ¬ pHas (z 0 4) w1_3 := hf25_0
                refine lv_if_eq (tgt := 85) hx hb dX11_squaresIn_57 (by decide) (fun _ => ?_) (fun q => absurd (by decide) q)
                refine lv_iconst (v := 0) hx hb dX11_squaresIn_85 (by decide) ?_
                refine lv_iadd hx hb dX11_squaresIn_86 ?_
                refine lv_topi (fun x36 e36 => ?_)
                have gb36_0 := gl_b w1_2
                have gb36_1 := gl_b w1_3
                have t36 : x36.toInt = w1_2.toInt + (0 : Int) := ga_add e36 rfl rfl (by omega) (by omega)
                refine lv_istore_n (lv' := [(2, .int x36), (4, .int w3_4), (3, .int w1_3), (0, .ref (o + 0)), (1, .int a0)]) hx hb dX11_squaresIn_87 rfl hl (by decide) rfl (fun ls hl => ?_)
                obtain ⟨x37, e37⟩ : ∃ t : Int32, t = w1_3 + 1 := ⟨_, rfl⟩
                refine lv_iinc (v := x37) (lv' := [(3, .int x37), (2, .int x36), (4, .int w3_4), (0, .ref (o + 0)), (1, .int a0)]) hx hb dX11_squaresIn_88 hl (k := 2) rfl (by rw [e37]; rfl) (by decide) rfl (fun ls hl => ?_)
                have t37 : x37.toInt = w1_3.toInt + (1 : Int) := ga_add e37 rfl rfl (by omega) (by omega)
                refine lv_goto (tgt := 4) hx hb dX11_squaresIn_91 (by decide) ?_
                exact ih1 x37 x36 (show (6 - x37.toInt : Int) < (n1 : Int) from by omega) ⟨by omega, by omega⟩ _ _ hP hS _ (lv_sub hl [0, 1, 3, 4] rfl)
        exact loop3 19 0 (show (18 - (0 : Int) : Int) < ((19 : Nat) : Int) from by omega) ⟨by decide, by decide⟩ _ _ hP hS _ (lv_sub hl [0, 1, 2, 3, 4] rfl)
  exact loop1 7 0 0 (show (6 - (0 : Int) : Int) < ((7 : Nat) : Int) from by omega) ⟨by decide, by decide⟩ _ _ hP hS _ (lv_sub hl [0, 1, 2, 3] rfl)
set_option maxRecDepth 100000 in
set_option maxHeartbeats 8000000 in
theorem m_squares (l : Launch) (D : va_G) (ca : Nat → ClassId) (o : Nat) (b z : Nat → Nat → Int32) (y : Nat → Nat → Int64) (J0 : qJM b z) (a0 : Int32) (a1 : Int32)  : qM l yX11_squares cX11_squares 5 (some .int) 5 146 (qPre D vwCl (qT6 ca) o 41 (qG (GM ca o) z y) [.ref (o + 0), .int a0, .int a1]) (va_Qi (fun r u => True ∧ qJM b u.1) (qB D vwCl (qT6 ca) o 41 (fun u : qZ => qG (GM ca o) u.1 u.2)) (qw_A o 41)) (qw_A o 41) := by
  refine Met.ofW (cc := cX11_squares) (maxL := 5) (ret := (some .int)) (by decide) rfl ?_
  intro p e s m args below meth c s₁ B hml hv
  obtain ⟨rfl, hP, hK⟩ := hv
  have hx := B.exec
  have hb := B.bytes
  have hr := B.returns
  have hts0 := atoms_spec (ws := Cond.code yX11_squares cX11_squares 5 (some .int) :: qtbl) B.pre
  have hts : ∀ w ∈ qtbl, w.before _ s = true := fun w h => hts0 w (List.mem_cons_of_mem _ h)
  have hown : s.vm.findClass RX11 = some m.cls := findClass_of_methodNamed B.named
  have hlocks := B.notSynchronized
  have hS : va_S (qw_A o 41) s.heap s.heap [] := va_S.rf
  have hl := lv_entry ([.ref (o + 0), .int a0, .int a1]) (n := 5) (Nat.le_of_ble_eq_true rfl)
  rw [lg_entry_eq]
  generalize (lg_sl ([.ref (o + 0), .int a0, .int a1]) ++ List.replicate (5 - (lg_sl ([.ref (o + 0), .int a0, .int a1])).length) Slot.unset).toArray = ls at hl ⊢
  have hl : lv_has ls 5 [(0, .ref (o + 0)), (1, .int a0), (2, .int a1)] := hl
  refine lv_aload_n hx hb dX11_squares_0 rfl (lv_at hl 0 rfl) ?_
  refine lv_iload_n hx hb dX11_squares_1 rfl (lv_at hl 1 rfl) ?_
  refine qc_Vip (As := [.int a0]) (rest := []) (k0 := 1) (m_areRemarks l D ca o b z y J0 a0) kc_yX11_areRemarks ⟨hx, hb, hml, hown, hts⟩ wq_1324 rfl rfl ⟨Nat.le_of_ble_eq_true rfl, Nat.le_of_ble_eq_true rfl⟩ wq_all hP hK hS qw_Ai (q0 := 0) (by decide) (hgM_0 ca o _ _) rfl rfl hl.1 rfl (Nat.le_of_ble_eq_true rfl) dX11_squares_2 ⟨Nat.zero_le _, Nat.zero_le _⟩ (fun r1 H locs h1 hP hS _ _ => ?_)
  have b1 : (0 : Int) ≤ r1.toInt ∧ r1.toInt ≤ 1 := h1
  refine lv_if_eq (tgt := 18) hx hb dX11_squares_5 (by decide) (fun c2 => ?_) (fun c2 => ?_)
  · have t2 : r1.toInt = (0 : Int) := gl_eq c2
    refine lv_iconst (v := (-1)) hx hb dX11_squares_18 (by decide) ?_
    exact W.iret (v := (-1)) hx hb hr (fun t ht hW => ⟨⟨(-1), (z, y), rfl, ⟨trivial, J0⟩, by rw [ht]; exact hP, va_K.moved hW.alike hK⟩, hS.F ht⟩) hS.2.2 dX11_squares_19
  · have t2 : r1.toInt ≠ (0 : Int) := gl_ne c2
    refine lv_iload_n hx hb dX11_squares_8 rfl (lv_at hl 2 rfl) ?_
    refine lv_iconst (v := 0) hx hb dX11_squares_9 (by decide) ?_
    refine lv_bipush (v := 100) hx hb dX11_squares_10 (by decide) ?_
    refine qc_Sip (As := [.int a1, .int 0, .int 100]) (rest := []) (k0 := 3) (m_in l D ca o b z y J0 a1 0 100) kc_yX11_in ⟨hx, hb, hml, hown, hts⟩ wq_1187 rfl rfl ⟨Nat.le_of_ble_eq_true rfl, Nat.le_of_ble_eq_true rfl⟩ wq_all hP hK hS qw_Ai rfl hl.1 rfl (Nat.le_of_ble_eq_true rfl) dX11_squares_12 ⟨Nat.zero_le _, Nat.zero_le _⟩ (fun r3 H locs h3 hP hS _ _ => ?_)
    rcases h3 with ⟨hr3, hf3_0⟩ | ⟨hr3, hf3_0⟩
    · subst hr3
      have hg3_0 : (0 : Int) ≤ a1.toInt ∧ a1.toInt ≤ (100 : Int) := hf3_0
      refine lv_if_ne (tgt := 20) hx hb dX11_squares_15 (by decide) (fun _ => ?_) (fun q => absurd q (by decide))
      refine lv_aload_n hx hb dX11_squares_20 rfl (lv_at hl 0 rfl) ?_
      refine qc_Vip (As := []) (rest := []) (k0 := 0) (m_rowMany l D ca o b z y J0) kc_yX11_rowMany ⟨hx, hb, hml, hown, hts⟩ wq_1315 rfl rfl ⟨Nat.le_of_ble_eq_true rfl, Nat.le_of_ble_eq_true rfl⟩ wq_all hP hK hS qw_Ai (q0 := 0) (by decide) (hgM_0 ca o _ _) rfl rfl hl.1 rfl (Nat.le_of_ble_eq_true rfl) dX11_squares_21 ⟨Nat.zero_le _, Nat.zero_le _⟩ (fun r4 H locs h4 hP hS _ _ => ?_)
      have p4_1 : rmI z 6 r4 := h4.2
      refine lv_ldcw (v := 200000) hx hb hown (hts _ wq_1319) dX11_squares_24 ?_
      refine lv_icmp_le (tgt := 33) hx hb dX11_squares_27 (by decide) (fun c5 => ?_) (fun c5 => ?_)
      · have t5 : r4.toInt ≤ (200000 : Int) := gl_le c5
        refine lv_aload_n hx hb dX11_squares_33 rfl (lv_at hl 0 rfl) ?_
        refine lv_iload_n hx hb dX11_squares_34 rfl (lv_at hl 1 rfl) ?_
        refine qc_Vi2 (As := [.int a0]) (rest := []) (k0 := 1) (m_findsRow l D ca o b z y J0 a0) kc_yX11_findsRow ⟨hx, hb, hml, hown, hts⟩ wq_1332 rfl rfl ⟨Nat.le_of_ble_eq_true rfl, Nat.le_of_ble_eq_true rfl⟩ wq_all hP hK hS qw_Ai (q0 := 0) (by decide) (hgM_0 ca o _ _) rfl rfl hl.1 rfl (Nat.le_of_ble_eq_true rfl) dX11_squares_35 ⟨Nat.zero_le _, Nat.zero_le _⟩ (fun r6 z6 y6 H locs h6 hP hS _ _ => ?_)
        have J6 : qJM b z6 := h6.2
        have b6 : (0 : Int) ≤ r6.toInt ∧ r6.toInt ≤ 1 := h6.1
        refine lv_if_ne (tgt := 44) hx hb dX11_squares_38 (by decide) (fun c7 => ?_) (fun c7 => ?_)
        · have t7 : r6.toInt ≠ (0 : Int) := gl_ne c7
          refine lv_iload_n hx hb dX11_squares_44 rfl (lv_at hl 2 rfl) ?_
          refine lv_bipush (v := 100) hx hb dX11_squares_45 (by decide) ?_
          refine lv_icmp_ge (tgt := 56) hx hb dX11_squares_47 (by decide) (fun c8 => ?_) (fun c8 => ?_)
          · have t8 : a1.toInt ≥ (100 : Int) := gl_le c8
            refine lv_iconst (v := 0) hx hb dX11_squares_56 (by decide) ?_
            refine lv_istore_n (lv' := [(3, .int 0), (0, .ref (o + 0)), (1, .int a0), (2, .int a1)]) hx hb dX11_squares_57 rfl hl (by decide) rfl (fun ls hl => ?_)
            refine lv_iconst (v := 1) hx hb dX11_squares_58 (by decide) ?_
            refine lv_istore (lv' := [(4, .int 1), (3, .int 0), (0, .ref (o + 0)), (1, .int a0), (2, .int a1)]) hx hb dX11_squares_59 hl (by decide) rfl (fun ls hl => ?_)
            have loop9 : ∀ (n : Nat) (w9_4 : Int32) (w9_3 : Int32), ((100 - w9_4.toInt : Int) < (n : Int)) → ((1 : Int) ≤ w9_4.toInt ∧ w9_4.toInt ≤ 100) → ((0 : Int) ≤ w9_3.toInt ∧ w9_3.toInt ≤ 99) → ∀ (H : Heap) (locs : List Loc), qw_P D vwCl o 41 (qG (GM ca o) z6 y6) H → va_S (qw_A o 41) s.heap H locs → ∀ (ls : Array Slot), lv_has ls 5 [(4, .int w9_4), (3, .int w9_3), (0, .ref (o + 0)), (1, .int a0), (2, .int a1)] → W p l e (headSpec (Cond.code yX11_squares cX11_squares 5 (some .int) :: qtbl) ({ frames := 5, cells := 0, slots := 0, locals := 146 })).room s m (([.ref (o + 0), .int a0, .int a1] : List Value).toArray) below meth c H locs 0 0 (MQ below (va_Qi (fun r u => True ∧ qJM b u.1) (qB D vwCl (qT6 ca) o 41 (fun u : qZ => qG (GM ca o) u.1 u.2)) (qw_A o 41)) (([.ref (o + 0), .int a0, .int a1] : List Value).toArray) s 0 0 (qw_A o 41)) (F0 m 61 ls []) := by
              intro n
              induction n with
              | zero => intro w9_4 w9_3 hb9 hv9_4 hv9_3; exfalso; omega
              | succ n9 ih9 =>
                intro w9_4 w9_3 hb9 hv9_4 hv9_3 H locs hP hS ls hl
                refine lv_iload hx hb dX11_squares_61 (lv_at hl 0 rfl) ?_
                refine lv_bipush (v := 100) hx hb dX11_squares_63 (by decide) ?_
                refine lv_icmp_ge (tgt := 91) hx hb dX11_squares_65 (by decide) (fun c10 => ?_) (fun c10 => ?_)
                · have t10 : w9_4.toInt ≥ (100 : Int) := gl_le c10
                  refine lv_iload_n hx hb dX11_squares_91 rfl (lv_at hl 1 rfl) ?_
                  exact W.iret (v := w9_3) hx hb hr (fun t ht hW => ⟨⟨w9_3, (z6, y6), rfl, ⟨trivial, J6⟩, by rw [ht]; exact hP, va_K.moved hW.alike hK⟩, hS.F ht⟩) hS.2.2 dX11_squares_92
                · have t10 : w9_4.toInt < (100 : Int) := gl_nle c10
                  refine lv_aload_n hx hb dX11_squares_68 rfl (lv_at hl 2 rfl) ?_
                  refine lv_iload hx hb dX11_squares_69 (lv_at hl 0 rfl) ?_
                  refine qc_Vip (As := [.int w9_4]) (rest := []) (k0 := 1) (m_squaresIn l D ca o b z6 y6 J6 w9_4 ⟨by omega, by omega⟩) kc_yX11_squaresIn ⟨hx, hb, hml, hown, hts⟩ wq_1511 rfl rfl ⟨Nat.le_of_ble_eq_true rfl, Nat.le_of_ble_eq_true rfl⟩ wq_all hP hK hS qw_Ai (q0 := 0) (by decide) (hgM_0 ca o _ _) rfl rfl hl.1 rfl (Nat.le_of_ble_eq_true rfl) dX11_squares_71 ⟨Nat.zero_le _, Nat.zero_le _⟩ (fun r11 H locs h11 hP hS _ _ => ?_)
                  refine lv_aload_n hx hb dX11_squares_74 rfl (lv_at hl 2 rfl) ?_
                  refine lv_iload_n hx hb dX11_squares_75 rfl (lv_at hl 1 rfl) ?_
                  refine qc_Vip (As := [.int w9_3]) (rest := [.int r11]) (k0 := 1) (m_squaresIn l D ca o b z6 y6 J6 w9_3 ⟨by omega, by omega⟩) kc_yX11_squaresIn ⟨hx, hb, hml, hown, hts⟩ wq_1511 rfl rfl ⟨Nat.le_of_ble_eq_true rfl, Nat.le_of_ble_eq_true rfl⟩ wq_all hP hK hS qw_Ai (q0 := 0) (by decide) (hgM_0 ca o _ _) rfl rfl hl.1 rfl (Nat.le_of_ble_eq_true rfl) dX11_squares_76 ⟨Nat.zero_le _, Nat.zero_le _⟩ (fun r12 H locs h12 hP hS _ _ => ?_)
                  refine lv_icmp_le (tgt := 85) hx hb dX11_squares_79 (by decide) (fun c13 => ?_) (fun c13 => ?_)
                  · have t13 : r11.toInt ≤ r12.toInt := gl_le c13
                    obtain ⟨x14, e14⟩ : ∃ t : Int32, t = w9_4 + 1 := ⟨_, rfl⟩
                    refine lv_iinc (v := x14) (lv' := [(4, .int x14), (3, .int w9_3), (0, .ref (o + 0)), (1, .int a0), (2, .int a1)]) hx hb dX11_squares_85 hl (k := 0) rfl (by rw [e14]; rfl) (by decide) rfl (fun ls hl => ?_)
                    have t14 : x14.toInt = w9_4.toInt + (1 : Int) := ga_add e14 rfl rfl (by omega) (by omega)
                    refine lv_goto (tgt := 61) hx hb dX11_squares_88 (by decide) ?_
                    exact ih9 x14 w9_3 (show (100 - x14.toInt : Int) < (n9 : Int) from by omega) ⟨by omega, by omega⟩ ⟨by omega, by omega⟩ _ _ hP hS _ (lv_sub hl [0, 1, 2, 3, 4] rfl)
                  · have t13 : r11.toInt > r12.toInt := gl_nle c13
                    refine lv_iload hx hb dX11_squares_82 (lv_at hl 0 rfl) ?_
                    refine lv_istore_n (lv' := [(3, .int w9_4), (4, .int w9_4), (0, .ref (o + 0)), (1, .int a0), (2, .int a1)]) hx hb dX11_squares_84 rfl hl (by decide) rfl (fun ls hl => ?_)
                    obtain ⟨x15, e15⟩ : ∃ t : Int32, t = w9_4 + 1 := ⟨_, rfl⟩
                    refine lv_iinc (v := x15) (lv' := [(4, .int x15), (3, .int w9_4), (0, .ref (o + 0)), (1, .int a0), (2, .int a1)]) hx hb dX11_squares_85 hl (k := 1) rfl (by rw [e15]; rfl) (by decide) rfl (fun ls hl => ?_)
                    have t15 : x15.toInt = w9_4.toInt + (1 : Int) := ga_add e15 rfl rfl (by omega) (by omega)
                    refine lv_goto (tgt := 61) hx hb dX11_squares_88 (by decide) ?_
                    exact ih9 x15 w9_4 (show (100 - x15.toInt : Int) < (n9 : Int) from by omega) ⟨by omega, by omega⟩ ⟨by omega, by omega⟩ _ _ hP hS _ (lv_sub hl [0, 1, 2, 3, 4] rfl)
            exact loop9 100 1 0 (show (100 - (1 : Int) : Int) < ((100 : Nat) : Int) from by omega) ⟨by decide, by decide⟩ ⟨by decide, by decide⟩ _ _ hP hS _ (lv_sub hl [0, 1, 2, 3, 4] rfl)
          · have t8 : a1.toInt < (100 : Int) := gl_nle c8
            refine lv_aload_n hx hb dX11_squares_50 rfl (lv_at hl 0 rfl) ?_
            refine lv_iload_n hx hb dX11_squares_51 rfl (lv_at hl 2 rfl) ?_
            refine qc_Vip (As := [.int a1]) (rest := []) (k0 := 1) (m_squaresIn l D ca o b z6 y6 J6 a1 ⟨by omega, by omega⟩) kc_yX11_squaresIn ⟨hx, hb, hml, hown, hts⟩ wq_1511 rfl rfl ⟨Nat.le_of_ble_eq_true rfl, Nat.le_of_ble_eq_true rfl⟩ wq_all hP hK hS qw_Ai (q0 := 0) (by decide) (hgM_0 ca o _ _) rfl rfl hl.1 rfl (Nat.le_of_ble_eq_true rfl) dX11_squares_52 ⟨Nat.zero_le _, Nat.zero_le _⟩ (fun r16 H locs h16 hP hS _ _ => ?_)
            exact W.iret (v := r16) hx hb hr (fun t ht hW => ⟨⟨r16, (z6, y6), rfl, ⟨trivial, J6⟩, by rw [ht]; exact hP, va_K.moved hW.alike hK⟩, hS.F ht⟩) hS.2.2 dX11_squares_55
        · have t7 : r6.toInt = (0 : Int) := gl_eq c7
          refine lv_bipush (v := (-2)) hx hb dX11_squares_41 (by decide) ?_
          exact W.iret (v := (-2)) hx hb hr (fun t ht hW => ⟨⟨(-2), (z6, y6), rfl, ⟨trivial, J6⟩, by rw [ht]; exact hP, va_K.moved hW.alike hK⟩, hS.F ht⟩) hS.2.2 dX11_squares_43
      · have t5 : r4.toInt > (200000 : Int) := gl_nle c5
        refine lv_bipush (v := (-3)) hx hb dX11_squares_30 (by decide) ?_
        exact W.iret (v := (-3)) hx hb hr (fun t ht hW => ⟨⟨(-3), (z, y), rfl, ⟨trivial, J0⟩, by rw [ht]; exact hP, va_K.moved hW.alike hK⟩, hS.F ht⟩) hS.2.2 dX11_squares_32
    · subst hr3
      have hg3_0 : ¬ ((0 : Int) ≤ a1.toInt ∧ a1.toInt ≤ (100 : Int)) := hf3_0
      refine lv_if_ne (tgt := 20) hx hb dX11_squares_15 (by decide) (fun q => absurd q (by decide)) (fun _ => ?_)
      refine lv_iconst (v := (-1)) hx hb dX11_squares_18 (by decide) ?_
      exact W.iret (v := (-1)) hx hb hr (fun t ht hW => ⟨⟨(-1), (z, y), rfl, ⟨trivial, J0⟩, by rw [ht]; exact hP, va_K.moved hW.alike hK⟩, hS.F ht⟩) hS.2.2 dX11_squares_19
set_option maxRecDepth 100000 in
set_option maxHeartbeats 8000000 in
theorem m_when (l : Launch) (D : va_G) (ca : Nat → ClassId) (o : Nat) (b z : Nat → Nat → Int32) (y : Nat → Nat → Int64) (J0 : qJM b z) (a0 : Int32) (a1 : Int32) (a2 : Int32) (a3 : Int32)  : qM l yX11_when cX11_when 5 (some .int) 5 146 (qPre D vwCl (qT6 ca) o 41 (qG (GM ca o) z y) [.ref (o + 0), .int a0, .int a1, .int a2, .int a3]) (va_Qi (fun r u => ((-4000 : Int) ≤ r.toInt ∧ r.toInt ≤ 298) ∧ qJM b u.1) (qB D vwCl (qT6 ca) o 41 (fun u : qZ => qG (GM ca o) u.1 u.2)) (qw_A o 41)) (qw_A o 41) := by
  refine Met.ofW (cc := cX11_when) (maxL := 5) (ret := (some .int)) (by decide) rfl ?_
  intro p e s m args below meth c s₁ B hml hv
  obtain ⟨rfl, hP, hK⟩ := hv
  have hx := B.exec
  have hb := B.bytes
  have hr := B.returns
  have hts0 := atoms_spec (ws := Cond.code yX11_when cX11_when 5 (some .int) :: qtbl) B.pre
  have hts : ∀ w ∈ qtbl, w.before _ s = true := fun w h => hts0 w (List.mem_cons_of_mem _ h)
  have hown : s.vm.findClass RX11 = some m.cls := findClass_of_methodNamed B.named
  have hlocks := B.notSynchronized
  have hS : va_S (qw_A o 41) s.heap s.heap [] := va_S.rf
  have hl := lv_entry ([.ref (o + 0), .int a0, .int a1, .int a2, .int a3]) (n := 5) (Nat.le_of_ble_eq_true rfl)
  rw [lg_entry_eq]
  generalize (lg_sl ([.ref (o + 0), .int a0, .int a1, .int a2, .int a3]) ++ List.replicate (5 - (lg_sl ([.ref (o + 0), .int a0, .int a1, .int a2, .int a3])).length) Slot.unset).toArray = ls at hl ⊢
  have hl : lv_has ls 5 [(0, .ref (o + 0)), (1, .int a0), (2, .int a1), (3, .int a2), (4, .int a3)] := hl
  refine lv_aload_n hx hb dX11_when_0 rfl (lv_at hl 0 rfl) ?_
  refine lv_iload_n hx hb dX11_when_1 rfl (lv_at hl 1 rfl) ?_
  refine qc_Vip (As := [.int a0]) (rest := []) (k0 := 1) (m_areRemarks l D ca o b z y J0 a0) kc_yX11_areRemarks ⟨hx, hb, hml, hown, hts⟩ wq_1324 rfl rfl ⟨Nat.le_of_ble_eq_true rfl, Nat.le_of_ble_eq_true rfl⟩ wq_all hP hK hS qw_Ai (q0 := 0) (by decide) (hgM_0 ca o _ _) rfl rfl hl.1 rfl (Nat.le_of_ble_eq_true rfl) dX11_when_2 ⟨Nat.zero_le _, Nat.zero_le _⟩ (fun r1 H locs h1 hP hS _ _ => ?_)
  have b1 : (0 : Int) ≤ r1.toInt ∧ r1.toInt ≤ 1 := h1
  refine lv_if_eq (tgt := 36) hx hb dX11_when_5 (by decide) (fun c2 => ?_) (fun c2 => ?_)
  · have t2 : r1.toInt = (0 : Int) := gl_eq c2
    refine lv_sipush (v := (-4000)) hx hb dX11_when_36 (by decide) ?_
    exact W.iret (v := (-4000)) hx hb hr (fun t ht hW => ⟨⟨(-4000), (z, y), rfl, ⟨⟨by decide, by decide⟩, J0⟩, by rw [ht]; exact hP, va_K.moved hW.alike hK⟩, hS.F ht⟩) hS.2.2 dX11_when_39
  · have t2 : r1.toInt ≠ (0 : Int) := gl_ne c2
    refine lv_aload_n hx hb dX11_when_8 rfl (lv_at hl 0 rfl) ?_
    refine lv_iload_n hx hb dX11_when_9 rfl (lv_at hl 2 rfl) ?_
    refine qc_Vip (As := [.int a1]) (rest := []) (k0 := 1) (m_isPerson l D ca o b z y J0 a1) kc_yX11_isPerson ⟨hx, hb, hml, hown, hts⟩ wq_1194 rfl rfl ⟨Nat.le_of_ble_eq_true rfl, Nat.le_of_ble_eq_true rfl⟩ wq_all hP hK hS qw_Ai (q0 := 0) (by decide) (hgM_0 ca o _ _) rfl rfl hl.1 rfl (Nat.le_of_ble_eq_true rfl) dX11_when_10 ⟨Nat.zero_le _, Nat.zero_le _⟩ (fun r3 H locs h3 hP hS _ _ => ?_)
    rcases h3 with ⟨hr3, hf3_0, hf3_1⟩ | ⟨hr3, hf3_0⟩
    · subst hr3
      have hg3_0 : pHas (z 0 4) a1 := hf3_0
      have hg3_1 : 0 ≤ a1.toInt ∧ a1.toInt ≤ 5 := hf3_1
      refine lv_if_eq (tgt := 36) hx hb dX11_when_13 (by decide) (fun q => absurd q (by decide)) (fun _ => ?_)
      refine lv_aload_n hx hb dX11_when_16 rfl (lv_at hl 0 rfl) ?_
      refine lv_iload_n hx hb dX11_when_17 rfl (lv_at hl 3 rfl) ?_
      refine qc_Vip (As := [.int a2]) (rest := []) (k0 := 1) (m_isPerson l D ca o b z y J0 a2) kc_yX11_isPerson ⟨hx, hb, hml, hown, hts⟩ wq_1194 rfl rfl ⟨Nat.le_of_ble_eq_true rfl, Nat.le_of_ble_eq_true rfl⟩ wq_all hP hK hS qw_Ai (q0 := 0) (by decide) (hgM_0 ca o _ _) rfl rfl hl.1 rfl (Nat.le_of_ble_eq_true rfl) dX11_when_18 ⟨Nat.zero_le _, Nat.zero_le _⟩ (fun r4 H locs h4 hP hS _ _ => ?_)
      rcases h4 with ⟨hr4, hf4_0, hf4_1⟩ | ⟨hr4, hf4_0⟩
      · subst hr4
        have hg4_0 : pHas (z 0 4) a2 := hf4_0
        have hg4_1 : 0 ≤ a2.toInt ∧ a2.toInt ≤ 5 := hf4_1
        refine lv_if_eq (tgt := 36) hx hb dX11_when_21 (by decide) (fun q => absurd q (by decide)) (fun _ => ?_)
        refine lv_iload hx hb dX11_when_24 (lv_at hl 4 rfl) ?_
        refine lv_iconst (v := 0) hx hb dX11_when_26 (by decide) ?_
        refine lv_sipush (v := 199) hx hb dX11_when_27 (by decide) ?_
        refine qc_Sip (As := [.int a3, .int 0, .int 199]) (rest := []) (k0 := 3) (m_in l D ca o b z y J0 a3 0 199) kc_yX11_in ⟨hx, hb, hml, hown, hts⟩ wq_1187 rfl rfl ⟨Nat.le_of_ble_eq_true rfl, Nat.le_of_ble_eq_true rfl⟩ wq_all hP hK hS qw_Ai rfl hl.1 rfl (Nat.le_of_ble_eq_true rfl) dX11_when_30 ⟨Nat.zero_le _, Nat.zero_le _⟩ (fun r5 H locs h5 hP hS _ _ => ?_)
        rcases h5 with ⟨hr5, hf5_0⟩ | ⟨hr5, hf5_0⟩
        · subst hr5
          have hg5_0 : (0 : Int) ≤ a3.toInt ∧ a3.toInt ≤ (199 : Int) := hf5_0
          refine lv_if_ne (tgt := 40) hx hb dX11_when_33 (by decide) (fun _ => ?_) (fun q => absurd q (by decide))
          refine lv_aload_n hx hb dX11_when_40 rfl (lv_at hl 0 rfl) ?_
          refine qc_Vip (As := []) (rest := []) (k0 := 0) (m_rowMany l D ca o b z y J0) kc_yX11_rowMany ⟨hx, hb, hml, hown, hts⟩ wq_1315 rfl rfl ⟨Nat.le_of_ble_eq_true rfl, Nat.le_of_ble_eq_true rfl⟩ wq_all hP hK hS qw_Ai (q0 := 0) (by decide) (hgM_0 ca o _ _) rfl rfl hl.1 rfl (Nat.le_of_ble_eq_true rfl) dX11_when_41 ⟨Nat.zero_le _, Nat.zero_le _⟩ (fun r6 H locs h6 hP hS _ _ => ?_)
          have p6_1 : rmI z 6 r6 := h6.2
          refine lv_ldcw (v := 200000) hx hb hown (hts _ wq_1319) dX11_when_44 ?_
          refine lv_icmp_le (tgt := 54) hx hb dX11_when_47 (by decide) (fun c7 => ?_) (fun c7 => ?_)
          · have t7 : r6.toInt ≤ (200000 : Int) := gl_le c7
            refine lv_aload_n hx hb dX11_when_54 rfl (lv_at hl 0 rfl) ?_
            refine lv_iload_n hx hb dX11_when_55 rfl (lv_at hl 1 rfl) ?_
            refine qc_Vi2 (As := [.int a0]) (rest := []) (k0 := 1) (m_findsRow l D ca o b z y J0 a0) kc_yX11_findsRow ⟨hx, hb, hml, hown, hts⟩ wq_1332 rfl rfl ⟨Nat.le_of_ble_eq_true rfl, Nat.le_of_ble_eq_true rfl⟩ wq_all hP hK hS qw_Ai (q0 := 0) (by decide) (hgM_0 ca o _ _) rfl rfl hl.1 rfl (Nat.le_of_ble_eq_true rfl) dX11_when_56 ⟨Nat.zero_le _, Nat.zero_le _⟩ (fun r8 z8 y8 H locs h8 hP hS _ _ => ?_)
            have J8 : qJM b z8 := h8.2
            have b8 : (0 : Int) ≤ r8.toInt ∧ r8.toInt ≤ 1 := h8.1
            refine lv_if_eq (tgt := 81) hx hb dX11_when_59 (by decide) (fun c9 => ?_) (fun c9 => ?_)
            · have t9 : r8.toInt = (0 : Int) := gl_eq c9
              refine lv_sipush (v := (-1000)) hx hb dX11_when_81 (by decide) ?_
              exact W.iret (v := (-1000)) hx hb hr (fun t ht hW => ⟨⟨(-1000), (z8, y8), rfl, ⟨⟨by decide, by decide⟩, J8⟩, by rw [ht]; exact hP, va_K.moved hW.alike hK⟩, hS.F ht⟩) hS.2.2 dX11_when_84
            · have t9 : r8.toInt ≠ (0 : Int) := gl_ne c9
              refine lv_aload_n hx hb dX11_when_62 rfl (lv_at hl 0 rfl) ?_
              refine qf_get hx hb hts inX11 hown hK hP (q0 := 0) (by decide) (hgM_0 ca o) rfl 36 (by decide) wq_1028 (v := .ref (o + 23)) rfl dX11_when_63 ?_
              refine lv_iload_n hx hb dX11_when_66 rfl (lv_at hl 2 rfl) ?_
              refine qa_iald hx hb hK hP (q0 := 23) (by decide) 0 (N := 6) (hgM_23 ca o) rfl (gi_in (by omega) (by omega)) dX11_when_67 ?_
              refine lv_topi (fun x10 e10 => ?_)
              have b10 := iM_23 J8 e10
              refine lv_aload_n hx hb dX11_when_68 rfl (lv_at hl 0 rfl) ?_
              refine qf_get hx hb hts inX11 hown hK hP (q0 := 0) (by decide) (hgM_0 ca o) rfl 36 (by decide) wq_1028 (v := .ref (o + 23)) rfl dX11_when_69 ?_
              refine lv_iload_n hx hb dX11_when_72 rfl (lv_at hl 3 rfl) ?_
              refine qa_iald hx hb hK hP (q0 := 23) (by decide) 0 (N := 6) (hgM_23 ca o) rfl (gi_in (by omega) (by omega)) dX11_when_73 ?_
              refine lv_topi (fun x11 e11 => ?_)
              have b11 := iM_23 J8 e11
              refine lv_isub hx hb dX11_when_74 ?_
              refine lv_topi (fun x12 e12 => ?_)
              have t12 : x12.toInt = x10.toInt - x11.toInt := ga_sub e12 rfl rfl (by omega) (by omega)
              refine lv_iload hx hb dX11_when_75 (lv_at hl 4 rfl) ?_
              refine lv_iadd hx hb dX11_when_77 ?_
              refine lv_topi (fun x13 e13 => ?_)
              have t13 : x13.toInt = x12.toInt + a3.toInt := ga_add e13 rfl rfl (by omega) (by omega)
              refine lv_goto (tgt := 84) hx hb dX11_when_78 (by decide) ?_
              exact W.iret (v := x13) hx hb hr (fun t ht hW => ⟨⟨x13, (z8, y8), rfl, ⟨⟨by omega, by omega⟩, J8⟩, by rw [ht]; exact hP, va_K.moved hW.alike hK⟩, hS.F ht⟩) hS.2.2 dX11_when_84
          · have t7 : r6.toInt > (200000 : Int) := gl_nle c7
            refine lv_sipush (v := (-3000)) hx hb dX11_when_50 (by decide) ?_
            exact W.iret (v := (-3000)) hx hb hr (fun t ht hW => ⟨⟨(-3000), (z, y), rfl, ⟨⟨by decide, by decide⟩, J0⟩, by rw [ht]; exact hP, va_K.moved hW.alike hK⟩, hS.F ht⟩) hS.2.2 dX11_when_53
        · subst hr5
          have hg5_0 : ¬ ((0 : Int) ≤ a3.toInt ∧ a3.toInt ≤ (199 : Int)) := hf5_0
          refine lv_if_ne (tgt := 40) hx hb dX11_when_33 (by decide) (fun q => absurd q (by decide)) (fun _ => ?_)
          refine lv_sipush (v := (-4000)) hx hb dX11_when_36 (by decide) ?_
          exact W.iret (v := (-4000)) hx hb hr (fun t ht hW => ⟨⟨(-4000), (z, y), rfl, ⟨⟨by decide, by decide⟩, J0⟩, by rw [ht]; exact hP, va_K.moved hW.alike hK⟩, hS.F ht⟩) hS.2.2 dX11_when_39
      · subst hr4
        have hg4_0 : ¬ pHas (z 0 4) a2 := hf4_0
        refine lv_if_eq (tgt := 36) hx hb dX11_when_21 (by decide) (fun _ => ?_) (fun q => absurd (by decide) q)
        refine lv_sipush (v := (-4000)) hx hb dX11_when_36 (by decide) ?_
        exact W.iret (v := (-4000)) hx hb hr (fun t ht hW => ⟨⟨(-4000), (z, y), rfl, ⟨⟨by decide, by decide⟩, J0⟩, by rw [ht]; exact hP, va_K.moved hW.alike hK⟩, hS.F ht⟩) hS.2.2 dX11_when_39
    · subst hr3
      have hg3_0 : ¬ pHas (z 0 4) a1 := hf3_0
      refine lv_if_eq (tgt := 36) hx hb dX11_when_13 (by decide) (fun _ => ?_) (fun q => absurd (by decide) q)
      refine lv_sipush (v := (-4000)) hx hb dX11_when_36 (by decide) ?_
      exact W.iret (v := (-4000)) hx hb hr (fun t ht hW => ⟨⟨(-4000), (z, y), rfl, ⟨⟨by decide, by decide⟩, J0⟩, by rw [ht]; exact hP, va_K.moved hW.alike hK⟩, hS.F ht⟩) hS.2.2 dX11_when_39
set_option maxRecDepth 100000 in
set_option maxHeartbeats 8000000 in
theorem m_readsPlaces (l : Launch) (D : va_G) (ca : Nat → ClassId) (o : Nat) (b z : Nat → Nat → Int32) (y : Nat → Nat → Int64) (J0 : qJM b z) (a0 : Int32) (a1 : Int32) (ha0 : (0 : Int) ≤ a0.toInt ∧ a0.toInt ≤ 2147483647) (ha1 : (2 : Int) ≤ a1.toInt ∧ a1.toInt ≤ 6) : qM l yX11_readsPlaces cX11_readsPlaces 6 (some .boolean) 2 81 (qPre D vwCl (qT6 ca) o 41 (qG (GM ca o) z y) [.ref (o + 0), .int a0, .int a1]) (va_Qi (fun r u => ((0 : Int) ≤ r.toInt ∧ r.toInt ≤ 1) ∧ qJM b u.1) (qB D vwCl (qT6 ca) o 41 (fun u : qZ => qG (GM ca o) u.1 u.2)) (qw_A o 41)) (qw_A o 41) := by
  refine Met.ofW (cc := cX11_readsPlaces) (maxL := 6) (ret := (some .boolean)) (by decide) rfl ?_
  intro p e s m args below meth c s₁ B hml hv
  obtain ⟨rfl, hP, hK⟩ := hv
  have hx := B.exec
  have hb := B.bytes
  have hr := B.returns
  have hts0 := atoms_spec (ws := Cond.code yX11_readsPlaces cX11_readsPlaces 6 (some .boolean) :: qtbl) B.pre
  have hts : ∀ w ∈ qtbl, w.before _ s = true := fun w h => hts0 w (List.mem_cons_of_mem _ h)
  have hown : s.vm.findClass RX11 = some m.cls := findClass_of_methodNamed B.named
  have hlocks := B.notSynchronized
  have hS : va_S (qw_A o 41) s.heap s.heap [] := va_S.rf
  have hl := lv_entry ([.ref (o + 0), .int a0, .int a1]) (n := 6) (Nat.le_of_ble_eq_true rfl)
  rw [lg_entry_eq]
  generalize (lg_sl ([.ref (o + 0), .int a0, .int a1]) ++ List.replicate (6 - (lg_sl ([.ref (o + 0), .int a0, .int a1])).length) Slot.unset).toArray = ls at hl ⊢
  have hl : lv_has ls 6 [(0, .ref (o + 0)), (1, .int a0), (2, .int a1)] := hl
  refine lv_iload_n hx hb dX11_readsPlaces_0 rfl (lv_at hl 1 rfl) ?_
  refine lv_istore_n (lv' := [(3, .int a0), (0, .ref (o + 0)), (1, .int a0), (2, .int a1)]) hx hb dX11_readsPlaces_1 rfl hl (by decide) rfl (fun ls hl => ?_)
  refine lv_iconst (v := 0) hx hb dX11_readsPlaces_2 (by decide) ?_
  refine lv_istore (lv' := [(4, .int 0), (3, .int a0), (0, .ref (o + 0)), (1, .int a0), (2, .int a1)]) hx hb dX11_readsPlaces_3 hl (by decide) rfl (fun ls hl => ?_)
  refine lv_iload_n hx hb dX11_readsPlaces_5 rfl (lv_at hl 4 rfl) ?_
  refine lv_iconst (v := 1) hx hb dX11_readsPlaces_6 (by decide) ?_
  refine lv_isub hx hb dX11_readsPlaces_7 ?_
  refine lv_topi (fun x1 e1 => ?_)
  have t1 : x1.toInt = a1.toInt - (1 : Int) := ga_sub e1 rfl rfl (by omega) (by omega)
  refine lv_istore (lv' := [(5, .int x1), (4, .int 0), (3, .int a0), (0, .ref (o + 0)), (1, .int a0), (2, .int a1)]) hx hb dX11_readsPlaces_8 hl (by decide) rfl (fun ls hl => ?_)
  have loop2 : ∀ (n : Nat) (w2_5 : Int32) (w2_4 : Int32) (w2_3 : Int32) (z2 : Nat → Nat → Int32) (y2 : Nat → Nat → Int64), ((w2_5.toInt + 1 : Int) < (n : Int)) → ((-1 : Int) ≤ w2_5.toInt ∧ w2_5.toInt ≤ 5) → ((0 : Int) ≤ w2_4.toInt ∧ w2_4.toInt ≤ 63) → ((0 : Int) ≤ w2_3.toInt ∧ w2_3.toInt ≤ 2147483647) → (qJM b z2) → ∀ (H : Heap) (locs : List Loc), qw_P D vwCl o 41 (qG (GM ca o) z2 y2) H → va_S (qw_A o 41) s.heap H locs → ∀ (ls : Array Slot), lv_has ls 6 [(5, .int w2_5), (4, .int w2_4), (3, .int w2_3), (0, .ref (o + 0)), (1, .int a0), (2, .int a1)] → W p l e (headSpec (Cond.code yX11_readsPlaces cX11_readsPlaces 6 (some .boolean) :: qtbl) ({ frames := 2, cells := 0, slots := 0, locals := 81 })).room s m (([.ref (o + 0), .int a0, .int a1] : List Value).toArray) below meth c H locs 0 0 (MQ below (va_Qi (fun r u => ((0 : Int) ≤ r.toInt ∧ r.toInt ≤ 1) ∧ qJM b u.1) (qB D vwCl (qT6 ca) o 41 (fun u : qZ => qG (GM ca o) u.1 u.2)) (qw_A o 41)) (([.ref (o + 0), .int a0, .int a1] : List Value).toArray) s 0 0 (qw_A o 41)) (F0 m 10 ls []) := by
    intro n
    induction n with
    | zero => intro w2_5 w2_4 w2_3 z2 y2 hb2 hv2_5 hv2_4 hv2_3 J2; exfalso; omega
    | succ n2 ih2 =>
      intro w2_5 w2_4 w2_3 z2 y2 hb2 hv2_5 hv2_4 hv2_3 J2 H locs hP hS ls hl
      refine lv_iload hx hb dX11_readsPlaces_10 (lv_at hl 0 rfl) ?_
      refine lv_if_lt (tgt := 66) hx hb dX11_readsPlaces_12 (by decide) (fun c3 => ?_) (fun c3 => ?_)
      · have t3 : w2_5.toInt < (0 : Int) := gl_lt c3
        refine lv_iconst (v := 1) hx hb dX11_readsPlaces_66 (by decide) ?_
        exact W.zret (v := 1) (ty := .boolean) hx hb hr rfl (fun t ht hW => ⟨⟨1, (z2, y2), rfl, ⟨⟨by decide, by decide⟩, J2⟩, by rw [ht]; exact hP, va_K.moved hW.alike hK⟩, hS.F ht⟩) hS.2.2 dX11_readsPlaces_67
      · have t3 : w2_5.toInt ≥ (0 : Int) := gl_nlt c3
        refine lv_aload_n hx hb dX11_readsPlaces_15 rfl (lv_at hl 3 rfl) ?_
        refine qf_get hx hb hts inX11 hown hK hP (q0 := 0) (by decide) (hgM_0 ca o) rfl 49 (by decide) wq_1041 (v := .ref (o + 30)) rfl dX11_readsPlaces_16 ?_
        refine lv_iload hx hb dX11_readsPlaces_19 (lv_at hl 0 rfl) ?_
        refine lv_iload_n hx hb dX11_readsPlaces_21 rfl (lv_at hl 2 rfl) ?_
        refine lv_iload_n hx hb dX11_readsPlaces_22 rfl (lv_at hl 5 rfl) ?_
        refine lv_irem hx hb dX11_readsPlaces_23 (gr_ne (show a1.toInt ≠ (0 : Int) from by omega)) ?_
        refine lv_topi (fun x4 e4 => ?_)
        have t4 : 0 ≤ x4.toInt ∧ x4.toInt < a1.toInt := ga_remv e4 (by omega) (by omega)
        refine qa_iast2 hx hb hK hP hS qw_Ai (q0 := 30) (by decide) 0 (N := 6) (hgM_30 ca o) rfl (i := w2_5) (x := x4) (gi_in (by omega) (by omega)) dX11_readsPlaces_24 (fun z5 H locs hz5 hP hS => ?_)
        have J5 := jM_30 J2 hz5 ⟨by omega, by omega⟩
        refine lv_iload_n hx hb dX11_readsPlaces_25 rfl (lv_at hl 2 rfl) ?_
        refine lv_iload_n hx hb dX11_readsPlaces_26 rfl (lv_at hl 5 rfl) ?_
        refine lv_idiv hx hb dX11_readsPlaces_27 (gr_ne (show a1.toInt ≠ (0 : Int) from by omega)) ?_
        refine lv_topi (fun x6 e6 => ?_)
        have t6 : 0 ≤ x6.toInt ∧ x6.toInt ≤ w2_3.toInt := ga_divv e6 (by omega) (by omega)
        refine lv_istore_n (lv' := [(3, .int x6), (5, .int w2_5), (4, .int w2_4), (0, .ref (o + 0)), (1, .int a0), (2, .int a1)]) hx hb dX11_readsPlaces_28 rfl hl (by decide) rfl (fun ls hl => ?_)
        refine lv_iload hx hb dX11_readsPlaces_29 (lv_at hl 2 rfl) ?_
        refine lv_aload_n hx hb dX11_readsPlaces_31 rfl (lv_at hl 3 rfl) ?_
        refine qf_get hx hb hts inX11 hown hK hP (q0 := 0) (by decide) (hgM_0 ca o) rfl 49 (by decide) wq_1041 (v := .ref (o + 30)) rfl dX11_readsPlaces_32 ?_
        refine lv_iload hx hb dX11_readsPlaces_35 (lv_at hl 1 rfl) ?_
        refine qa_iald hx hb hK hP (q0 := 30) (by decide) 0 (N := 6) (hgM_30 ca o) rfl (gi_in (by omega) (by omega)) dX11_readsPlaces_37 ?_
        refine lv_topi (fun x7 e7 => ?_)
        have b7 := iM_30 J5 e7
        refine qc_Sip (As := [.int w2_4, .int x7]) (rest := []) (k0 := 2) (m_has l D ca o b z5 y2 J5 w2_4 x7) kc_yX11_has ⟨hx, hb, hml, hown, hts⟩ wq_1198 rfl rfl ⟨Nat.le_of_ble_eq_true rfl, Nat.le_of_ble_eq_true rfl⟩ wq_all hP hK hS qw_Ai rfl hl.1 rfl (Nat.le_of_ble_eq_true rfl) dX11_readsPlaces_38 ⟨Nat.zero_le _, Nat.zero_le _⟩ (fun r8 H locs h8 hP hS _ _ => ?_)
        rcases h8 with ⟨hr8, hf8_0⟩ | ⟨hr8, hf8_0⟩
        · subst hr8
          have hg8_0 : bitAt w2_4 x7 ≠ 0 := hf8_0
          refine lv_if_eq (tgt := 46) hx hb dX11_readsPlaces_41 (by decide) (fun q => absurd q (by decide)) (fun _ => ?_)
          refine lv_iconst (v := 0) hx hb dX11_readsPlaces_44 (by decide) ?_
          exact W.zret (v := 0) (ty := .boolean) hx hb hr rfl (fun t ht hW => ⟨⟨0, (z5, y2), rfl, ⟨⟨by decide, by decide⟩, J5⟩, by rw [ht]; exact hP, va_K.moved hW.alike hK⟩, hS.F ht⟩) hS.2.2 dX11_readsPlaces_45
        · subst hr8
          have hg8_0 : bitAt w2_4 x7 = 0 := hf8_0
          refine lv_if_eq (tgt := 46) hx hb dX11_readsPlaces_41 (by decide) (fun _ => ?_) (fun q => absurd (by decide) q)
          refine lv_iload hx hb dX11_readsPlaces_46 (lv_at hl 2 rfl) ?_
          refine lv_iconst (v := 1) hx hb dX11_readsPlaces_48 (by decide) ?_
          refine lv_aload_n hx hb dX11_readsPlaces_49 rfl (lv_at hl 3 rfl) ?_
          refine qf_get hx hb hts inX11 hown hK hP (q0 := 0) (by decide) (hgM_0 ca o) rfl 49 (by decide) wq_1041 (v := .ref (o + 30)) rfl dX11_readsPlaces_50 ?_
          refine lv_iload hx hb dX11_readsPlaces_53 (lv_at hl 1 rfl) ?_
          refine qa_iald hx hb hK hP (q0 := 30) (by decide) 0 (N := 6) (hgM_30 ca o) rfl (gi_in (by omega) (by omega)) dX11_readsPlaces_55 ?_
          refine lv_topi (fun x9 e9 => ?_)
          have b9 := iM_30 J5 e9
          have ag9 : x9.toInt = x7.toInt := congrArg Int32.toInt (e9.trans e7.symm)
          refine lv_ishl hx hb dX11_readsPlaces_56 ?_
          refine lv_topi (fun x10 e10 => ?_)
          have t10 : 1 ≤ x10.toInt ∧ x10.toInt ≤ 32 := ga_shl 5 32 e10 (by decide) (by decide) (by omega) (by omega)
          refine lv_ior hx hb dX11_readsPlaces_57 ?_
          refine lv_topi (fun x11 e11 => ?_)
          have t11 : 0 ≤ x11.toInt ∧ x11.toInt < 64 := ga_or 6 64 e11 rfl rfl (by decide) (by decide) (by omega) (by omega) (by omega) (by omega)
          refine lv_istore (lv' := [(4, .int x11), (3, .int x6), (5, .int w2_5), (0, .ref (o + 0)), (1, .int a0), (2, .int a1)]) hx hb dX11_readsPlaces_58 hl (by decide) rfl (fun ls hl => ?_)
          obtain ⟨x12, e12⟩ : ∃ t : Int32, t = w2_5 + (-1) := ⟨_, rfl⟩
          refine lv_iinc (v := x12) (lv' := [(5, .int x12), (4, .int x11), (3, .int x6), (0, .ref (o + 0)), (1, .int a0), (2, .int a1)]) hx hb dX11_readsPlaces_60 hl (k := 2) rfl (by rw [e12]; rfl) (by decide) rfl (fun ls hl => ?_)
          have t12 : x12.toInt = w2_5.toInt + (-1 : Int) := ga_add e12 rfl rfl (by omega) (by omega)
          refine lv_goto (tgt := 10) hx hb dX11_readsPlaces_63 (by decide) ?_
          exact ih2 x12 x11 x6 z5 y2 (show (x12.toInt + 1 : Int) < (n2 : Int) from by omega) ⟨by omega, by omega⟩ ⟨by omega, by omega⟩ ⟨by omega, (gl_b x6).2⟩ J5 _ _ hP hS _ (lv_sub hl [0, 1, 2, 3, 4, 5] rfl)
  exact loop2 7 x1 0 a0 z y (show (x1.toInt + 1 : Int) < ((7 : Nat) : Int) from by omega) ⟨by omega, by omega⟩ ⟨by decide, by decide⟩ ⟨by omega, (gl_b a0).2⟩ J0 _ _ hP hS _ (lv_sub hl [0, 1, 2, 3, 4, 5] rfl)
set_option maxRecDepth 100000 in
set_option maxHeartbeats 8000000 in
theorem m_holdsAsTold (l : Launch) (D : va_G) (ca : Nat → ClassId) (o : Nat) (b z : Nat → Nat → Int32) (y : Nat → Nat → Int64) (J0 : qJM b z) (a0 : Int32) (a1 : Int32) (ha0 : (0 : Int) ≤ a0.toInt ∧ a0.toInt ≤ 9) (ha1 : (0 : Int) ≤ a1.toInt ∧ a1.toInt ≤ 6) : qM l yX11_holdsAsTold cX11_holdsAsTold 5 (some .boolean) 2 82 (qPre D vwCl (qT6 ca) o 41 (qG (GM ca o) z y) [.ref (o + 0), .int a0, .int a1]) (va_Qi (fun r (_ : Unit) => ((0 : Int) ≤ r.toInt ∧ r.toInt ≤ 1)) (qB D vwCl (qT6 ca) o 41 (fun _ : Unit => qG (GM ca o) z y)) (qw_A o 41)) (qw_A o 41) := by
  refine Met.ofW (cc := cX11_holdsAsTold) (maxL := 5) (ret := (some .boolean)) (by decide) rfl ?_
  intro p e s m args below meth c s₁ B hml hv
  obtain ⟨rfl, hP, hK⟩ := hv
  have hx := B.exec
  have hb := B.bytes
  have hr := B.returns
  have hts0 := atoms_spec (ws := Cond.code yX11_holdsAsTold cX11_holdsAsTold 5 (some .boolean) :: qtbl) B.pre
  have hts : ∀ w ∈ qtbl, w.before _ s = true := fun w h => hts0 w (List.mem_cons_of_mem _ h)
  have hown : s.vm.findClass RX11 = some m.cls := findClass_of_methodNamed B.named
  have hlocks := B.notSynchronized
  have hS : va_S (qw_A o 41) s.heap s.heap [] := va_S.rf
  have hl := lv_entry ([.ref (o + 0), .int a0, .int a1]) (n := 5) (Nat.le_of_ble_eq_true rfl)
  rw [lg_entry_eq]
  generalize (lg_sl ([.ref (o + 0), .int a0, .int a1]) ++ List.replicate (5 - (lg_sl ([.ref (o + 0), .int a0, .int a1])).length) Slot.unset).toArray = ls at hl ⊢
  have hl : lv_has ls 5 [(0, .ref (o + 0)), (1, .int a0), (2, .int a1)] := hl
  refine lv_aload_n hx hb dX11_holdsAsTold_0 rfl (lv_at hl 0 rfl) ?_
  refine qf_get hx hb hts inX11 hown hK hP (q0 := 0) (by decide) (hgM_0 ca o) rfl 8 (by decide) wq_1001 (v := .ref (o + 6)) rfl dX11_holdsAsTold_1 ?_
  refine lv_iload_n hx hb dX11_holdsAsTold_4 rfl (lv_at hl 1 rfl) ?_
  refine qa_iald hx hb hK hP (q0 := 6) (by decide) 0 (N := 16) (hgM_6 ca o) rfl (gi_in (by omega) (by omega)) dX11_holdsAsTold_5 ?_
  refine lv_topi (fun x1 e1 => ?_)
  refine lv_istore_n (lv' := [(3, .int x1), (0, .ref (o + 0)), (1, .int a0), (2, .int a1)]) hx hb dX11_holdsAsTold_6 rfl hl (by decide) rfl (fun ls hl => ?_)
  refine lv_iconst (v := 0) hx hb dX11_holdsAsTold_7 (by decide) ?_
  refine lv_istore (lv' := [(4, .int 0), (3, .int x1), (0, .ref (o + 0)), (1, .int a0), (2, .int a1)]) hx hb dX11_holdsAsTold_8 hl (by decide) rfl (fun ls hl => ?_)
  have loop2 : ∀ (n : Nat) (w2_4 : Int32) (w2_3 : Int32), ((6 - w2_4.toInt : Int) < (n : Int)) → ((0 : Int) ≤ w2_4.toInt ∧ w2_4.toInt ≤ 6) → ∀ (H : Heap) (locs : List Loc), qw_P D vwCl o 41 (qG (GM ca o) z y) H → va_S (qw_A o 41) s.heap H locs → ∀ (ls : Array Slot), lv_has ls 5 [(4, .int w2_4), (3, .int w2_3), (0, .ref (o + 0)), (1, .int a0), (2, .int a1)] → W p l e (headSpec (Cond.code yX11_holdsAsTold cX11_holdsAsTold 5 (some .boolean) :: qtbl) ({ frames := 2, cells := 0, slots := 0, locals := 82 })).room s m (([.ref (o + 0), .int a0, .int a1] : List Value).toArray) below meth c H locs 0 0 (MQ below (va_Qi (fun r (_ : Unit) => ((0 : Int) ≤ r.toInt ∧ r.toInt ≤ 1)) (qB D vwCl (qT6 ca) o 41 (fun _ : Unit => qG (GM ca o) z y)) (qw_A o 41)) (([.ref (o + 0), .int a0, .int a1] : List Value).toArray) s 0 0 (qw_A o 41)) (F0 m 10 ls []) := by
    intro n
    induction n with
    | zero => intro w2_4 w2_3 hb2 hv2_4; exfalso; omega
    | succ n2 ih2 =>
      intro w2_4 w2_3 hb2 hv2_4 H locs hP hS ls hl
      refine lv_iload hx hb dX11_holdsAsTold_10 (lv_at hl 0 rfl) ?_
      refine lv_iload_n hx hb dX11_holdsAsTold_12 rfl (lv_at hl 4 rfl) ?_
      refine lv_icmp_ge (tgt := 55) hx hb dX11_holdsAsTold_13 (by decide) (fun c3 => ?_) (fun c3 => ?_)
      · have t3 : w2_4.toInt ≥ a1.toInt := gl_le c3
        refine lv_aload_n hx hb dX11_holdsAsTold_55 rfl (lv_at hl 2 rfl) ?_
        refine lv_iload_n hx hb dX11_holdsAsTold_56 rfl (lv_at hl 3 rfl) ?_
        refine lv_iload_n hx hb dX11_holdsAsTold_57 rfl (lv_at hl 1 rfl) ?_
        refine qc_Vip (As := [.int a0, .int w2_3]) (rest := []) (k0 := 2) (m_isSo l D ca o b z y J0 a0 w2_3 ⟨by omega, by omega⟩) kc_yX11_isSo ⟨hx, hb, hml, hown, hts⟩ wq_1348 rfl rfl ⟨Nat.le_of_ble_eq_true rfl, Nat.le_of_ble_eq_true rfl⟩ wq_all hP hK hS qw_Ai (q0 := 0) (by decide) (hgM_0 ca o _ _) rfl rfl hl.1 rfl (Nat.le_of_ble_eq_true rfl) dX11_holdsAsTold_58 ⟨Nat.zero_le _, Nat.zero_le _⟩ (fun r4 H locs h4 hP hS _ _ => ?_)
        have b4 : (0 : Int) ≤ r4.toInt ∧ r4.toInt ≤ 1 := h4
        exact W.zret (v := r4) (ty := .boolean) hx hb hr (nb_ok ⟨by omega, by omega⟩) (fun t ht hW => ⟨⟨r4, (), rfl, ⟨by omega, by omega⟩, by rw [ht]; exact hP, va_K.moved hW.alike hK⟩, hS.F ht⟩) hS.2.2 dX11_holdsAsTold_61
      · have t3 : w2_4.toInt < a1.toInt := gl_nle c3
        refine lv_iload_n hx hb dX11_holdsAsTold_16 rfl (lv_at hl 1 rfl) ?_
        refine lv_aload_n hx hb dX11_holdsAsTold_17 rfl (lv_at hl 2 rfl) ?_
        refine qf_get hx hb hts inX11 hown hK hP (q0 := 0) (by decide) (hgM_0 ca o) rfl 7 (by decide) wq_1000 (v := .ref (o + 5)) rfl dX11_holdsAsTold_18 ?_
        refine lv_bipush (v := 6) hx hb dX11_holdsAsTold_21 (by decide) ?_
        refine lv_iload_n hx hb dX11_holdsAsTold_23 rfl (lv_at hl 3 rfl) ?_
        refine lv_imul hx hb dX11_holdsAsTold_24 ?_
        refine lv_topi (fun x5 e5 => ?_)
        have t5 : x5.toInt = (6 : Int) * a0.toInt := ga_mul e5 rfl rfl (by omega) (by omega)
        refine lv_aload_n hx hb dX11_holdsAsTold_25 rfl (lv_at hl 2 rfl) ?_
        refine qf_get hx hb hts inX11 hown hK hP (q0 := 0) (by decide) (hgM_0 ca o) rfl 51 (by decide) wq_1043 (v := .ref (o + 32)) rfl dX11_holdsAsTold_26 ?_
        refine lv_iload hx hb dX11_holdsAsTold_29 (lv_at hl 0 rfl) ?_
        refine qa_iald hx hb hK hP (q0 := 32) (by decide) 0 (N := 6) (hgM_32 ca o) rfl (gi_in (by omega) (by omega)) dX11_holdsAsTold_31 ?_
        refine lv_topi (fun x6 e6 => ?_)
        have b6 := iM_32 J0 e6
        refine lv_iadd hx hb dX11_holdsAsTold_32 ?_
        refine lv_topi (fun x7 e7 => ?_)
        have t7 : x7.toInt = x5.toInt + x6.toInt := ga_add e7 rfl rfl (by omega) (by omega)
        refine qa_iald hx hb hK hP (q0 := 5) (by decide) 0 (N := 96) (hgM_5 ca o) rfl (gi_in (by omega) (by omega)) dX11_holdsAsTold_33 ?_
        refine lv_topi (fun x8 e8 => ?_)
        refine lv_aload_n hx hb dX11_holdsAsTold_34 rfl (lv_at hl 2 rfl) ?_
        refine qf_get hx hb hts inX11 hown hK hP (q0 := 0) (by decide) (hgM_0 ca o) rfl 48 (by decide) wq_1040 (v := .ref (o + 29)) rfl dX11_holdsAsTold_35 ?_
        refine lv_aload_n hx hb dX11_holdsAsTold_38 rfl (lv_at hl 2 rfl) ?_
        refine qf_get hx hb hts inX11 hown hK hP (q0 := 0) (by decide) (hgM_0 ca o) rfl 49 (by decide) wq_1041 (v := .ref (o + 30)) rfl dX11_holdsAsTold_39 ?_
        refine lv_iload hx hb dX11_holdsAsTold_42 (lv_at hl 0 rfl) ?_
        refine qa_iald hx hb hK hP (q0 := 30) (by decide) 0 (N := 6) (hgM_30 ca o) rfl (gi_in (by omega) (by omega)) dX11_holdsAsTold_44 ?_
        refine lv_topi (fun x9 e9 => ?_)
        have b9 := iM_30 J0 e9
        refine qa_iald hx hb hK hP (q0 := 29) (by decide) 0 (N := 6) (hgM_29 ca o) rfl (gi_in (by omega) (by omega)) dX11_holdsAsTold_45 ?_
        refine lv_topi (fun x10 e10 => ?_)
        refine lv_imul hx hb dX11_holdsAsTold_46 ?_
        refine lv_topi (fun x11 e11 => ?_)
        refine lv_iadd hx hb dX11_holdsAsTold_47 ?_
        refine lv_topi (fun x12 e12 => ?_)
        refine lv_istore_n (lv' := [(3, .int x12), (4, .int w2_4), (0, .ref (o + 0)), (1, .int a0), (2, .int a1)]) hx hb dX11_holdsAsTold_48 rfl hl (by decide) rfl (fun ls hl => ?_)
        obtain ⟨x13, e13⟩ : ∃ t : Int32, t = w2_4 + 1 := ⟨_, rfl⟩
        refine lv_iinc (v := x13) (lv' := [(4, .int x13), (3, .int x12), (0, .ref (o + 0)), (1, .int a0), (2, .int a1)]) hx hb dX11_holdsAsTold_49 hl (k := 1) rfl (by rw [e13]; rfl) (by decide) rfl (fun ls hl => ?_)
        have t13 : x13.toInt = w2_4.toInt + (1 : Int) := ga_add e13 rfl rfl (by omega) (by omega)
        refine lv_goto (tgt := 10) hx hb dX11_holdsAsTold_52 (by decide) ?_
        exact ih2 x13 x12 (show (6 - x13.toInt : Int) < (n2 : Int) from by omega) ⟨by omega, by omega⟩ _ _ hP hS _ (lv_sub hl [0, 1, 2, 3, 4] rfl)
  exact loop2 7 0 x1 (show (6 - (0 : Int) : Int) < ((7 : Nat) : Int) from by omega) ⟨by decide, by decide⟩ _ _ hP hS _ (lv_sub hl [0, 1, 2, 3, 4] rfl)
set_option maxRecDepth 100000 in
set_option maxHeartbeats 8000000 in
theorem m_holdAllAsTold (l : Launch) (D : va_G) (ca : Nat → ClassId) (o : Nat) (b z : Nat → Nat → Int32) (y : Nat → Nat → Int64) (J0 : qJM b z) (a0 : Int32) (a1 : Int32) (ha1 : (0 : Int) ≤ a1.toInt ∧ a1.toInt ≤ 6) : qM l yX11_holdAllAsTold cX11_holdAllAsTold 4 (some .boolean) 3 106 (qPre D vwCl (qT6 ca) o 41 (qG (GM ca o) z y) [.ref (o + 0), .int a0, .int a1]) (va_Qi (fun r (_ : Unit) => ((0 : Int) ≤ r.toInt ∧ r.toInt ≤ 1)) (qB D vwCl (qT6 ca) o 41 (fun _ : Unit => qG (GM ca o) z y)) (qw_A o 41)) (qw_A o 41) := by
  refine Met.ofW (cc := cX11_holdAllAsTold) (maxL := 4) (ret := (some .boolean)) (by decide) rfl ?_
  intro p e s m args below meth c s₁ B hml hv
  obtain ⟨rfl, hP, hK⟩ := hv
  have hx := B.exec
  have hb := B.bytes
  have hr := B.returns
  have hts0 := atoms_spec (ws := Cond.code yX11_holdAllAsTold cX11_holdAllAsTold 4 (some .boolean) :: qtbl) B.pre
  have hts : ∀ w ∈ qtbl, w.before _ s = true := fun w h => hts0 w (List.mem_cons_of_mem _ h)
  have hown : s.vm.findClass RX11 = some m.cls := findClass_of_methodNamed B.named
  have hlocks := B.notSynchronized
  have hS : va_S (qw_A o 41) s.heap s.heap [] := va_S.rf
  have hl := lv_entry ([.ref (o + 0), .int a0, .int a1]) (n := 4) (Nat.le_of_ble_eq_true rfl)
  rw [lg_entry_eq]
  generalize (lg_sl ([.ref (o + 0), .int a0, .int a1]) ++ List.replicate (4 - (lg_sl ([.ref (o + 0), .int a0, .int a1])).length) Slot.unset).toArray = ls at hl ⊢
  have hl : lv_has ls 4 [(0, .ref (o + 0)), (1, .int a0), (2, .int a1)] := hl
  refine lv_iconst (v := 0) hx hb dX11_holdAllAsTold_0 (by decide) ?_
  refine lv_istore_n (lv' := [(3, .int 0), (0, .ref (o + 0)), (1, .int a0), (2, .int a1)]) hx hb dX11_holdAllAsTold_1 rfl hl (by decide) rfl (fun ls hl => ?_)
  have loop1 : ∀ (n : Nat) (w1_3 : Int32), ((10 - w1_3.toInt : Int) < (n : Int)) → ((0 : Int) ≤ w1_3.toInt ∧ w1_3.toInt ≤ 10) → ∀ (H : Heap) (locs : List Loc), qw_P D vwCl o 41 (qG (GM ca o) z y) H → va_S (qw_A o 41) s.heap H locs → ∀ (ls : Array Slot), lv_has ls 4 [(3, .int w1_3), (0, .ref (o + 0)), (1, .int a0), (2, .int a1)] → W p l e (headSpec (Cond.code yX11_holdAllAsTold cX11_holdAllAsTold 4 (some .boolean) :: qtbl) ({ frames := 3, cells := 0, slots := 0, locals := 106 })).room s m (([.ref (o + 0), .int a0, .int a1] : List Value).toArray) below meth c H locs 0 0 (MQ below (va_Qi (fun r (_ : Unit) => ((0 : Int) ≤ r.toInt ∧ r.toInt ≤ 1)) (qB D vwCl (qT6 ca) o 41 (fun _ : Unit => qG (GM ca o) z y)) (qw_A o 41)) (([.ref (o + 0), .int a0, .int a1] : List Value).toArray) s 0 0 (qw_A o 41)) (F0 m 2 ls []) := by
    intro n
    induction n with
    | zero => intro w1_3 hb1 hv1_3; exfalso; omega
    | succ n1 ih1 =>
      intro w1_3 hb1 hv1_3 H locs hP hS ls hl
      refine lv_iload_n hx hb dX11_holdAllAsTold_2 rfl (lv_at hl 0 rfl) ?_
      refine lv_bipush (v := 10) hx hb dX11_holdAllAsTold_3 (by decide) ?_
      refine lv_icmp_ge (tgt := 33) hx hb dX11_holdAllAsTold_5 (by decide) (fun c2 => ?_) (fun c2 => ?_)
      · have t2 : w1_3.toInt ≥ (10 : Int) := gl_le c2
        refine lv_iconst (v := 1) hx hb dX11_holdAllAsTold_33 (by decide) ?_
        exact W.zret (v := 1) (ty := .boolean) hx hb hr rfl (fun t ht hW => ⟨⟨1, (), rfl, ⟨by decide, by decide⟩, by rw [ht]; exact hP, va_K.moved hW.alike hK⟩, hS.F ht⟩) hS.2.2 dX11_holdAllAsTold_34
      · have t2 : w1_3.toInt < (10 : Int) := gl_nle c2
        refine lv_iload_n hx hb dX11_holdAllAsTold_8 rfl (lv_at hl 2 rfl) ?_
        refine lv_iload_n hx hb dX11_holdAllAsTold_9 rfl (lv_at hl 0 rfl) ?_
        refine qc_Sip (As := [.int a0, .int w1_3]) (rest := []) (k0 := 2) (m_has l D ca o b z y J0 a0 w1_3) kc_yX11_has ⟨hx, hb, hml, hown, hts⟩ wq_1198 rfl rfl ⟨Nat.le_of_ble_eq_true rfl, Nat.le_of_ble_eq_true rfl⟩ wq_all hP hK hS qw_Ai rfl hl.1 rfl (Nat.le_of_ble_eq_true rfl) dX11_holdAllAsTold_10 ⟨Nat.zero_le _, Nat.zero_le _⟩ (fun r3 H locs h3 hP hS _ _ => ?_)
        rcases h3 with ⟨hr3, hf3_0⟩ | ⟨hr3, hf3_0⟩
        · subst hr3
          have hg3_0 : bitAt a0 w1_3 ≠ 0 := hf3_0
          refine lv_if_eq (tgt := 27) hx hb dX11_holdAllAsTold_13 (by decide) (fun q => absurd q (by decide)) (fun _ => ?_)
          refine lv_aload_n hx hb dX11_holdAllAsTold_16 rfl (lv_at hl 1 rfl) ?_
          refine lv_iload_n hx hb dX11_holdAllAsTold_17 rfl (lv_at hl 0 rfl) ?_
          refine lv_iload_n hx hb dX11_holdAllAsTold_18 rfl (lv_at hl 3 rfl) ?_
          refine qc_Vip (As := [.int w1_3, .int a1]) (rest := []) (k0 := 2) (m_holdsAsTold l D ca o b z y J0 w1_3 a1 ⟨by omega, by omega⟩ ⟨by omega, by omega⟩) kc_yX11_holdsAsTold ⟨hx, hb, hml, hown, hts⟩ wq_1539 rfl rfl ⟨Nat.le_of_ble_eq_true rfl, Nat.le_of_ble_eq_true rfl⟩ wq_all hP hK hS qw_Ai (q0 := 0) (by decide) (hgM_0 ca o _ _) rfl rfl hl.1 rfl (Nat.le_of_ble_eq_true rfl) dX11_holdAllAsTold_19 ⟨Nat.zero_le _, Nat.zero_le _⟩ (fun r4 H locs h4 hP hS _ _ => ?_)
          have b4 : (0 : Int) ≤ r4.toInt ∧ r4.toInt ≤ 1 := h4
          refine lv_if_ne (tgt := 27) hx hb dX11_holdAllAsTold_22 (by decide) (fun c5 => ?_) (fun c5 => ?_)
          · have t5 : r4.toInt ≠ (0 : Int) := gl_ne c5
            obtain ⟨x6, e6⟩ : ∃ t : Int32, t = w1_3 + 1 := ⟨_, rfl⟩
            refine lv_iinc (v := x6) (lv' := [(3, .int x6), (0, .ref (o + 0)), (1, .int a0), (2, .int a1)]) hx hb dX11_holdAllAsTold_27 hl (k := 0) rfl (by rw [e6]; rfl) (by decide) rfl (fun ls hl => ?_)
            have t6 : x6.toInt = w1_3.toInt + (1 : Int) := ga_add e6 rfl rfl (by omega) (by omega)
            refine lv_goto (tgt := 2) hx hb dX11_holdAllAsTold_30 (by decide) ?_
            exact ih1 x6 (show (10 - x6.toInt : Int) < (n1 : Int) from by omega) ⟨by omega, by omega⟩ _ _ hP hS _ (lv_sub hl [0, 1, 2, 3] rfl)
          · have t5 : r4.toInt = (0 : Int) := gl_eq c5
            refine lv_iconst (v := 0) hx hb dX11_holdAllAsTold_25 (by decide) ?_
            exact W.zret (v := 0) (ty := .boolean) hx hb hr rfl (fun t ht hW => ⟨⟨0, (), rfl, ⟨by decide, by decide⟩, by rw [ht]; exact hP, va_K.moved hW.alike hK⟩, hS.F ht⟩) hS.2.2 dX11_holdAllAsTold_26
        · subst hr3
          have hg3_0 : bitAt a0 w1_3 = 0 := hf3_0
          refine lv_if_eq (tgt := 27) hx hb dX11_holdAllAsTold_13 (by decide) (fun _ => ?_) (fun q => absurd (by decide) q)
          obtain ⟨x7, e7⟩ : ∃ t : Int32, t = w1_3 + 1 := ⟨_, rfl⟩
          refine lv_iinc (v := x7) (lv' := [(3, .int x7), (0, .ref (o + 0)), (1, .int a0), (2, .int a1)]) hx hb dX11_holdAllAsTold_27 hl (k := 0) rfl (by rw [e7]; rfl) (by decide) rfl (fun ls hl => ?_)
          have t7 : x7.toInt = w1_3.toInt + (1 : Int) := ga_add e7 rfl rfl (by omega) (by omega)
          refine lv_goto (tgt := 2) hx hb dX11_holdAllAsTold_30 (by decide) ?_
          exact ih1 x7 (show (10 - x7.toInt : Int) < (n1 : Int) from by omega) ⟨by omega, by omega⟩ _ _ hP hS _ (lv_sub hl [0, 1, 2, 3] rfl)
  exact loop1 11 0 (show (10 - (0 : Int) : Int) < ((11 : Nat) : Int) from by omega) ⟨by decide, by decide⟩ _ _ hP hS _ (lv_sub hl [0, 1, 2, 3] rfl)
set_option maxRecDepth 100000 in
set_option maxHeartbeats 8000000 in
theorem m_whoIsWho (l : Launch) (D : va_G) (ca : Nat → ClassId) (o : Nat) (b z : Nat → Nat → Int32) (y : Nat → Nat → Int64) (J0 : qJM b z) (a0 : Int32) (a1 : Int32) (a2 : Int32) (a3 : Int32)  : qM l yX11_whoIsWho cX11_whoIsWho 12 (some .int) 4 129 (qPre D vwCl (qT6 ca) o 41 (qG (GM ca o) z y) [.ref (o + 0), .int a0, .int a1, .int a2, .int a3]) (va_Qi (fun r u => True ∧ qJM b u.1) (qB D vwCl (qT6 ca) o 41 (fun u : qZ => qG (GM ca o) u.1 u.2)) (qw_A o 41)) (qw_A o 41) := by
  refine Met.ofW (cc := cX11_whoIsWho) (maxL := 12) (ret := (some .int)) (by decide) rfl ?_
  intro p e s m args below meth c s₁ B hml hv
  obtain ⟨rfl, hP, hK⟩ := hv
  have hx := B.exec
  have hb := B.bytes
  have hr := B.returns
  have hts0 := atoms_spec (ws := Cond.code yX11_whoIsWho cX11_whoIsWho 12 (some .int) :: qtbl) B.pre
  have hts : ∀ w ∈ qtbl, w.before _ s = true := fun w h => hts0 w (List.mem_cons_of_mem _ h)
  have hown : s.vm.findClass RX11 = some m.cls := findClass_of_methodNamed B.named
  have hlocks := B.notSynchronized
  have hS : va_S (qw_A o 41) s.heap s.heap [] := va_S.rf
  have hl := lv_entry ([.ref (o + 0), .int a0, .int a1, .int a2, .int a3]) (n := 12) (Nat.le_of_ble_eq_true rfl)
  rw [lg_entry_eq]
  generalize (lg_sl ([.ref (o + 0), .int a0, .int a1, .int a2, .int a3]) ++ List.replicate (12 - (lg_sl ([.ref (o + 0), .int a0, .int a1, .int a2, .int a3])).length) Slot.unset).toArray = ls at hl ⊢
  have hl : lv_has ls 12 [(0, .ref (o + 0)), (1, .int a0), (2, .int a1), (3, .int a2), (4, .int a3)] := hl
  refine lv_iload_n hx hb dX11_whoIsWho_0 rfl (lv_at hl 1 rfl) ?_
  refine lv_iconst (v := 2) hx hb dX11_whoIsWho_1 (by decide) ?_
  refine lv_bipush (v := 6) hx hb dX11_whoIsWho_2 (by decide) ?_
  refine qc_Sip (As := [.int a0, .int 2, .int 6]) (rest := []) (k0 := 3) (m_in l D ca o b z y J0 a0 2 6) kc_yX11_in ⟨hx, hb, hml, hown, hts⟩ wq_1187 rfl rfl ⟨Nat.le_of_ble_eq_true rfl, Nat.le_of_ble_eq_true rfl⟩ wq_all hP hK hS qw_Ai rfl hl.1 rfl (Nat.le_of_ble_eq_true rfl) dX11_whoIsWho_4 ⟨Nat.zero_le _, Nat.zero_le _⟩ (fun r1 H locs h1 hP hS _ _ => ?_)
  rcases h1 with ⟨hr1, hf1_0⟩ | ⟨hr1, hf1_0⟩
  · subst hr1
    have hg1_0 : (2 : Int) ≤ a0.toInt ∧ a0.toInt ≤ (6 : Int) := hf1_0
    refine lv_if_eq (tgt := 75) hx hb dX11_whoIsWho_7 (by decide) (fun q => absurd q (by decide)) (fun _ => ?_)
    refine lv_iload_n hx hb dX11_whoIsWho_10 rfl (lv_at hl 2 rfl) ?_
    refine lv_if_lt (tgt := 75) hx hb dX11_whoIsWho_11 (by decide) (fun c2 => ?_) (fun c2 => ?_)
    · have t2 : a1.toInt < (0 : Int) := gl_lt c2
      refine lv_iconst (v := (-1)) hx hb dX11_whoIsWho_75 (by decide) ?_
      exact W.iret (v := (-1)) hx hb hr (fun t ht hW => ⟨⟨(-1), (z, y), rfl, ⟨trivial, J0⟩, by rw [ht]; exact hP, va_K.moved hW.alike hK⟩, hS.F ht⟩) hS.2.2 dX11_whoIsWho_76
    · have t2 : a1.toInt ≥ (0 : Int) := gl_nlt c2
      refine lv_iload_n hx hb dX11_whoIsWho_14 rfl (lv_at hl 2 rfl) ?_
      refine lv_aload_n hx hb dX11_whoIsWho_15 rfl (lv_at hl 0 rfl) ?_
      refine qf_get hx hb hts inX11 hown hK hP (q0 := 0) (by decide) (hgM_0 ca o) rfl 4 (by decide) wq_997 (v := .int (z 0 4)) rfl dX11_whoIsWho_16 ?_
      refine lv_topi (fun x3 e3 => ?_)
      refine lv_iconst (v := (-1)) hx hb dX11_whoIsWho_19 (by decide) ?_
      refine lv_ixor hx hb dX11_whoIsWho_20 ?_
      refine lv_topi (fun x4 e4 => ?_)
      refine lv_iand hx hb dX11_whoIsWho_21 ?_
      refine lv_topi (fun x5 e5 => ?_)
      have t5 : 0 ≤ x5.toInt ∧ x5.toInt ≤ a1.toInt := ga_and' e5 rfl (by omega)
      refine lv_if_ne (tgt := 75) hx hb dX11_whoIsWho_22 (by decide) (fun c6 => ?_) (fun c6 => ?_)
      · have t6 : x5.toInt ≠ (0 : Int) := gl_ne c6
        refine lv_iconst (v := (-1)) hx hb dX11_whoIsWho_75 (by decide) ?_
        exact W.iret (v := (-1)) hx hb hr (fun t ht hW => ⟨⟨(-1), (z, y), rfl, ⟨trivial, J0⟩, by rw [ht]; exact hP, va_K.moved hW.alike hK⟩, hS.F ht⟩) hS.2.2 dX11_whoIsWho_76
      · have t6 : x5.toInt = (0 : Int) := gl_eq c6
        refine lv_iload_n hx hb dX11_whoIsWho_25 rfl (lv_at hl 2 rfl) ?_
        refine qc_Sip (As := [.int a1]) (rest := []) (k0 := 1) (m_bits l D ca o b z y J0 a1) kc_yX11_bits ⟨hx, hb, hml, hown, hts⟩ wq_1296 rfl rfl ⟨Nat.le_of_ble_eq_true rfl, Nat.le_of_ble_eq_true rfl⟩ wq_all hP hK hS qw_Ai rfl hl.1 rfl (Nat.le_of_ble_eq_true rfl) dX11_whoIsWho_26 ⟨Nat.zero_le _, Nat.zero_le _⟩ (fun r7 H locs h7 hP hS _ _ => ?_)
        have p7_1 : r7 = bsum a1 16 := h7.2
        refine lv_iload_n hx hb dX11_whoIsWho_29 rfl (lv_at hl 1 rfl) ?_
        refine lv_icmp_ne (tgt := 75) hx hb dX11_whoIsWho_30 (by decide) (fun c8 => ?_) (fun c8 => ?_)
        · have t8 : r7.toInt ≠ a0.toInt := gl_ne c8
          refine lv_iconst (v := (-1)) hx hb dX11_whoIsWho_75 (by decide) ?_
          exact W.iret (v := (-1)) hx hb hr (fun t ht hW => ⟨⟨(-1), (z, y), rfl, ⟨trivial, J0⟩, by rw [ht]; exact hP, va_K.moved hW.alike hK⟩, hS.F ht⟩) hS.2.2 dX11_whoIsWho_76
        · have t8 : r7.toInt = a0.toInt := gl_eq c8
          refine lv_aload_n hx hb dX11_whoIsWho_33 rfl (lv_at hl 0 rfl) ?_
          refine lv_iload_n hx hb dX11_whoIsWho_34 rfl (lv_at hl 3 rfl) ?_
          refine qc_Vip (As := [.int a2]) (rest := []) (k0 := 1) (m_areRemarks l D ca o b z y J0 a2) kc_yX11_areRemarks ⟨hx, hb, hml, hown, hts⟩ wq_1324 rfl rfl ⟨Nat.le_of_ble_eq_true rfl, Nat.le_of_ble_eq_true rfl⟩ wq_all hP hK hS qw_Ai (q0 := 0) (by decide) (hgM_0 ca o _ _) rfl rfl hl.1 rfl (Nat.le_of_ble_eq_true rfl) dX11_whoIsWho_35 ⟨Nat.zero_le _, Nat.zero_le _⟩ (fun r9 H locs h9 hP hS _ _ => ?_)
          have b9 : (0 : Int) ≤ r9.toInt ∧ r9.toInt ≤ 1 := h9
          refine lv_if_eq (tgt := 75) hx hb dX11_whoIsWho_38 (by decide) (fun c10 => ?_) (fun c10 => ?_)
          · have t10 : r9.toInt = (0 : Int) := gl_eq c10
            refine lv_iconst (v := (-1)) hx hb dX11_whoIsWho_75 (by decide) ?_
            exact W.iret (v := (-1)) hx hb hr (fun t ht hW => ⟨⟨(-1), (z, y), rfl, ⟨trivial, J0⟩, by rw [ht]; exact hP, va_K.moved hW.alike hK⟩, hS.F ht⟩) hS.2.2 dX11_whoIsWho_76
          · have t10 : r9.toInt ≠ (0 : Int) := gl_ne c10
            refine lv_iload hx hb dX11_whoIsWho_41 (lv_at hl 4 rfl) ?_
            refine lv_bipush (v := 100) hx hb dX11_whoIsWho_43 (by decide) ?_
            refine lv_icmp_eq (tgt := 67) hx hb dX11_whoIsWho_45 (by decide) (fun c11 => ?_) (fun c11 => ?_)
            · have t11 : a3.toInt = (100 : Int) := gl_eq c11
              refine lv_iload_n hx hb dX11_whoIsWho_67 rfl (lv_at hl 1 rfl) ?_
              refine lv_aload_n hx hb dX11_whoIsWho_68 rfl (lv_at hl 0 rfl) ?_
              refine qf_get hx hb hts inX11 hown hK hP (q0 := 0) (by decide) (hgM_0 ca o) rfl 15 (by decide) wq_1008 (v := .int (z 0 15)) rfl dX11_whoIsWho_69 ?_
              refine lv_topi (fun x12 e12 => ?_)
              have b12 := iM_0_15 J0 e12
              refine lv_icmp_le (tgt := 77) hx hb dX11_whoIsWho_72 (by decide) (fun c13 => ?_) (fun c13 => ?_)
              · have t13 : a0.toInt ≤ x12.toInt := gl_le c13
                refine lv_aload_n hx hb dX11_whoIsWho_77 rfl (lv_at hl 0 rfl) ?_
                refine lv_iconst (v := 0) hx hb dX11_whoIsWho_78 (by decide) ?_
                refine qf_put2 hx hb hts inX11 tyX11 tyX11_ok nmX11 hown hK hP hS qw_Ai (q0 := 0) (by decide) (hgM_0 ca o) rfl 15 (by decide) wq_1008 rfl (x := 0) 15 rfl rfl rfl (Nat.le_of_ble_eq_true rfl) dX11_whoIsWho_79 (fun z14 H locs hz14 hP hS => ?_)
                have J14 := jM_0_15 J0 hz14 ⟨by decide, by decide⟩
                refine lv_iconst (v := 1) hx hb dX11_whoIsWho_82 (by decide) ?_
                refine lv_istore (lv' := [(5, .int 1), (0, .ref (o + 0)), (1, .int a0), (2, .int a1), (3, .int a2), (4, .int a3)]) hx hb dX11_whoIsWho_83 hl (by decide) rfl (fun ls hl => ?_)
                refine lv_iconst (v := 0) hx hb dX11_whoIsWho_85 (by decide) ?_
                refine lv_istore (lv' := [(6, .int 0), (5, .int 1), (0, .ref (o + 0)), (1, .int a0), (2, .int a1), (3, .int a2), (4, .int a3)]) hx hb dX11_whoIsWho_86 hl (by decide) rfl (fun ls hl => ?_)
                have loop15 : ∀ (n : Nat) (w15_6 : Int32) (w15_5 : Int32) (z15 : Nat → Nat → Int32) (y15 : Nat → Nat → Int64), ((6 - w15_6.toInt : Int) < (n : Int)) → ((0 : Int) ≤ w15_6.toInt ∧ w15_6.toInt ≤ 6) → ((0 : Int) ≤ w15_5.toInt ∧ w15_5.toInt ≤ 1) → (qJM b z15) → ∀ (H : Heap) (locs : List Loc), qw_P D vwCl o 41 (qG (GM ca o) z15 y15) H → va_S (qw_A o 41) s.heap H locs → ∀ (ls : Array Slot), lv_has ls 12 [(6, .int w15_6), (5, .int w15_5), (0, .ref (o + 0)), (1, .int a0), (2, .int a1), (3, .int a2), (4, .int a3)] → W p l e (headSpec (Cond.code yX11_whoIsWho cX11_whoIsWho 12 (some .int) :: qtbl) ({ frames := 4, cells := 0, slots := 0, locals := 129 })).room s m (([.ref (o + 0), .int a0, .int a1, .int a2, .int a3] : List Value).toArray) below meth c H locs 0 0 (MQ below (va_Qi (fun r u => True ∧ qJM b u.1) (qB D vwCl (qT6 ca) o 41 (fun u : qZ => qG (GM ca o) u.1 u.2)) (qw_A o 41)) (([.ref (o + 0), .int a0, .int a1, .int a2, .int a3] : List Value).toArray) s 0 0 (qw_A o 41)) (F0 m 88 ls []) := by
                  intro n
                  induction n with
                  | zero => intro w15_6 w15_5 z15 y15 hb15 hv15_6 hv15_5 J15; exfalso; omega
                  | succ n15 ih15 =>
                    intro w15_6 w15_5 z15 y15 hb15 hv15_6 hv15_5 J15 H locs hP hS ls hl
                    refine lv_iload hx hb dX11_whoIsWho_88 (lv_at hl 0 rfl) ?_
                    refine lv_iload_n hx hb dX11_whoIsWho_90 rfl (lv_at hl 3 rfl) ?_
                    refine lv_icmp_ge (tgt := 137) hx hb dX11_whoIsWho_91 (by decide) (fun c16 => ?_) (fun c16 => ?_)
                    · have t16 : w15_6.toInt ≥ a0.toInt := gl_le c16
                      refine lv_iconst (v := 0) hx hb dX11_whoIsWho_137 (by decide) ?_
                      refine lv_istore (lv' := [(6, .int 0), (5, .int w15_5), (0, .ref (o + 0)), (1, .int a0), (2, .int a1), (3, .int a2), (4, .int a3)]) hx hb dX11_whoIsWho_138 hl (by decide) rfl (fun ls hl => ?_)
                      have loop17 : ∀ (n : Nat) (w17_6 : Int32) (w17_5 : Int32), ((10 - w17_6.toInt : Int) < (n : Int)) → ((0 : Int) ≤ w17_6.toInt ∧ w17_6.toInt ≤ 10) → ((0 : Int) ≤ w17_5.toInt ∧ w17_5.toInt ≤ 1) → ∀ (H : Heap) (locs : List Loc), qw_P D vwCl o 41 (qG (GM ca o) z15 y15) H → va_S (qw_A o 41) s.heap H locs → ∀ (ls : Array Slot), lv_has ls 12 [(6, .int w17_6), (5, .int w17_5), (0, .ref (o + 0)), (1, .int a0), (2, .int a1), (3, .int a2), (4, .int a3)] → W p l e (headSpec (Cond.code yX11_whoIsWho cX11_whoIsWho 12 (some .int) :: qtbl) ({ frames := 4, cells := 0, slots := 0, locals := 129 })).room s m (([.ref (o + 0), .int a0, .int a1, .int a2, .int a3] : List Value).toArray) below meth c H locs 0 0 (MQ below (va_Qi (fun r u => True ∧ qJM b u.1) (qB D vwCl (qT6 ca) o 41 (fun u : qZ => qG (GM ca o) u.1 u.2)) (qw_A o 41)) (([.ref (o + 0), .int a0, .int a1, .int a2, .int a3] : List Value).toArray) s 0 0 (qw_A o 41)) (F0 m 140 ls []) := by
                        intro n
                        induction n with
                        | zero => intro w17_6 w17_5 hb17 hv17_6 hv17_5; exfalso; omega
                        | succ n17 ih17 =>
                          intro w17_6 w17_5 hb17 hv17_6 hv17_5 H locs hP hS ls hl
                          refine lv_iload hx hb dX11_whoIsWho_140 (lv_at hl 0 rfl) ?_
                          refine lv_bipush (v := 10) hx hb dX11_whoIsWho_142 (by decide) ?_
                          refine lv_icmp_ge (tgt := 188) hx hb dX11_whoIsWho_144 (by decide) (fun c18 => ?_) (fun c18 => ?_)
                          · have t18 : w17_6.toInt ≥ (10 : Int) := gl_le c18
                            refine lv_iload hx hb dX11_whoIsWho_188 (lv_at hl 1 rfl) ?_
                            refine lv_if_ne (tgt := 196) hx hb dX11_whoIsWho_190 (by decide) (fun c19 => ?_) (fun c19 => ?_)
                            · have t19 : w17_5.toInt ≠ (0 : Int) := gl_ne c19
                              refine lv_iconst (v := 1) hx hb dX11_whoIsWho_196 (by decide) ?_
                              refine lv_istore (lv' := [(6, .int 1), (5, .int w17_5), (0, .ref (o + 0)), (1, .int a0), (2, .int a1), (3, .int a2), (4, .int a3)]) hx hb dX11_whoIsWho_197 hl (by decide) rfl (fun ls hl => ?_)
                              refine lv_iconst (v := 0) hx hb dX11_whoIsWho_199 (by decide) ?_
                              refine lv_istore (lv' := [(7, .int 0), (6, .int 1), (5, .int w17_5), (0, .ref (o + 0)), (1, .int a0), (2, .int a1), (3, .int a2), (4, .int a3)]) hx hb dX11_whoIsWho_200 hl (by decide) rfl (fun ls hl => ?_)
                              refine lv_iconst (v := 0) hx hb dX11_whoIsWho_202 (by decide) ?_
                              refine lv_istore (lv' := [(8, .int 0), (7, .int 0), (6, .int 1), (5, .int w17_5), (0, .ref (o + 0)), (1, .int a0), (2, .int a1), (3, .int a2), (4, .int a3)]) hx hb dX11_whoIsWho_203 hl (by decide) rfl (fun ls hl => ?_)
                              refine lv_iconst (v := 0) hx hb dX11_whoIsWho_205 (by decide) ?_
                              refine lv_istore (lv' := [(9, .int 0), (8, .int 0), (7, .int 0), (6, .int 1), (5, .int w17_5), (0, .ref (o + 0)), (1, .int a0), (2, .int a1), (3, .int a2), (4, .int a3)]) hx hb dX11_whoIsWho_206 hl (by decide) rfl (fun ls hl => ?_)
                              have loop20 : ∀ (n : Nat) (w20_9 : Int32) (w20_8 : Int32) (w20_7 : Int32) (w20_6 : Int32) (z20 : Nat → Nat → Int32) (y20 : Nat → Nat → Int64), ((6 - w20_9.toInt : Int) < (n : Int)) → ((0 : Int) ≤ w20_9.toInt ∧ w20_9.toInt ≤ 6) → ((0 : Int) ≤ w20_8.toInt ∧ w20_8.toInt ≤ 6) → ((0 : Int) ≤ w20_7.toInt ∧ w20_7.toInt ≤ 5) → (qJM b z20) → (w20_8.toInt ≤ w20_9.toInt) → ∀ (H : Heap) (locs : List Loc), qw_P D vwCl o 41 (qG (GM ca o) z20 y20) H → va_S (qw_A o 41) s.heap H locs → ∀ (ls : Array Slot), lv_has ls 12 [(9, .int w20_9), (8, .int w20_8), (7, .int w20_7), (6, .int w20_6), (5, .int w17_5), (0, .ref (o + 0)), (1, .int a0), (2, .int a1), (3, .int a2), (4, .int a3)] → W p l e (headSpec (Cond.code yX11_whoIsWho cX11_whoIsWho 12 (some .int) :: qtbl) ({ frames := 4, cells := 0, slots := 0, locals := 129 })).room s m (([.ref (o + 0), .int a0, .int a1, .int a2, .int a3] : List Value).toArray) below meth c H locs 0 0 (MQ below (va_Qi (fun r u => True ∧ qJM b u.1) (qB D vwCl (qT6 ca) o 41 (fun u : qZ => qG (GM ca o) u.1 u.2)) (qw_A o 41)) (([.ref (o + 0), .int a0, .int a1, .int a2, .int a3] : List Value).toArray) s 0 0 (qw_A o 41)) (F0 m 208 ls []) := by
                                intro n
                                induction n with
                                | zero => intro w20_9 w20_8 w20_7 w20_6 z20 y20 hb20 hv20_9 hv20_8 hv20_7 J20 v20_0; exfalso; omega
                                | succ n20 ih20 =>
                                  intro w20_9 w20_8 w20_7 w20_6 z20 y20 hb20 hv20_9 hv20_8 hv20_7 J20 v20_0 H locs hP hS ls hl
                                  refine lv_iload hx hb dX11_whoIsWho_208 (lv_at hl 0 rfl) ?_
                                  refine lv_bipush (v := 6) hx hb dX11_whoIsWho_210 (by decide) ?_
                                  refine lv_icmp_ge (tgt := 265) hx hb dX11_whoIsWho_212 (by decide) (fun c21 => ?_) (fun c21 => ?_)
                                  · have t21 : w20_9.toInt ≥ (6 : Int) := gl_le c21
                                    refine lv_iconst (v := 0) hx hb dX11_whoIsWho_265 (by decide) ?_
                                    refine lv_istore (lv' := [(9, .int 0), (8, .int w20_8), (7, .int w20_7), (6, .int w20_6), (5, .int w17_5), (0, .ref (o + 0)), (1, .int a0), (2, .int a1), (3, .int a2), (4, .int a3)]) hx hb dX11_whoIsWho_266 hl (by decide) rfl (fun ls hl => ?_)
                                    refine lv_iconst (v := 0) hx hb dX11_whoIsWho_268 (by decide) ?_
                                    refine lv_istore (lv' := [(10, .int 0), (9, .int 0), (8, .int w20_8), (7, .int w20_7), (6, .int w20_6), (5, .int w17_5), (0, .ref (o + 0)), (1, .int a0), (2, .int a1), (3, .int a2), (4, .int a3)]) hx hb dX11_whoIsWho_269 hl (by decide) rfl (fun ls hl => ?_)
                                    have loop22 : ∀ (n : Nat) (w22_10 : Int32) (w22_9 : Int32) (z22 : Nat → Nat → Int32) (y22 : Nat → Nat → Int64), ((2147483647 - w22_10.toInt : Int) < (n : Int)) → ((0 : Int) ≤ w22_10.toInt ∧ w22_10.toInt ≤ 2147483647) → (qJM b z22) → ∀ (H : Heap) (locs : List Loc), qw_P D vwCl o 41 (qG (GM ca o) z22 y22) H → va_S (qw_A o 41) s.heap H locs → ∀ (ls : Array Slot), lv_has ls 12 [(10, .int w22_10), (9, .int w22_9), (8, .int w20_8), (7, .int w20_7), (6, .int w20_6), (5, .int w17_5), (0, .ref (o + 0)), (1, .int a0), (2, .int a1), (3, .int a2), (4, .int a3)] → W p l e (headSpec (Cond.code yX11_whoIsWho cX11_whoIsWho 12 (some .int) :: qtbl) ({ frames := 4, cells := 0, slots := 0, locals := 129 })).room s m (([.ref (o + 0), .int a0, .int a1, .int a2, .int a3] : List Value).toArray) below meth c H locs 0 0 (MQ below (va_Qi (fun r u => True ∧ qJM b u.1) (qB D vwCl (qT6 ca) o 41 (fun u : qZ => qG (GM ca o) u.1 u.2)) (qw_A o 41)) (([.ref (o + 0), .int a0, .int a1, .int a2, .int a3] : List Value).toArray) s 0 0 (qw_A o 41)) (F0 m 271 ls []) := by
                                      intro n
                                      induction n with
                                      | zero => intro w22_10 w22_9 z22 y22 hb22 hv22_10 J22; exfalso; omega
                                      | succ n22 ih22 =>
                                        intro w22_10 w22_9 z22 y22 hb22 hv22_10 J22 H locs hP hS ls hl
                                        refine lv_iload hx hb dX11_whoIsWho_271 (lv_at hl 0 rfl) ?_
                                        refine lv_iload hx hb dX11_whoIsWho_273 (lv_at hl 4 rfl) ?_
                                        refine lv_icmp_ge (tgt := 346) hx hb dX11_whoIsWho_275 (by decide) (fun c23 => ?_) (fun c23 => ?_)
                                        · have t23 : w22_10.toInt ≥ w20_6.toInt := gl_le c23
                                          refine lv_iload hx hb dX11_whoIsWho_346 (lv_at hl 10 rfl) ?_
                                          refine lv_bipush (v := 100) hx hb dX11_whoIsWho_348 (by decide) ?_
                                          refine lv_icmp_ne (tgt := 358) hx hb dX11_whoIsWho_350 (by decide) (fun c24 => ?_) (fun c24 => ?_)
                                          · have t24 : a3.toInt ≠ (100 : Int) := gl_ne c24
                                            exfalso; omega
                                          · have t24 : a3.toInt = (100 : Int) := gl_eq c24
                                            refine lv_iload hx hb dX11_whoIsWho_353 (lv_at hl 1 rfl) ?_
                                            refine lv_goto (tgt := 375) hx hb dX11_whoIsWho_355 (by decide) ?_
                                            exact W.iret (v := w22_9) hx hb hr (fun t ht hW => ⟨⟨w22_9, (z22, y22), rfl, ⟨trivial, J22⟩, by rw [ht]; exact hP, va_K.moved hW.alike hK⟩, hS.F ht⟩) hS.2.2 dX11_whoIsWho_375
                                        · have t23 : w22_10.toInt < w20_6.toInt := gl_nle c23
                                          refine lv_aload_n hx hb dX11_whoIsWho_278 rfl (lv_at hl 6 rfl) ?_
                                          refine lv_iload hx hb dX11_whoIsWho_279 (lv_at hl 0 rfl) ?_
                                          refine lv_iload_n hx hb dX11_whoIsWho_281 rfl (lv_at hl 7 rfl) ?_
                                          refine qc_Vi2 (As := [.int w22_10, .int a0]) (rest := []) (k0 := 2) (m_readsPlaces l D ca o b z22 y22 J22 w22_10 a0 ⟨by omega, by omega⟩ ⟨by omega, by omega⟩) kc_yX11_readsPlaces ⟨hx, hb, hml, hown, hts⟩ wq_1531 rfl rfl ⟨Nat.le_of_ble_eq_true rfl, Nat.le_of_ble_eq_true rfl⟩ wq_all hP hK hS qw_Ai (q0 := 0) (by decide) (hgM_0 ca o _ _) rfl rfl hl.1 rfl (Nat.le_of_ble_eq_true rfl) dX11_whoIsWho_282 ⟨Nat.zero_le _, Nat.zero_le _⟩ (fun r25 z25 y25 H locs h25 hP hS _ _ => ?_)
                                          have J25 : qJM b z25 := h25.2
                                          have b25 : (0 : Int) ≤ r25.toInt ∧ r25.toInt ≤ 1 := h25.1
                                          refine lv_if_eq (tgt := 340) hx hb dX11_whoIsWho_285 (by decide) (fun c26 => ?_) (fun c26 => ?_)
                                          · have t26 : r25.toInt = (0 : Int) := gl_eq c26
                                            obtain ⟨x27, e27⟩ : ∃ t : Int32, t = w22_10 + 1 := ⟨_, rfl⟩
                                            refine lv_iinc (v := x27) (lv' := [(10, .int x27), (9, .int w22_9), (8, .int w20_8), (7, .int w20_7), (6, .int w20_6), (5, .int w17_5), (0, .ref (o + 0)), (1, .int a0), (2, .int a1), (3, .int a2), (4, .int a3)]) hx hb dX11_whoIsWho_340 hl (k := 0) rfl (by rw [e27]; rfl) (by decide) rfl (fun ls hl => ?_)
                                            have gb27_0 := gl_b w22_10
                                            have gb27_1 := gl_b a1
                                            have gb27_2 := gl_b x5
                                            have gb27_3 := gl_b r7
                                            have gb27_4 := gl_b a0
                                            have gb27_5 := gl_b r9
                                            have gb27_6 := gl_b a3
                                            have gb27_7 := gl_b x12
                                            have gb27_8 := gl_b w15_6
                                            have gb27_9 := gl_b w17_6
                                            have gb27_10 := gl_b w17_5
                                            have gb27_11 := gl_b w20_9
                                            have gb27_12 := gl_b w20_6
                                            have gb27_13 := gl_b r25
                                            have t27 : x27.toInt = w22_10.toInt + (1 : Int) := ga_add e27 rfl rfl (by omega) (by omega)
                                            refine lv_goto (tgt := 271) hx hb dX11_whoIsWho_343 (by decide) ?_
                                            exact ih22 x27 w22_9 z25 y25 (show (2147483647 - x27.toInt : Int) < (n22 : Int) from by omega) ⟨by omega, (gl_b x27).2⟩ J25 _ _ hP hS _ (lv_sub hl [0, 1, 2, 3, 4, 5, 6, 7, 8, 9, 10] rfl)
                                          · have t26 : r25.toInt ≠ (0 : Int) := gl_ne c26
                                            refine lv_aload_n hx hb dX11_whoIsWho_288 rfl (lv_at hl 6 rfl) ?_
                                            refine lv_iload_n hx hb dX11_whoIsWho_289 rfl (lv_at hl 9 rfl) ?_
                                            refine lv_iload_n hx hb dX11_whoIsWho_290 rfl (lv_at hl 7 rfl) ?_
                                            refine qc_Vip (As := [.int a2, .int a0]) (rest := []) (k0 := 2) (m_holdAllAsTold l D ca o b z25 y25 J25 a2 a0 ⟨by omega, by omega⟩) kc_yX11_holdAllAsTold ⟨hx, hb, hml, hown, hts⟩ wq_1535 rfl rfl ⟨Nat.le_of_ble_eq_true rfl, Nat.le_of_ble_eq_true rfl⟩ wq_all hP hK hS qw_Ai (q0 := 0) (by decide) (hgM_0 ca o _ _) rfl rfl hl.1 rfl (Nat.le_of_ble_eq_true rfl) dX11_whoIsWho_291 ⟨Nat.zero_le _, Nat.zero_le _⟩ (fun r28 H locs h28 hP hS _ _ => ?_)
                                            have b28 : (0 : Int) ≤ r28.toInt ∧ r28.toInt ≤ 1 := h28
                                            refine lv_if_ne (tgt := 300) hx hb dX11_whoIsWho_294 (by decide) (fun c29 => ?_) (fun c29 => ?_)
                                            · have t29 : r28.toInt ≠ (0 : Int) := gl_ne c29
                                              refine lv_iload hx hb dX11_whoIsWho_300 (lv_at hl 1 rfl) ?_
                                              refine lv_if_ne (tgt := 334) hx hb dX11_whoIsWho_302 (by decide) (fun c30 => ?_) (fun c30 => ?_)
                                              · have t30 : w22_9.toInt ≠ (0 : Int) := gl_ne c30
                                                refine lv_iload hx hb dX11_whoIsWho_334 (lv_at hl 1 rfl) ?_
                                                refine lv_iconst (v := 1) hx hb dX11_whoIsWho_336 (by decide) ?_
                                                refine lv_iadd hx hb dX11_whoIsWho_337 ?_
                                                refine lv_topi (fun x31 e31 => ?_)
                                                refine lv_istore (lv' := [(9, .int x31), (10, .int w22_10), (8, .int w20_8), (7, .int w20_7), (6, .int w20_6), (5, .int w17_5), (0, .ref (o + 0)), (1, .int a0), (2, .int a1), (3, .int a2), (4, .int a3)]) hx hb dX11_whoIsWho_338 hl (by decide) rfl (fun ls hl => ?_)
                                                obtain ⟨x32, e32⟩ : ∃ t : Int32, t = w22_10 + 1 := ⟨_, rfl⟩
                                                refine lv_iinc (v := x32) (lv' := [(10, .int x32), (9, .int x31), (8, .int w20_8), (7, .int w20_7), (6, .int w20_6), (5, .int w17_5), (0, .ref (o + 0)), (1, .int a0), (2, .int a1), (3, .int a2), (4, .int a3)]) hx hb dX11_whoIsWho_340 hl (k := 1) rfl (by rw [e32]; rfl) (by decide) rfl (fun ls hl => ?_)
                                                have gb32_0 := gl_b w22_10
                                                have gb32_1 := gl_b a1
                                                have gb32_2 := gl_b x5
                                                have gb32_3 := gl_b r7
                                                have gb32_4 := gl_b a0
                                                have gb32_5 := gl_b r9
                                                have gb32_6 := gl_b a3
                                                have gb32_7 := gl_b x12
                                                have gb32_8 := gl_b w15_6
                                                have gb32_9 := gl_b w17_6
                                                have gb32_10 := gl_b w17_5
                                                have gb32_11 := gl_b w20_9
                                                have gb32_12 := gl_b w20_6
                                                have gb32_13 := gl_b r25
                                                have gb32_14 := gl_b r28
                                                have gb32_15 := gl_b w22_9
                                                have t32 : x32.toInt = w22_10.toInt + (1 : Int) := ga_add e32 rfl rfl (by omega) (by omega)
                                                refine lv_goto (tgt := 271) hx hb dX11_whoIsWho_343 (by decide) ?_
                                                exact ih22 x32 x31 z25 y25 (show (2147483647 - x32.toInt : Int) < (n22 : Int) from by omega) ⟨by omega, (gl_b x32).2⟩ J25 _ _ hP hS _ (lv_sub hl [0, 1, 2, 3, 4, 5, 6, 7, 8, 9, 10] rfl)
                                              · have t30 : w22_9.toInt = (0 : Int) := gl_eq c30
                                                refine lv_iconst (v := 0) hx hb dX11_whoIsWho_305 (by decide) ?_
                                                refine lv_istore (lv' := [(11, .int 0), (10, .int w22_10), (9, .int w22_9), (8, .int w20_8), (7, .int w20_7), (6, .int w20_6), (5, .int w17_5), (0, .ref (o + 0)), (1, .int a0), (2, .int a1), (3, .int a2), (4, .int a3)]) hx hb dX11_whoIsWho_306 hl (by decide) rfl (fun ls hl => ?_)
                                                have loop33 : ∀ (n : Nat) (w33_11 : Int32) (z33 : Nat → Nat → Int32) (y33 : Nat → Nat → Int64), ((6 - w33_11.toInt : Int) < (n : Int)) → ((0 : Int) ≤ w33_11.toInt ∧ w33_11.toInt ≤ 6) → (qJM b z33) → ∀ (H : Heap) (locs : List Loc), qw_P D vwCl o 41 (qG (GM ca o) z33 y33) H → va_S (qw_A o 41) s.heap H locs → ∀ (ls : Array Slot), lv_has ls 12 [(11, .int w33_11), (10, .int w22_10), (9, .int w22_9), (8, .int w20_8), (7, .int w20_7), (6, .int w20_6), (5, .int w17_5), (0, .ref (o + 0)), (1, .int a0), (2, .int a1), (3, .int a2), (4, .int a3)] → W p l e (headSpec (Cond.code yX11_whoIsWho cX11_whoIsWho 12 (some .int) :: qtbl) ({ frames := 4, cells := 0, slots := 0, locals := 129 })).room s m (([.ref (o + 0), .int a0, .int a1, .int a2, .int a3] : List Value).toArray) below meth c H locs 0 0 (MQ below (va_Qi (fun r u => True ∧ qJM b u.1) (qB D vwCl (qT6 ca) o 41 (fun u : qZ => qG (GM ca o) u.1 u.2)) (qw_A o 41)) (([.ref (o + 0), .int a0, .int a1, .int a2, .int a3] : List Value).toArray) s 0 0 (qw_A o 41)) (F0 m 308 ls []) := by
                                                  intro n
                                                  induction n with
                                                  | zero => intro w33_11 z33 y33 hb33 hv33_11 J33; exfalso; omega
                                                  | succ n33 ih33 =>
                                                    intro w33_11 z33 y33 hb33 hv33_11 J33 H locs hP hS ls hl
                                                    refine lv_iload hx hb dX11_whoIsWho_308 (lv_at hl 0 rfl) ?_
                                                    refine lv_iload_n hx hb dX11_whoIsWho_310 rfl (lv_at hl 8 rfl) ?_
                                                    refine lv_icmp_ge (tgt := 334) hx hb dX11_whoIsWho_311 (by decide) (fun c34 => ?_) (fun c34 => ?_)
                                                    · have t34 : w33_11.toInt ≥ a0.toInt := gl_le c34
                                                      refine lv_iload hx hb dX11_whoIsWho_334 (lv_at hl 2 rfl) ?_
                                                      refine lv_iconst (v := 1) hx hb dX11_whoIsWho_336 (by decide) ?_
                                                      refine lv_iadd hx hb dX11_whoIsWho_337 ?_
                                                      refine lv_topi (fun x35 e35 => ?_)
                                                      have t35 : x35.toInt = w22_9.toInt + (1 : Int) := ga_add e35 rfl rfl (by omega) (by omega)
                                                      refine lv_istore (lv' := [(9, .int x35), (11, .int w33_11), (10, .int w22_10), (8, .int w20_8), (7, .int w20_7), (6, .int w20_6), (5, .int w17_5), (0, .ref (o + 0)), (1, .int a0), (2, .int a1), (3, .int a2), (4, .int a3)]) hx hb dX11_whoIsWho_338 hl (by decide) rfl (fun ls hl => ?_)
                                                      obtain ⟨x36, e36⟩ : ∃ t : Int32, t = w22_10 + 1 := ⟨_, rfl⟩
                                                      refine lv_iinc (v := x36) (lv' := [(10, .int x36), (9, .int x35), (11, .int w33_11), (8, .int w20_8), (7, .int w20_7), (6, .int w20_6), (5, .int w17_5), (0, .ref (o + 0)), (1, .int a0), (2, .int a1), (3, .int a2), (4, .int a3)]) hx hb dX11_whoIsWho_340 hl (k := 2) rfl (by rw [e36]; rfl) (by decide) rfl (fun ls hl => ?_)
                                                      have gb36_0 := gl_b w22_10
                                                      have gb36_1 := gl_b a1
                                                      have gb36_2 := gl_b x5
                                                      have gb36_3 := gl_b r7
                                                      have gb36_4 := gl_b a0
                                                      have gb36_5 := gl_b r9
                                                      have gb36_6 := gl_b a3
                                                      have gb36_7 := gl_b x12
                                                      have gb36_8 := gl_b w15_6
                                                      have gb36_9 := gl_b w17_6
                                                      have gb36_10 := gl_b w17_5
                                                      have gb36_11 := gl_b w20_9
                                                      have gb36_12 := gl_b w20_6
                                                      have gb36_13 := gl_b r25
                                                      have gb36_14 := gl_b r28
                                                      have gb36_15 := gl_b w22_9
                                                      have gb36_16 := gl_b w33_11
                                                      have t36 : x36.toInt = w22_10.toInt + (1 : Int) := ga_add e36 rfl rfl (by omega) (by omega)
                                                      refine lv_goto (tgt := 271) hx hb dX11_whoIsWho_343 (by decide) ?_
                                                      exact ih22 x36 x35 z33 y33 (show (2147483647 - x36.toInt : Int) < (n22 : Int) from by omega) ⟨by omega, (gl_b x36).2⟩ J33 _ _ hP hS _ (lv_sub hl [0, 1, 3, 4, 5, 6, 7, 8, 9, 10, 11] rfl)
                                                    · have t34 : w33_11.toInt < a0.toInt := gl_nle c34
                                                      refine lv_aload_n hx hb dX11_whoIsWho_314 rfl (lv_at hl 7 rfl) ?_
                                                      refine qf_get hx hb hts inX11 hown hK hP (q0 := 0) (by decide) (hgM_0 ca o) rfl 50 (by decide) wq_1042 (v := .ref (o + 31)) rfl dX11_whoIsWho_315 ?_
                                                      refine lv_iload hx hb dX11_whoIsWho_318 (lv_at hl 0 rfl) ?_
                                                      refine lv_aload_n hx hb dX11_whoIsWho_320 rfl (lv_at hl 7 rfl) ?_
                                                      refine qf_get hx hb hts inX11 hown hK hP (q0 := 0) (by decide) (hgM_0 ca o) rfl 49 (by decide) wq_1041 (v := .ref (o + 30)) rfl dX11_whoIsWho_321 ?_
                                                      refine lv_iload hx hb dX11_whoIsWho_324 (lv_at hl 0 rfl) ?_
                                                      refine qa_iald hx hb hK hP (q0 := 30) (by decide) 0 (N := 6) (hgM_30 ca o) rfl (gi_in (by omega) (by omega)) dX11_whoIsWho_326 ?_
                                                      refine lv_topi (fun x37 e37 => ?_)
                                                      have b37 := iM_30 J33 e37
                                                      refine qa_iast2 hx hb hK hP hS qw_Ai (q0 := 31) (by decide) 0 (N := 6) (hgM_31 ca o) rfl (i := w33_11) (x := x37) (gi_in (by omega) (by omega)) dX11_whoIsWho_327 (fun z38 H locs hz38 hP hS => ?_)
                                                      have J38 := jM_31 J33 hz38
                                                      obtain ⟨x39, e39⟩ : ∃ t : Int32, t = w33_11 + 1 := ⟨_, rfl⟩
                                                      refine lv_iinc (v := x39) (lv' := [(11, .int x39), (10, .int w22_10), (9, .int w22_9), (8, .int w20_8), (7, .int w20_7), (6, .int w20_6), (5, .int w17_5), (0, .ref (o + 0)), (1, .int a0), (2, .int a1), (3, .int a2), (4, .int a3)]) hx hb dX11_whoIsWho_328 hl (k := 0) rfl (by rw [e39]; rfl) (by decide) rfl (fun ls hl => ?_)
                                                      have t39 : x39.toInt = w33_11.toInt + (1 : Int) := ga_add e39 rfl rfl (by omega) (by omega)
                                                      refine lv_goto (tgt := 308) hx hb dX11_whoIsWho_331 (by decide) ?_
                                                      exact ih33 x39 z38 y33 (show (6 - x39.toInt : Int) < (n33 : Int) from by omega) ⟨by omega, by omega⟩ J38 _ _ hP hS _ (lv_sub hl [0, 1, 2, 3, 4, 5, 6, 7, 8, 9, 10, 11] rfl)
                                                exact loop33 7 0 z25 y25 (show (6 - (0 : Int) : Int) < ((7 : Nat) : Int) from by omega) ⟨by decide, by decide⟩ J25 _ _ hP hS _ (lv_sub hl [0, 1, 2, 3, 4, 5, 6, 7, 8, 9, 10, 11] rfl)
                                            · have t29 : r28.toInt = (0 : Int) := gl_eq c29
                                              refine lv_goto (tgt := 340) hx hb dX11_whoIsWho_297 (by decide) ?_
                                              obtain ⟨x40, e40⟩ : ∃ t : Int32, t = w22_10 + 1 := ⟨_, rfl⟩
                                              refine lv_iinc (v := x40) (lv' := [(10, .int x40), (9, .int w22_9), (8, .int w20_8), (7, .int w20_7), (6, .int w20_6), (5, .int w17_5), (0, .ref (o + 0)), (1, .int a0), (2, .int a1), (3, .int a2), (4, .int a3)]) hx hb dX11_whoIsWho_340 hl (k := 0) rfl (by rw [e40]; rfl) (by decide) rfl (fun ls hl => ?_)
                                              have gb40_0 := gl_b w22_10
                                              have gb40_1 := gl_b a1
                                              have gb40_2 := gl_b x5
                                              have gb40_3 := gl_b r7
                                              have gb40_4 := gl_b a0
                                              have gb40_5 := gl_b r9
                                              have gb40_6 := gl_b a3
                                              have gb40_7 := gl_b x12
                                              have gb40_8 := gl_b w15_6
                                              have gb40_9 := gl_b w17_6
                                              have gb40_10 := gl_b w17_5
                                              have gb40_11 := gl_b w20_9
                                              have gb40_12 := gl_b w20_6
                                              have gb40_13 := gl_b r25
                                              have gb40_14 := gl_b r28
                                              have t40 : x40.toInt = w22_10.toInt + (1 : Int) := ga_add e40 rfl rfl (by omega) (by omega)
                                              refine lv_goto (tgt := 271) hx hb dX11_whoIsWho_343 (by decide) ?_
                                              exact ih22 x40 w22_9 z25 y25 (show (2147483647 - x40.toInt : Int) < (n22 : Int) from by omega) ⟨by omega, (gl_b x40).2⟩ J25 _ _ hP hS _ (lv_sub hl [0, 1, 2, 3, 4, 5, 6, 7, 8, 9, 10] rfl)
                                    exact loop22 4294967296 0 0 z20 y20 (show (2147483647 - (0 : Int) : Int) < ((4294967296 : Nat) : Int) from by omega) ⟨by decide, by decide⟩ J20 _ _ hP hS _ (lv_sub hl [0, 1, 2, 3, 4, 5, 6, 7, 8, 9, 10] rfl)
                                  · have t21 : w20_9.toInt < (6 : Int) := gl_nle c21
                                    refine lv_iload_n hx hb dX11_whoIsWho_215 rfl (lv_at hl 7 rfl) ?_
                                    refine lv_iload hx hb dX11_whoIsWho_216 (lv_at hl 0 rfl) ?_
                                    refine qc_Sip (As := [.int a1, .int w20_9]) (rest := []) (k0 := 2) (m_has l D ca o b z20 y20 J20 a1 w20_9) kc_yX11_has ⟨hx, hb, hml, hown, hts⟩ wq_1198 rfl rfl ⟨Nat.le_of_ble_eq_true rfl, Nat.le_of_ble_eq_true rfl⟩ wq_all hP hK hS qw_Ai rfl hl.1 rfl (Nat.le_of_ble_eq_true rfl) dX11_whoIsWho_218 ⟨Nat.zero_le _, Nat.zero_le _⟩ (fun r41 H locs h41 hP hS _ _ => ?_)
                                    rcases h41 with ⟨hr41, hf41_0⟩ | ⟨hr41, hf41_0⟩
                                    · subst hr41
                                      have hg41_0 : bitAt a1 w20_9 ≠ 0 := hf41_0
                                      refine lv_if_ne (tgt := 227) hx hb dX11_whoIsWho_221 (by decide) (fun _ => ?_) (fun q => absurd q (by decide))
                                      refine lv_iload hx hb dX11_whoIsWho_227 (lv_at hl 0 rfl) ?_
                                      refine lv_iload hx hb dX11_whoIsWho_229 (lv_at hl 9 rfl) ?_
                                      refine lv_icmp_ne (tgt := 238) hx hb dX11_whoIsWho_231 (by decide) (fun c42 => ?_) (fun c42 => ?_)
                                      · have t42 : w20_9.toInt ≠ a3.toInt := gl_ne c42
                                        refine lv_aload_n hx hb dX11_whoIsWho_238 rfl (lv_at hl 5 rfl) ?_
                                        refine qf_get hx hb hts inX11 hown hK hP (q0 := 0) (by decide) (hgM_0 ca o) rfl 51 (by decide) wq_1043 (v := .ref (o + 32)) rfl dX11_whoIsWho_239 ?_
                                        refine lv_iload hx hb dX11_whoIsWho_242 (lv_at hl 1 rfl) ?_
                                        refine lv_iload hx hb dX11_whoIsWho_244 (lv_at hl 0 rfl) ?_
                                        refine qa_iast2 hx hb hK hP hS qw_Ai (q0 := 32) (by decide) 0 (N := 6) (hgM_32 ca o) rfl (i := w20_8) (x := w20_9) (gi_in (by omega) (by omega)) dX11_whoIsWho_246 (fun z43 H locs hz43 hP hS => ?_)
                                        have J43 := jM_32 J20 hz43 ⟨by omega, by omega⟩
                                        refine lv_iload hx hb dX11_whoIsWho_247 (lv_at hl 1 rfl) ?_
                                        refine lv_iconst (v := 1) hx hb dX11_whoIsWho_249 (by decide) ?_
                                        refine lv_iadd hx hb dX11_whoIsWho_250 ?_
                                        refine lv_topi (fun x44 e44 => ?_)
                                        have t44 : x44.toInt = w20_8.toInt + (1 : Int) := ga_add e44 rfl rfl (by omega) (by omega)
                                        refine lv_istore (lv' := [(8, .int x44), (9, .int w20_9), (7, .int w20_7), (6, .int w20_6), (5, .int w17_5), (0, .ref (o + 0)), (1, .int a0), (2, .int a1), (3, .int a2), (4, .int a3)]) hx hb dX11_whoIsWho_251 hl (by decide) rfl (fun ls hl => ?_)
                                        refine lv_iload hx hb dX11_whoIsWho_253 (lv_at hl 3 rfl) ?_
                                        refine lv_iload_n hx hb dX11_whoIsWho_255 rfl (lv_at hl 6 rfl) ?_
                                        refine lv_imul hx hb dX11_whoIsWho_256 ?_
                                        refine lv_topi (fun x45 e45 => ?_)
                                        refine lv_istore (lv' := [(6, .int x45), (8, .int x44), (9, .int w20_9), (7, .int w20_7), (5, .int w17_5), (0, .ref (o + 0)), (1, .int a0), (2, .int a1), (3, .int a2), (4, .int a3)]) hx hb dX11_whoIsWho_257 hl (by decide) rfl (fun ls hl => ?_)
                                        obtain ⟨x46, e46⟩ : ∃ t : Int32, t = w20_9 + 1 := ⟨_, rfl⟩
                                        refine lv_iinc (v := x46) (lv' := [(9, .int x46), (6, .int x45), (8, .int x44), (7, .int w20_7), (5, .int w17_5), (0, .ref (o + 0)), (1, .int a0), (2, .int a1), (3, .int a2), (4, .int a3)]) hx hb dX11_whoIsWho_259 hl (k := 2) rfl (by rw [e46]; rfl) (by decide) rfl (fun ls hl => ?_)
                                        have t46 : x46.toInt = w20_9.toInt + (1 : Int) := ga_add e46 rfl rfl (by omega) (by omega)
                                        refine lv_goto (tgt := 208) hx hb dX11_whoIsWho_262 (by decide) ?_
                                        exact ih20 x46 x44 w20_7 x45 z43 y20 (show (6 - x46.toInt : Int) < (n20 : Int) from by omega) ⟨by omega, by omega⟩ ⟨by omega, by omega⟩ ⟨by omega, by omega⟩ J43 (show x44.toInt ≤ x46.toInt from by omega) _ _ hP hS _ (lv_sub hl [0, 2, 3, 1, 4, 5, 6, 7, 8, 9] rfl)
                                      · have t42 : w20_9.toInt = a3.toInt := gl_eq c42
                                        exfalso; omega
                                    · subst hr41
                                      have hg41_0 : bitAt a1 w20_9 = 0 := hf41_0
                                      refine lv_if_ne (tgt := 227) hx hb dX11_whoIsWho_221 (by decide) (fun q => absurd q (by decide)) (fun _ => ?_)
                                      refine lv_goto (tgt := 259) hx hb dX11_whoIsWho_224 (by decide) ?_
                                      obtain ⟨x47, e47⟩ : ∃ t : Int32, t = w20_9 + 1 := ⟨_, rfl⟩
                                      refine lv_iinc (v := x47) (lv' := [(9, .int x47), (8, .int w20_8), (7, .int w20_7), (6, .int w20_6), (5, .int w17_5), (0, .ref (o + 0)), (1, .int a0), (2, .int a1), (3, .int a2), (4, .int a3)]) hx hb dX11_whoIsWho_259 hl (k := 0) rfl (by rw [e47]; rfl) (by decide) rfl (fun ls hl => ?_)
                                      have t47 : x47.toInt = w20_9.toInt + (1 : Int) := ga_add e47 rfl rfl (by omega) (by omega)
                                      refine lv_goto (tgt := 208) hx hb dX11_whoIsWho_262 (by decide) ?_
                                      exact ih20 x47 w20_8 w20_7 w20_6 z20 y20 (show (6 - x47.toInt : Int) < (n20 : Int) from by omega) ⟨by omega, by omega⟩ ⟨by omega, by omega⟩ ⟨by omega, by omega⟩ J20 (show w20_8.toInt ≤ x47.toInt from by omega) _ _ hP hS _ (lv_sub hl [0, 1, 2, 3, 4, 5, 6, 7, 8, 9] rfl)
                              exact loop20 7 0 0 0 1 z15 y15 (show (6 - (0 : Int) : Int) < ((7 : Nat) : Int) from by omega) ⟨by decide, by decide⟩ ⟨by decide, by decide⟩ ⟨by decide, by decide⟩ J15 (show (0 : Int) ≤ (0 : Int) from by omega) _ _ hP hS _ (lv_sub hl [0, 1, 2, 3, 4, 5, 6, 7, 8, 9] rfl)
                            · have t19 : w17_5.toInt = (0 : Int) := gl_eq c19
                              refine lv_bipush (v := (-3)) hx hb dX11_whoIsWho_193 (by decide) ?_
                              exact W.iret (v := (-3)) hx hb hr (fun t ht hW => ⟨⟨(-3), (z15, y15), rfl, ⟨trivial, J15⟩, by rw [ht]; exact hP, va_K.moved hW.alike hK⟩, hS.F ht⟩) hS.2.2 dX11_whoIsWho_195
                          · have t18 : w17_6.toInt < (10 : Int) := gl_nle c18
                            refine lv_iload hx hb dX11_whoIsWho_147 (lv_at hl 1 rfl) ?_
                            refine lv_if_eq (tgt := 179) hx hb dX11_whoIsWho_149 (by decide) (fun c48 => ?_) (fun c48 => ?_)
                            · have t48 : w17_5.toInt = (0 : Int) := gl_eq c48
                              refine lv_iconst (v := 0) hx hb dX11_whoIsWho_179 (by decide) ?_
                              refine lv_istore (lv' := [(5, .int 0), (6, .int w17_6), (0, .ref (o + 0)), (1, .int a0), (2, .int a1), (3, .int a2), (4, .int a3)]) hx hb dX11_whoIsWho_180 hl (by decide) rfl (fun ls hl => ?_)
                              obtain ⟨x49, e49⟩ : ∃ t : Int32, t = w17_6 + 1 := ⟨_, rfl⟩
                              refine lv_iinc (v := x49) (lv' := [(6, .int x49), (5, .int 0), (0, .ref (o + 0)), (1, .int a0), (2, .int a1), (3, .int a2), (4, .int a3)]) hx hb dX11_whoIsWho_182 hl (k := 1) rfl (by rw [e49]; rfl) (by decide) rfl (fun ls hl => ?_)
                              have t49 : x49.toInt = w17_6.toInt + (1 : Int) := ga_add e49 rfl rfl (by omega) (by omega)
                              refine lv_goto (tgt := 140) hx hb dX11_whoIsWho_185 (by decide) ?_
                              exact ih17 x49 0 (show (10 - x49.toInt : Int) < (n17 : Int) from by omega) ⟨by omega, by omega⟩ ⟨by decide, by decide⟩ _ _ hP hS _ (lv_sub hl [0, 1, 2, 3, 4, 5, 6] rfl)
                            · have t48 : w17_5.toInt ≠ (0 : Int) := gl_ne c48
                              refine lv_iload_n hx hb dX11_whoIsWho_152 rfl (lv_at hl 5 rfl) ?_
                              refine lv_iload hx hb dX11_whoIsWho_153 (lv_at hl 0 rfl) ?_
                              refine qc_Sip (As := [.int a2, .int w17_6]) (rest := []) (k0 := 2) (m_has l D ca o b z15 y15 J15 a2 w17_6) kc_yX11_has ⟨hx, hb, hml, hown, hts⟩ wq_1198 rfl rfl ⟨Nat.le_of_ble_eq_true rfl, Nat.le_of_ble_eq_true rfl⟩ wq_all hP hK hS qw_Ai rfl hl.1 rfl (Nat.le_of_ble_eq_true rfl) dX11_whoIsWho_155 ⟨Nat.zero_le _, Nat.zero_le _⟩ (fun r50 H locs h50 hP hS _ _ => ?_)
                              rcases h50 with ⟨hr50, hf50_0⟩ | ⟨hr50, hf50_0⟩
                              · subst hr50
                                have hg50_0 : bitAt a2 w17_6 ≠ 0 := hf50_0
                                refine lv_if_eq (tgt := 175) hx hb dX11_whoIsWho_158 (by decide) (fun q => absurd q (by decide)) (fun _ => ?_)
                                refine lv_aload_n hx hb dX11_whoIsWho_161 rfl (lv_at hl 2 rfl) ?_
                                refine qf_get hx hb hts inX11 hown hK hP (q0 := 0) (by decide) (hgM_0 ca o) rfl 13 (by decide) wq_1006 (v := .ref (o + 11)) rfl dX11_whoIsWho_162 ?_
                                refine lv_iload hx hb dX11_whoIsWho_165 (lv_at hl 0 rfl) ?_
                                refine qa_iald hx hb hK hP (q0 := 11) (by decide) 0 (N := 16) (hgM_11 ca o) rfl (gi_in (by omega) (by omega)) dX11_whoIsWho_167 ?_
                                refine lv_topi (fun x51 e51 => ?_)
                                refine lv_iload_n hx hb dX11_whoIsWho_168 rfl (lv_at hl 4 rfl) ?_
                                refine lv_iconst (v := (-1)) hx hb dX11_whoIsWho_169 (by decide) ?_
                                refine lv_ixor hx hb dX11_whoIsWho_170 ?_
                                refine lv_topi (fun x52 e52 => ?_)
                                refine lv_iand hx hb dX11_whoIsWho_171 ?_
                                refine lv_topi (fun x53 e53 => ?_)
                                refine lv_if_ne (tgt := 179) hx hb dX11_whoIsWho_172 (by decide) (fun c54 => ?_) (fun c54 => ?_)
                                · have t54 : x53.toInt ≠ (0 : Int) := gl_ne c54
                                  refine lv_iconst (v := 0) hx hb dX11_whoIsWho_179 (by decide) ?_
                                  refine lv_istore (lv' := [(5, .int 0), (6, .int w17_6), (0, .ref (o + 0)), (1, .int a0), (2, .int a1), (3, .int a2), (4, .int a3)]) hx hb dX11_whoIsWho_180 hl (by decide) rfl (fun ls hl => ?_)
                                  obtain ⟨x55, e55⟩ : ∃ t : Int32, t = w17_6 + 1 := ⟨_, rfl⟩
                                  refine lv_iinc (v := x55) (lv' := [(6, .int x55), (5, .int 0), (0, .ref (o + 0)), (1, .int a0), (2, .int a1), (3, .int a2), (4, .int a3)]) hx hb dX11_whoIsWho_182 hl (k := 1) rfl (by rw [e55]; rfl) (by decide) rfl (fun ls hl => ?_)
                                  have t55 : x55.toInt = w17_6.toInt + (1 : Int) := ga_add e55 rfl rfl (by omega) (by omega)
                                  refine lv_goto (tgt := 140) hx hb dX11_whoIsWho_185 (by decide) ?_
                                  exact ih17 x55 0 (show (10 - x55.toInt : Int) < (n17 : Int) from by omega) ⟨by omega, by omega⟩ ⟨by decide, by decide⟩ _ _ hP hS _ (lv_sub hl [0, 1, 2, 3, 4, 5, 6] rfl)
                                · have t54 : x53.toInt = (0 : Int) := gl_eq c54
                                  refine lv_iconst (v := 1) hx hb dX11_whoIsWho_175 (by decide) ?_
                                  refine lv_goto (tgt := 180) hx hb dX11_whoIsWho_176 (by decide) ?_
                                  refine lv_istore (lv' := [(5, .int 1), (6, .int w17_6), (0, .ref (o + 0)), (1, .int a0), (2, .int a1), (3, .int a2), (4, .int a3)]) hx hb dX11_whoIsWho_180 hl (by decide) rfl (fun ls hl => ?_)
                                  obtain ⟨x56, e56⟩ : ∃ t : Int32, t = w17_6 + 1 := ⟨_, rfl⟩
                                  refine lv_iinc (v := x56) (lv' := [(6, .int x56), (5, .int 1), (0, .ref (o + 0)), (1, .int a0), (2, .int a1), (3, .int a2), (4, .int a3)]) hx hb dX11_whoIsWho_182 hl (k := 1) rfl (by rw [e56]; rfl) (by decide) rfl (fun ls hl => ?_)
                                  have t56 : x56.toInt = w17_6.toInt + (1 : Int) := ga_add e56 rfl rfl (by omega) (by omega)
                                  refine lv_goto (tgt := 140) hx hb dX11_whoIsWho_185 (by decide) ?_
                                  exact ih17 x56 1 (show (10 - x56.toInt : Int) < (n17 : Int) from by omega) ⟨by omega, by omega⟩ ⟨by decide, by decide⟩ _ _ hP hS _ (lv_sub hl [0, 1, 2, 3, 4, 5, 6] rfl)
                              · subst hr50
                                have hg50_0 : bitAt a2 w17_6 = 0 := hf50_0
                                refine lv_if_eq (tgt := 175) hx hb dX11_whoIsWho_158 (by decide) (fun _ => ?_) (fun q => absurd (by decide) q)
                                refine lv_iconst (v := 1) hx hb dX11_whoIsWho_175 (by decide) ?_
                                refine lv_goto (tgt := 180) hx hb dX11_whoIsWho_176 (by decide) ?_
                                refine lv_istore (lv' := [(5, .int 1), (6, .int w17_6), (0, .ref (o + 0)), (1, .int a0), (2, .int a1), (3, .int a2), (4, .int a3)]) hx hb dX11_whoIsWho_180 hl (by decide) rfl (fun ls hl => ?_)
                                obtain ⟨x57, e57⟩ : ∃ t : Int32, t = w17_6 + 1 := ⟨_, rfl⟩
                                refine lv_iinc (v := x57) (lv' := [(6, .int x57), (5, .int 1), (0, .ref (o + 0)), (1, .int a0), (2, .int a1), (3, .int a2), (4, .int a3)]) hx hb dX11_whoIsWho_182 hl (k := 1) rfl (by rw [e57]; rfl) (by decide) rfl (fun ls hl => ?_)
                                have t57 : x57.toInt = w17_6.toInt + (1 : Int) := ga_add e57 rfl rfl (by omega) (by omega)
                                refine lv_goto (tgt := 140) hx hb dX11_whoIsWho_185 (by decide) ?_
                                exact ih17 x57 1 (show (10 - x57.toInt : Int) < (n17 : Int) from by omega) ⟨by omega, by omega⟩ ⟨by decide, by decide⟩ _ _ hP hS _ (lv_sub hl [0, 1, 2, 3, 4, 5, 6] rfl)
                      exact loop17 11 0 w15_5 (show (10 - (0 : Int) : Int) < ((11 : Nat) : Int) from by omega) ⟨by decide, by decide⟩ ⟨by omega, by omega⟩ _ _ hP hS _ (lv_sub hl [0, 1, 2, 3, 4, 5, 6] rfl)
                    · have t16 : w15_6.toInt < a0.toInt := gl_nle c16
                      refine lv_aload_n hx hb dX11_whoIsWho_94 rfl (lv_at hl 2 rfl) ?_
                      refine qf_get hx hb hts inX11 hown hK hP (q0 := 0) (by decide) (hgM_0 ca o) rfl 48 (by decide) wq_1040 (v := .ref (o + 29)) rfl dX11_whoIsWho_95 ?_
                      refine lv_iload hx hb dX11_whoIsWho_98 (lv_at hl 0 rfl) ?_
                      refine lv_aload_n hx hb dX11_whoIsWho_100 rfl (lv_at hl 2 rfl) ?_
                      refine lv_iload hx hb dX11_whoIsWho_101 (lv_at hl 0 rfl) ?_
                      refine qc_Vip (As := [.int w15_6]) (rest := [.int w15_6, .ref (o + 29)]) (k0 := 1) (m_octet l D ca o b z15 y15 J15 w15_6 ⟨by omega, by omega⟩) kc_yX11_octet ⟨hx, hb, hml, hown, hts⟩ wq_1237 rfl rfl ⟨Nat.le_of_ble_eq_true rfl, Nat.le_of_ble_eq_true rfl⟩ wq_all hP hK hS qw_Ai (q0 := 0) (by decide) (hgM_0 ca o _ _) rfl rfl hl.1 rfl (Nat.le_of_ble_eq_true rfl) dX11_whoIsWho_103 ⟨Nat.zero_le _, Nat.zero_le _⟩ (fun r58 H locs h58 hP hS _ _ => ?_)
                      have p58_1 : r58 = z15 12 w15_6.toNatClampNeg &&& 255 := h58.2
                      have b58 : (0 : Int) ≤ r58.toInt ∧ r58.toInt ≤ 255 := h58.1
                      refine qa_iast2 hx hb hK hP hS qw_Ai (q0 := 29) (by decide) 0 (N := 6) (hgM_29 ca o) rfl (i := w15_6) (x := r58) (gi_in (by omega) (by omega)) dX11_whoIsWho_106 (fun z59 H locs hz59 hP hS => ?_)
                      have J59 := jM_29 J15 hz59
                      refine lv_iload hx hb dX11_whoIsWho_107 (lv_at hl 1 rfl) ?_
                      refine lv_if_eq (tgt := 128) hx hb dX11_whoIsWho_109 (by decide) (fun c60 => ?_) (fun c60 => ?_)
                      · have t60 : w15_5.toInt = (0 : Int) := gl_eq c60
                        refine lv_iconst (v := 0) hx hb dX11_whoIsWho_128 (by decide) ?_
                        refine lv_istore (lv' := [(5, .int 0), (6, .int w15_6), (0, .ref (o + 0)), (1, .int a0), (2, .int a1), (3, .int a2), (4, .int a3)]) hx hb dX11_whoIsWho_129 hl (by decide) rfl (fun ls hl => ?_)
                        obtain ⟨x61, e61⟩ : ∃ t : Int32, t = w15_6 + 1 := ⟨_, rfl⟩
                        refine lv_iinc (v := x61) (lv' := [(6, .int x61), (5, .int 0), (0, .ref (o + 0)), (1, .int a0), (2, .int a1), (3, .int a2), (4, .int a3)]) hx hb dX11_whoIsWho_131 hl (k := 1) rfl (by rw [e61]; rfl) (by decide) rfl (fun ls hl => ?_)
                        have t61 : x61.toInt = w15_6.toInt + (1 : Int) := ga_add e61 rfl rfl (by omega) (by omega)
                        refine lv_goto (tgt := 88) hx hb dX11_whoIsWho_134 (by decide) ?_
                        exact ih15 x61 0 z59 y15 (show (6 - x61.toInt : Int) < (n15 : Int) from by omega) ⟨by omega, by omega⟩ ⟨by decide, by decide⟩ J59 _ _ hP hS _ (lv_sub hl [0, 1, 2, 3, 4, 5, 6] rfl)
                      · have t60 : w15_5.toInt ≠ (0 : Int) := gl_ne c60
                        refine lv_aload_n hx hb dX11_whoIsWho_112 rfl (lv_at hl 2 rfl) ?_
                        refine qf_get hx hb hts inX11 hown hK hP (q0 := 0) (by decide) (hgM_0 ca o) rfl 48 (by decide) wq_1040 (v := .ref (o + 29)) rfl dX11_whoIsWho_113 ?_
                        refine lv_iload hx hb dX11_whoIsWho_116 (lv_at hl 0 rfl) ?_
                        refine qa_iald hx hb hK hP (q0 := 29) (by decide) 0 (N := 6) (hgM_29 ca o) rfl (gi_in (by omega) (by omega)) dX11_whoIsWho_118 ?_
                        refine lv_topi (fun x62 e62 => ?_)
                        refine lv_bipush (v := 99) hx hb dX11_whoIsWho_119 (by decide) ?_
                        refine lv_icmp_gt (tgt := 128) hx hb dX11_whoIsWho_121 (by decide) (fun c63 => ?_) (fun c63 => ?_)
                        · have t63 : x62.toInt > (99 : Int) := gl_lt c63
                          refine lv_iconst (v := 0) hx hb dX11_whoIsWho_128 (by decide) ?_
                          refine lv_istore (lv' := [(5, .int 0), (6, .int w15_6), (0, .ref (o + 0)), (1, .int a0), (2, .int a1), (3, .int a2), (4, .int a3)]) hx hb dX11_whoIsWho_129 hl (by decide) rfl (fun ls hl => ?_)
                          obtain ⟨x64, e64⟩ : ∃ t : Int32, t = w15_6 + 1 := ⟨_, rfl⟩
                          refine lv_iinc (v := x64) (lv' := [(6, .int x64), (5, .int 0), (0, .ref (o + 0)), (1, .int a0), (2, .int a1), (3, .int a2), (4, .int a3)]) hx hb dX11_whoIsWho_131 hl (k := 1) rfl (by rw [e64]; rfl) (by decide) rfl (fun ls hl => ?_)
                          have t64 : x64.toInt = w15_6.toInt + (1 : Int) := ga_add e64 rfl rfl (by omega) (by omega)
                          refine lv_goto (tgt := 88) hx hb dX11_whoIsWho_134 (by decide) ?_
                          exact ih15 x64 0 z59 y15 (show (6 - x64.toInt : Int) < (n15 : Int) from by omega) ⟨by omega, by omega⟩ ⟨by decide, by decide⟩ J59 _ _ hP hS _ (lv_sub hl [0, 1, 2, 3, 4, 5, 6] rfl)
                        · have t63 : x62.toInt ≤ (99 : Int) := gl_nlt c63
                          refine lv_iconst (v := 1) hx hb dX11_whoIsWho_124 (by decide) ?_
                          refine lv_goto (tgt := 129) hx hb dX11_whoIsWho_125 (by decide) ?_
                          refine lv_istore (lv' := [(5, .int 1), (6, .int w15_6), (0, .ref (o + 0)), (1, .int a0), (2, .int a1), (3, .int a2), (4, .int a3)]) hx hb dX11_whoIsWho_129 hl (by decide) rfl (fun ls hl => ?_)
                          obtain ⟨x65, e65⟩ : ∃ t : Int32, t = w15_6 + 1 := ⟨_, rfl⟩
                          refine lv_iinc (v := x65) (lv' := [(6, .int x65), (5, .int 1), (0, .ref (o + 0)), (1, .int a0), (2, .int a1), (3, .int a2), (4, .int a3)]) hx hb dX11_whoIsWho_131 hl (k := 1) rfl (by rw [e65]; rfl) (by decide) rfl (fun ls hl => ?_)
                          have t65 : x65.toInt = w15_6.toInt + (1 : Int) := ga_add e65 rfl rfl (by omega) (by omega)
                          refine lv_goto (tgt := 88) hx hb dX11_whoIsWho_134 (by decide) ?_
                          exact ih15 x65 1 z59 y15 (show (6 - x65.toInt : Int) < (n15 : Int) from by omega) ⟨by omega, by omega⟩ ⟨by decide, by decide⟩ J59 _ _ hP hS _ (lv_sub hl [0, 1, 2, 3, 4, 5, 6] rfl)
                exact loop15 7 0 1 z14 y (show (6 - (0 : Int) : Int) < ((7 : Nat) : Int) from by omega) ⟨by decide, by decide⟩ ⟨by decide, by decide⟩ J14 _ _ hP hS _ (lv_sub hl [0, 1, 2, 3, 4, 5, 6] rfl)
              · have t13 : a0.toInt > x12.toInt := gl_nle c13
                refine lv_iconst (v := (-1)) hx hb dX11_whoIsWho_75 (by decide) ?_
                exact W.iret (v := (-1)) hx hb hr (fun t ht hW => ⟨⟨(-1), (z, y), rfl, ⟨trivial, J0⟩, by rw [ht]; exact hP, va_K.moved hW.alike hK⟩, hS.F ht⟩) hS.2.2 dX11_whoIsWho_76
            · have t11 : a3.toInt ≠ (100 : Int) := gl_ne c11
              refine lv_iload hx hb dX11_whoIsWho_48 (lv_at hl 4 rfl) ?_
              refine lv_iconst (v := 0) hx hb dX11_whoIsWho_50 (by decide) ?_
              refine lv_iconst (v := 5) hx hb dX11_whoIsWho_51 (by decide) ?_
              refine qc_Sip (As := [.int a3, .int 0, .int 5]) (rest := []) (k0 := 3) (m_in l D ca o b z y J0 a3 0 5) kc_yX11_in ⟨hx, hb, hml, hown, hts⟩ wq_1187 rfl rfl ⟨Nat.le_of_ble_eq_true rfl, Nat.le_of_ble_eq_true rfl⟩ wq_all hP hK hS qw_Ai rfl hl.1 rfl (Nat.le_of_ble_eq_true rfl) dX11_whoIsWho_52 ⟨Nat.zero_le _, Nat.zero_le _⟩ (fun r66 H locs h66 hP hS _ _ => ?_)
              rcases h66 with ⟨hr66, hf66_0⟩ | ⟨hr66, hf66_0⟩
              · subst hr66
                have hg66_0 : (0 : Int) ≤ a3.toInt ∧ a3.toInt ≤ (5 : Int) := hf66_0
                refine lv_if_eq (tgt := 75) hx hb dX11_whoIsWho_55 (by decide) (fun q => absurd q (by decide)) (fun _ => ?_)
                refine lv_iload_n hx hb dX11_whoIsWho_58 rfl (lv_at hl 2 rfl) ?_
                refine lv_iload hx hb dX11_whoIsWho_59 (lv_at hl 4 rfl) ?_
                refine qc_Sip (As := [.int a1, .int a3]) (rest := []) (k0 := 2) (m_has l D ca o b z y J0 a1 a3) kc_yX11_has ⟨hx, hb, hml, hown, hts⟩ wq_1198 rfl rfl ⟨Nat.le_of_ble_eq_true rfl, Nat.le_of_ble_eq_true rfl⟩ wq_all hP hK hS qw_Ai rfl hl.1 rfl (Nat.le_of_ble_eq_true rfl) dX11_whoIsWho_61 ⟨Nat.zero_le _, Nat.zero_le _⟩ (fun r67 H locs h67 hP hS _ _ => ?_)
                rcases h67 with ⟨hr67, hf67_0⟩ | ⟨hr67, hf67_0⟩
                · subst hr67
                  have hg67_0 : bitAt a1 a3 ≠ 0 := hf67_0
                  refine lv_if_eq (tgt := 75) hx hb dX11_whoIsWho_64 (by decide) (fun q => absurd q (by decide)) (fun _ => ?_)
                  refine lv_iload_n hx hb dX11_whoIsWho_67 rfl (lv_at hl 1 rfl) ?_
                  refine lv_aload_n hx hb dX11_whoIsWho_68 rfl (lv_at hl 0 rfl) ?_
                  refine qf_get hx hb hts inX11 hown hK hP (q0 := 0) (by decide) (hgM_0 ca o) rfl 15 (by decide) wq_1008 (v := .int (z 0 15)) rfl dX11_whoIsWho_69 ?_
                  refine lv_topi (fun x68 e68 => ?_)
                  have b68 := iM_0_15 J0 e68
                  refine lv_icmp_le (tgt := 77) hx hb dX11_whoIsWho_72 (by decide) (fun c69 => ?_) (fun c69 => ?_)
                  · have t69 : a0.toInt ≤ x68.toInt := gl_le c69
                    refine lv_aload_n hx hb dX11_whoIsWho_77 rfl (lv_at hl 0 rfl) ?_
                    refine lv_iconst (v := 0) hx hb dX11_whoIsWho_78 (by decide) ?_
                    refine qf_put2 hx hb hts inX11 tyX11 tyX11_ok nmX11 hown hK hP hS qw_Ai (q0 := 0) (by decide) (hgM_0 ca o) rfl 15 (by decide) wq_1008 rfl (x := 0) 15 rfl rfl rfl (Nat.le_of_ble_eq_true rfl) dX11_whoIsWho_79 (fun z70 H locs hz70 hP hS => ?_)
                    have J70 := jM_0_15 J0 hz70 ⟨by decide, by decide⟩
                    refine lv_iconst (v := 1) hx hb dX11_whoIsWho_82 (by decide) ?_
                    refine lv_istore (lv' := [(5, .int 1), (0, .ref (o + 0)), (1, .int a0), (2, .int a1), (3, .int a2), (4, .int a3)]) hx hb dX11_whoIsWho_83 hl (by decide) rfl (fun ls hl => ?_)
                    refine lv_iconst (v := 0) hx hb dX11_whoIsWho_85 (by decide) ?_
                    refine lv_istore (lv' := [(6, .int 0), (5, .int 1), (0, .ref (o + 0)), (1, .int a0), (2, .int a1), (3, .int a2), (4, .int a3)]) hx hb dX11_whoIsWho_86 hl (by decide) rfl (fun ls hl => ?_)
                    have loop71 : ∀ (n : Nat) (w71_6 : Int32) (w71_5 : Int32) (z71 : Nat → Nat → Int32) (y71 : Nat → Nat → Int64), ((6 - w71_6.toInt : Int) < (n : Int)) → ((0 : Int) ≤ w71_6.toInt ∧ w71_6.toInt ≤ 6) → ((0 : Int) ≤ w71_5.toInt ∧ w71_5.toInt ≤ 1) → (qJM b z71) → ∀ (H : Heap) (locs : List Loc), qw_P D vwCl o 41 (qG (GM ca o) z71 y71) H → va_S (qw_A o 41) s.heap H locs → ∀ (ls : Array Slot), lv_has ls 12 [(6, .int w71_6), (5, .int w71_5), (0, .ref (o + 0)), (1, .int a0), (2, .int a1), (3, .int a2), (4, .int a3)] → W p l e (headSpec (Cond.code yX11_whoIsWho cX11_whoIsWho 12 (some .int) :: qtbl) ({ frames := 4, cells := 0, slots := 0, locals := 129 })).room s m (([.ref (o + 0), .int a0, .int a1, .int a2, .int a3] : List Value).toArray) below meth c H locs 0 0 (MQ below (va_Qi (fun r u => True ∧ qJM b u.1) (qB D vwCl (qT6 ca) o 41 (fun u : qZ => qG (GM ca o) u.1 u.2)) (qw_A o 41)) (([.ref (o + 0), .int a0, .int a1, .int a2, .int a3] : List Value).toArray) s 0 0 (qw_A o 41)) (F0 m 88 ls []) := by
                      intro n
                      induction n with
                      | zero => intro w71_6 w71_5 z71 y71 hb71 hv71_6 hv71_5 J71; exfalso; omega
                      | succ n71 ih71 =>
                        intro w71_6 w71_5 z71 y71 hb71 hv71_6 hv71_5 J71 H locs hP hS ls hl
                        refine lv_iload hx hb dX11_whoIsWho_88 (lv_at hl 0 rfl) ?_
                        refine lv_iload_n hx hb dX11_whoIsWho_90 rfl (lv_at hl 3 rfl) ?_
                        refine lv_icmp_ge (tgt := 137) hx hb dX11_whoIsWho_91 (by decide) (fun c72 => ?_) (fun c72 => ?_)
                        · have t72 : w71_6.toInt ≥ a0.toInt := gl_le c72
                          refine lv_iconst (v := 0) hx hb dX11_whoIsWho_137 (by decide) ?_
                          refine lv_istore (lv' := [(6, .int 0), (5, .int w71_5), (0, .ref (o + 0)), (1, .int a0), (2, .int a1), (3, .int a2), (4, .int a3)]) hx hb dX11_whoIsWho_138 hl (by decide) rfl (fun ls hl => ?_)
                          have loop73 : ∀ (n : Nat) (w73_6 : Int32) (w73_5 : Int32), ((10 - w73_6.toInt : Int) < (n : Int)) → ((0 : Int) ≤ w73_6.toInt ∧ w73_6.toInt ≤ 10) → ((0 : Int) ≤ w73_5.toInt ∧ w73_5.toInt ≤ 1) → ∀ (H : Heap) (locs : List Loc), qw_P D vwCl o 41 (qG (GM ca o) z71 y71) H → va_S (qw_A o 41) s.heap H locs → ∀ (ls : Array Slot), lv_has ls 12 [(6, .int w73_6), (5, .int w73_5), (0, .ref (o + 0)), (1, .int a0), (2, .int a1), (3, .int a2), (4, .int a3)] → W p l e (headSpec (Cond.code yX11_whoIsWho cX11_whoIsWho 12 (some .int) :: qtbl) ({ frames := 4, cells := 0, slots := 0, locals := 129 })).room s m (([.ref (o + 0), .int a0, .int a1, .int a2, .int a3] : List Value).toArray) below meth c H locs 0 0 (MQ below (va_Qi (fun r u => True ∧ qJM b u.1) (qB D vwCl (qT6 ca) o 41 (fun u : qZ => qG (GM ca o) u.1 u.2)) (qw_A o 41)) (([.ref (o + 0), .int a0, .int a1, .int a2, .int a3] : List Value).toArray) s 0 0 (qw_A o 41)) (F0 m 140 ls []) := by
                            intro n
                            induction n with
                            | zero => intro w73_6 w73_5 hb73 hv73_6 hv73_5; exfalso; omega
                            | succ n73 ih73 =>
                              intro w73_6 w73_5 hb73 hv73_6 hv73_5 H locs hP hS ls hl
                              refine lv_iload hx hb dX11_whoIsWho_140 (lv_at hl 0 rfl) ?_
                              refine lv_bipush (v := 10) hx hb dX11_whoIsWho_142 (by decide) ?_
                              refine lv_icmp_ge (tgt := 188) hx hb dX11_whoIsWho_144 (by decide) (fun c74 => ?_) (fun c74 => ?_)
                              · have t74 : w73_6.toInt ≥ (10 : Int) := gl_le c74
                                refine lv_iload hx hb dX11_whoIsWho_188 (lv_at hl 1 rfl) ?_
                                refine lv_if_ne (tgt := 196) hx hb dX11_whoIsWho_190 (by decide) (fun c75 => ?_) (fun c75 => ?_)
                                · have t75 : w73_5.toInt ≠ (0 : Int) := gl_ne c75
                                  refine lv_iconst (v := 1) hx hb dX11_whoIsWho_196 (by decide) ?_
                                  refine lv_istore (lv' := [(6, .int 1), (5, .int w73_5), (0, .ref (o + 0)), (1, .int a0), (2, .int a1), (3, .int a2), (4, .int a3)]) hx hb dX11_whoIsWho_197 hl (by decide) rfl (fun ls hl => ?_)
                                  refine lv_iconst (v := 0) hx hb dX11_whoIsWho_199 (by decide) ?_
                                  refine lv_istore (lv' := [(7, .int 0), (6, .int 1), (5, .int w73_5), (0, .ref (o + 0)), (1, .int a0), (2, .int a1), (3, .int a2), (4, .int a3)]) hx hb dX11_whoIsWho_200 hl (by decide) rfl (fun ls hl => ?_)
                                  refine lv_iconst (v := 0) hx hb dX11_whoIsWho_202 (by decide) ?_
                                  refine lv_istore (lv' := [(8, .int 0), (7, .int 0), (6, .int 1), (5, .int w73_5), (0, .ref (o + 0)), (1, .int a0), (2, .int a1), (3, .int a2), (4, .int a3)]) hx hb dX11_whoIsWho_203 hl (by decide) rfl (fun ls hl => ?_)
                                  refine lv_iconst (v := 0) hx hb dX11_whoIsWho_205 (by decide) ?_
                                  refine lv_istore (lv' := [(9, .int 0), (8, .int 0), (7, .int 0), (6, .int 1), (5, .int w73_5), (0, .ref (o + 0)), (1, .int a0), (2, .int a1), (3, .int a2), (4, .int a3)]) hx hb dX11_whoIsWho_206 hl (by decide) rfl (fun ls hl => ?_)
                                  have loop76 : ∀ (n : Nat) (w76_9 : Int32) (w76_8 : Int32) (w76_7 : Int32) (w76_6 : Int32) (z76 : Nat → Nat → Int32) (y76 : Nat → Nat → Int64), ((6 - w76_9.toInt : Int) < (n : Int)) → ((0 : Int) ≤ w76_9.toInt ∧ w76_9.toInt ≤ 6) → ((0 : Int) ≤ w76_8.toInt ∧ w76_8.toInt ≤ 6) → ((0 : Int) ≤ w76_7.toInt ∧ w76_7.toInt ≤ 5) → (qJM b z76) → (w76_8.toInt ≤ w76_9.toInt) → ∀ (H : Heap) (locs : List Loc), qw_P D vwCl o 41 (qG (GM ca o) z76 y76) H → va_S (qw_A o 41) s.heap H locs → ∀ (ls : Array Slot), lv_has ls 12 [(9, .int w76_9), (8, .int w76_8), (7, .int w76_7), (6, .int w76_6), (5, .int w73_5), (0, .ref (o + 0)), (1, .int a0), (2, .int a1), (3, .int a2), (4, .int a3)] → W p l e (headSpec (Cond.code yX11_whoIsWho cX11_whoIsWho 12 (some .int) :: qtbl) ({ frames := 4, cells := 0, slots := 0, locals := 129 })).room s m (([.ref (o + 0), .int a0, .int a1, .int a2, .int a3] : List Value).toArray) below meth c H locs 0 0 (MQ below (va_Qi (fun r u => True ∧ qJM b u.1) (qB D vwCl (qT6 ca) o 41 (fun u : qZ => qG (GM ca o) u.1 u.2)) (qw_A o 41)) (([.ref (o + 0), .int a0, .int a1, .int a2, .int a3] : List Value).toArray) s 0 0 (qw_A o 41)) (F0 m 208 ls []) := by
                                    intro n
                                    induction n with
                                    | zero => intro w76_9 w76_8 w76_7 w76_6 z76 y76 hb76 hv76_9 hv76_8 hv76_7 J76 v76_0; exfalso; omega
                                    | succ n76 ih76 =>
                                      intro w76_9 w76_8 w76_7 w76_6 z76 y76 hb76 hv76_9 hv76_8 hv76_7 J76 v76_0 H locs hP hS ls hl
                                      refine lv_iload hx hb dX11_whoIsWho_208 (lv_at hl 0 rfl) ?_
                                      refine lv_bipush (v := 6) hx hb dX11_whoIsWho_210 (by decide) ?_
                                      refine lv_icmp_ge (tgt := 265) hx hb dX11_whoIsWho_212 (by decide) (fun c77 => ?_) (fun c77 => ?_)
                                      · have t77 : w76_9.toInt ≥ (6 : Int) := gl_le c77
                                        refine lv_iconst (v := 0) hx hb dX11_whoIsWho_265 (by decide) ?_
                                        refine lv_istore (lv' := [(9, .int 0), (8, .int w76_8), (7, .int w76_7), (6, .int w76_6), (5, .int w73_5), (0, .ref (o + 0)), (1, .int a0), (2, .int a1), (3, .int a2), (4, .int a3)]) hx hb dX11_whoIsWho_266 hl (by decide) rfl (fun ls hl => ?_)
                                        refine lv_iconst (v := 0) hx hb dX11_whoIsWho_268 (by decide) ?_
                                        refine lv_istore (lv' := [(10, .int 0), (9, .int 0), (8, .int w76_8), (7, .int w76_7), (6, .int w76_6), (5, .int w73_5), (0, .ref (o + 0)), (1, .int a0), (2, .int a1), (3, .int a2), (4, .int a3)]) hx hb dX11_whoIsWho_269 hl (by decide) rfl (fun ls hl => ?_)
                                        have loop78 : ∀ (n : Nat) (w78_10 : Int32) (w78_9 : Int32) (z78 : Nat → Nat → Int32) (y78 : Nat → Nat → Int64), ((2147483647 - w78_10.toInt : Int) < (n : Int)) → ((0 : Int) ≤ w78_10.toInt ∧ w78_10.toInt ≤ 2147483647) → (qJM b z78) → ∀ (H : Heap) (locs : List Loc), qw_P D vwCl o 41 (qG (GM ca o) z78 y78) H → va_S (qw_A o 41) s.heap H locs → ∀ (ls : Array Slot), lv_has ls 12 [(10, .int w78_10), (9, .int w78_9), (8, .int w76_8), (7, .int w76_7), (6, .int w76_6), (5, .int w73_5), (0, .ref (o + 0)), (1, .int a0), (2, .int a1), (3, .int a2), (4, .int a3)] → W p l e (headSpec (Cond.code yX11_whoIsWho cX11_whoIsWho 12 (some .int) :: qtbl) ({ frames := 4, cells := 0, slots := 0, locals := 129 })).room s m (([.ref (o + 0), .int a0, .int a1, .int a2, .int a3] : List Value).toArray) below meth c H locs 0 0 (MQ below (va_Qi (fun r u => True ∧ qJM b u.1) (qB D vwCl (qT6 ca) o 41 (fun u : qZ => qG (GM ca o) u.1 u.2)) (qw_A o 41)) (([.ref (o + 0), .int a0, .int a1, .int a2, .int a3] : List Value).toArray) s 0 0 (qw_A o 41)) (F0 m 271 ls []) := by
                                          intro n
                                          induction n with
                                          | zero => intro w78_10 w78_9 z78 y78 hb78 hv78_10 J78; exfalso; omega
                                          | succ n78 ih78 =>
                                            intro w78_10 w78_9 z78 y78 hb78 hv78_10 J78 H locs hP hS ls hl
                                            refine lv_iload hx hb dX11_whoIsWho_271 (lv_at hl 0 rfl) ?_
                                            refine lv_iload hx hb dX11_whoIsWho_273 (lv_at hl 4 rfl) ?_
                                            refine lv_icmp_ge (tgt := 346) hx hb dX11_whoIsWho_275 (by decide) (fun c79 => ?_) (fun c79 => ?_)
                                            · have t79 : w78_10.toInt ≥ w76_6.toInt := gl_le c79
                                              refine lv_iload hx hb dX11_whoIsWho_346 (lv_at hl 10 rfl) ?_
                                              refine lv_bipush (v := 100) hx hb dX11_whoIsWho_348 (by decide) ?_
                                              refine lv_icmp_ne (tgt := 358) hx hb dX11_whoIsWho_350 (by decide) (fun c80 => ?_) (fun c80 => ?_)
                                              · have t80 : a3.toInt ≠ (100 : Int) := gl_ne c80
                                                refine lv_iload hx hb dX11_whoIsWho_358 (lv_at hl 1 rfl) ?_
                                                refine lv_if_ne (tgt := 368) hx hb dX11_whoIsWho_360 (by decide) (fun c81 => ?_) (fun c81 => ?_)
                                                · have t81 : w78_9.toInt ≠ (0 : Int) := gl_ne c81
                                                  refine lv_aload_n hx hb dX11_whoIsWho_368 rfl (lv_at hl 6 rfl) ?_
                                                  refine qf_get hx hb hts inX11 hown hK hP (q0 := 0) (by decide) (hgM_0 ca o) rfl 50 (by decide) wq_1042 (v := .ref (o + 31)) rfl dX11_whoIsWho_369 ?_
                                                  refine lv_iload hx hb dX11_whoIsWho_372 (lv_at hl 3 rfl) ?_
                                                  refine qa_iald hx hb hK hP (q0 := 31) (by decide) 0 (N := 6) (hgM_31 ca o) rfl (gi_in (by omega) (by omega)) dX11_whoIsWho_374 ?_
                                                  refine lv_topi (fun x82 e82 => ?_)
                                                  exact W.iret (v := x82) hx hb hr (fun t ht hW => ⟨⟨x82, (z78, y78), rfl, ⟨trivial, J78⟩, by rw [ht]; exact hP, va_K.moved hW.alike hK⟩, hS.F ht⟩) hS.2.2 dX11_whoIsWho_375
                                                · have t81 : w78_9.toInt = (0 : Int) := gl_eq c81
                                                  refine lv_bipush (v := (-2)) hx hb dX11_whoIsWho_363 (by decide) ?_
                                                  refine lv_goto (tgt := 375) hx hb dX11_whoIsWho_365 (by decide) ?_
                                                  exact W.iret (v := (-2)) hx hb hr (fun t ht hW => ⟨⟨(-2), (z78, y78), rfl, ⟨trivial, J78⟩, by rw [ht]; exact hP, va_K.moved hW.alike hK⟩, hS.F ht⟩) hS.2.2 dX11_whoIsWho_375
                                              · have t80 : a3.toInt = (100 : Int) := gl_eq c80
                                                exfalso; omega
                                            · have t79 : w78_10.toInt < w76_6.toInt := gl_nle c79
                                              refine lv_aload_n hx hb dX11_whoIsWho_278 rfl (lv_at hl 6 rfl) ?_
                                              refine lv_iload hx hb dX11_whoIsWho_279 (lv_at hl 0 rfl) ?_
                                              refine lv_iload_n hx hb dX11_whoIsWho_281 rfl (lv_at hl 7 rfl) ?_
                                              refine qc_Vi2 (As := [.int w78_10, .int a0]) (rest := []) (k0 := 2) (m_readsPlaces l D ca o b z78 y78 J78 w78_10 a0 ⟨by omega, by omega⟩ ⟨by omega, by omega⟩) kc_yX11_readsPlaces ⟨hx, hb, hml, hown, hts⟩ wq_1531 rfl rfl ⟨Nat.le_of_ble_eq_true rfl, Nat.le_of_ble_eq_true rfl⟩ wq_all hP hK hS qw_Ai (q0 := 0) (by decide) (hgM_0 ca o _ _) rfl rfl hl.1 rfl (Nat.le_of_ble_eq_true rfl) dX11_whoIsWho_282 ⟨Nat.zero_le _, Nat.zero_le _⟩ (fun r83 z83 y83 H locs h83 hP hS _ _ => ?_)
                                              have J83 : qJM b z83 := h83.2
                                              have b83 : (0 : Int) ≤ r83.toInt ∧ r83.toInt ≤ 1 := h83.1
                                              refine lv_if_eq (tgt := 340) hx hb dX11_whoIsWho_285 (by decide) (fun c84 => ?_) (fun c84 => ?_)
                                              · have t84 : r83.toInt = (0 : Int) := gl_eq c84
                                                obtain ⟨x85, e85⟩ : ∃ t : Int32, t = w78_10 + 1 := ⟨_, rfl⟩
                                                refine lv_iinc (v := x85) (lv' := [(10, .int x85), (9, .int w78_9), (8, .int w76_8), (7, .int w76_7), (6, .int w76_6), (5, .int w73_5), (0, .ref (o + 0)), (1, .int a0), (2, .int a1), (3, .int a2), (4, .int a3)]) hx hb dX11_whoIsWho_340 hl (k := 0) rfl (by rw [e85]; rfl) (by decide) rfl (fun ls hl => ?_)
                                                have gb85_0 := gl_b w78_10
                                                have gb85_1 := gl_b a1
                                                have gb85_2 := gl_b x5
                                                have gb85_3 := gl_b r7
                                                have gb85_4 := gl_b a0
                                                have gb85_5 := gl_b r9
                                                have gb85_6 := gl_b a3
                                                have gb85_7 := gl_b x68
                                                have gb85_8 := gl_b w71_6
                                                have gb85_9 := gl_b w73_6
                                                have gb85_10 := gl_b w73_5
                                                have gb85_11 := gl_b w76_9
                                                have gb85_12 := gl_b w76_6
                                                have gb85_13 := gl_b r83
                                                have t85 : x85.toInt = w78_10.toInt + (1 : Int) := ga_add e85 rfl rfl (by omega) (by omega)
                                                refine lv_goto (tgt := 271) hx hb dX11_whoIsWho_343 (by decide) ?_
                                                exact ih78 x85 w78_9 z83 y83 (show (2147483647 - x85.toInt : Int) < (n78 : Int) from by omega) ⟨by omega, (gl_b x85).2⟩ J83 _ _ hP hS _ (lv_sub hl [0, 1, 2, 3, 4, 5, 6, 7, 8, 9, 10] rfl)
                                              · have t84 : r83.toInt ≠ (0 : Int) := gl_ne c84
                                                refine lv_aload_n hx hb dX11_whoIsWho_288 rfl (lv_at hl 6 rfl) ?_
                                                refine lv_iload_n hx hb dX11_whoIsWho_289 rfl (lv_at hl 9 rfl) ?_
                                                refine lv_iload_n hx hb dX11_whoIsWho_290 rfl (lv_at hl 7 rfl) ?_
                                                refine qc_Vip (As := [.int a2, .int a0]) (rest := []) (k0 := 2) (m_holdAllAsTold l D ca o b z83 y83 J83 a2 a0 ⟨by omega, by omega⟩) kc_yX11_holdAllAsTold ⟨hx, hb, hml, hown, hts⟩ wq_1535 rfl rfl ⟨Nat.le_of_ble_eq_true rfl, Nat.le_of_ble_eq_true rfl⟩ wq_all hP hK hS qw_Ai (q0 := 0) (by decide) (hgM_0 ca o _ _) rfl rfl hl.1 rfl (Nat.le_of_ble_eq_true rfl) dX11_whoIsWho_291 ⟨Nat.zero_le _, Nat.zero_le _⟩ (fun r86 H locs h86 hP hS _ _ => ?_)
                                                have b86 : (0 : Int) ≤ r86.toInt ∧ r86.toInt ≤ 1 := h86
                                                refine lv_if_ne (tgt := 300) hx hb dX11_whoIsWho_294 (by decide) (fun c87 => ?_) (fun c87 => ?_)
                                                · have t87 : r86.toInt ≠ (0 : Int) := gl_ne c87
                                                  refine lv_iload hx hb dX11_whoIsWho_300 (lv_at hl 1 rfl) ?_
                                                  refine lv_if_ne (tgt := 334) hx hb dX11_whoIsWho_302 (by decide) (fun c88 => ?_) (fun c88 => ?_)
                                                  · have t88 : w78_9.toInt ≠ (0 : Int) := gl_ne c88
                                                    refine lv_iload hx hb dX11_whoIsWho_334 (lv_at hl 1 rfl) ?_
                                                    refine lv_iconst (v := 1) hx hb dX11_whoIsWho_336 (by decide) ?_
                                                    refine lv_iadd hx hb dX11_whoIsWho_337 ?_
                                                    refine lv_topi (fun x89 e89 => ?_)
                                                    refine lv_istore (lv' := [(9, .int x89), (10, .int w78_10), (8, .int w76_8), (7, .int w76_7), (6, .int w76_6), (5, .int w73_5), (0, .ref (o + 0)), (1, .int a0), (2, .int a1), (3, .int a2), (4, .int a3)]) hx hb dX11_whoIsWho_338 hl (by decide) rfl (fun ls hl => ?_)
                                                    obtain ⟨x90, e90⟩ : ∃ t : Int32, t = w78_10 + 1 := ⟨_, rfl⟩
                                                    refine lv_iinc (v := x90) (lv' := [(10, .int x90), (9, .int x89), (8, .int w76_8), (7, .int w76_7), (6, .int w76_6), (5, .int w73_5), (0, .ref (o + 0)), (1, .int a0), (2, .int a1), (3, .int a2), (4, .int a3)]) hx hb dX11_whoIsWho_340 hl (k := 1) rfl (by rw [e90]; rfl) (by decide) rfl (fun ls hl => ?_)
                                                    have gb90_0 := gl_b w78_10
                                                    have gb90_1 := gl_b a1
                                                    have gb90_2 := gl_b x5
                                                    have gb90_3 := gl_b r7
                                                    have gb90_4 := gl_b a0
                                                    have gb90_5 := gl_b r9
                                                    have gb90_6 := gl_b a3
                                                    have gb90_7 := gl_b x68
                                                    have gb90_8 := gl_b w71_6
                                                    have gb90_9 := gl_b w73_6
                                                    have gb90_10 := gl_b w73_5
                                                    have gb90_11 := gl_b w76_9
                                                    have gb90_12 := gl_b w76_6
                                                    have gb90_13 := gl_b r83
                                                    have gb90_14 := gl_b r86
                                                    have gb90_15 := gl_b w78_9
                                                    have t90 : x90.toInt = w78_10.toInt + (1 : Int) := ga_add e90 rfl rfl (by omega) (by omega)
                                                    refine lv_goto (tgt := 271) hx hb dX11_whoIsWho_343 (by decide) ?_
                                                    exact ih78 x90 x89 z83 y83 (show (2147483647 - x90.toInt : Int) < (n78 : Int) from by omega) ⟨by omega, (gl_b x90).2⟩ J83 _ _ hP hS _ (lv_sub hl [0, 1, 2, 3, 4, 5, 6, 7, 8, 9, 10] rfl)
                                                  · have t88 : w78_9.toInt = (0 : Int) := gl_eq c88
                                                    refine lv_iconst (v := 0) hx hb dX11_whoIsWho_305 (by decide) ?_
                                                    refine lv_istore (lv' := [(11, .int 0), (10, .int w78_10), (9, .int w78_9), (8, .int w76_8), (7, .int w76_7), (6, .int w76_6), (5, .int w73_5), (0, .ref (o + 0)), (1, .int a0), (2, .int a1), (3, .int a2), (4, .int a3)]) hx hb dX11_whoIsWho_306 hl (by decide) rfl (fun ls hl => ?_)
                                                    have loop91 : ∀ (n : Nat) (w91_11 : Int32) (z91 : Nat → Nat → Int32) (y91 : Nat → Nat → Int64), ((6 - w91_11.toInt : Int) < (n : Int)) → ((0 : Int) ≤ w91_11.toInt ∧ w91_11.toInt ≤ 6) → (qJM b z91) → ∀ (H : Heap) (locs : List Loc), qw_P D vwCl o 41 (qG (GM ca o) z91 y91) H → va_S (qw_A o 41) s.heap H locs → ∀ (ls : Array Slot), lv_has ls 12 [(11, .int w91_11), (10, .int w78_10), (9, .int w78_9), (8, .int w76_8), (7, .int w76_7), (6, .int w76_6), (5, .int w73_5), (0, .ref (o + 0)), (1, .int a0), (2, .int a1), (3, .int a2), (4, .int a3)] → W p l e (headSpec (Cond.code yX11_whoIsWho cX11_whoIsWho 12 (some .int) :: qtbl) ({ frames := 4, cells := 0, slots := 0, locals := 129 })).room s m (([.ref (o + 0), .int a0, .int a1, .int a2, .int a3] : List Value).toArray) below meth c H locs 0 0 (MQ below (va_Qi (fun r u => True ∧ qJM b u.1) (qB D vwCl (qT6 ca) o 41 (fun u : qZ => qG (GM ca o) u.1 u.2)) (qw_A o 41)) (([.ref (o + 0), .int a0, .int a1, .int a2, .int a3] : List Value).toArray) s 0 0 (qw_A o 41)) (F0 m 308 ls []) := by
                                                      intro n
                                                      induction n with
                                                      | zero => intro w91_11 z91 y91 hb91 hv91_11 J91; exfalso; omega
                                                      | succ n91 ih91 =>
                                                        intro w91_11 z91 y91 hb91 hv91_11 J91 H locs hP hS ls hl
                                                        refine lv_iload hx hb dX11_whoIsWho_308 (lv_at hl 0 rfl) ?_
                                                        refine lv_iload_n hx hb dX11_whoIsWho_310 rfl (lv_at hl 8 rfl) ?_
                                                        refine lv_icmp_ge (tgt := 334) hx hb dX11_whoIsWho_311 (by decide) (fun c92 => ?_) (fun c92 => ?_)
                                                        · have t92 : w91_11.toInt ≥ a0.toInt := gl_le c92
                                                          refine lv_iload hx hb dX11_whoIsWho_334 (lv_at hl 2 rfl) ?_
                                                          refine lv_iconst (v := 1) hx hb dX11_whoIsWho_336 (by decide) ?_
                                                          refine lv_iadd hx hb dX11_whoIsWho_337 ?_
                                                          refine lv_topi (fun x93 e93 => ?_)
                                                          have t93 : x93.toInt = w78_9.toInt + (1 : Int) := ga_add e93 rfl rfl (by omega) (by omega)
                                                          refine lv_istore (lv' := [(9, .int x93), (11, .int w91_11), (10, .int w78_10), (8, .int w76_8), (7, .int w76_7), (6, .int w76_6), (5, .int w73_5), (0, .ref (o + 0)), (1, .int a0), (2, .int a1), (3, .int a2), (4, .int a3)]) hx hb dX11_whoIsWho_338 hl (by decide) rfl (fun ls hl => ?_)
                                                          obtain ⟨x94, e94⟩ : ∃ t : Int32, t = w78_10 + 1 := ⟨_, rfl⟩
                                                          refine lv_iinc (v := x94) (lv' := [(10, .int x94), (9, .int x93), (11, .int w91_11), (8, .int w76_8), (7, .int w76_7), (6, .int w76_6), (5, .int w73_5), (0, .ref (o + 0)), (1, .int a0), (2, .int a1), (3, .int a2), (4, .int a3)]) hx hb dX11_whoIsWho_340 hl (k := 2) rfl (by rw [e94]; rfl) (by decide) rfl (fun ls hl => ?_)
                                                          have gb94_0 := gl_b w78_10
                                                          have gb94_1 := gl_b a1
                                                          have gb94_2 := gl_b x5
                                                          have gb94_3 := gl_b r7
                                                          have gb94_4 := gl_b a0
                                                          have gb94_5 := gl_b r9
                                                          have gb94_6 := gl_b a3
                                                          have gb94_7 := gl_b x68
                                                          have gb94_8 := gl_b w71_6
                                                          have gb94_9 := gl_b w73_6
                                                          have gb94_10 := gl_b w73_5
                                                          have gb94_11 := gl_b w76_9
                                                          have gb94_12 := gl_b w76_6
                                                          have gb94_13 := gl_b r83
                                                          have gb94_14 := gl_b r86
                                                          have gb94_15 := gl_b w78_9
                                                          have gb94_16 := gl_b w91_11
                                                          have t94 : x94.toInt = w78_10.toInt + (1 : Int) := ga_add e94 rfl rfl (by omega) (by omega)
                                                          refine lv_goto (tgt := 271) hx hb dX11_whoIsWho_343 (by decide) ?_
                                                          exact ih78 x94 x93 z91 y91 (show (2147483647 - x94.toInt : Int) < (n78 : Int) from by omega) ⟨by omega, (gl_b x94).2⟩ J91 _ _ hP hS _ (lv_sub hl [0, 1, 3, 4, 5, 6, 7, 8, 9, 10, 11] rfl)
                                                        · have t92 : w91_11.toInt < a0.toInt := gl_nle c92
                                                          refine lv_aload_n hx hb dX11_whoIsWho_314 rfl (lv_at hl 7 rfl) ?_
                                                          refine qf_get hx hb hts inX11 hown hK hP (q0 := 0) (by decide) (hgM_0 ca o) rfl 50 (by decide) wq_1042 (v := .ref (o + 31)) rfl dX11_whoIsWho_315 ?_
                                                          refine lv_iload hx hb dX11_whoIsWho_318 (lv_at hl 0 rfl) ?_
                                                          refine lv_aload_n hx hb dX11_whoIsWho_320 rfl (lv_at hl 7 rfl) ?_
                                                          refine qf_get hx hb hts inX11 hown hK hP (q0 := 0) (by decide) (hgM_0 ca o) rfl 49 (by decide) wq_1041 (v := .ref (o + 30)) rfl dX11_whoIsWho_321 ?_
                                                          refine lv_iload hx hb dX11_whoIsWho_324 (lv_at hl 0 rfl) ?_
                                                          refine qa_iald hx hb hK hP (q0 := 30) (by decide) 0 (N := 6) (hgM_30 ca o) rfl (gi_in (by omega) (by omega)) dX11_whoIsWho_326 ?_
                                                          refine lv_topi (fun x95 e95 => ?_)
                                                          have b95 := iM_30 J91 e95
                                                          refine qa_iast2 hx hb hK hP hS qw_Ai (q0 := 31) (by decide) 0 (N := 6) (hgM_31 ca o) rfl (i := w91_11) (x := x95) (gi_in (by omega) (by omega)) dX11_whoIsWho_327 (fun z96 H locs hz96 hP hS => ?_)
                                                          have J96 := jM_31 J91 hz96
                                                          obtain ⟨x97, e97⟩ : ∃ t : Int32, t = w91_11 + 1 := ⟨_, rfl⟩
                                                          refine lv_iinc (v := x97) (lv' := [(11, .int x97), (10, .int w78_10), (9, .int w78_9), (8, .int w76_8), (7, .int w76_7), (6, .int w76_6), (5, .int w73_5), (0, .ref (o + 0)), (1, .int a0), (2, .int a1), (3, .int a2), (4, .int a3)]) hx hb dX11_whoIsWho_328 hl (k := 0) rfl (by rw [e97]; rfl) (by decide) rfl (fun ls hl => ?_)
                                                          have t97 : x97.toInt = w91_11.toInt + (1 : Int) := ga_add e97 rfl rfl (by omega) (by omega)
                                                          refine lv_goto (tgt := 308) hx hb dX11_whoIsWho_331 (by decide) ?_
                                                          exact ih91 x97 z96 y91 (show (6 - x97.toInt : Int) < (n91 : Int) from by omega) ⟨by omega, by omega⟩ J96 _ _ hP hS _ (lv_sub hl [0, 1, 2, 3, 4, 5, 6, 7, 8, 9, 10, 11] rfl)
                                                    exact loop91 7 0 z83 y83 (show (6 - (0 : Int) : Int) < ((7 : Nat) : Int) from by omega) ⟨by decide, by decide⟩ J83 _ _ hP hS _ (lv_sub hl [0, 1, 2, 3, 4, 5, 6, 7, 8, 9, 10, 11] rfl)
                                                · have t87 : r86.toInt = (0 : Int) := gl_eq c87
                                                  refine lv_goto (tgt := 340) hx hb dX11_whoIsWho_297 (by decide) ?_
                                                  obtain ⟨x98, e98⟩ : ∃ t : Int32, t = w78_10 + 1 := ⟨_, rfl⟩
                                                  refine lv_iinc (v := x98) (lv' := [(10, .int x98), (9, .int w78_9), (8, .int w76_8), (7, .int w76_7), (6, .int w76_6), (5, .int w73_5), (0, .ref (o + 0)), (1, .int a0), (2, .int a1), (3, .int a2), (4, .int a3)]) hx hb dX11_whoIsWho_340 hl (k := 0) rfl (by rw [e98]; rfl) (by decide) rfl (fun ls hl => ?_)
                                                  have gb98_0 := gl_b w78_10
                                                  have gb98_1 := gl_b a1
                                                  have gb98_2 := gl_b x5
                                                  have gb98_3 := gl_b r7
                                                  have gb98_4 := gl_b a0
                                                  have gb98_5 := gl_b r9
                                                  have gb98_6 := gl_b a3
                                                  have gb98_7 := gl_b x68
                                                  have gb98_8 := gl_b w71_6
                                                  have gb98_9 := gl_b w73_6
                                                  have gb98_10 := gl_b w73_5
                                                  have gb98_11 := gl_b w76_9
                                                  have gb98_12 := gl_b w76_6
                                                  have gb98_13 := gl_b r83
                                                  have gb98_14 := gl_b r86
                                                  have t98 : x98.toInt = w78_10.toInt + (1 : Int) := ga_add e98 rfl rfl (by omega) (by omega)
                                                  refine lv_goto (tgt := 271) hx hb dX11_whoIsWho_343 (by decide) ?_
                                                  exact ih78 x98 w78_9 z83 y83 (show (2147483647 - x98.toInt : Int) < (n78 : Int) from by omega) ⟨by omega, (gl_b x98).2⟩ J83 _ _ hP hS _ (lv_sub hl [0, 1, 2, 3, 4, 5, 6, 7, 8, 9, 10] rfl)
                                        exact loop78 4294967296 0 0 z76 y76 (show (2147483647 - (0 : Int) : Int) < ((4294967296 : Nat) : Int) from by omega) ⟨by decide, by decide⟩ J76 _ _ hP hS _ (lv_sub hl [0, 1, 2, 3, 4, 5, 6, 7, 8, 9, 10] rfl)
                                      · have t77 : w76_9.toInt < (6 : Int) := gl_nle c77
                                        refine lv_iload_n hx hb dX11_whoIsWho_215 rfl (lv_at hl 7 rfl) ?_
                                        refine lv_iload hx hb dX11_whoIsWho_216 (lv_at hl 0 rfl) ?_
                                        refine qc_Sip (As := [.int a1, .int w76_9]) (rest := []) (k0 := 2) (m_has l D ca o b z76 y76 J76 a1 w76_9) kc_yX11_has ⟨hx, hb, hml, hown, hts⟩ wq_1198 rfl rfl ⟨Nat.le_of_ble_eq_true rfl, Nat.le_of_ble_eq_true rfl⟩ wq_all hP hK hS qw_Ai rfl hl.1 rfl (Nat.le_of_ble_eq_true rfl) dX11_whoIsWho_218 ⟨Nat.zero_le _, Nat.zero_le _⟩ (fun r99 H locs h99 hP hS _ _ => ?_)
                                        rcases h99 with ⟨hr99, hf99_0⟩ | ⟨hr99, hf99_0⟩
                                        · subst hr99
                                          have hg99_0 : bitAt a1 w76_9 ≠ 0 := hf99_0
                                          refine lv_if_ne (tgt := 227) hx hb dX11_whoIsWho_221 (by decide) (fun _ => ?_) (fun q => absurd q (by decide))
                                          refine lv_iload hx hb dX11_whoIsWho_227 (lv_at hl 0 rfl) ?_
                                          refine lv_iload hx hb dX11_whoIsWho_229 (lv_at hl 9 rfl) ?_
                                          refine lv_icmp_ne (tgt := 238) hx hb dX11_whoIsWho_231 (by decide) (fun c100 => ?_) (fun c100 => ?_)
                                          · have t100 : w76_9.toInt ≠ a3.toInt := gl_ne c100
                                            refine lv_aload_n hx hb dX11_whoIsWho_238 rfl (lv_at hl 5 rfl) ?_
                                            refine qf_get hx hb hts inX11 hown hK hP (q0 := 0) (by decide) (hgM_0 ca o) rfl 51 (by decide) wq_1043 (v := .ref (o + 32)) rfl dX11_whoIsWho_239 ?_
                                            refine lv_iload hx hb dX11_whoIsWho_242 (lv_at hl 1 rfl) ?_
                                            refine lv_iload hx hb dX11_whoIsWho_244 (lv_at hl 0 rfl) ?_
                                            refine qa_iast2 hx hb hK hP hS qw_Ai (q0 := 32) (by decide) 0 (N := 6) (hgM_32 ca o) rfl (i := w76_8) (x := w76_9) (gi_in (by omega) (by omega)) dX11_whoIsWho_246 (fun z101 H locs hz101 hP hS => ?_)
                                            have J101 := jM_32 J76 hz101 ⟨by omega, by omega⟩
                                            refine lv_iload hx hb dX11_whoIsWho_247 (lv_at hl 1 rfl) ?_
                                            refine lv_iconst (v := 1) hx hb dX11_whoIsWho_249 (by decide) ?_
                                            refine lv_iadd hx hb dX11_whoIsWho_250 ?_
                                            refine lv_topi (fun x102 e102 => ?_)
                                            have t102 : x102.toInt = w76_8.toInt + (1 : Int) := ga_add e102 rfl rfl (by omega) (by omega)
                                            refine lv_istore (lv' := [(8, .int x102), (9, .int w76_9), (7, .int w76_7), (6, .int w76_6), (5, .int w73_5), (0, .ref (o + 0)), (1, .int a0), (2, .int a1), (3, .int a2), (4, .int a3)]) hx hb dX11_whoIsWho_251 hl (by decide) rfl (fun ls hl => ?_)
                                            refine lv_iload hx hb dX11_whoIsWho_253 (lv_at hl 3 rfl) ?_
                                            refine lv_iload_n hx hb dX11_whoIsWho_255 rfl (lv_at hl 6 rfl) ?_
                                            refine lv_imul hx hb dX11_whoIsWho_256 ?_
                                            refine lv_topi (fun x103 e103 => ?_)
                                            refine lv_istore (lv' := [(6, .int x103), (8, .int x102), (9, .int w76_9), (7, .int w76_7), (5, .int w73_5), (0, .ref (o + 0)), (1, .int a0), (2, .int a1), (3, .int a2), (4, .int a3)]) hx hb dX11_whoIsWho_257 hl (by decide) rfl (fun ls hl => ?_)
                                            obtain ⟨x104, e104⟩ : ∃ t : Int32, t = w76_9 + 1 := ⟨_, rfl⟩
                                            refine lv_iinc (v := x104) (lv' := [(9, .int x104), (6, .int x103), (8, .int x102), (7, .int w76_7), (5, .int w73_5), (0, .ref (o + 0)), (1, .int a0), (2, .int a1), (3, .int a2), (4, .int a3)]) hx hb dX11_whoIsWho_259 hl (k := 2) rfl (by rw [e104]; rfl) (by decide) rfl (fun ls hl => ?_)
                                            have t104 : x104.toInt = w76_9.toInt + (1 : Int) := ga_add e104 rfl rfl (by omega) (by omega)
                                            refine lv_goto (tgt := 208) hx hb dX11_whoIsWho_262 (by decide) ?_
                                            exact ih76 x104 x102 w76_7 x103 z101 y76 (show (6 - x104.toInt : Int) < (n76 : Int) from by omega) ⟨by omega, by omega⟩ ⟨by omega, by omega⟩ ⟨by omega, by omega⟩ J101 (show x102.toInt ≤ x104.toInt from by omega) _ _ hP hS _ (lv_sub hl [0, 2, 3, 1, 4, 5, 6, 7, 8, 9] rfl)
                                          · have t100 : w76_9.toInt = a3.toInt := gl_eq c100
                                            refine lv_iload hx hb dX11_whoIsWho_234 (lv_at hl 1 rfl) ?_
                                            refine lv_istore (lv' := [(7, .int w76_8), (9, .int w76_9), (8, .int w76_8), (6, .int w76_6), (5, .int w73_5), (0, .ref (o + 0)), (1, .int a0), (2, .int a1), (3, .int a2), (4, .int a3)]) hx hb dX11_whoIsWho_236 hl (by decide) rfl (fun ls hl => ?_)
                                            refine lv_aload_n hx hb dX11_whoIsWho_238 rfl (lv_at hl 5 rfl) ?_
                                            refine qf_get hx hb hts inX11 hown hK hP (q0 := 0) (by decide) (hgM_0 ca o) rfl 51 (by decide) wq_1043 (v := .ref (o + 32)) rfl dX11_whoIsWho_239 ?_
                                            refine lv_iload hx hb dX11_whoIsWho_242 (lv_at hl 2 rfl) ?_
                                            refine lv_iload hx hb dX11_whoIsWho_244 (lv_at hl 1 rfl) ?_
                                            refine qa_iast2 hx hb hK hP hS qw_Ai (q0 := 32) (by decide) 0 (N := 6) (hgM_32 ca o) rfl (i := w76_8) (x := w76_9) (gi_in (by omega) (by omega)) dX11_whoIsWho_246 (fun z105 H locs hz105 hP hS => ?_)
                                            have J105 := jM_32 J76 hz105 ⟨by omega, by omega⟩
                                            refine lv_iload hx hb dX11_whoIsWho_247 (lv_at hl 2 rfl) ?_
                                            refine lv_iconst (v := 1) hx hb dX11_whoIsWho_249 (by decide) ?_
                                            refine lv_iadd hx hb dX11_whoIsWho_250 ?_
                                            refine lv_topi (fun x106 e106 => ?_)
                                            have t106 : x106.toInt = w76_8.toInt + (1 : Int) := ga_add e106 rfl rfl (by omega) (by omega)
                                            refine lv_istore (lv' := [(8, .int x106), (7, .int w76_8), (9, .int w76_9), (6, .int w76_6), (5, .int w73_5), (0, .ref (o + 0)), (1, .int a0), (2, .int a1), (3, .int a2), (4, .int a3)]) hx hb dX11_whoIsWho_251 hl (by decide) rfl (fun ls hl => ?_)
                                            refine lv_iload hx hb dX11_whoIsWho_253 (lv_at hl 3 rfl) ?_
                                            refine lv_iload_n hx hb dX11_whoIsWho_255 rfl (lv_at hl 6 rfl) ?_
                                            refine lv_imul hx hb dX11_whoIsWho_256 ?_
                                            refine lv_topi (fun x107 e107 => ?_)
                                            refine lv_istore (lv' := [(6, .int x107), (8, .int x106), (7, .int w76_8), (9, .int w76_9), (5, .int w73_5), (0, .ref (o + 0)), (1, .int a0), (2, .int a1), (3, .int a2), (4, .int a3)]) hx hb dX11_whoIsWho_257 hl (by decide) rfl (fun ls hl => ?_)
                                            obtain ⟨x108, e108⟩ : ∃ t : Int32, t = w76_9 + 1 := ⟨_, rfl⟩
                                            refine lv_iinc (v := x108) (lv' := [(9, .int x108), (6, .int x107), (8, .int x106), (7, .int w76_8), (5, .int w73_5), (0, .ref (o + 0)), (1, .int a0), (2, .int a1), (3, .int a2), (4, .int a3)]) hx hb dX11_whoIsWho_259 hl (k := 3) rfl (by rw [e108]; rfl) (by decide) rfl (fun ls hl => ?_)
                                            have t108 : x108.toInt = w76_9.toInt + (1 : Int) := ga_add e108 rfl rfl (by omega) (by omega)
                                            refine lv_goto (tgt := 208) hx hb dX11_whoIsWho_262 (by decide) ?_
                                            exact ih76 x108 x106 w76_8 x107 z105 y76 (show (6 - x108.toInt : Int) < (n76 : Int) from by omega) ⟨by omega, by omega⟩ ⟨by omega, by omega⟩ ⟨by omega, by omega⟩ J105 (show x106.toInt ≤ x108.toInt from by omega) _ _ hP hS _ (lv_sub hl [0, 2, 3, 1, 4, 5, 6, 7, 8, 9] rfl)
                                        · subst hr99
                                          have hg99_0 : bitAt a1 w76_9 = 0 := hf99_0
                                          refine lv_if_ne (tgt := 227) hx hb dX11_whoIsWho_221 (by decide) (fun q => absurd q (by decide)) (fun _ => ?_)
                                          refine lv_goto (tgt := 259) hx hb dX11_whoIsWho_224 (by decide) ?_
                                          obtain ⟨x109, e109⟩ : ∃ t : Int32, t = w76_9 + 1 := ⟨_, rfl⟩
                                          refine lv_iinc (v := x109) (lv' := [(9, .int x109), (8, .int w76_8), (7, .int w76_7), (6, .int w76_6), (5, .int w73_5), (0, .ref (o + 0)), (1, .int a0), (2, .int a1), (3, .int a2), (4, .int a3)]) hx hb dX11_whoIsWho_259 hl (k := 0) rfl (by rw [e109]; rfl) (by decide) rfl (fun ls hl => ?_)
                                          have t109 : x109.toInt = w76_9.toInt + (1 : Int) := ga_add e109 rfl rfl (by omega) (by omega)
                                          refine lv_goto (tgt := 208) hx hb dX11_whoIsWho_262 (by decide) ?_
                                          exact ih76 x109 w76_8 w76_7 w76_6 z76 y76 (show (6 - x109.toInt : Int) < (n76 : Int) from by omega) ⟨by omega, by omega⟩ ⟨by omega, by omega⟩ ⟨by omega, by omega⟩ J76 (show w76_8.toInt ≤ x109.toInt from by omega) _ _ hP hS _ (lv_sub hl [0, 1, 2, 3, 4, 5, 6, 7, 8, 9] rfl)
                                  exact loop76 7 0 0 0 1 z71 y71 (show (6 - (0 : Int) : Int) < ((7 : Nat) : Int) from by omega) ⟨by decide, by decide⟩ ⟨by decide, by decide⟩ ⟨by decide, by decide⟩ J71 (show (0 : Int) ≤ (0 : Int) from by omega) _ _ hP hS _ (lv_sub hl [0, 1, 2, 3, 4, 5, 6, 7, 8, 9] rfl)
                                · have t75 : w73_5.toInt = (0 : Int) := gl_eq c75
                                  refine lv_bipush (v := (-3)) hx hb dX11_whoIsWho_193 (by decide) ?_
                                  exact W.iret (v := (-3)) hx hb hr (fun t ht hW => ⟨⟨(-3), (z71, y71), rfl, ⟨trivial, J71⟩, by rw [ht]; exact hP, va_K.moved hW.alike hK⟩, hS.F ht⟩) hS.2.2 dX11_whoIsWho_195
                              · have t74 : w73_6.toInt < (10 : Int) := gl_nle c74
                                refine lv_iload hx hb dX11_whoIsWho_147 (lv_at hl 1 rfl) ?_
                                refine lv_if_eq (tgt := 179) hx hb dX11_whoIsWho_149 (by decide) (fun c110 => ?_) (fun c110 => ?_)
                                · have t110 : w73_5.toInt = (0 : Int) := gl_eq c110
                                  refine lv_iconst (v := 0) hx hb dX11_whoIsWho_179 (by decide) ?_
                                  refine lv_istore (lv' := [(5, .int 0), (6, .int w73_6), (0, .ref (o + 0)), (1, .int a0), (2, .int a1), (3, .int a2), (4, .int a3)]) hx hb dX11_whoIsWho_180 hl (by decide) rfl (fun ls hl => ?_)
                                  obtain ⟨x111, e111⟩ : ∃ t : Int32, t = w73_6 + 1 := ⟨_, rfl⟩
                                  refine lv_iinc (v := x111) (lv' := [(6, .int x111), (5, .int 0), (0, .ref (o + 0)), (1, .int a0), (2, .int a1), (3, .int a2), (4, .int a3)]) hx hb dX11_whoIsWho_182 hl (k := 1) rfl (by rw [e111]; rfl) (by decide) rfl (fun ls hl => ?_)
                                  have t111 : x111.toInt = w73_6.toInt + (1 : Int) := ga_add e111 rfl rfl (by omega) (by omega)
                                  refine lv_goto (tgt := 140) hx hb dX11_whoIsWho_185 (by decide) ?_
                                  exact ih73 x111 0 (show (10 - x111.toInt : Int) < (n73 : Int) from by omega) ⟨by omega, by omega⟩ ⟨by decide, by decide⟩ _ _ hP hS _ (lv_sub hl [0, 1, 2, 3, 4, 5, 6] rfl)
                                · have t110 : w73_5.toInt ≠ (0 : Int) := gl_ne c110
                                  refine lv_iload_n hx hb dX11_whoIsWho_152 rfl (lv_at hl 5 rfl) ?_
                                  refine lv_iload hx hb dX11_whoIsWho_153 (lv_at hl 0 rfl) ?_
                                  refine qc_Sip (As := [.int a2, .int w73_6]) (rest := []) (k0 := 2) (m_has l D ca o b z71 y71 J71 a2 w73_6) kc_yX11_has ⟨hx, hb, hml, hown, hts⟩ wq_1198 rfl rfl ⟨Nat.le_of_ble_eq_true rfl, Nat.le_of_ble_eq_true rfl⟩ wq_all hP hK hS qw_Ai rfl hl.1 rfl (Nat.le_of_ble_eq_true rfl) dX11_whoIsWho_155 ⟨Nat.zero_le _, Nat.zero_le _⟩ (fun r112 H locs h112 hP hS _ _ => ?_)
                                  rcases h112 with ⟨hr112, hf112_0⟩ | ⟨hr112, hf112_0⟩
                                  · subst hr112
                                    have hg112_0 : bitAt a2 w73_6 ≠ 0 := hf112_0
                                    refine lv_if_eq (tgt := 175) hx hb dX11_whoIsWho_158 (by decide) (fun q => absurd q (by decide)) (fun _ => ?_)
                                    refine lv_aload_n hx hb dX11_whoIsWho_161 rfl (lv_at hl 2 rfl) ?_
                                    refine qf_get hx hb hts inX11 hown hK hP (q0 := 0) (by decide) (hgM_0 ca o) rfl 13 (by decide) wq_1006 (v := .ref (o + 11)) rfl dX11_whoIsWho_162 ?_
                                    refine lv_iload hx hb dX11_whoIsWho_165 (lv_at hl 0 rfl) ?_
                                    refine qa_iald hx hb hK hP (q0 := 11) (by decide) 0 (N := 16) (hgM_11 ca o) rfl (gi_in (by omega) (by omega)) dX11_whoIsWho_167 ?_
                                    refine lv_topi (fun x113 e113 => ?_)
                                    refine lv_iload_n hx hb dX11_whoIsWho_168 rfl (lv_at hl 4 rfl) ?_
                                    refine lv_iconst (v := (-1)) hx hb dX11_whoIsWho_169 (by decide) ?_
                                    refine lv_ixor hx hb dX11_whoIsWho_170 ?_
                                    refine lv_topi (fun x114 e114 => ?_)
                                    refine lv_iand hx hb dX11_whoIsWho_171 ?_
                                    refine lv_topi (fun x115 e115 => ?_)
                                    refine lv_if_ne (tgt := 179) hx hb dX11_whoIsWho_172 (by decide) (fun c116 => ?_) (fun c116 => ?_)
                                    · have t116 : x115.toInt ≠ (0 : Int) := gl_ne c116
                                      refine lv_iconst (v := 0) hx hb dX11_whoIsWho_179 (by decide) ?_
                                      refine lv_istore (lv' := [(5, .int 0), (6, .int w73_6), (0, .ref (o + 0)), (1, .int a0), (2, .int a1), (3, .int a2), (4, .int a3)]) hx hb dX11_whoIsWho_180 hl (by decide) rfl (fun ls hl => ?_)
                                      obtain ⟨x117, e117⟩ : ∃ t : Int32, t = w73_6 + 1 := ⟨_, rfl⟩
                                      refine lv_iinc (v := x117) (lv' := [(6, .int x117), (5, .int 0), (0, .ref (o + 0)), (1, .int a0), (2, .int a1), (3, .int a2), (4, .int a3)]) hx hb dX11_whoIsWho_182 hl (k := 1) rfl (by rw [e117]; rfl) (by decide) rfl (fun ls hl => ?_)
                                      have t117 : x117.toInt = w73_6.toInt + (1 : Int) := ga_add e117 rfl rfl (by omega) (by omega)
                                      refine lv_goto (tgt := 140) hx hb dX11_whoIsWho_185 (by decide) ?_
                                      exact ih73 x117 0 (show (10 - x117.toInt : Int) < (n73 : Int) from by omega) ⟨by omega, by omega⟩ ⟨by decide, by decide⟩ _ _ hP hS _ (lv_sub hl [0, 1, 2, 3, 4, 5, 6] rfl)
                                    · have t116 : x115.toInt = (0 : Int) := gl_eq c116
                                      refine lv_iconst (v := 1) hx hb dX11_whoIsWho_175 (by decide) ?_
                                      refine lv_goto (tgt := 180) hx hb dX11_whoIsWho_176 (by decide) ?_
                                      refine lv_istore (lv' := [(5, .int 1), (6, .int w73_6), (0, .ref (o + 0)), (1, .int a0), (2, .int a1), (3, .int a2), (4, .int a3)]) hx hb dX11_whoIsWho_180 hl (by decide) rfl (fun ls hl => ?_)
                                      obtain ⟨x118, e118⟩ : ∃ t : Int32, t = w73_6 + 1 := ⟨_, rfl⟩
                                      refine lv_iinc (v := x118) (lv' := [(6, .int x118), (5, .int 1), (0, .ref (o + 0)), (1, .int a0), (2, .int a1), (3, .int a2), (4, .int a3)]) hx hb dX11_whoIsWho_182 hl (k := 1) rfl (by rw [e118]; rfl) (by decide) rfl (fun ls hl => ?_)
                                      have t118 : x118.toInt = w73_6.toInt + (1 : Int) := ga_add e118 rfl rfl (by omega) (by omega)
                                      refine lv_goto (tgt := 140) hx hb dX11_whoIsWho_185 (by decide) ?_
                                      exact ih73 x118 1 (show (10 - x118.toInt : Int) < (n73 : Int) from by omega) ⟨by omega, by omega⟩ ⟨by decide, by decide⟩ _ _ hP hS _ (lv_sub hl [0, 1, 2, 3, 4, 5, 6] rfl)
                                  · subst hr112
                                    have hg112_0 : bitAt a2 w73_6 = 0 := hf112_0
                                    refine lv_if_eq (tgt := 175) hx hb dX11_whoIsWho_158 (by decide) (fun _ => ?_) (fun q => absurd (by decide) q)
                                    refine lv_iconst (v := 1) hx hb dX11_whoIsWho_175 (by decide) ?_
                                    refine lv_goto (tgt := 180) hx hb dX11_whoIsWho_176 (by decide) ?_
                                    refine lv_istore (lv' := [(5, .int 1), (6, .int w73_6), (0, .ref (o + 0)), (1, .int a0), (2, .int a1), (3, .int a2), (4, .int a3)]) hx hb dX11_whoIsWho_180 hl (by decide) rfl (fun ls hl => ?_)
                                    obtain ⟨x119, e119⟩ : ∃ t : Int32, t = w73_6 + 1 := ⟨_, rfl⟩
                                    refine lv_iinc (v := x119) (lv' := [(6, .int x119), (5, .int 1), (0, .ref (o + 0)), (1, .int a0), (2, .int a1), (3, .int a2), (4, .int a3)]) hx hb dX11_whoIsWho_182 hl (k := 1) rfl (by rw [e119]; rfl) (by decide) rfl (fun ls hl => ?_)
                                    have t119 : x119.toInt = w73_6.toInt + (1 : Int) := ga_add e119 rfl rfl (by omega) (by omega)
                                    refine lv_goto (tgt := 140) hx hb dX11_whoIsWho_185 (by decide) ?_
                                    exact ih73 x119 1 (show (10 - x119.toInt : Int) < (n73 : Int) from by omega) ⟨by omega, by omega⟩ ⟨by decide, by decide⟩ _ _ hP hS _ (lv_sub hl [0, 1, 2, 3, 4, 5, 6] rfl)
                          exact loop73 11 0 w71_5 (show (10 - (0 : Int) : Int) < ((11 : Nat) : Int) from by omega) ⟨by decide, by decide⟩ ⟨by omega, by omega⟩ _ _ hP hS _ (lv_sub hl [0, 1, 2, 3, 4, 5, 6] rfl)
                        · have t72 : w71_6.toInt < a0.toInt := gl_nle c72
                          refine lv_aload_n hx hb dX11_whoIsWho_94 rfl (lv_at hl 2 rfl) ?_
                          refine qf_get hx hb hts inX11 hown hK hP (q0 := 0) (by decide) (hgM_0 ca o) rfl 48 (by decide) wq_1040 (v := .ref (o + 29)) rfl dX11_whoIsWho_95 ?_
                          refine lv_iload hx hb dX11_whoIsWho_98 (lv_at hl 0 rfl) ?_
                          refine lv_aload_n hx hb dX11_whoIsWho_100 rfl (lv_at hl 2 rfl) ?_
                          refine lv_iload hx hb dX11_whoIsWho_101 (lv_at hl 0 rfl) ?_
                          refine qc_Vip (As := [.int w71_6]) (rest := [.int w71_6, .ref (o + 29)]) (k0 := 1) (m_octet l D ca o b z71 y71 J71 w71_6 ⟨by omega, by omega⟩) kc_yX11_octet ⟨hx, hb, hml, hown, hts⟩ wq_1237 rfl rfl ⟨Nat.le_of_ble_eq_true rfl, Nat.le_of_ble_eq_true rfl⟩ wq_all hP hK hS qw_Ai (q0 := 0) (by decide) (hgM_0 ca o _ _) rfl rfl hl.1 rfl (Nat.le_of_ble_eq_true rfl) dX11_whoIsWho_103 ⟨Nat.zero_le _, Nat.zero_le _⟩ (fun r120 H locs h120 hP hS _ _ => ?_)
                          have p120_1 : r120 = z71 12 w71_6.toNatClampNeg &&& 255 := h120.2
                          have b120 : (0 : Int) ≤ r120.toInt ∧ r120.toInt ≤ 255 := h120.1
                          refine qa_iast2 hx hb hK hP hS qw_Ai (q0 := 29) (by decide) 0 (N := 6) (hgM_29 ca o) rfl (i := w71_6) (x := r120) (gi_in (by omega) (by omega)) dX11_whoIsWho_106 (fun z121 H locs hz121 hP hS => ?_)
                          have J121 := jM_29 J71 hz121
                          refine lv_iload hx hb dX11_whoIsWho_107 (lv_at hl 1 rfl) ?_
                          refine lv_if_eq (tgt := 128) hx hb dX11_whoIsWho_109 (by decide) (fun c122 => ?_) (fun c122 => ?_)
                          · have t122 : w71_5.toInt = (0 : Int) := gl_eq c122
                            refine lv_iconst (v := 0) hx hb dX11_whoIsWho_128 (by decide) ?_
                            refine lv_istore (lv' := [(5, .int 0), (6, .int w71_6), (0, .ref (o + 0)), (1, .int a0), (2, .int a1), (3, .int a2), (4, .int a3)]) hx hb dX11_whoIsWho_129 hl (by decide) rfl (fun ls hl => ?_)
                            obtain ⟨x123, e123⟩ : ∃ t : Int32, t = w71_6 + 1 := ⟨_, rfl⟩
                            refine lv_iinc (v := x123) (lv' := [(6, .int x123), (5, .int 0), (0, .ref (o + 0)), (1, .int a0), (2, .int a1), (3, .int a2), (4, .int a3)]) hx hb dX11_whoIsWho_131 hl (k := 1) rfl (by rw [e123]; rfl) (by decide) rfl (fun ls hl => ?_)
                            have t123 : x123.toInt = w71_6.toInt + (1 : Int) := ga_add e123 rfl rfl (by omega) (by omega)
                            refine lv_goto (tgt := 88) hx hb dX11_whoIsWho_134 (by decide) ?_
                            exact ih71 x123 0 z121 y71 (show (6 - x123.toInt : Int) < (n71 : Int) from by omega) ⟨by omega, by omega⟩ ⟨by decide, by decide⟩ J121 _ _ hP hS _ (lv_sub hl [0, 1, 2, 3, 4, 5, 6] rfl)
                          · have t122 : w71_5.toInt ≠ (0 : Int) := gl_ne c122
                            refine lv_aload_n hx hb dX11_whoIsWho_112 rfl (lv_at hl 2 rfl) ?_
                            refine qf_get hx hb hts inX11 hown hK hP (q0 := 0) (by decide) (hgM_0 ca o) rfl 48 (by decide) wq_1040 (v := .ref (o + 29)) rfl dX11_whoIsWho_113 ?_
                            refine lv_iload hx hb dX11_whoIsWho_116 (lv_at hl 0 rfl) ?_
                            refine qa_iald hx hb hK hP (q0 := 29) (by decide) 0 (N := 6) (hgM_29 ca o) rfl (gi_in (by omega) (by omega)) dX11_whoIsWho_118 ?_
                            refine lv_topi (fun x124 e124 => ?_)
                            refine lv_bipush (v := 99) hx hb dX11_whoIsWho_119 (by decide) ?_
                            refine lv_icmp_gt (tgt := 128) hx hb dX11_whoIsWho_121 (by decide) (fun c125 => ?_) (fun c125 => ?_)
                            · have t125 : x124.toInt > (99 : Int) := gl_lt c125
                              refine lv_iconst (v := 0) hx hb dX11_whoIsWho_128 (by decide) ?_
                              refine lv_istore (lv' := [(5, .int 0), (6, .int w71_6), (0, .ref (o + 0)), (1, .int a0), (2, .int a1), (3, .int a2), (4, .int a3)]) hx hb dX11_whoIsWho_129 hl (by decide) rfl (fun ls hl => ?_)
                              obtain ⟨x126, e126⟩ : ∃ t : Int32, t = w71_6 + 1 := ⟨_, rfl⟩
                              refine lv_iinc (v := x126) (lv' := [(6, .int x126), (5, .int 0), (0, .ref (o + 0)), (1, .int a0), (2, .int a1), (3, .int a2), (4, .int a3)]) hx hb dX11_whoIsWho_131 hl (k := 1) rfl (by rw [e126]; rfl) (by decide) rfl (fun ls hl => ?_)
                              have t126 : x126.toInt = w71_6.toInt + (1 : Int) := ga_add e126 rfl rfl (by omega) (by omega)
                              refine lv_goto (tgt := 88) hx hb dX11_whoIsWho_134 (by decide) ?_
                              exact ih71 x126 0 z121 y71 (show (6 - x126.toInt : Int) < (n71 : Int) from by omega) ⟨by omega, by omega⟩ ⟨by decide, by decide⟩ J121 _ _ hP hS _ (lv_sub hl [0, 1, 2, 3, 4, 5, 6] rfl)
                            · have t125 : x124.toInt ≤ (99 : Int) := gl_nlt c125
                              refine lv_iconst (v := 1) hx hb dX11_whoIsWho_124 (by decide) ?_
                              refine lv_goto (tgt := 129) hx hb dX11_whoIsWho_125 (by decide) ?_
                              refine lv_istore (lv' := [(5, .int 1), (6, .int w71_6), (0, .ref (o + 0)), (1, .int a0), (2, .int a1), (3, .int a2), (4, .int a3)]) hx hb dX11_whoIsWho_129 hl (by decide) rfl (fun ls hl => ?_)
                              obtain ⟨x127, e127⟩ : ∃ t : Int32, t = w71_6 + 1 := ⟨_, rfl⟩
                              refine lv_iinc (v := x127) (lv' := [(6, .int x127), (5, .int 1), (0, .ref (o + 0)), (1, .int a0), (2, .int a1), (3, .int a2), (4, .int a3)]) hx hb dX11_whoIsWho_131 hl (k := 1) rfl (by rw [e127]; rfl) (by decide) rfl (fun ls hl => ?_)
                              have t127 : x127.toInt = w71_6.toInt + (1 : Int) := ga_add e127 rfl rfl (by omega) (by omega)
                              refine lv_goto (tgt := 88) hx hb dX11_whoIsWho_134 (by decide) ?_
                              exact ih71 x127 1 z121 y71 (show (6 - x127.toInt : Int) < (n71 : Int) from by omega) ⟨by omega, by omega⟩ ⟨by decide, by decide⟩ J121 _ _ hP hS _ (lv_sub hl [0, 1, 2, 3, 4, 5, 6] rfl)
                    exact loop71 7 0 1 z70 y (show (6 - (0 : Int) : Int) < ((7 : Nat) : Int) from by omega) ⟨by decide, by decide⟩ ⟨by decide, by decide⟩ J70 _ _ hP hS _ (lv_sub hl [0, 1, 2, 3, 4, 5, 6] rfl)
                  · have t69 : a0.toInt > x68.toInt := gl_nle c69
                    refine lv_iconst (v := (-1)) hx hb dX11_whoIsWho_75 (by decide) ?_
                    exact W.iret (v := (-1)) hx hb hr (fun t ht hW => ⟨⟨(-1), (z, y), rfl, ⟨trivial, J0⟩, by rw [ht]; exact hP, va_K.moved hW.alike hK⟩, hS.F ht⟩) hS.2.2 dX11_whoIsWho_76
                · subst hr67
                  have hg67_0 : bitAt a1 a3 = 0 := hf67_0
                  refine lv_if_eq (tgt := 75) hx hb dX11_whoIsWho_64 (by decide) (fun _ => ?_) (fun q => absurd (by decide) q)
                  refine lv_iconst (v := (-1)) hx hb dX11_whoIsWho_75 (by decide) ?_
                  exact W.iret (v := (-1)) hx hb hr (fun t ht hW => ⟨⟨(-1), (z, y), rfl, ⟨trivial, J0⟩, by rw [ht]; exact hP, va_K.moved hW.alike hK⟩, hS.F ht⟩) hS.2.2 dX11_whoIsWho_76
              · subst hr66
                have hg66_0 : ¬ ((0 : Int) ≤ a3.toInt ∧ a3.toInt ≤ (5 : Int)) := hf66_0
                refine lv_if_eq (tgt := 75) hx hb dX11_whoIsWho_55 (by decide) (fun _ => ?_) (fun q => absurd (by decide) q)
                refine lv_iconst (v := (-1)) hx hb dX11_whoIsWho_75 (by decide) ?_
                exact W.iret (v := (-1)) hx hb hr (fun t ht hW => ⟨⟨(-1), (z, y), rfl, ⟨trivial, J0⟩, by rw [ht]; exact hP, va_K.moved hW.alike hK⟩, hS.F ht⟩) hS.2.2 dX11_whoIsWho_76
  · subst hr1
    have hg1_0 : ¬ ((2 : Int) ≤ a0.toInt ∧ a0.toInt ≤ (6 : Int)) := hf1_0
    refine lv_if_eq (tgt := 75) hx hb dX11_whoIsWho_7 (by decide) (fun _ => ?_) (fun q => absurd (by decide) q)
    refine lv_iconst (v := (-1)) hx hb dX11_whoIsWho_75 (by decide) ?_
    exact W.iret (v := (-1)) hx hb hr (fun t ht hW => ⟨⟨(-1), (z, y), rfl, ⟨trivial, J0⟩, by rw [ht]; exact hP, va_K.moved hW.alike hK⟩, hS.F ht⟩) hS.2.2 dX11_whoIsWho_76
