set_option maxRecDepth 100000 in
set_option maxHeartbeats 8000000 in
theorem m_asks (l : Launch) (D : va_G) (ca : Nat → ClassId) (o : Nat) (b z : Nat → Nat → Int32) (y : Nat → Nat → Int64) (J0 : qJM b z) (a0 : Int32) (a1 : Int32)  : qM l yX11_asks cX11_asks 9 (some .int) 5 147 (qPre D vwCl (qT6 ca) o 41 (qG (GM ca o) z y) [.ref (o + 0), .int a0, .int a1]) (va_Qi (fun r u => ((-3 : Int) ≤ r.toInt ∧ r.toInt ≤ 9) ∧ qJM b u.1) (qB D vwCl (qT6 ca) o 41 (fun u : qZ => qG (GM ca o) u.1 u.2)) (qw_A o 41)) (qw_A o 41) := by
  refine Met.ofW (cc := cX11_asks) (maxL := 9) (ret := (some .int)) (by decide) rfl ?_
  intro p e s m args below meth c s₁ B hml hv
  obtain ⟨rfl, hP, hK⟩ := hv
  have hx := B.exec
  have hb := B.bytes
  have hr := B.returns
  have hts0 := atoms_spec (ws := Cond.code yX11_asks cX11_asks 9 (some .int) :: qtbl) B.pre
  have hts : ∀ w ∈ qtbl, w.before _ s = true := fun w h => hts0 w (List.mem_cons_of_mem _ h)
  have hown : s.vm.findClass RX11 = some m.cls := findClass_of_methodNamed B.named
  have hlocks := B.notSynchronized
  have hS : va_S (qw_A o 41) s.heap s.heap [] := va_S.rf
  have hl := lv_entry ([.ref (o + 0), .int a0, .int a1]) (n := 9) (Nat.le_of_ble_eq_true rfl)
  rw [lg_entry_eq]
  generalize (lg_sl ([.ref (o + 0), .int a0, .int a1]) ++ List.replicate (9 - (lg_sl ([.ref (o + 0), .int a0, .int a1])).length) Slot.unset).toArray = ls at hl ⊢
  have hl : lv_has ls 9 [(0, .ref (o + 0)), (1, .int a0), (2, .int a1)] := hl
  refine lv_aload_n hx hb dX11_asks_0 rfl (lv_at hl 0 rfl) ?_
  refine lv_iload_n hx hb dX11_asks_1 rfl (lv_at hl 1 rfl) ?_
  refine qc_Vip (As := [.int a0]) (rest := []) (k0 := 1) (m_areRemarks l D ca o b z y J0 a0) kc_yX11_areRemarks ⟨hx, hb, hml, hown, hts⟩ wq_1324 rfl rfl ⟨Nat.le_of_ble_eq_true rfl, Nat.le_of_ble_eq_true rfl⟩ wq_all hP hK hS qw_Ai (q0 := 0) (by decide) (hgM_0 ca o _ _) rfl rfl hl.1 rfl (Nat.le_of_ble_eq_true rfl) dX11_asks_2 ⟨Nat.zero_le _, Nat.zero_le _⟩ (fun r1 H locs h1 hP hS _ _ => ?_)
  have b1 : (0 : Int) ≤ r1.toInt ∧ r1.toInt ≤ 1 := h1
  refine lv_if_eq (tgt := 17) hx hb dX11_asks_5 (by decide) (fun c2 => ?_) (fun c2 => ?_)
  · have t2 : r1.toInt = (0 : Int) := gl_eq c2
    refine lv_iconst (v := (-1)) hx hb dX11_asks_17 (by decide) ?_
    exact W.iret (v := (-1)) hx hb hr (fun t ht hW => ⟨⟨(-1), (z, y), rfl, ⟨⟨by decide, by decide⟩, J0⟩, by rw [ht]; exact hP, va_K.moved hW.alike hK⟩, hS.F ht⟩) hS.2.2 dX11_asks_18
  · have t2 : r1.toInt ≠ (0 : Int) := gl_ne c2
    refine lv_iload_n hx hb dX11_asks_8 rfl (lv_at hl 2 rfl) ?_
    refine lv_iconst (v := 0) hx hb dX11_asks_9 (by decide) ?_
    refine lv_iconst (v := 2) hx hb dX11_asks_10 (by decide) ?_
    refine qc_Sip (As := [.int a1, .int 0, .int 2]) (rest := []) (k0 := 3) (m_in l D ca o b z y J0 a1 0 2) kc_yX11_in ⟨hx, hb, hml, hown, hts⟩ wq_1187 rfl rfl ⟨Nat.le_of_ble_eq_true rfl, Nat.le_of_ble_eq_true rfl⟩ wq_all hP hK hS qw_Ai rfl hl.1 rfl (Nat.le_of_ble_eq_true rfl) dX11_asks_11 ⟨Nat.zero_le _, Nat.zero_le _⟩ (fun r3 H locs h3 hP hS _ _ => ?_)
    rcases h3 with ⟨hr3, hf3_0⟩ | ⟨hr3, hf3_0⟩
    · subst hr3
      have hg3_0 : (0 : Int) ≤ a1.toInt ∧ a1.toInt ≤ (2 : Int) := hf3_0
      refine lv_if_ne (tgt := 19) hx hb dX11_asks_14 (by decide) (fun _ => ?_) (fun q => absurd q (by decide))
      refine lv_aload_n hx hb dX11_asks_19 rfl (lv_at hl 0 rfl) ?_
      refine qc_Vip (As := []) (rest := []) (k0 := 0) (m_rowMany l D ca o b z y J0) kc_yX11_rowMany ⟨hx, hb, hml, hown, hts⟩ wq_1315 rfl rfl ⟨Nat.le_of_ble_eq_true rfl, Nat.le_of_ble_eq_true rfl⟩ wq_all hP hK hS qw_Ai (q0 := 0) (by decide) (hgM_0 ca o _ _) rfl rfl hl.1 rfl (Nat.le_of_ble_eq_true rfl) dX11_asks_20 ⟨Nat.zero_le _, Nat.zero_le _⟩ (fun r4 H locs h4 hP hS _ _ => ?_)
      have p4_1 : rmI z 6 r4 := h4.2
      refine lv_ldcw (v := 200000) hx hb hown (hts _ wq_1319) dX11_asks_23 ?_
      refine lv_icmp_le (tgt := 32) hx hb dX11_asks_26 (by decide) (fun c5 => ?_) (fun c5 => ?_)
      · have t5 : r4.toInt ≤ (200000 : Int) := gl_le c5
        refine lv_aload_n hx hb dX11_asks_32 rfl (lv_at hl 0 rfl) ?_
        refine qc_Vv2 (As := []) (rest := []) (k0 := 0) (m_counts l D ca o b z y J0) kc_yX11_counts ⟨hx, hb, hml, hown, hts⟩ wq_1356 rfl rfl ⟨Nat.le_of_ble_eq_true rfl, Nat.le_of_ble_eq_true rfl⟩ wq_all hP hK hS qw_Ai (q0 := 0) (by decide) (hgM_0 ca o _ _) rfl rfl hl.1 rfl (Nat.le_of_ble_eq_true rfl) dX11_asks_33 ⟨Nat.zero_le _, Nat.zero_le _⟩ (fun z6 y6 H locs h6 hP hS _ _ => ?_)
        have J6 : qJM b z6 := h6
        refine lv_aload_n hx hb dX11_asks_36 rfl (lv_at hl 0 rfl) ?_
        refine lv_iload_n hx hb dX11_asks_37 rfl (lv_at hl 1 rfl) ?_
        refine qc_Vip (As := [.int a0]) (rest := []) (k0 := 1) (m_fitting l D ca o b z6 y6 J6 a0) kc_yX11_fitting ⟨hx, hb, hml, hown, hts⟩ wq_1360 rfl rfl ⟨Nat.le_of_ble_eq_true rfl, Nat.le_of_ble_eq_true rfl⟩ wq_all hP hK hS qw_Ai (q0 := 0) (by decide) (hgM_0 ca o _ _) rfl rfl hl.1 rfl (Nat.le_of_ble_eq_true rfl) dX11_asks_38 ⟨Nat.zero_le _, Nat.zero_le _⟩ (fun r7 H locs h7 hP hS _ _ => ?_)
        refine lv_istore_n (lv' := [(3, .int r7), (0, .ref (o + 0)), (1, .int a0), (2, .int a1)]) hx hb dX11_asks_41 rfl hl (by decide) rfl (fun ls hl => ?_)
        refine lv_bipush (v := (-2)) hx hb dX11_asks_42 (by decide) ?_
        refine lv_istore (lv' := [(4, .int ((-2))), (3, .int r7), (0, .ref (o + 0)), (1, .int a0), (2, .int a1)]) hx hb dX11_asks_44 hl (by decide) rfl (fun ls hl => ?_)
        refine lv_ldcw (v := 100000000) hx hb hown (hts _ wq_1388) dX11_asks_46 ?_
        refine lv_istore (lv' := [(5, .int 100000000), (4, .int ((-2))), (3, .int r7), (0, .ref (o + 0)), (1, .int a0), (2, .int a1)]) hx hb dX11_asks_49 hl (by decide) rfl (fun ls hl => ?_)
        refine lv_iconst (v := 0) hx hb dX11_asks_51 (by decide) ?_
        refine lv_istore (lv' := [(6, .int 0), (5, .int 100000000), (4, .int ((-2))), (3, .int r7), (0, .ref (o + 0)), (1, .int a0), (2, .int a1)]) hx hb dX11_asks_52 hl (by decide) rfl (fun ls hl => ?_)
        have loop8 : ∀ (n : Nat) (w8_6 : Int32) (w8_5 : Int32) (w8_4 : Int32), ((10 - w8_6.toInt : Int) < (n : Int)) → ((0 : Int) ≤ w8_6.toInt ∧ w8_6.toInt ≤ 10) → ((-2147483648 : Int) ≤ w8_5.toInt ∧ w8_5.toInt ≤ 100000000) → ((-2 : Int) ≤ w8_4.toInt ∧ w8_4.toInt ≤ 9) → ∀ (H : Heap) (locs : List Loc), qw_P D vwCl o 41 (qG (GM ca o) z6 y6) H → va_S (qw_A o 41) s.heap H locs → ∀ (ls : Array Slot), lv_has ls 9 [(6, .int w8_6), (5, .int w8_5), (4, .int w8_4), (3, .int r7), (0, .ref (o + 0)), (1, .int a0), (2, .int a1)] → W p l e (headSpec (Cond.code yX11_asks cX11_asks 9 (some .int) :: qtbl) ({ frames := 5, cells := 0, slots := 0, locals := 147 })).room s m (([.ref (o + 0), .int a0, .int a1] : List Value).toArray) below meth c H locs 0 0 (MQ below (va_Qi (fun r u => ((-3 : Int) ≤ r.toInt ∧ r.toInt ≤ 9) ∧ qJM b u.1) (qB D vwCl (qT6 ca) o 41 (fun u : qZ => qG (GM ca o) u.1 u.2)) (qw_A o 41)) (([.ref (o + 0), .int a0, .int a1] : List Value).toArray) s 0 0 (qw_A o 41)) (F0 m 54 ls []) := by
          intro n
          induction n with
          | zero => intro w8_6 w8_5 w8_4 hb8 hv8_6 hv8_5 hv8_4; exfalso; omega
          | succ n8 ih8 =>
            intro w8_6 w8_5 w8_4 hb8 hv8_6 hv8_5 hv8_4 H locs hP hS ls hl
            refine lv_iload hx hb dX11_asks_54 (lv_at hl 0 rfl) ?_
            refine lv_bipush (v := 10) hx hb dX11_asks_56 (by decide) ?_
            refine lv_icmp_ge (tgt := 172) hx hb dX11_asks_58 (by decide) (fun c9 => ?_) (fun c9 => ?_)
            · have t9 : w8_6.toInt ≥ (10 : Int) := gl_le c9
              refine lv_iload hx hb dX11_asks_172 (lv_at hl 2 rfl) ?_
              exact W.iret (v := w8_4) hx hb hr (fun t ht hW => ⟨⟨w8_4, (z6, y6), rfl, ⟨⟨by omega, by omega⟩, J6⟩, by rw [ht]; exact hP, va_K.moved hW.alike hK⟩, hS.F ht⟩) hS.2.2 dX11_asks_174
            · have t9 : w8_6.toInt < (10 : Int) := gl_nle c9
              refine lv_iload_n hx hb dX11_asks_61 rfl (lv_at hl 3 rfl) ?_
              refine lv_if_le (tgt := 172) hx hb dX11_asks_62 (by decide) (fun c10 => ?_) (fun c10 => ?_)
              · have t10 : r7.toInt ≤ (0 : Int) := gl_le c10
                refine lv_iload hx hb dX11_asks_172 (lv_at hl 2 rfl) ?_
                exact W.iret (v := w8_4) hx hb hr (fun t ht hW => ⟨⟨w8_4, (z6, y6), rfl, ⟨⟨by omega, by omega⟩, J6⟩, by rw [ht]; exact hP, va_K.moved hW.alike hK⟩, hS.F ht⟩) hS.2.2 dX11_asks_174
              · have t10 : r7.toInt > (0 : Int) := gl_nle c10
                refine lv_aload_n hx hb dX11_asks_65 rfl (lv_at hl 4 rfl) ?_
                refine lv_iload hx hb dX11_asks_66 (lv_at hl 0 rfl) ?_
                refine qc_Vip (As := [.int w8_6]) (rest := []) (k0 := 1) (m_isRemark l D ca o b z6 y6 J6 w8_6) kc_yX11_isRemark ⟨hx, hb, hml, hown, hts⟩ wq_1307 rfl rfl ⟨Nat.le_of_ble_eq_true rfl, Nat.le_of_ble_eq_true rfl⟩ wq_all hP hK hS qw_Ai (q0 := 0) (by decide) (hgM_0 ca o _ _) rfl rfl hl.1 rfl (Nat.le_of_ble_eq_true rfl) dX11_asks_68 ⟨Nat.zero_le _, Nat.zero_le _⟩ (fun r11 H locs h11 hP hS _ _ => ?_)
                rcases h11 with ⟨hr11, hf11_0⟩ | hr11
                · subst hr11
                  have hg11_0 : 0 ≤ w8_6.toInt ∧ w8_6.toInt ≤ 9 := hf11_0
                  refine lv_if_eq (tgt := 166) hx hb dX11_asks_71 (by decide) (fun q => absurd q (by decide)) (fun _ => ?_)
                  refine lv_iload_n hx hb dX11_asks_74 rfl (lv_at hl 5 rfl) ?_
                  refine lv_iload hx hb dX11_asks_75 (lv_at hl 0 rfl) ?_
                  refine qc_Sip (As := [.int a0, .int w8_6]) (rest := []) (k0 := 2) (m_has l D ca o b z6 y6 J6 a0 w8_6) kc_yX11_has ⟨hx, hb, hml, hown, hts⟩ wq_1198 rfl rfl ⟨Nat.le_of_ble_eq_true rfl, Nat.le_of_ble_eq_true rfl⟩ wq_all hP hK hS qw_Ai rfl hl.1 rfl (Nat.le_of_ble_eq_true rfl) dX11_asks_77 ⟨Nat.zero_le _, Nat.zero_le _⟩ (fun r12 H locs h12 hP hS _ _ => ?_)
                  rcases h12 with ⟨hr12, hf12_0⟩ | ⟨hr12, hf12_0⟩
                  · subst hr12
                    have hg12_0 : bitAt a0 w8_6 ≠ 0 := hf12_0
                    refine lv_if_eq (tgt := 86) hx hb dX11_asks_80 (by decide) (fun q => absurd q (by decide)) (fun _ => ?_)
                    refine lv_goto (tgt := 166) hx hb dX11_asks_83 (by decide) ?_
                    obtain ⟨x13, e13⟩ : ∃ t : Int32, t = w8_6 + 1 := ⟨_, rfl⟩
                    refine lv_iinc (v := x13) (lv' := [(6, .int x13), (5, .int w8_5), (4, .int w8_4), (3, .int r7), (0, .ref (o + 0)), (1, .int a0), (2, .int a1)]) hx hb dX11_asks_166 hl (k := 0) rfl (by rw [e13]; rfl) (by decide) rfl (fun ls hl => ?_)
                    have t13 : x13.toInt = w8_6.toInt + (1 : Int) := ga_add e13 rfl rfl (by omega) (by omega)
                    refine lv_goto (tgt := 54) hx hb dX11_asks_169 (by decide) ?_
                    exact ih8 x13 w8_5 w8_4 (show (10 - x13.toInt : Int) < (n8 : Int) from by omega) ⟨by omega, by omega⟩ ⟨(gl_b w8_5).1, by omega⟩ ⟨by omega, by omega⟩ _ _ hP hS _ (lv_sub hl [0, 1, 2, 3, 4, 5, 6] rfl)
                  · subst hr12
                    have hg12_0 : bitAt a0 w8_6 = 0 := hf12_0
                    refine lv_if_eq (tgt := 86) hx hb dX11_asks_80 (by decide) (fun _ => ?_) (fun q => absurd (by decide) q)
                    refine lv_aload_n hx hb dX11_asks_86 rfl (lv_at hl 4 rfl) ?_
                    refine lv_iload_n hx hb dX11_asks_87 rfl (lv_at hl 5 rfl) ?_
                    refine lv_iconst (v := 1) hx hb dX11_asks_88 (by decide) ?_
                    refine lv_iload hx hb dX11_asks_89 (lv_at hl 0 rfl) ?_
                    refine lv_ishl hx hb dX11_asks_91 ?_
                    refine lv_topi (fun x14 e14 => ?_)
                    have t14 : 1 ≤ x14.toInt ∧ x14.toInt ≤ 512 := ga_shl 9 512 e14 (by decide) (by decide) (by omega) (by omega)
                    refine lv_ior hx hb dX11_asks_92 ?_
                    refine lv_topi (fun x15 e15 => ?_)
                    refine qc_Vip (As := [.int x15]) (rest := []) (k0 := 1) (m_fitting l D ca o b z6 y6 J6 x15) kc_yX11_fitting ⟨hx, hb, hml, hown, hts⟩ wq_1360 rfl rfl ⟨Nat.le_of_ble_eq_true rfl, Nat.le_of_ble_eq_true rfl⟩ wq_all hP hK hS qw_Ai (q0 := 0) (by decide) (hgM_0 ca o _ _) rfl rfl hl.1 rfl (Nat.le_of_ble_eq_true rfl) dX11_asks_93 ⟨Nat.zero_le _, Nat.zero_le _⟩ (fun r16 H locs h16 hP hS _ _ => ?_)
                    refine lv_istore (lv' := [(7, .int r16), (6, .int w8_6), (5, .int w8_5), (4, .int w8_4), (3, .int r7), (0, .ref (o + 0)), (1, .int a0), (2, .int a1)]) hx hb dX11_asks_96 hl (by decide) rfl (fun ls hl => ?_)
                    refine lv_iload_n hx hb dX11_asks_98 rfl (lv_at hl 7 rfl) ?_
                    refine lv_if_le (tgt := 110) hx hb dX11_asks_99 (by decide) (fun c17 => ?_) (fun c17 => ?_)
                    · have t17 : a1.toInt ≤ (0 : Int) := gl_le c17
                      refine lv_iload_n hx hb dX11_asks_110 rfl (lv_at hl 7 rfl) ?_
                      refine lv_iconst (v := 1) hx hb dX11_asks_111 (by decide) ?_
                      refine lv_icmp_ne (tgt := 121) hx hb dX11_asks_112 (by decide) (fun c18 => ?_) (fun c18 => ?_)
                      · have t18 : a1.toInt ≠ (1 : Int) := gl_ne c18
                        refine lv_iload_n hx hb dX11_asks_121 rfl (lv_at hl 7 rfl) ?_
                        refine lv_iconst (v := 2) hx hb dX11_asks_122 (by decide) ?_
                        refine lv_icmp_ne (tgt := 131) hx hb dX11_asks_123 (by decide) (fun c19 => ?_) (fun c19 => ?_)
                        · have t19 : a1.toInt ≠ (2 : Int) := gl_ne c19
                          refine lv_iconst (v := 2) hx hb dX11_asks_131 (by decide) ?_
                          refine lv_iload hx hb dX11_asks_132 (lv_at hl 0 rfl) ?_
                          refine lv_imul hx hb dX11_asks_134 ?_
                          refine lv_topi (fun x20 e20 => ?_)
                          refine lv_iload_n hx hb dX11_asks_135 rfl (lv_at hl 4 rfl) ?_
                          refine lv_isub hx hb dX11_asks_136 ?_
                          refine lv_topi (fun x21 e21 => ?_)
                          refine lv_iload_n hx hb dX11_asks_137 rfl (lv_at hl 4 rfl) ?_
                          refine lv_iconst (v := 2) hx hb dX11_asks_138 (by decide) ?_
                          refine lv_iload hx hb dX11_asks_139 (lv_at hl 0 rfl) ?_
                          refine lv_imul hx hb dX11_asks_141 ?_
                          refine lv_topi (fun x22 e22 => ?_)
                          have t22 : x22.toInt = x20.toInt := congrArg Int32.toInt (e22.trans e20.symm)
                          refine lv_isub hx hb dX11_asks_142 ?_
                          refine lv_topi (fun x23 e23 => ?_)
                          refine qc_Sip (As := [.int x21, .int x23]) (rest := []) (k0 := 2) (m_max l D ca o b z6 y6 J6 x21 x23) kc_yX11_max ⟨hx, hb, hml, hown, hts⟩ wq_1273 rfl rfl ⟨Nat.le_of_ble_eq_true rfl, Nat.le_of_ble_eq_true rfl⟩ wq_all hP hK hS qw_Ai rfl hl.1 rfl (Nat.le_of_ble_eq_true rfl) dX11_asks_143 ⟨Nat.zero_le _, Nat.zero_le _⟩ (fun r24 H locs h24 hP hS _ _ => ?_)
                          have p24_1 : r24.toInt = max x21.toInt x23.toInt := h24.2
                          refine lv_istore (lv' := [(8, .int r24), (7, .int r16), (6, .int w8_6), (5, .int w8_5), (4, .int w8_4), (3, .int r7), (0, .ref (o + 0)), (1, .int a0), (2, .int a1)]) hx hb dX11_asks_146 hl (by decide) rfl (fun ls hl => ?_)
                          refine lv_iload hx hb dX11_asks_148 (lv_at hl 0 rfl) ?_
                          refine lv_iload hx hb dX11_asks_150 (lv_at hl 3 rfl) ?_
                          refine lv_icmp_lt (tgt := 158) hx hb dX11_asks_152 (by decide) (fun c25 => ?_) (fun c25 => ?_)
                          · have t25 : r24.toInt < w8_5.toInt := gl_lt c25
                            refine lv_iload hx hb dX11_asks_158 (lv_at hl 0 rfl) ?_
                            refine lv_istore (lv' := [(5, .int r24), (8, .int r24), (7, .int r16), (6, .int w8_6), (4, .int w8_4), (3, .int r7), (0, .ref (o + 0)), (1, .int a0), (2, .int a1)]) hx hb dX11_asks_160 hl (by decide) rfl (fun ls hl => ?_)
                            refine lv_iload hx hb dX11_asks_162 (lv_at hl 3 rfl) ?_
                            refine lv_istore (lv' := [(4, .int w8_6), (5, .int r24), (8, .int r24), (7, .int r16), (6, .int w8_6), (3, .int r7), (0, .ref (o + 0)), (1, .int a0), (2, .int a1)]) hx hb dX11_asks_164 hl (by decide) rfl (fun ls hl => ?_)
                            obtain ⟨x26, e26⟩ : ∃ t : Int32, t = w8_6 + 1 := ⟨_, rfl⟩
                            refine lv_iinc (v := x26) (lv' := [(6, .int x26), (4, .int w8_6), (5, .int r24), (8, .int r24), (7, .int r16), (3, .int r7), (0, .ref (o + 0)), (1, .int a0), (2, .int a1)]) hx hb dX11_asks_166 hl (k := 4) rfl (by rw [e26]; rfl) (by decide) rfl (fun ls hl => ?_)
                            have t26 : x26.toInt = w8_6.toInt + (1 : Int) := ga_add e26 rfl rfl (by omega) (by omega)
                            refine lv_goto (tgt := 54) hx hb dX11_asks_169 (by decide) ?_
                            exact ih8 x26 r24 w8_6 (show (10 - x26.toInt : Int) < (n8 : Int) from by omega) ⟨by omega, by omega⟩ ⟨(gl_b r24).1, by omega⟩ ⟨by omega, by omega⟩ _ _ hP hS _ (lv_sub hl [0, 2, 1, 5, 6, 7, 8] rfl)
                          · have t25 : r24.toInt ≥ w8_5.toInt := gl_nlt c25
                            refine lv_goto (tgt := 166) hx hb dX11_asks_155 (by decide) ?_
                            obtain ⟨x27, e27⟩ : ∃ t : Int32, t = w8_6 + 1 := ⟨_, rfl⟩
                            refine lv_iinc (v := x27) (lv' := [(6, .int x27), (8, .int r24), (7, .int r16), (5, .int w8_5), (4, .int w8_4), (3, .int r7), (0, .ref (o + 0)), (1, .int a0), (2, .int a1)]) hx hb dX11_asks_166 hl (k := 2) rfl (by rw [e27]; rfl) (by decide) rfl (fun ls hl => ?_)
                            have t27 : x27.toInt = w8_6.toInt + (1 : Int) := ga_add e27 rfl rfl (by omega) (by omega)
                            refine lv_goto (tgt := 54) hx hb dX11_asks_169 (by decide) ?_
                            exact ih8 x27 w8_5 w8_4 (show (10 - x27.toInt : Int) < (n8 : Int) from by omega) ⟨by omega, by omega⟩ ⟨(gl_b w8_5).1, by omega⟩ ⟨by omega, by omega⟩ _ _ hP hS _ (lv_sub hl [0, 3, 4, 5, 6, 7, 8] rfl)
                        · have t19 : a1.toInt = (2 : Int) := gl_eq c19
                          exfalso; omega
                      · have t18 : a1.toInt = (1 : Int) := gl_eq c18
                        exfalso; omega
                    · have t17 : a1.toInt > (0 : Int) := gl_nle c17
                      refine lv_iload hx hb dX11_asks_102 (lv_at hl 0 rfl) ?_
                      refine lv_if_ne (tgt := 110) hx hb dX11_asks_104 (by decide) (fun c28 => ?_) (fun c28 => ?_)
                      · have t28 : r16.toInt ≠ (0 : Int) := gl_ne c28
                        refine lv_iload_n hx hb dX11_asks_110 rfl (lv_at hl 7 rfl) ?_
                        refine lv_iconst (v := 1) hx hb dX11_asks_111 (by decide) ?_
                        refine lv_icmp_ne (tgt := 121) hx hb dX11_asks_112 (by decide) (fun c29 => ?_) (fun c29 => ?_)
                        · have t29 : a1.toInt ≠ (1 : Int) := gl_ne c29
                          refine lv_iload_n hx hb dX11_asks_121 rfl (lv_at hl 7 rfl) ?_
                          refine lv_iconst (v := 2) hx hb dX11_asks_122 (by decide) ?_
                          refine lv_icmp_ne (tgt := 131) hx hb dX11_asks_123 (by decide) (fun c30 => ?_) (fun c30 => ?_)
                          · have t30 : a1.toInt ≠ (2 : Int) := gl_ne c30
                            exfalso; omega
                          · have t30 : a1.toInt = (2 : Int) := gl_eq c30
                            refine lv_iload hx hb dX11_asks_126 (lv_at hl 0 rfl) ?_
                            refine lv_goto (tgt := 146) hx hb dX11_asks_128 (by decide) ?_
                            refine lv_istore (lv' := [(8, .int r16), (7, .int r16), (6, .int w8_6), (5, .int w8_5), (4, .int w8_4), (3, .int r7), (0, .ref (o + 0)), (1, .int a0), (2, .int a1)]) hx hb dX11_asks_146 hl (by decide) rfl (fun ls hl => ?_)
                            refine lv_iload hx hb dX11_asks_148 (lv_at hl 0 rfl) ?_
                            refine lv_iload hx hb dX11_asks_150 (lv_at hl 3 rfl) ?_
                            refine lv_icmp_lt (tgt := 158) hx hb dX11_asks_152 (by decide) (fun c31 => ?_) (fun c31 => ?_)
                            · have t31 : r16.toInt < w8_5.toInt := gl_lt c31
                              refine lv_iload hx hb dX11_asks_158 (lv_at hl 0 rfl) ?_
                              refine lv_istore (lv' := [(5, .int r16), (8, .int r16), (7, .int r16), (6, .int w8_6), (4, .int w8_4), (3, .int r7), (0, .ref (o + 0)), (1, .int a0), (2, .int a1)]) hx hb dX11_asks_160 hl (by decide) rfl (fun ls hl => ?_)
                              refine lv_iload hx hb dX11_asks_162 (lv_at hl 3 rfl) ?_
                              refine lv_istore (lv' := [(4, .int w8_6), (5, .int r16), (8, .int r16), (7, .int r16), (6, .int w8_6), (3, .int r7), (0, .ref (o + 0)), (1, .int a0), (2, .int a1)]) hx hb dX11_asks_164 hl (by decide) rfl (fun ls hl => ?_)
                              obtain ⟨x32, e32⟩ : ∃ t : Int32, t = w8_6 + 1 := ⟨_, rfl⟩
                              refine lv_iinc (v := x32) (lv' := [(6, .int x32), (4, .int w8_6), (5, .int r16), (8, .int r16), (7, .int r16), (3, .int r7), (0, .ref (o + 0)), (1, .int a0), (2, .int a1)]) hx hb dX11_asks_166 hl (k := 4) rfl (by rw [e32]; rfl) (by decide) rfl (fun ls hl => ?_)
                              have t32 : x32.toInt = w8_6.toInt + (1 : Int) := ga_add e32 rfl rfl (by omega) (by omega)
                              refine lv_goto (tgt := 54) hx hb dX11_asks_169 (by decide) ?_
                              exact ih8 x32 r16 w8_6 (show (10 - x32.toInt : Int) < (n8 : Int) from by omega) ⟨by omega, by omega⟩ ⟨(gl_b r16).1, by omega⟩ ⟨by omega, by omega⟩ _ _ hP hS _ (lv_sub hl [0, 2, 1, 5, 6, 7, 8] rfl)
                            · have t31 : r16.toInt ≥ w8_5.toInt := gl_nlt c31
                              refine lv_goto (tgt := 166) hx hb dX11_asks_155 (by decide) ?_
                              obtain ⟨x33, e33⟩ : ∃ t : Int32, t = w8_6 + 1 := ⟨_, rfl⟩
                              refine lv_iinc (v := x33) (lv' := [(6, .int x33), (8, .int r16), (7, .int r16), (5, .int w8_5), (4, .int w8_4), (3, .int r7), (0, .ref (o + 0)), (1, .int a0), (2, .int a1)]) hx hb dX11_asks_166 hl (k := 2) rfl (by rw [e33]; rfl) (by decide) rfl (fun ls hl => ?_)
                              have t33 : x33.toInt = w8_6.toInt + (1 : Int) := ga_add e33 rfl rfl (by omega) (by omega)
                              refine lv_goto (tgt := 54) hx hb dX11_asks_169 (by decide) ?_
                              exact ih8 x33 w8_5 w8_4 (show (10 - x33.toInt : Int) < (n8 : Int) from by omega) ⟨by omega, by omega⟩ ⟨(gl_b w8_5).1, by omega⟩ ⟨by omega, by omega⟩ _ _ hP hS _ (lv_sub hl [0, 3, 4, 5, 6, 7, 8] rfl)
                        · have t29 : a1.toInt = (1 : Int) := gl_eq c29
                          refine lv_iload hx hb dX11_asks_115 (lv_at hl 0 rfl) ?_
                          refine lv_ineg hx hb dX11_asks_117 ?_
                          refine lv_topi (fun x34 e34 => ?_)
                          refine lv_goto (tgt := 146) hx hb dX11_asks_118 (by decide) ?_
                          refine lv_istore (lv' := [(8, .int x34), (7, .int r16), (6, .int w8_6), (5, .int w8_5), (4, .int w8_4), (3, .int r7), (0, .ref (o + 0)), (1, .int a0), (2, .int a1)]) hx hb dX11_asks_146 hl (by decide) rfl (fun ls hl => ?_)
                          refine lv_iload hx hb dX11_asks_148 (lv_at hl 0 rfl) ?_
                          refine lv_iload hx hb dX11_asks_150 (lv_at hl 3 rfl) ?_
                          refine lv_icmp_lt (tgt := 158) hx hb dX11_asks_152 (by decide) (fun c35 => ?_) (fun c35 => ?_)
                          · have t35 : x34.toInt < w8_5.toInt := gl_lt c35
                            refine lv_iload hx hb dX11_asks_158 (lv_at hl 0 rfl) ?_
                            refine lv_istore (lv' := [(5, .int x34), (8, .int x34), (7, .int r16), (6, .int w8_6), (4, .int w8_4), (3, .int r7), (0, .ref (o + 0)), (1, .int a0), (2, .int a1)]) hx hb dX11_asks_160 hl (by decide) rfl (fun ls hl => ?_)
                            refine lv_iload hx hb dX11_asks_162 (lv_at hl 3 rfl) ?_
                            refine lv_istore (lv' := [(4, .int w8_6), (5, .int x34), (8, .int x34), (7, .int r16), (6, .int w8_6), (3, .int r7), (0, .ref (o + 0)), (1, .int a0), (2, .int a1)]) hx hb dX11_asks_164 hl (by decide) rfl (fun ls hl => ?_)
                            obtain ⟨x36, e36⟩ : ∃ t : Int32, t = w8_6 + 1 := ⟨_, rfl⟩
                            refine lv_iinc (v := x36) (lv' := [(6, .int x36), (4, .int w8_6), (5, .int x34), (8, .int x34), (7, .int r16), (3, .int r7), (0, .ref (o + 0)), (1, .int a0), (2, .int a1)]) hx hb dX11_asks_166 hl (k := 4) rfl (by rw [e36]; rfl) (by decide) rfl (fun ls hl => ?_)
                            have t36 : x36.toInt = w8_6.toInt + (1 : Int) := ga_add e36 rfl rfl (by omega) (by omega)
                            refine lv_goto (tgt := 54) hx hb dX11_asks_169 (by decide) ?_
                            exact ih8 x36 x34 w8_6 (show (10 - x36.toInt : Int) < (n8 : Int) from by omega) ⟨by omega, by omega⟩ ⟨(gl_b x34).1, by omega⟩ ⟨by omega, by omega⟩ _ _ hP hS _ (lv_sub hl [0, 2, 1, 5, 6, 7, 8] rfl)
                          · have t35 : x34.toInt ≥ w8_5.toInt := gl_nlt c35
                            refine lv_goto (tgt := 166) hx hb dX11_asks_155 (by decide) ?_
                            obtain ⟨x37, e37⟩ : ∃ t : Int32, t = w8_6 + 1 := ⟨_, rfl⟩
                            refine lv_iinc (v := x37) (lv' := [(6, .int x37), (8, .int x34), (7, .int r16), (5, .int w8_5), (4, .int w8_4), (3, .int r7), (0, .ref (o + 0)), (1, .int a0), (2, .int a1)]) hx hb dX11_asks_166 hl (k := 2) rfl (by rw [e37]; rfl) (by decide) rfl (fun ls hl => ?_)
                            have t37 : x37.toInt = w8_6.toInt + (1 : Int) := ga_add e37 rfl rfl (by omega) (by omega)
                            refine lv_goto (tgt := 54) hx hb dX11_asks_169 (by decide) ?_
                            exact ih8 x37 w8_5 w8_4 (show (10 - x37.toInt : Int) < (n8 : Int) from by omega) ⟨by omega, by omega⟩ ⟨(gl_b w8_5).1, by omega⟩ ⟨by omega, by omega⟩ _ _ hP hS _ (lv_sub hl [0, 3, 4, 5, 6, 7, 8] rfl)
                      · have t28 : r16.toInt = (0 : Int) := gl_eq c28
                        refine lv_goto (tgt := 166) hx hb dX11_asks_107 (by decide) ?_
                        obtain ⟨x38, e38⟩ : ∃ t : Int32, t = w8_6 + 1 := ⟨_, rfl⟩
                        refine lv_iinc (v := x38) (lv' := [(6, .int x38), (7, .int r16), (5, .int w8_5), (4, .int w8_4), (3, .int r7), (0, .ref (o + 0)), (1, .int a0), (2, .int a1)]) hx hb dX11_asks_166 hl (k := 1) rfl (by rw [e38]; rfl) (by decide) rfl (fun ls hl => ?_)
                        have t38 : x38.toInt = w8_6.toInt + (1 : Int) := ga_add e38 rfl rfl (by omega) (by omega)
                        refine lv_goto (tgt := 54) hx hb dX11_asks_169 (by decide) ?_
                        exact ih8 x38 w8_5 w8_4 (show (10 - x38.toInt : Int) < (n8 : Int) from by omega) ⟨by omega, by omega⟩ ⟨(gl_b w8_5).1, by omega⟩ ⟨by omega, by omega⟩ _ _ hP hS _ (lv_sub hl [0, 2, 3, 4, 5, 6, 7] rfl)
                · subst hr11
                  refine lv_if_eq (tgt := 166) hx hb dX11_asks_71 (by decide) (fun _ => ?_) (fun q => absurd (by decide) q)
                  obtain ⟨x39, e39⟩ : ∃ t : Int32, t = w8_6 + 1 := ⟨_, rfl⟩
                  refine lv_iinc (v := x39) (lv' := [(6, .int x39), (5, .int w8_5), (4, .int w8_4), (3, .int r7), (0, .ref (o + 0)), (1, .int a0), (2, .int a1)]) hx hb dX11_asks_166 hl (k := 0) rfl (by rw [e39]; rfl) (by decide) rfl (fun ls hl => ?_)
                  have t39 : x39.toInt = w8_6.toInt + (1 : Int) := ga_add e39 rfl rfl (by omega) (by omega)
                  refine lv_goto (tgt := 54) hx hb dX11_asks_169 (by decide) ?_
                  exact ih8 x39 w8_5 w8_4 (show (10 - x39.toInt : Int) < (n8 : Int) from by omega) ⟨by omega, by omega⟩ ⟨(gl_b w8_5).1, by omega⟩ ⟨by omega, by omega⟩ _ _ hP hS _ (lv_sub hl [0, 1, 2, 3, 4, 5, 6] rfl)
        exact loop8 11 0 100000000 (-2) (show (10 - (0 : Int) : Int) < ((11 : Nat) : Int) from by omega) ⟨by decide, by decide⟩ ⟨by decide, by decide⟩ ⟨by decide, by decide⟩ _ _ hP hS _ (lv_sub hl [0, 1, 2, 3, 4, 5, 6] rfl)
      · have t5 : r4.toInt > (200000 : Int) := gl_nle c5
        refine lv_bipush (v := (-3)) hx hb dX11_asks_29 (by decide) ?_
        exact W.iret (v := (-3)) hx hb hr (fun t ht hW => ⟨⟨(-3), (z, y), rfl, ⟨⟨by decide, by decide⟩, J0⟩, by rw [ht]; exact hP, va_K.moved hW.alike hK⟩, hS.F ht⟩) hS.2.2 dX11_asks_31
    · subst hr3
      have hg3_0 : ¬ ((0 : Int) ≤ a1.toInt ∧ a1.toInt ≤ (2 : Int)) := hf3_0
      refine lv_if_ne (tgt := 19) hx hb dX11_asks_14 (by decide) (fun q => absurd q (by decide)) (fun _ => ?_)
      refine lv_iconst (v := (-1)) hx hb dX11_asks_17 (by decide) ?_
      exact W.iret (v := (-1)) hx hb hr (fun t ht hW => ⟨⟨(-1), (z, y), rfl, ⟨⟨by decide, by decide⟩, J0⟩, by rw [ht]; exact hP, va_K.moved hW.alike hK⟩, hS.F ht⟩) hS.2.2 dX11_asks_18
set_option maxRecDepth 100000 in
set_option maxHeartbeats 8000000 in
theorem m_unlike (l : Launch) (D : va_G) (ca : Nat → ClassId) (o : Nat) (b z : Nat → Nat → Int32) (y : Nat → Nat → Int64) (J0 : qJM b z) (a0 : Int32) (a1 : Int32)  : qM l yX11_unlike cX11_unlike 3 (some .int) 5 147 (qPre D vwCl (qT6 ca) o 41 (qG (GM ca o) z y) [.ref (o + 0), .int a0, .int a1]) (va_Qi (fun r u => True ∧ qJM b u.1) (qB D vwCl (qT6 ca) o 41 (fun u : qZ => qG (GM ca o) u.1 u.2)) (qw_A o 41)) (qw_A o 41) := by
  refine Met.ofW (cc := cX11_unlike) (maxL := 3) (ret := (some .int)) (by decide) rfl ?_
  intro p e s m args below meth c s₁ B hml hv
  obtain ⟨rfl, hP, hK⟩ := hv
  have hx := B.exec
  have hb := B.bytes
  have hr := B.returns
  have hts0 := atoms_spec (ws := Cond.code yX11_unlike cX11_unlike 3 (some .int) :: qtbl) B.pre
  have hts : ∀ w ∈ qtbl, w.before _ s = true := fun w h => hts0 w (List.mem_cons_of_mem _ h)
  have hown : s.vm.findClass RX11 = some m.cls := findClass_of_methodNamed B.named
  have hlocks := B.notSynchronized
  have hS : va_S (qw_A o 41) s.heap s.heap [] := va_S.rf
  have hl := lv_entry ([.ref (o + 0), .int a0, .int a1]) (n := 3) (Nat.le_of_ble_eq_true rfl)
  rw [lg_entry_eq]
  generalize (lg_sl ([.ref (o + 0), .int a0, .int a1]) ++ List.replicate (3 - (lg_sl ([.ref (o + 0), .int a0, .int a1])).length) Slot.unset).toArray = ls at hl ⊢
  have hl : lv_has ls 3 [(0, .ref (o + 0)), (1, .int a0), (2, .int a1)] := hl
  refine lv_aload_n hx hb dX11_unlike_0 rfl (lv_at hl 0 rfl) ?_
  refine lv_iload_n hx hb dX11_unlike_1 rfl (lv_at hl 1 rfl) ?_
  refine qc_Vip (As := [.int a0]) (rest := []) (k0 := 1) (m_areRemarks l D ca o b z y J0 a0) kc_yX11_areRemarks ⟨hx, hb, hml, hown, hts⟩ wq_1324 rfl rfl ⟨Nat.le_of_ble_eq_true rfl, Nat.le_of_ble_eq_true rfl⟩ wq_all hP hK hS qw_Ai (q0 := 0) (by decide) (hgM_0 ca o _ _) rfl rfl hl.1 rfl (Nat.le_of_ble_eq_true rfl) dX11_unlike_2 ⟨Nat.zero_le _, Nat.zero_le _⟩ (fun r1 H locs h1 hP hS _ _ => ?_)
  have b1 : (0 : Int) ≤ r1.toInt ∧ r1.toInt ≤ 1 := h1
  refine lv_if_eq (tgt := 16) hx hb dX11_unlike_5 (by decide) (fun c2 => ?_) (fun c2 => ?_)
  · have t2 : r1.toInt = (0 : Int) := gl_eq c2
    refine lv_iconst (v := (-1)) hx hb dX11_unlike_16 (by decide) ?_
    exact W.iret (v := (-1)) hx hb hr (fun t ht hW => ⟨⟨(-1), (z, y), rfl, ⟨trivial, J0⟩, by rw [ht]; exact hP, va_K.moved hW.alike hK⟩, hS.F ht⟩) hS.2.2 dX11_unlike_17
  · have t2 : r1.toInt ≠ (0 : Int) := gl_ne c2
    refine lv_aload_n hx hb dX11_unlike_8 rfl (lv_at hl 0 rfl) ?_
    refine lv_iload_n hx hb dX11_unlike_9 rfl (lv_at hl 2 rfl) ?_
    refine qc_Vip (As := [.int a1]) (rest := []) (k0 := 1) (m_areRemarks l D ca o b z y J0 a1) kc_yX11_areRemarks ⟨hx, hb, hml, hown, hts⟩ wq_1324 rfl rfl ⟨Nat.le_of_ble_eq_true rfl, Nat.le_of_ble_eq_true rfl⟩ wq_all hP hK hS qw_Ai (q0 := 0) (by decide) (hgM_0 ca o _ _) rfl rfl hl.1 rfl (Nat.le_of_ble_eq_true rfl) dX11_unlike_10 ⟨Nat.zero_le _, Nat.zero_le _⟩ (fun r3 H locs h3 hP hS _ _ => ?_)
    have b3 : (0 : Int) ≤ r3.toInt ∧ r3.toInt ≤ 1 := h3
    refine lv_if_ne (tgt := 18) hx hb dX11_unlike_13 (by decide) (fun c4 => ?_) (fun c4 => ?_)
    · have t4 : r3.toInt ≠ (0 : Int) := gl_ne c4
      refine lv_aload_n hx hb dX11_unlike_18 rfl (lv_at hl 0 rfl) ?_
      refine qc_Vip (As := []) (rest := []) (k0 := 0) (m_rowMany l D ca o b z y J0) kc_yX11_rowMany ⟨hx, hb, hml, hown, hts⟩ wq_1315 rfl rfl ⟨Nat.le_of_ble_eq_true rfl, Nat.le_of_ble_eq_true rfl⟩ wq_all hP hK hS qw_Ai (q0 := 0) (by decide) (hgM_0 ca o _ _) rfl rfl hl.1 rfl (Nat.le_of_ble_eq_true rfl) dX11_unlike_19 ⟨Nat.zero_le _, Nat.zero_le _⟩ (fun r5 H locs h5 hP hS _ _ => ?_)
      have p5_1 : rmI z 6 r5 := h5.2
      refine lv_ldcw (v := 200000) hx hb hown (hts _ wq_1319) dX11_unlike_22 ?_
      refine lv_icmp_le (tgt := 31) hx hb dX11_unlike_25 (by decide) (fun c6 => ?_) (fun c6 => ?_)
      · have t6 : r5.toInt ≤ (200000 : Int) := gl_le c6
        refine lv_aload_n hx hb dX11_unlike_31 rfl (lv_at hl 0 rfl) ?_
        refine qc_Vv2 (As := []) (rest := []) (k0 := 0) (m_counts l D ca o b z y J0) kc_yX11_counts ⟨hx, hb, hml, hown, hts⟩ wq_1356 rfl rfl ⟨Nat.le_of_ble_eq_true rfl, Nat.le_of_ble_eq_true rfl⟩ wq_all hP hK hS qw_Ai (q0 := 0) (by decide) (hgM_0 ca o _ _) rfl rfl hl.1 rfl (Nat.le_of_ble_eq_true rfl) dX11_unlike_32 ⟨Nat.zero_le _, Nat.zero_le _⟩ (fun z7 y7 H locs h7 hP hS _ _ => ?_)
        have J7 : qJM b z7 := h7
        refine lv_aload_n hx hb dX11_unlike_35 rfl (lv_at hl 0 rfl) ?_
        refine lv_iload_n hx hb dX11_unlike_36 rfl (lv_at hl 1 rfl) ?_
        refine qc_Vip (As := [.int a0]) (rest := []) (k0 := 1) (m_fitting l D ca o b z7 y7 J7 a0) kc_yX11_fitting ⟨hx, hb, hml, hown, hts⟩ wq_1360 rfl rfl ⟨Nat.le_of_ble_eq_true rfl, Nat.le_of_ble_eq_true rfl⟩ wq_all hP hK hS qw_Ai (q0 := 0) (by decide) (hgM_0 ca o _ _) rfl rfl hl.1 rfl (Nat.le_of_ble_eq_true rfl) dX11_unlike_37 ⟨Nat.zero_le _, Nat.zero_le _⟩ (fun r8 H locs h8 hP hS _ _ => ?_)
        refine lv_aload_n hx hb dX11_unlike_40 rfl (lv_at hl 0 rfl) ?_
        refine lv_iload_n hx hb dX11_unlike_41 rfl (lv_at hl 2 rfl) ?_
        refine qc_Vip (As := [.int a1]) (rest := [.int r8]) (k0 := 1) (m_fitting l D ca o b z7 y7 J7 a1) kc_yX11_fitting ⟨hx, hb, hml, hown, hts⟩ wq_1360 rfl rfl ⟨Nat.le_of_ble_eq_true rfl, Nat.le_of_ble_eq_true rfl⟩ wq_all hP hK hS qw_Ai (q0 := 0) (by decide) (hgM_0 ca o _ _) rfl rfl hl.1 rfl (Nat.le_of_ble_eq_true rfl) dX11_unlike_42 ⟨Nat.zero_le _, Nat.zero_le _⟩ (fun r9 H locs h9 hP hS _ _ => ?_)
        refine lv_iadd hx hb dX11_unlike_45 ?_
        refine lv_topi (fun x10 e10 => ?_)
        refine lv_iconst (v := 2) hx hb dX11_unlike_46 (by decide) ?_
        refine lv_aload_n hx hb dX11_unlike_47 rfl (lv_at hl 0 rfl) ?_
        refine lv_iload_n hx hb dX11_unlike_48 rfl (lv_at hl 1 rfl) ?_
        refine lv_iload_n hx hb dX11_unlike_49 rfl (lv_at hl 2 rfl) ?_
        refine lv_ior hx hb dX11_unlike_50 ?_
        refine lv_topi (fun x11 e11 => ?_)
        refine qc_Vip (As := [.int x11]) (rest := [.int 2, .int x10]) (k0 := 1) (m_fitting l D ca o b z7 y7 J7 x11) kc_yX11_fitting ⟨hx, hb, hml, hown, hts⟩ wq_1360 rfl rfl ⟨Nat.le_of_ble_eq_true rfl, Nat.le_of_ble_eq_true rfl⟩ wq_all hP hK hS qw_Ai (q0 := 0) (by decide) (hgM_0 ca o _ _) rfl rfl hl.1 rfl (Nat.le_of_ble_eq_true rfl) dX11_unlike_51 ⟨Nat.zero_le _, Nat.zero_le _⟩ (fun r12 H locs h12 hP hS _ _ => ?_)
        refine lv_imul hx hb dX11_unlike_54 ?_
        refine lv_topi (fun x13 e13 => ?_)
        refine lv_isub hx hb dX11_unlike_55 ?_
        refine lv_topi (fun x14 e14 => ?_)
        exact W.iret (v := x14) hx hb hr (fun t ht hW => ⟨⟨x14, (z7, y7), rfl, ⟨trivial, J7⟩, by rw [ht]; exact hP, va_K.moved hW.alike hK⟩, hS.F ht⟩) hS.2.2 dX11_unlike_56
      · have t6 : r5.toInt > (200000 : Int) := gl_nle c6
        refine lv_bipush (v := (-3)) hx hb dX11_unlike_28 (by decide) ?_
        exact W.iret (v := (-3)) hx hb hr (fun t ht hW => ⟨⟨(-3), (z, y), rfl, ⟨trivial, J0⟩, by rw [ht]; exact hP, va_K.moved hW.alike hK⟩, hS.F ht⟩) hS.2.2 dX11_unlike_30
    · have t4 : r3.toInt = (0 : Int) := gl_eq c4
      refine lv_iconst (v := (-1)) hx hb dX11_unlike_16 (by decide) ?_
      exact W.iret (v := (-1)) hx hb hr (fun t ht hW => ⟨⟨(-1), (z, y), rfl, ⟨trivial, J0⟩, by rw [ht]; exact hP, va_K.moved hW.alike hK⟩, hS.F ht⟩) hS.2.2 dX11_unlike_17
set_option maxRecDepth 100000 in
set_option maxHeartbeats 8000000 in
theorem m_ageNow (l : Launch) (D : va_G) (ca : Nat → ClassId) (o : Nat) (b z : Nat → Nat → Int32) (y : Nat → Nat → Int64) (J0 : qJM b z) (a0 : Int32) (a1 : Int32) (ha0 : (0 : Int) ≤ a0.toInt ∧ a0.toInt ≤ 1999) (ha1 : (0 : Int) ≤ a1.toInt ∧ a1.toInt ≤ 5) : qM l yX11_ageNow cX11_ageNow 3 (some .int) 2 81 (qPre D vwCl (qT6 ca) o 41 (qG (GM ca o) z y) [.ref (o + 0), .int a0, .int a1]) (va_Qi (fun r (_ : Unit) => True) (qB D vwCl (qT6 ca) o 41 (fun _ : Unit => qG (GM ca o) z y)) (qw_A o 41)) (qw_A o 41) := by
  refine Met.ofW (cc := cX11_ageNow) (maxL := 3) (ret := (some .int)) (by decide) rfl ?_
  intro p e s m args below meth c s₁ B hml hv
  obtain ⟨rfl, hP, hK⟩ := hv
  have hx := B.exec
  have hb := B.bytes
  have hr := B.returns
  have hts0 := atoms_spec (ws := Cond.code yX11_ageNow cX11_ageNow 3 (some .int) :: qtbl) B.pre
  have hts : ∀ w ∈ qtbl, w.before _ s = true := fun w h => hts0 w (List.mem_cons_of_mem _ h)
  have hown : s.vm.findClass RX11 = some m.cls := findClass_of_methodNamed B.named
  have hlocks := B.notSynchronized
  have hS : va_S (qw_A o 41) s.heap s.heap [] := va_S.rf
  have hl := lv_entry ([.ref (o + 0), .int a0, .int a1]) (n := 3) (Nat.le_of_ble_eq_true rfl)
  rw [lg_entry_eq]
  generalize (lg_sl ([.ref (o + 0), .int a0, .int a1]) ++ List.replicate (3 - (lg_sl ([.ref (o + 0), .int a0, .int a1])).length) Slot.unset).toArray = ls at hl ⊢
  have hl : lv_has ls 3 [(0, .ref (o + 0)), (1, .int a0), (2, .int a1)] := hl
  refine lv_aload_n hx hb dX11_ageNow_0 rfl (lv_at hl 0 rfl) ?_
  refine qf_get hx hb hts inX11 hown hK hP (q0 := 0) (by decide) (hgM_0 ca o) rfl 39 (by decide) wq_1031 (v := .ref (o + 26)) rfl dX11_ageNow_1 ?_
  refine lv_bipush (v := 6) hx hb dX11_ageNow_4 (by decide) ?_
  refine lv_iload_n hx hb dX11_ageNow_6 rfl (lv_at hl 1 rfl) ?_
  refine lv_imul hx hb dX11_ageNow_7 ?_
  refine lv_topi (fun x1 e1 => ?_)
  have t1 : x1.toInt = (6 : Int) * a0.toInt := ga_mul e1 rfl rfl (by omega) (by omega)
  refine lv_iload_n hx hb dX11_ageNow_8 rfl (lv_at hl 2 rfl) ?_
  refine lv_iadd hx hb dX11_ageNow_9 ?_
  refine lv_topi (fun x2 e2 => ?_)
  have t2 : x2.toInt = x1.toInt + a1.toInt := ga_add e2 rfl rfl (by omega) (by omega)
  refine qa_bald hx hb hK hP (q0 := 26) (by decide) 3 (N := 12000) (hgM_26 ca o) rfl (gi_in (by omega) (by omega)) dX11_ageNow_10 ?_
  refine lv_topi (fun x3 e3 => ?_)
  have b3 := iM_26 J0 e3
  refine lv_aload_n hx hb dX11_ageNow_11 rfl (lv_at hl 0 rfl) ?_
  refine lv_iload_n hx hb dX11_ageNow_12 rfl (lv_at hl 2 rfl) ?_
  refine qc_Vip (As := [.int a1]) (rest := [.int x3]) (k0 := 1) (m_sinceOf l D ca o b z y J0 a1 ⟨by omega, by omega⟩) kc_yX11_sinceOf ⟨hx, hb, hml, hown, hts⟩ wq_1292 rfl rfl ⟨Nat.le_of_ble_eq_true rfl, Nat.le_of_ble_eq_true rfl⟩ wq_all hP hK hS qw_Ai (q0 := 0) (by decide) (hgM_0 ca o _ _) rfl rfl hl.1 rfl (Nat.le_of_ble_eq_true rfl) dX11_ageNow_13 ⟨Nat.zero_le _, Nat.zero_le _⟩ (fun r4 H locs h4 hP hS _ _ => ?_)
  refine lv_iadd hx hb dX11_ageNow_16 ?_
  refine lv_topi (fun x5 e5 => ?_)
  exact W.iret (v := x5) hx hb hr (fun t ht hW => ⟨⟨x5, (), rfl, trivial, by rw [ht]; exact hP, va_K.moved hW.alike hK⟩, hS.F ht⟩) hS.2.2 dX11_ageNow_17
set_option maxRecDepth 100000 in
set_option maxHeartbeats 8000000 in
theorem m_rowsWith (l : Launch) (D : va_G) (ca : Nat → ClassId) (o : Nat) (b z : Nat → Nat → Int32) (y : Nat → Nat → Int64) (J0 : qJM b z) (a0 : Int32) (a1 : Int32) (a2 : Int32) (a3 : Int32) (ha0 : (0 : Int) ≤ a0.toInt ∧ a0.toInt ≤ 5) (ha2 : (-1 : Int) ≤ a2.toInt ∧ a2.toInt ≤ 5) : qM l yX11_rowsWith cX11_rowsWith 8 (some .int) 3 103 (qPre D vwCl (qT6 ca) o 41 (qG (GM ca o) z y) [.ref (o + 0), .int a0, .int a1, .int a2, .int a3]) (va_Qi (fun r (_ : Unit) => True) (qB D vwCl (qT6 ca) o 41 (fun _ : Unit => qG (GM ca o) z y)) (qw_A o 41)) (qw_A o 41) := by
  refine Met.ofW (cc := cX11_rowsWith) (maxL := 8) (ret := (some .int)) (by decide) rfl ?_
  intro p e s m args below meth c s₁ B hml hv
  obtain ⟨rfl, hP, hK⟩ := hv
  have hx := B.exec
  have hb := B.bytes
  have hr := B.returns
  have hts0 := atoms_spec (ws := Cond.code yX11_rowsWith cX11_rowsWith 8 (some .int) :: qtbl) B.pre
  have hts : ∀ w ∈ qtbl, w.before _ s = true := fun w h => hts0 w (List.mem_cons_of_mem _ h)
  have hown : s.vm.findClass RX11 = some m.cls := findClass_of_methodNamed B.named
  have hlocks := B.notSynchronized
  have hS : va_S (qw_A o 41) s.heap s.heap [] := va_S.rf
  have hl := lv_entry ([.ref (o + 0), .int a0, .int a1, .int a2, .int a3]) (n := 8) (Nat.le_of_ble_eq_true rfl)
  rw [lg_entry_eq]
  generalize (lg_sl ([.ref (o + 0), .int a0, .int a1, .int a2, .int a3]) ++ List.replicate (8 - (lg_sl ([.ref (o + 0), .int a0, .int a1, .int a2, .int a3])).length) Slot.unset).toArray = ls at hl ⊢
  have hl : lv_has ls 8 [(0, .ref (o + 0)), (1, .int a0), (2, .int a1), (3, .int a2), (4, .int a3)] := hl
  refine lv_iconst (v := 0) hx hb dX11_rowsWith_0 (by decide) ?_
  refine lv_istore (lv' := [(5, .int 0), (0, .ref (o + 0)), (1, .int a0), (2, .int a1), (3, .int a2), (4, .int a3)]) hx hb dX11_rowsWith_1 hl (by decide) rfl (fun ls hl => ?_)
  refine lv_iconst (v := 0) hx hb dX11_rowsWith_3 (by decide) ?_
  refine lv_istore (lv' := [(6, .int 0), (5, .int 0), (0, .ref (o + 0)), (1, .int a0), (2, .int a1), (3, .int a2), (4, .int a3)]) hx hb dX11_rowsWith_4 hl (by decide) rfl (fun ls hl => ?_)
  have loop1 : ∀ (n : Nat) (w1_6 : Int32) (w1_5 : Int32), ((2000 - w1_6.toInt : Int) < (n : Int)) → ((0 : Int) ≤ w1_6.toInt ∧ w1_6.toInt ≤ 2000) → ∀ (H : Heap) (locs : List Loc), qw_P D vwCl o 41 (qG (GM ca o) z y) H → va_S (qw_A o 41) s.heap H locs → ∀ (ls : Array Slot), lv_has ls 8 [(6, .int w1_6), (5, .int w1_5), (0, .ref (o + 0)), (1, .int a0), (2, .int a1), (3, .int a2), (4, .int a3)] → W p l e (headSpec (Cond.code yX11_rowsWith cX11_rowsWith 8 (some .int) :: qtbl) ({ frames := 3, cells := 0, slots := 0, locals := 103 })).room s m (([.ref (o + 0), .int a0, .int a1, .int a2, .int a3] : List Value).toArray) below meth c H locs 0 0 (MQ below (va_Qi (fun r (_ : Unit) => True) (qB D vwCl (qT6 ca) o 41 (fun _ : Unit => qG (GM ca o) z y)) (qw_A o 41)) (([.ref (o + 0), .int a0, .int a1, .int a2, .int a3] : List Value).toArray) s 0 0 (qw_A o 41)) (F0 m 6 ls []) := by
    intro n
    induction n with
    | zero => intro w1_6 w1_5 hb1 hv1_6; exfalso; omega
    | succ n1 ih1 =>
      intro w1_6 w1_5 hb1 hv1_6 H locs hP hS ls hl
      refine lv_iload hx hb dX11_rowsWith_6 (lv_at hl 0 rfl) ?_
      refine lv_aload_n hx hb dX11_rowsWith_8 rfl (lv_at hl 2 rfl) ?_
      refine qf_get hx hb hts inX11 hown hK hP (q0 := 0) (by decide) (hgM_0 ca o) rfl 41 (by decide) wq_1033 (v := .int (z 0 41)) rfl dX11_rowsWith_9 ?_
      refine lv_topi (fun x2 e2 => ?_)
      have b2 := iM_0_41 J0 e2
      refine lv_icmp_ge (tgt := 65) hx hb dX11_rowsWith_12 (by decide) (fun c3 => ?_) (fun c3 => ?_)
      · have t3 : w1_6.toInt ≥ x2.toInt := gl_le c3
        refine lv_iload hx hb dX11_rowsWith_65 (lv_at hl 1 rfl) ?_
        exact W.iret (v := w1_5) hx hb hr (fun t ht hW => ⟨⟨w1_5, (), rfl, trivial, by rw [ht]; exact hP, va_K.moved hW.alike hK⟩, hS.F ht⟩) hS.2.2 dX11_rowsWith_67
      · have t3 : w1_6.toInt < x2.toInt := gl_nle c3
        refine lv_iload hx hb dX11_rowsWith_15 (lv_at hl 6 rfl) ?_
        refine lv_iload_n hx hb dX11_rowsWith_17 rfl (lv_at hl 5 rfl) ?_
        refine lv_if_ge (tgt := 25) hx hb dX11_rowsWith_18 (by decide) (fun c4 => ?_) (fun c4 => ?_)
        · have t4 : a2.toInt ≥ (0 : Int) := gl_le c4
          refine lv_iload_n hx hb dX11_rowsWith_25 rfl (lv_at hl 4 rfl) ?_
          refine lv_aload_n hx hb dX11_rowsWith_26 rfl (lv_at hl 2 rfl) ?_
          refine lv_iload hx hb dX11_rowsWith_27 (lv_at hl 0 rfl) ?_
          refine lv_iload_n hx hb dX11_rowsWith_29 rfl (lv_at hl 5 rfl) ?_
          refine qc_Vip (As := [.int w1_6, .int a2]) (rest := [.int a1, .int a3]) (k0 := 2) (m_ageNow l D ca o b z y J0 w1_6 a2 ⟨by omega, by omega⟩ ⟨by omega, by omega⟩) kc_yX11_ageNow ⟨hx, hb, hml, hown, hts⟩ wq_1473 rfl rfl ⟨Nat.le_of_ble_eq_true rfl, Nat.le_of_ble_eq_true rfl⟩ wq_all hP hK hS qw_Ai (q0 := 0) (by decide) (hgM_0 ca o _ _) rfl rfl hl.1 rfl (Nat.le_of_ble_eq_true rfl) dX11_rowsWith_30 ⟨Nat.zero_le _, Nat.zero_le _⟩ (fun r5 H locs h5 hP hS _ _ => ?_)
          refine lv_imul hx hb dX11_rowsWith_33 ?_
          refine lv_topi (fun x6 e6 => ?_)
          refine lv_iadd hx hb dX11_rowsWith_34 ?_
          refine lv_topi (fun x7 e7 => ?_)
          refine lv_istore (lv' := [(7, .int x7), (6, .int w1_6), (5, .int w1_5), (0, .ref (o + 0)), (1, .int a0), (2, .int a1), (3, .int a2), (4, .int a3)]) hx hb dX11_rowsWith_35 hl (by decide) rfl (fun ls hl => ?_)
          refine lv_iload hx hb dX11_rowsWith_37 (lv_at hl 2 rfl) ?_
          refine lv_aload_n hx hb dX11_rowsWith_39 rfl (lv_at hl 3 rfl) ?_
          refine lv_iload hx hb dX11_rowsWith_40 (lv_at hl 1 rfl) ?_
          refine lv_iload_n hx hb dX11_rowsWith_42 rfl (lv_at hl 4 rfl) ?_
          refine qc_Vip (As := [.int w1_6, .int a0]) (rest := [.int w1_5]) (k0 := 2) (m_ageNow l D ca o b z y J0 w1_6 a0 ⟨by omega, by omega⟩ ⟨by omega, by omega⟩) kc_yX11_ageNow ⟨hx, hb, hml, hown, hts⟩ wq_1473 rfl rfl ⟨Nat.le_of_ble_eq_true rfl, Nat.le_of_ble_eq_true rfl⟩ wq_all hP hK hS qw_Ai (q0 := 0) (by decide) (hgM_0 ca o _ _) rfl rfl hl.1 rfl (Nat.le_of_ble_eq_true rfl) dX11_rowsWith_43 ⟨Nat.zero_le _, Nat.zero_le _⟩ (fun r8 H locs h8 hP hS _ _ => ?_)
          refine lv_iload hx hb dX11_rowsWith_46 (lv_at hl 0 rfl) ?_
          refine lv_icmp_ne (tgt := 55) hx hb dX11_rowsWith_48 (by decide) (fun c9 => ?_) (fun c9 => ?_)
          · have t9 : r8.toInt ≠ x7.toInt := gl_ne c9
            refine lv_iconst (v := 0) hx hb dX11_rowsWith_55 (by decide) ?_
            refine lv_iadd hx hb dX11_rowsWith_56 ?_
            refine lv_topi (fun x10 e10 => ?_)
            have gb10_0 := gl_b w1_5
            have gb10_1 := gl_b w1_6
            have gb10_2 := gl_b x2
            have gb10_3 := gl_b a2
            have gb10_4 := gl_b r8
            have gb10_5 := gl_b x7
            have t10 : x10.toInt = w1_5.toInt + (0 : Int) := ga_add e10 rfl rfl (by omega) (by omega)
            refine lv_istore (lv' := [(5, .int x10), (7, .int x7), (6, .int w1_6), (0, .ref (o + 0)), (1, .int a0), (2, .int a1), (3, .int a2), (4, .int a3)]) hx hb dX11_rowsWith_57 hl (by decide) rfl (fun ls hl => ?_)
            obtain ⟨x11, e11⟩ : ∃ t : Int32, t = w1_6 + 1 := ⟨_, rfl⟩
            refine lv_iinc (v := x11) (lv' := [(6, .int x11), (5, .int x10), (7, .int x7), (0, .ref (o + 0)), (1, .int a0), (2, .int a1), (3, .int a2), (4, .int a3)]) hx hb dX11_rowsWith_59 hl (k := 2) rfl (by rw [e11]; rfl) (by decide) rfl (fun ls hl => ?_)
            have t11 : x11.toInt = w1_6.toInt + (1 : Int) := ga_add e11 rfl rfl (by omega) (by omega)
            refine lv_goto (tgt := 6) hx hb dX11_rowsWith_62 (by decide) ?_
            exact ih1 x11 x10 (show (2000 - x11.toInt : Int) < (n1 : Int) from by omega) ⟨by omega, by omega⟩ _ _ hP hS _ (lv_sub hl [0, 1, 3, 4, 5, 6, 7] rfl)
          · have t9 : r8.toInt = x7.toInt := gl_eq c9
            refine lv_iconst (v := 1) hx hb dX11_rowsWith_51 (by decide) ?_
            refine lv_goto (tgt := 56) hx hb dX11_rowsWith_52 (by decide) ?_
            refine lv_iadd hx hb dX11_rowsWith_56 ?_
            refine lv_topi (fun x12 e12 => ?_)
            refine lv_istore (lv' := [(5, .int x12), (7, .int x7), (6, .int w1_6), (0, .ref (o + 0)), (1, .int a0), (2, .int a1), (3, .int a2), (4, .int a3)]) hx hb dX11_rowsWith_57 hl (by decide) rfl (fun ls hl => ?_)
            obtain ⟨x13, e13⟩ : ∃ t : Int32, t = w1_6 + 1 := ⟨_, rfl⟩
            refine lv_iinc (v := x13) (lv' := [(6, .int x13), (5, .int x12), (7, .int x7), (0, .ref (o + 0)), (1, .int a0), (2, .int a1), (3, .int a2), (4, .int a3)]) hx hb dX11_rowsWith_59 hl (k := 2) rfl (by rw [e13]; rfl) (by decide) rfl (fun ls hl => ?_)
            have t13 : x13.toInt = w1_6.toInt + (1 : Int) := ga_add e13 rfl rfl (by omega) (by omega)
            refine lv_goto (tgt := 6) hx hb dX11_rowsWith_62 (by decide) ?_
            exact ih1 x13 x12 (show (2000 - x13.toInt : Int) < (n1 : Int) from by omega) ⟨by omega, by omega⟩ _ _ hP hS _ (lv_sub hl [0, 1, 3, 4, 5, 6, 7] rfl)
        · have t4 : a2.toInt < (0 : Int) := gl_nle c4
          refine lv_iconst (v := 0) hx hb dX11_rowsWith_21 (by decide) ?_
          refine lv_goto (tgt := 34) hx hb dX11_rowsWith_22 (by decide) ?_
          refine lv_iadd hx hb dX11_rowsWith_34 ?_
          refine lv_topi (fun x14 e14 => ?_)
          have gb14_0 := gl_b a3
          have gb14_1 := gl_b w1_6
          have gb14_2 := gl_b x2
          have gb14_3 := gl_b a2
          have t14 : x14.toInt = a3.toInt + (0 : Int) := ga_add e14 rfl rfl (by omega) (by omega)
          refine lv_istore (lv' := [(7, .int x14), (6, .int w1_6), (5, .int w1_5), (0, .ref (o + 0)), (1, .int a0), (2, .int a1), (3, .int a2), (4, .int a3)]) hx hb dX11_rowsWith_35 hl (by decide) rfl (fun ls hl => ?_)
          refine lv_iload hx hb dX11_rowsWith_37 (lv_at hl 2 rfl) ?_
          refine lv_aload_n hx hb dX11_rowsWith_39 rfl (lv_at hl 3 rfl) ?_
          refine lv_iload hx hb dX11_rowsWith_40 (lv_at hl 1 rfl) ?_
          refine lv_iload_n hx hb dX11_rowsWith_42 rfl (lv_at hl 4 rfl) ?_
          refine qc_Vip (As := [.int w1_6, .int a0]) (rest := [.int w1_5]) (k0 := 2) (m_ageNow l D ca o b z y J0 w1_6 a0 ⟨by omega, by omega⟩ ⟨by omega, by omega⟩) kc_yX11_ageNow ⟨hx, hb, hml, hown, hts⟩ wq_1473 rfl rfl ⟨Nat.le_of_ble_eq_true rfl, Nat.le_of_ble_eq_true rfl⟩ wq_all hP hK hS qw_Ai (q0 := 0) (by decide) (hgM_0 ca o _ _) rfl rfl hl.1 rfl (Nat.le_of_ble_eq_true rfl) dX11_rowsWith_43 ⟨Nat.zero_le _, Nat.zero_le _⟩ (fun r15 H locs h15 hP hS _ _ => ?_)
          refine lv_iload hx hb dX11_rowsWith_46 (lv_at hl 0 rfl) ?_
          refine lv_icmp_ne (tgt := 55) hx hb dX11_rowsWith_48 (by decide) (fun c16 => ?_) (fun c16 => ?_)
          · have t16 : r15.toInt ≠ x14.toInt := gl_ne c16
            refine lv_iconst (v := 0) hx hb dX11_rowsWith_55 (by decide) ?_
            refine lv_iadd hx hb dX11_rowsWith_56 ?_
            refine lv_topi (fun x17 e17 => ?_)
            have gb17_0 := gl_b w1_5
            have gb17_1 := gl_b w1_6
            have gb17_2 := gl_b x2
            have gb17_3 := gl_b a2
            have gb17_4 := gl_b r15
            have gb17_5 := gl_b x14
            have t17 : x17.toInt = w1_5.toInt + (0 : Int) := ga_add e17 rfl rfl (by omega) (by omega)
            refine lv_istore (lv' := [(5, .int x17), (7, .int x14), (6, .int w1_6), (0, .ref (o + 0)), (1, .int a0), (2, .int a1), (3, .int a2), (4, .int a3)]) hx hb dX11_rowsWith_57 hl (by decide) rfl (fun ls hl => ?_)
            obtain ⟨x18, e18⟩ : ∃ t : Int32, t = w1_6 + 1 := ⟨_, rfl⟩
            refine lv_iinc (v := x18) (lv' := [(6, .int x18), (5, .int x17), (7, .int x14), (0, .ref (o + 0)), (1, .int a0), (2, .int a1), (3, .int a2), (4, .int a3)]) hx hb dX11_rowsWith_59 hl (k := 2) rfl (by rw [e18]; rfl) (by decide) rfl (fun ls hl => ?_)
            have t18 : x18.toInt = w1_6.toInt + (1 : Int) := ga_add e18 rfl rfl (by omega) (by omega)
            refine lv_goto (tgt := 6) hx hb dX11_rowsWith_62 (by decide) ?_
            exact ih1 x18 x17 (show (2000 - x18.toInt : Int) < (n1 : Int) from by omega) ⟨by omega, by omega⟩ _ _ hP hS _ (lv_sub hl [0, 1, 3, 4, 5, 6, 7] rfl)
          · have t16 : r15.toInt = x14.toInt := gl_eq c16
            refine lv_iconst (v := 1) hx hb dX11_rowsWith_51 (by decide) ?_
            refine lv_goto (tgt := 56) hx hb dX11_rowsWith_52 (by decide) ?_
            refine lv_iadd hx hb dX11_rowsWith_56 ?_
            refine lv_topi (fun x19 e19 => ?_)
            refine lv_istore (lv' := [(5, .int x19), (7, .int x14), (6, .int w1_6), (0, .ref (o + 0)), (1, .int a0), (2, .int a1), (3, .int a2), (4, .int a3)]) hx hb dX11_rowsWith_57 hl (by decide) rfl (fun ls hl => ?_)
            obtain ⟨x20, e20⟩ : ∃ t : Int32, t = w1_6 + 1 := ⟨_, rfl⟩
            refine lv_iinc (v := x20) (lv' := [(6, .int x20), (5, .int x19), (7, .int x14), (0, .ref (o + 0)), (1, .int a0), (2, .int a1), (3, .int a2), (4, .int a3)]) hx hb dX11_rowsWith_59 hl (k := 2) rfl (by rw [e20]; rfl) (by decide) rfl (fun ls hl => ?_)
            have t20 : x20.toInt = w1_6.toInt + (1 : Int) := ga_add e20 rfl rfl (by omega) (by omega)
            refine lv_goto (tgt := 6) hx hb dX11_rowsWith_62 (by decide) ?_
            exact ih1 x20 x19 (show (2000 - x20.toInt : Int) < (n1 : Int) from by omega) ⟨by omega, by omega⟩ _ _ hP hS _ (lv_sub hl [0, 1, 3, 4, 5, 6, 7] rfl)
  exact loop1 2001 0 0 (show (2000 - (0 : Int) : Int) < ((2001 : Nat) : Int) from by omega) ⟨by decide, by decide⟩ _ _ hP hS _ (lv_sub hl [0, 1, 2, 3, 4, 5, 6] rfl)
set_option maxRecDepth 100000 in
set_option maxHeartbeats 8000000 in
theorem m_digitsOf (l : Launch) (D : va_G) (ca : Nat → ClassId) (o : Nat) (b z : Nat → Nat → Int32) (y : Nat → Nat → Int64) (J0 : qJM b z) (a0 : Int32)  : qM l yX11_digitsOf cX11_digitsOf 1 (some .int) 1 60 (qPre D vwCl (qT6 ca) o 41 (qG (GM ca o) z y) [.int a0]) (va_Qi (fun r (_ : Unit) => ((1 : Int) ≤ r.toInt ∧ r.toInt ≤ 3)) (qB D vwCl (qT6 ca) o 41 (fun _ : Unit => qG (GM ca o) z y)) (qw_A o 41)) (qw_A o 41) := by
  refine Met.ofW (cc := cX11_digitsOf) (maxL := 1) (ret := (some .int)) (by decide) rfl ?_
  intro p e s m args below meth c s₁ B hml hv
  obtain ⟨rfl, hP, hK⟩ := hv
  have hx := B.exec
  have hb := B.bytes
  have hr := B.returns
  have hts0 := atoms_spec (ws := Cond.code yX11_digitsOf cX11_digitsOf 1 (some .int) :: qtbl) B.pre
  have hts : ∀ w ∈ qtbl, w.before _ s = true := fun w h => hts0 w (List.mem_cons_of_mem _ h)
  have hown : s.vm.findClass RX11 = some m.cls := findClass_of_methodNamed B.named
  have hlocks := B.notSynchronized
  have hS : va_S (qw_A o 41) s.heap s.heap [] := va_S.rf
  have hl := lv_entry ([.int a0]) (n := 1) (Nat.le_of_ble_eq_true rfl)
  rw [lg_entry_eq]
  generalize (lg_sl ([.int a0]) ++ List.replicate (1 - (lg_sl ([.int a0])).length) Slot.unset).toArray = ls at hl ⊢
  have hl : lv_has ls 1 [(0, .int a0)] := hl
  refine lv_iload_n hx hb dX11_digitsOf_0 rfl (lv_at hl 0 rfl) ?_
  refine lv_bipush (v := 10) hx hb dX11_digitsOf_1 (by decide) ?_
  refine lv_icmp_ge (tgt := 10) hx hb dX11_digitsOf_3 (by decide) (fun c1 => ?_) (fun c1 => ?_)
  · have t1 : a0.toInt ≥ (10 : Int) := gl_le c1
    refine lv_iload_n hx hb dX11_digitsOf_10 rfl (lv_at hl 0 rfl) ?_
    refine lv_bipush (v := 100) hx hb dX11_digitsOf_11 (by decide) ?_
    refine lv_icmp_ge (tgt := 20) hx hb dX11_digitsOf_13 (by decide) (fun c2 => ?_) (fun c2 => ?_)
    · have t2 : a0.toInt ≥ (100 : Int) := gl_le c2
      refine lv_iconst (v := 3) hx hb dX11_digitsOf_20 (by decide) ?_
      exact W.iret (v := 3) hx hb hr (fun t ht hW => ⟨⟨3, (), rfl, ⟨by decide, by decide⟩, by rw [ht]; exact hP, va_K.moved hW.alike hK⟩, hS.F ht⟩) hS.2.2 dX11_digitsOf_21
    · have t2 : a0.toInt < (100 : Int) := gl_nle c2
      refine lv_iconst (v := 2) hx hb dX11_digitsOf_16 (by decide) ?_
      refine lv_goto (tgt := 21) hx hb dX11_digitsOf_17 (by decide) ?_
      exact W.iret (v := 2) hx hb hr (fun t ht hW => ⟨⟨2, (), rfl, ⟨by decide, by decide⟩, by rw [ht]; exact hP, va_K.moved hW.alike hK⟩, hS.F ht⟩) hS.2.2 dX11_digitsOf_21
  · have t1 : a0.toInt < (10 : Int) := gl_nle c1
    refine lv_iconst (v := 1) hx hb dX11_digitsOf_6 (by decide) ?_
    refine lv_goto (tgt := 21) hx hb dX11_digitsOf_7 (by decide) ?_
    exact W.iret (v := 1) hx hb hr (fun t ht hW => ⟨⟨1, (), rfl, ⟨by decide, by decide⟩, by rw [ht]; exact hP, va_K.moved hW.alike hK⟩, hS.F ht⟩) hS.2.2 dX11_digitsOf_21
set_option maxRecDepth 100000 in
set_option maxHeartbeats 8000000 in
theorem m_mayBe (l : Launch) (D : va_G) (ca : Nat → ClassId) (o : Nat) (b z : Nat → Nat → Int32) (y : Nat → Nat → Int64) (J0 : qJM b z) (a0 : Int32) (a1 : Int32) (a2 : Int32) (a3 : Int32) (a4 : Int32)  : qM l yX11_mayBe cX11_mayBe 6 none 1 60 (qPre D vwCl (qT6 ca) o 41 (qG (GM ca o) z y) [.ref (o + 0), .int a0, .int a1, .int a2, .int a3, .int a4]) (va_Qv (fun u => qJM b u.1) (qB D vwCl (qT6 ca) o 41 (fun u : qZ => qG (GM ca o) u.1 u.2)) (qw_A o 41)) (qw_A o 41) := by
  refine Met.ofW (cc := cX11_mayBe) (maxL := 6) (ret := none) (by decide) rfl ?_
  intro p e s m args below meth c s₁ B hml hv
  obtain ⟨rfl, hP, hK⟩ := hv
  have hx := B.exec
  have hb := B.bytes
  have hr := B.returns
  have hts0 := atoms_spec (ws := Cond.code yX11_mayBe cX11_mayBe 6 none :: qtbl) B.pre
  have hts : ∀ w ∈ qtbl, w.before _ s = true := fun w h => hts0 w (List.mem_cons_of_mem _ h)
  have hown : s.vm.findClass RX11 = some m.cls := findClass_of_methodNamed B.named
  have hlocks := B.notSynchronized
  have hS : va_S (qw_A o 41) s.heap s.heap [] := va_S.rf
  have hl := lv_entry ([.ref (o + 0), .int a0, .int a1, .int a2, .int a3, .int a4]) (n := 6) (Nat.le_of_ble_eq_true rfl)
  rw [lg_entry_eq]
  generalize (lg_sl ([.ref (o + 0), .int a0, .int a1, .int a2, .int a3, .int a4]) ++ List.replicate (6 - (lg_sl ([.ref (o + 0), .int a0, .int a1, .int a2, .int a3, .int a4])).length) Slot.unset).toArray = ls at hl ⊢
  have hl : lv_has ls 6 [(0, .ref (o + 0)), (1, .int a0), (2, .int a1), (3, .int a2), (4, .int a3), (5, .int a4)] := hl
  refine lv_iload_n hx hb dX11_mayBe_0 rfl (lv_at hl 1 rfl) ?_
  refine lv_aload_n hx hb dX11_mayBe_1 rfl (lv_at hl 0 rfl) ?_
  refine qf_get hx hb hts inX11 hown hK hP (q0 := 0) (by decide) (hgM_0 ca o) rfl 43 (by decide) wq_1035 (v := .int (z 0 43)) rfl dX11_mayBe_2 ?_
  refine lv_topi (fun x1 e1 => ?_)
  refine lv_icmp_gt (tgt := 57) hx hb dX11_mayBe_5 (by decide) (fun c2 => ?_) (fun c2 => ?_)
  · have t2 : a0.toInt > x1.toInt := gl_lt c2
    exact W.vret hx hb hr (fun t ht hW => ⟨⟨(z, y), rfl, J0, by rw [ht]; exact hP, va_K.moved hW.alike hK⟩, hS.F ht⟩) hS.2.2 dX11_mayBe_57
  · have t2 : a0.toInt ≤ x1.toInt := gl_nlt c2
    refine lv_iload_n hx hb dX11_mayBe_8 rfl (lv_at hl 1 rfl) ?_
    refine lv_aload_n hx hb dX11_mayBe_9 rfl (lv_at hl 0 rfl) ?_
    refine qf_get hx hb hts inX11 hown hK hP (q0 := 0) (by decide) (hgM_0 ca o) rfl 43 (by decide) wq_1035 (v := .int (z 0 43)) rfl dX11_mayBe_10 ?_
    refine lv_topi (fun x3 e3 => ?_)
    have ag3 : x3.toInt = x1.toInt := congrArg Int32.toInt (e3.trans e1.symm)
    refine lv_icmp_ne (tgt := 58) hx hb dX11_mayBe_13 (by decide) (fun c4 => ?_) (fun c4 => ?_)
    · have t4 : a0.toInt ≠ x3.toInt := gl_ne c4
      refine lv_aload_n hx hb dX11_mayBe_58 rfl (lv_at hl 0 rfl) ?_
      refine lv_iload_n hx hb dX11_mayBe_59 rfl (lv_at hl 1 rfl) ?_
      refine qf_put2 hx hb hts inX11 tyX11 tyX11_ok nmX11 hown hK hP hS qw_Ai (q0 := 0) (by decide) (hgM_0 ca o) rfl 43 (by decide) wq_1035 rfl (x := a0) 43 rfl rfl rfl (Nat.le_of_ble_eq_true rfl) dX11_mayBe_60 (fun z5 H locs hz5 hP hS => ?_)
      have J5 := jM_0_43 J0 hz5
      refine lv_aload_n hx hb dX11_mayBe_63 rfl (lv_at hl 0 rfl) ?_
      refine lv_iload_n hx hb dX11_mayBe_64 rfl (lv_at hl 2 rfl) ?_
      refine qf_put2 hx hb hts inX11 tyX11 tyX11_ok nmX11 hown hK hP hS qw_Ai (q0 := 0) (by decide) (hgM_0 ca o) rfl 44 (by decide) wq_1036 rfl (x := a1) 44 rfl rfl rfl (Nat.le_of_ble_eq_true rfl) dX11_mayBe_65 (fun z6 H locs hz6 hP hS => ?_)
      have J6 := jM_0_44 J5 hz6
      refine lv_aload_n hx hb dX11_mayBe_68 rfl (lv_at hl 0 rfl) ?_
      refine lv_iload_n hx hb dX11_mayBe_69 rfl (lv_at hl 3 rfl) ?_
      refine qf_put2 hx hb hts inX11 tyX11 tyX11_ok nmX11 hown hK hP hS qw_Ai (q0 := 0) (by decide) (hgM_0 ca o) rfl 45 (by decide) wq_1037 rfl (x := a2) 45 rfl rfl rfl (Nat.le_of_ble_eq_true rfl) dX11_mayBe_70 (fun z7 H locs hz7 hP hS => ?_)
      have J7 := jM_0_45 J6 hz7
      refine lv_aload_n hx hb dX11_mayBe_73 rfl (lv_at hl 0 rfl) ?_
      refine lv_iload hx hb dX11_mayBe_74 (lv_at hl 4 rfl) ?_
      refine qf_put2 hx hb hts inX11 tyX11 tyX11_ok nmX11 hown hK hP hS qw_Ai (q0 := 0) (by decide) (hgM_0 ca o) rfl 46 (by decide) wq_1038 rfl (x := a3) 46 rfl rfl rfl (Nat.le_of_ble_eq_true rfl) dX11_mayBe_76 (fun z8 H locs hz8 hP hS => ?_)
      have J8 := jM_0_46 J7 hz8
      refine lv_aload_n hx hb dX11_mayBe_79 rfl (lv_at hl 0 rfl) ?_
      refine lv_iload hx hb dX11_mayBe_80 (lv_at hl 5 rfl) ?_
      refine qf_put2 hx hb hts inX11 tyX11 tyX11_ok nmX11 hown hK hP hS qw_Ai (q0 := 0) (by decide) (hgM_0 ca o) rfl 47 (by decide) wq_1039 rfl (x := a4) 47 rfl rfl rfl (Nat.le_of_ble_eq_true rfl) dX11_mayBe_82 (fun z9 H locs hz9 hP hS => ?_)
      have J9 := jM_0_47 J8 hz9
      exact W.vret hx hb hr (fun t ht hW => ⟨⟨(z9, y), rfl, J9, by rw [ht]; exact hP, va_K.moved hW.alike hK⟩, hS.F ht⟩) hS.2.2 dX11_mayBe_85
    · have t4 : a0.toInt = x3.toInt := gl_eq c4
      refine lv_iload_n hx hb dX11_mayBe_16 rfl (lv_at hl 2 rfl) ?_
      refine lv_aload_n hx hb dX11_mayBe_17 rfl (lv_at hl 0 rfl) ?_
      refine qf_get hx hb hts inX11 hown hK hP (q0 := 0) (by decide) (hgM_0 ca o) rfl 44 (by decide) wq_1036 (v := .int (z 0 44)) rfl dX11_mayBe_18 ?_
      refine lv_topi (fun x10 e10 => ?_)
      refine lv_icmp_gt (tgt := 57) hx hb dX11_mayBe_21 (by decide) (fun c11 => ?_) (fun c11 => ?_)
      · have t11 : a1.toInt > x10.toInt := gl_lt c11
        exact W.vret hx hb hr (fun t ht hW => ⟨⟨(z, y), rfl, J0, by rw [ht]; exact hP, va_K.moved hW.alike hK⟩, hS.F ht⟩) hS.2.2 dX11_mayBe_57
      · have t11 : a1.toInt ≤ x10.toInt := gl_nlt c11
        refine lv_iload_n hx hb dX11_mayBe_24 rfl (lv_at hl 2 rfl) ?_
        refine lv_aload_n hx hb dX11_mayBe_25 rfl (lv_at hl 0 rfl) ?_
        refine qf_get hx hb hts inX11 hown hK hP (q0 := 0) (by decide) (hgM_0 ca o) rfl 44 (by decide) wq_1036 (v := .int (z 0 44)) rfl dX11_mayBe_26 ?_
        refine lv_topi (fun x12 e12 => ?_)
        have ag12 : x12.toInt = x10.toInt := congrArg Int32.toInt (e12.trans e10.symm)
        refine lv_icmp_ne (tgt := 58) hx hb dX11_mayBe_29 (by decide) (fun c13 => ?_) (fun c13 => ?_)
        · have t13 : a1.toInt ≠ x12.toInt := gl_ne c13
          refine lv_aload_n hx hb dX11_mayBe_58 rfl (lv_at hl 0 rfl) ?_
          refine lv_iload_n hx hb dX11_mayBe_59 rfl (lv_at hl 1 rfl) ?_
          refine qf_put2 hx hb hts inX11 tyX11 tyX11_ok nmX11 hown hK hP hS qw_Ai (q0 := 0) (by decide) (hgM_0 ca o) rfl 43 (by decide) wq_1035 rfl (x := a0) 43 rfl rfl rfl (Nat.le_of_ble_eq_true rfl) dX11_mayBe_60 (fun z14 H locs hz14 hP hS => ?_)
          have J14 := jM_0_43 J0 hz14
          refine lv_aload_n hx hb dX11_mayBe_63 rfl (lv_at hl 0 rfl) ?_
          refine lv_iload_n hx hb dX11_mayBe_64 rfl (lv_at hl 2 rfl) ?_
          refine qf_put2 hx hb hts inX11 tyX11 tyX11_ok nmX11 hown hK hP hS qw_Ai (q0 := 0) (by decide) (hgM_0 ca o) rfl 44 (by decide) wq_1036 rfl (x := a1) 44 rfl rfl rfl (Nat.le_of_ble_eq_true rfl) dX11_mayBe_65 (fun z15 H locs hz15 hP hS => ?_)
          have J15 := jM_0_44 J14 hz15
          refine lv_aload_n hx hb dX11_mayBe_68 rfl (lv_at hl 0 rfl) ?_
          refine lv_iload_n hx hb dX11_mayBe_69 rfl (lv_at hl 3 rfl) ?_
          refine qf_put2 hx hb hts inX11 tyX11 tyX11_ok nmX11 hown hK hP hS qw_Ai (q0 := 0) (by decide) (hgM_0 ca o) rfl 45 (by decide) wq_1037 rfl (x := a2) 45 rfl rfl rfl (Nat.le_of_ble_eq_true rfl) dX11_mayBe_70 (fun z16 H locs hz16 hP hS => ?_)
          have J16 := jM_0_45 J15 hz16
          refine lv_aload_n hx hb dX11_mayBe_73 rfl (lv_at hl 0 rfl) ?_
          refine lv_iload hx hb dX11_mayBe_74 (lv_at hl 4 rfl) ?_
          refine qf_put2 hx hb hts inX11 tyX11 tyX11_ok nmX11 hown hK hP hS qw_Ai (q0 := 0) (by decide) (hgM_0 ca o) rfl 46 (by decide) wq_1038 rfl (x := a3) 46 rfl rfl rfl (Nat.le_of_ble_eq_true rfl) dX11_mayBe_76 (fun z17 H locs hz17 hP hS => ?_)
          have J17 := jM_0_46 J16 hz17
          refine lv_aload_n hx hb dX11_mayBe_79 rfl (lv_at hl 0 rfl) ?_
          refine lv_iload hx hb dX11_mayBe_80 (lv_at hl 5 rfl) ?_
          refine qf_put2 hx hb hts inX11 tyX11 tyX11_ok nmX11 hown hK hP hS qw_Ai (q0 := 0) (by decide) (hgM_0 ca o) rfl 47 (by decide) wq_1039 rfl (x := a4) 47 rfl rfl rfl (Nat.le_of_ble_eq_true rfl) dX11_mayBe_82 (fun z18 H locs hz18 hP hS => ?_)
          have J18 := jM_0_47 J17 hz18
          exact W.vret hx hb hr (fun t ht hW => ⟨⟨(z18, y), rfl, J18, by rw [ht]; exact hP, va_K.moved hW.alike hK⟩, hS.F ht⟩) hS.2.2 dX11_mayBe_85
        · have t13 : a1.toInt = x12.toInt := gl_eq c13
          refine lv_iload_n hx hb dX11_mayBe_32 rfl (lv_at hl 3 rfl) ?_
          refine lv_aload_n hx hb dX11_mayBe_33 rfl (lv_at hl 0 rfl) ?_
          refine qf_get hx hb hts inX11 hown hK hP (q0 := 0) (by decide) (hgM_0 ca o) rfl 45 (by decide) wq_1037 (v := .int (z 0 45)) rfl dX11_mayBe_34 ?_
          refine lv_topi (fun x19 e19 => ?_)
          refine lv_icmp_gt (tgt := 57) hx hb dX11_mayBe_37 (by decide) (fun c20 => ?_) (fun c20 => ?_)
          · have t20 : a2.toInt > x19.toInt := gl_lt c20
            exact W.vret hx hb hr (fun t ht hW => ⟨⟨(z, y), rfl, J0, by rw [ht]; exact hP, va_K.moved hW.alike hK⟩, hS.F ht⟩) hS.2.2 dX11_mayBe_57
          · have t20 : a2.toInt ≤ x19.toInt := gl_nlt c20
            refine lv_iload_n hx hb dX11_mayBe_40 rfl (lv_at hl 3 rfl) ?_
            refine lv_aload_n hx hb dX11_mayBe_41 rfl (lv_at hl 0 rfl) ?_
            refine qf_get hx hb hts inX11 hown hK hP (q0 := 0) (by decide) (hgM_0 ca o) rfl 45 (by decide) wq_1037 (v := .int (z 0 45)) rfl dX11_mayBe_42 ?_
            refine lv_topi (fun x21 e21 => ?_)
            have ag21 : x21.toInt = x19.toInt := congrArg Int32.toInt (e21.trans e19.symm)
            refine lv_icmp_ne (tgt := 58) hx hb dX11_mayBe_45 (by decide) (fun c22 => ?_) (fun c22 => ?_)
            · have t22 : a2.toInt ≠ x21.toInt := gl_ne c22
              refine lv_aload_n hx hb dX11_mayBe_58 rfl (lv_at hl 0 rfl) ?_
              refine lv_iload_n hx hb dX11_mayBe_59 rfl (lv_at hl 1 rfl) ?_
              refine qf_put2 hx hb hts inX11 tyX11 tyX11_ok nmX11 hown hK hP hS qw_Ai (q0 := 0) (by decide) (hgM_0 ca o) rfl 43 (by decide) wq_1035 rfl (x := a0) 43 rfl rfl rfl (Nat.le_of_ble_eq_true rfl) dX11_mayBe_60 (fun z23 H locs hz23 hP hS => ?_)
              have J23 := jM_0_43 J0 hz23
              refine lv_aload_n hx hb dX11_mayBe_63 rfl (lv_at hl 0 rfl) ?_
              refine lv_iload_n hx hb dX11_mayBe_64 rfl (lv_at hl 2 rfl) ?_
              refine qf_put2 hx hb hts inX11 tyX11 tyX11_ok nmX11 hown hK hP hS qw_Ai (q0 := 0) (by decide) (hgM_0 ca o) rfl 44 (by decide) wq_1036 rfl (x := a1) 44 rfl rfl rfl (Nat.le_of_ble_eq_true rfl) dX11_mayBe_65 (fun z24 H locs hz24 hP hS => ?_)
              have J24 := jM_0_44 J23 hz24
              refine lv_aload_n hx hb dX11_mayBe_68 rfl (lv_at hl 0 rfl) ?_
              refine lv_iload_n hx hb dX11_mayBe_69 rfl (lv_at hl 3 rfl) ?_
              refine qf_put2 hx hb hts inX11 tyX11 tyX11_ok nmX11 hown hK hP hS qw_Ai (q0 := 0) (by decide) (hgM_0 ca o) rfl 45 (by decide) wq_1037 rfl (x := a2) 45 rfl rfl rfl (Nat.le_of_ble_eq_true rfl) dX11_mayBe_70 (fun z25 H locs hz25 hP hS => ?_)
              have J25 := jM_0_45 J24 hz25
              refine lv_aload_n hx hb dX11_mayBe_73 rfl (lv_at hl 0 rfl) ?_
              refine lv_iload hx hb dX11_mayBe_74 (lv_at hl 4 rfl) ?_
              refine qf_put2 hx hb hts inX11 tyX11 tyX11_ok nmX11 hown hK hP hS qw_Ai (q0 := 0) (by decide) (hgM_0 ca o) rfl 46 (by decide) wq_1038 rfl (x := a3) 46 rfl rfl rfl (Nat.le_of_ble_eq_true rfl) dX11_mayBe_76 (fun z26 H locs hz26 hP hS => ?_)
              have J26 := jM_0_46 J25 hz26
              refine lv_aload_n hx hb dX11_mayBe_79 rfl (lv_at hl 0 rfl) ?_
              refine lv_iload hx hb dX11_mayBe_80 (lv_at hl 5 rfl) ?_
              refine qf_put2 hx hb hts inX11 tyX11 tyX11_ok nmX11 hown hK hP hS qw_Ai (q0 := 0) (by decide) (hgM_0 ca o) rfl 47 (by decide) wq_1039 rfl (x := a4) 47 rfl rfl rfl (Nat.le_of_ble_eq_true rfl) dX11_mayBe_82 (fun z27 H locs hz27 hP hS => ?_)
              have J27 := jM_0_47 J26 hz27
              exact W.vret hx hb hr (fun t ht hW => ⟨⟨(z27, y), rfl, J27, by rw [ht]; exact hP, va_K.moved hW.alike hK⟩, hS.F ht⟩) hS.2.2 dX11_mayBe_85
            · have t22 : a2.toInt = x21.toInt := gl_eq c22
              refine lv_iload hx hb dX11_mayBe_48 (lv_at hl 4 rfl) ?_
              refine lv_aload_n hx hb dX11_mayBe_50 rfl (lv_at hl 0 rfl) ?_
              refine qf_get hx hb hts inX11 hown hK hP (q0 := 0) (by decide) (hgM_0 ca o) rfl 46 (by decide) wq_1038 (v := .int (z 0 46)) rfl dX11_mayBe_51 ?_
              refine lv_topi (fun x28 e28 => ?_)
              refine lv_icmp_lt (tgt := 58) hx hb dX11_mayBe_54 (by decide) (fun c29 => ?_) (fun c29 => ?_)
              · have t29 : a3.toInt < x28.toInt := gl_lt c29
                refine lv_aload_n hx hb dX11_mayBe_58 rfl (lv_at hl 0 rfl) ?_
                refine lv_iload_n hx hb dX11_mayBe_59 rfl (lv_at hl 1 rfl) ?_
                refine qf_put2 hx hb hts inX11 tyX11 tyX11_ok nmX11 hown hK hP hS qw_Ai (q0 := 0) (by decide) (hgM_0 ca o) rfl 43 (by decide) wq_1035 rfl (x := a0) 43 rfl rfl rfl (Nat.le_of_ble_eq_true rfl) dX11_mayBe_60 (fun z30 H locs hz30 hP hS => ?_)
                have J30 := jM_0_43 J0 hz30
                refine lv_aload_n hx hb dX11_mayBe_63 rfl (lv_at hl 0 rfl) ?_
                refine lv_iload_n hx hb dX11_mayBe_64 rfl (lv_at hl 2 rfl) ?_
                refine qf_put2 hx hb hts inX11 tyX11 tyX11_ok nmX11 hown hK hP hS qw_Ai (q0 := 0) (by decide) (hgM_0 ca o) rfl 44 (by decide) wq_1036 rfl (x := a1) 44 rfl rfl rfl (Nat.le_of_ble_eq_true rfl) dX11_mayBe_65 (fun z31 H locs hz31 hP hS => ?_)
                have J31 := jM_0_44 J30 hz31
                refine lv_aload_n hx hb dX11_mayBe_68 rfl (lv_at hl 0 rfl) ?_
                refine lv_iload_n hx hb dX11_mayBe_69 rfl (lv_at hl 3 rfl) ?_
                refine qf_put2 hx hb hts inX11 tyX11 tyX11_ok nmX11 hown hK hP hS qw_Ai (q0 := 0) (by decide) (hgM_0 ca o) rfl 45 (by decide) wq_1037 rfl (x := a2) 45 rfl rfl rfl (Nat.le_of_ble_eq_true rfl) dX11_mayBe_70 (fun z32 H locs hz32 hP hS => ?_)
                have J32 := jM_0_45 J31 hz32
                refine lv_aload_n hx hb dX11_mayBe_73 rfl (lv_at hl 0 rfl) ?_
                refine lv_iload hx hb dX11_mayBe_74 (lv_at hl 4 rfl) ?_
                refine qf_put2 hx hb hts inX11 tyX11 tyX11_ok nmX11 hown hK hP hS qw_Ai (q0 := 0) (by decide) (hgM_0 ca o) rfl 46 (by decide) wq_1038 rfl (x := a3) 46 rfl rfl rfl (Nat.le_of_ble_eq_true rfl) dX11_mayBe_76 (fun z33 H locs hz33 hP hS => ?_)
                have J33 := jM_0_46 J32 hz33
                refine lv_aload_n hx hb dX11_mayBe_79 rfl (lv_at hl 0 rfl) ?_
                refine lv_iload hx hb dX11_mayBe_80 (lv_at hl 5 rfl) ?_
                refine qf_put2 hx hb hts inX11 tyX11 tyX11_ok nmX11 hown hK hP hS qw_Ai (q0 := 0) (by decide) (hgM_0 ca o) rfl 47 (by decide) wq_1039 rfl (x := a4) 47 rfl rfl rfl (Nat.le_of_ble_eq_true rfl) dX11_mayBe_82 (fun z34 H locs hz34 hP hS => ?_)
                have J34 := jM_0_47 J33 hz34
                exact W.vret hx hb hr (fun t ht hW => ⟨⟨(z34, y), rfl, J34, by rw [ht]; exact hP, va_K.moved hW.alike hK⟩, hS.F ht⟩) hS.2.2 dX11_mayBe_85
              · have t29 : a3.toInt ≥ x28.toInt := gl_nlt c29
                exact W.vret hx hb hr (fun t ht hW => ⟨⟨(z, y), rfl, J0, by rw [ht]; exact hP, va_K.moved hW.alike hK⟩, hS.F ht⟩) hS.2.2 dX11_mayBe_57
set_option maxRecDepth 100000 in
set_option maxHeartbeats 8000000 in
theorem m_triesTwo (l : Launch) (D : va_G) (ca : Nat → ClassId) (o : Nat) (b z : Nat → Nat → Int32) (y : Nat → Nat → Int64) (J0 : qJM b z) (a0 : Int32) (a1 : Int32) (ha0 : (0 : Int) ≤ a0.toInt ∧ a0.toInt ≤ 5) (ha1 : (0 : Int) ≤ a1.toInt ∧ a1.toInt ≤ 5) : qM l yX11_triesTwo cX11_triesTwo 5 none 4 130 (qPre D vwCl (qT6 ca) o 41 (qG (GM ca o) z y) [.ref (o + 0), .int a0, .int a1]) (va_Qv (fun u => qJM b u.1) (qB D vwCl (qT6 ca) o 41 (fun u : qZ => qG (GM ca o) u.1 u.2)) (qw_A o 41)) (qw_A o 41) := by
  refine Met.ofW (cc := cX11_triesTwo) (maxL := 5) (ret := none) (by decide) rfl ?_
  intro p e s m args below meth c s₁ B hml hv
  obtain ⟨rfl, hP, hK⟩ := hv
  have hx := B.exec
  have hb := B.bytes
  have hr := B.returns
  have hts0 := atoms_spec (ws := Cond.code yX11_triesTwo cX11_triesTwo 5 none :: qtbl) B.pre
  have hts : ∀ w ∈ qtbl, w.before _ s = true := fun w h => hts0 w (List.mem_cons_of_mem _ h)
  have hown : s.vm.findClass RX11 = some m.cls := findClass_of_methodNamed B.named
  have hlocks := B.notSynchronized
  have hS : va_S (qw_A o 41) s.heap s.heap [] := va_S.rf
  have hl := lv_entry ([.ref (o + 0), .int a0, .int a1]) (n := 5) (Nat.le_of_ble_eq_true rfl)
  rw [lg_entry_eq]
  generalize (lg_sl ([.ref (o + 0), .int a0, .int a1]) ++ List.replicate (5 - (lg_sl ([.ref (o + 0), .int a0, .int a1])).length) Slot.unset).toArray = ls at hl ⊢
  have hl : lv_has ls 5 [(0, .ref (o + 0)), (1, .int a0), (2, .int a1)] := hl
  refine lv_aload_n hx hb dX11_triesTwo_0 rfl (lv_at hl 0 rfl) ?_
  refine lv_iconst (v := 0) hx hb dX11_triesTwo_1 (by decide) ?_
  refine lv_iload_n hx hb dX11_triesTwo_2 rfl (lv_at hl 1 rfl) ?_
  refine qc_Vip (As := [.int 0, .int a0]) (rest := []) (k0 := 2) (m_ageNow l D ca o b z y J0 0 a0 ⟨by decide, by decide⟩ ⟨by omega, by omega⟩) kc_yX11_ageNow ⟨hx, hb, hml, hown, hts⟩ wq_1473 rfl rfl ⟨Nat.le_of_ble_eq_true rfl, Nat.le_of_ble_eq_true rfl⟩ wq_all hP hK hS qw_Ai (q0 := 0) (by decide) (hgM_0 ca o _ _) rfl rfl hl.1 rfl (Nat.le_of_ble_eq_true rfl) dX11_triesTwo_3 ⟨Nat.zero_le _, Nat.zero_le _⟩ (fun r1 H locs h1 hP hS _ _ => ?_)
  refine lv_aload_n hx hb dX11_triesTwo_6 rfl (lv_at hl 0 rfl) ?_
  refine lv_iconst (v := 0) hx hb dX11_triesTwo_7 (by decide) ?_
  refine lv_iload_n hx hb dX11_triesTwo_8 rfl (lv_at hl 2 rfl) ?_
  refine qc_Vip (As := [.int 0, .int a1]) (rest := [.int r1]) (k0 := 2) (m_ageNow l D ca o b z y J0 0 a1 ⟨by decide, by decide⟩ ⟨by omega, by omega⟩) kc_yX11_ageNow ⟨hx, hb, hml, hown, hts⟩ wq_1473 rfl rfl ⟨Nat.le_of_ble_eq_true rfl, Nat.le_of_ble_eq_true rfl⟩ wq_all hP hK hS qw_Ai (q0 := 0) (by decide) (hgM_0 ca o _ _) rfl rfl hl.1 rfl (Nat.le_of_ble_eq_true rfl) dX11_triesTwo_9 ⟨Nat.zero_le _, Nat.zero_le _⟩ (fun r2 H locs h2 hP hS _ _ => ?_)
  refine lv_isub hx hb dX11_triesTwo_12 ?_
  refine lv_topi (fun x3 e3 => ?_)
  refine lv_istore_n (lv' := [(3, .int x3), (0, .ref (o + 0)), (1, .int a0), (2, .int a1)]) hx hb dX11_triesTwo_13 rfl hl (by decide) rfl (fun ls hl => ?_)
  refine lv_iload_n hx hb dX11_triesTwo_14 rfl (lv_at hl 0 rfl) ?_
  refine lv_if_le (tgt := 44) hx hb dX11_triesTwo_15 (by decide) (fun c4 => ?_) (fun c4 => ?_)
  · have t4 : x3.toInt ≤ (0 : Int) := gl_le c4
    refine lv_iconst (v := 2) hx hb dX11_triesTwo_44 (by decide) ?_
    refine lv_istore (lv' := [(4, .int 2), (3, .int x3), (0, .ref (o + 0)), (1, .int a0), (2, .int a1)]) hx hb dX11_triesTwo_45 hl (by decide) rfl (fun ls hl => ?_)
    have loop5 : ∀ (n : Nat) (w5_4 : Int32) (z5 : Nat → Nat → Int32) (y5 : Nat → Nat → Int64), ((100 - w5_4.toInt : Int) < (n : Int)) → ((2 : Int) ≤ w5_4.toInt ∧ w5_4.toInt ≤ 100) → (qJM b z5) → ∀ (H : Heap) (locs : List Loc), qw_P D vwCl o 41 (qG (GM ca o) z5 y5) H → va_S (qw_A o 41) s.heap H locs → ∀ (ls : Array Slot), lv_has ls 5 [(4, .int w5_4), (3, .int x3), (0, .ref (o + 0)), (1, .int a0), (2, .int a1)] → W p l e (headSpec (Cond.code yX11_triesTwo cX11_triesTwo 5 none :: qtbl) ({ frames := 4, cells := 0, slots := 0, locals := 130 })).room s m (([.ref (o + 0), .int a0, .int a1] : List Value).toArray) below meth c H locs 0 0 (MQ below (va_Qv (fun u => qJM b u.1) (qB D vwCl (qT6 ca) o 41 (fun u : qZ => qG (GM ca o) u.1 u.2)) (qw_A o 41)) (([.ref (o + 0), .int a0, .int a1] : List Value).toArray) s 0 0 (qw_A o 41)) (F0 m 47 ls []) := by
      intro n
      induction n with
      | zero => intro w5_4 z5 y5 hb5 hv5_4 J5; exfalso; omega
      | succ n5 ih5 =>
        intro w5_4 z5 y5 hb5 hv5_4 J5 H locs hP hS ls hl
        refine lv_iload hx hb dX11_triesTwo_47 (lv_at hl 0 rfl) ?_
        refine lv_bipush (v := 99) hx hb dX11_triesTwo_49 (by decide) ?_
        refine lv_icmp_gt (tgt := 119) hx hb dX11_triesTwo_51 (by decide) (fun c6 => ?_) (fun c6 => ?_)
        · have t6 : w5_4.toInt > (99 : Int) := gl_lt c6
          exact W.vret hx hb hr (fun t ht hW => ⟨⟨(z5, y5), rfl, J5, by rw [ht]; exact hP, va_K.moved hW.alike hK⟩, hS.F ht⟩) hS.2.2 dX11_triesTwo_119
        · have t6 : w5_4.toInt ≤ (99 : Int) := gl_nlt c6
          refine lv_aload_n hx hb dX11_triesTwo_54 rfl (lv_at hl 2 rfl) ?_
          refine lv_iconst (v := 0) hx hb dX11_triesTwo_55 (by decide) ?_
          refine lv_iload_n hx hb dX11_triesTwo_56 rfl (lv_at hl 4 rfl) ?_
          refine qc_Vip (As := [.int 0, .int a1]) (rest := []) (k0 := 2) (m_ageNow l D ca o b z5 y5 J5 0 a1 ⟨by decide, by decide⟩ ⟨by omega, by omega⟩) kc_yX11_ageNow ⟨hx, hb, hml, hown, hts⟩ wq_1473 rfl rfl ⟨Nat.le_of_ble_eq_true rfl, Nat.le_of_ble_eq_true rfl⟩ wq_all hP hK hS qw_Ai (q0 := 0) (by decide) (hgM_0 ca o _ _) rfl rfl hl.1 rfl (Nat.le_of_ble_eq_true rfl) dX11_triesTwo_57 ⟨Nat.zero_le _, Nat.zero_le _⟩ (fun r7 H locs h7 hP hS _ _ => ?_)
          refine lv_if_eq (tgt := 113) hx hb dX11_triesTwo_60 (by decide) (fun c8 => ?_) (fun c8 => ?_)
          · have t8 : r7.toInt = (0 : Int) := gl_eq c8
            obtain ⟨x9, e9⟩ : ∃ t : Int32, t = w5_4 + 1 := ⟨_, rfl⟩
            refine lv_iinc (v := x9) (lv' := [(4, .int x9), (3, .int x3), (0, .ref (o + 0)), (1, .int a0), (2, .int a1)]) hx hb dX11_triesTwo_113 hl (k := 0) rfl (by rw [e9]; rfl) (by decide) rfl (fun ls hl => ?_)
            have t9 : x9.toInt = w5_4.toInt + (1 : Int) := ga_add e9 rfl rfl (by omega) (by omega)
            refine lv_goto (tgt := 47) hx hb dX11_triesTwo_116 (by decide) ?_
            exact ih5 x9 z5 y5 (show (100 - x9.toInt : Int) < (n5 : Int) from by omega) ⟨by omega, by omega⟩ J5 _ _ hP hS _ (lv_sub hl [0, 1, 2, 3, 4] rfl)
          · have t8 : r7.toInt ≠ (0 : Int) := gl_ne c8
            refine lv_aload_n hx hb dX11_triesTwo_63 rfl (lv_at hl 2 rfl) ?_
            refine lv_iconst (v := 0) hx hb dX11_triesTwo_64 (by decide) ?_
            refine lv_iload_n hx hb dX11_triesTwo_65 rfl (lv_at hl 3 rfl) ?_
            refine qc_Vip (As := [.int 0, .int a0]) (rest := []) (k0 := 2) (m_ageNow l D ca o b z5 y5 J5 0 a0 ⟨by decide, by decide⟩ ⟨by omega, by omega⟩) kc_yX11_ageNow ⟨hx, hb, hml, hown, hts⟩ wq_1473 rfl rfl ⟨Nat.le_of_ble_eq_true rfl, Nat.le_of_ble_eq_true rfl⟩ wq_all hP hK hS qw_Ai (q0 := 0) (by decide) (hgM_0 ca o _ _) rfl rfl hl.1 rfl (Nat.le_of_ble_eq_true rfl) dX11_triesTwo_66 ⟨Nat.zero_le _, Nat.zero_le _⟩ (fun r10 H locs h10 hP hS _ _ => ?_)
            refine lv_iload hx hb dX11_triesTwo_69 (lv_at hl 0 rfl) ?_
            refine lv_aload_n hx hb dX11_triesTwo_71 rfl (lv_at hl 2 rfl) ?_
            refine lv_iconst (v := 0) hx hb dX11_triesTwo_72 (by decide) ?_
            refine lv_iload_n hx hb dX11_triesTwo_73 rfl (lv_at hl 4 rfl) ?_
            refine qc_Vip (As := [.int 0, .int a1]) (rest := [.int w5_4, .int r10]) (k0 := 2) (m_ageNow l D ca o b z5 y5 J5 0 a1 ⟨by decide, by decide⟩ ⟨by omega, by omega⟩) kc_yX11_ageNow ⟨hx, hb, hml, hown, hts⟩ wq_1473 rfl rfl ⟨Nat.le_of_ble_eq_true rfl, Nat.le_of_ble_eq_true rfl⟩ wq_all hP hK hS qw_Ai (q0 := 0) (by decide) (hgM_0 ca o _ _) rfl rfl hl.1 rfl (Nat.le_of_ble_eq_true rfl) dX11_triesTwo_74 ⟨Nat.zero_le _, Nat.zero_le _⟩ (fun r11 H locs h11 hP hS _ _ => ?_)
            refine lv_imul hx hb dX11_triesTwo_77 ?_
            refine lv_topi (fun x12 e12 => ?_)
            refine lv_icmp_ne (tgt := 113) hx hb dX11_triesTwo_78 (by decide) (fun c13 => ?_) (fun c13 => ?_)
            · have t13 : r10.toInt ≠ x12.toInt := gl_ne c13
              obtain ⟨x14, e14⟩ : ∃ t : Int32, t = w5_4 + 1 := ⟨_, rfl⟩
              refine lv_iinc (v := x14) (lv' := [(4, .int x14), (3, .int x3), (0, .ref (o + 0)), (1, .int a0), (2, .int a1)]) hx hb dX11_triesTwo_113 hl (k := 0) rfl (by rw [e14]; rfl) (by decide) rfl (fun ls hl => ?_)
              have t14 : x14.toInt = w5_4.toInt + (1 : Int) := ga_add e14 rfl rfl (by omega) (by omega)
              refine lv_goto (tgt := 47) hx hb dX11_triesTwo_116 (by decide) ?_
              exact ih5 x14 z5 y5 (show (100 - x14.toInt : Int) < (n5 : Int) from by omega) ⟨by omega, by omega⟩ J5 _ _ hP hS _ (lv_sub hl [0, 1, 2, 3, 4] rfl)
            · have t13 : r10.toInt = x12.toInt := gl_eq c13
              refine lv_aload_n hx hb dX11_triesTwo_81 rfl (lv_at hl 2 rfl) ?_
              refine lv_iload_n hx hb dX11_triesTwo_82 rfl (lv_at hl 3 rfl) ?_
              refine lv_iload hx hb dX11_triesTwo_83 (lv_at hl 0 rfl) ?_
              refine lv_iload_n hx hb dX11_triesTwo_85 rfl (lv_at hl 4 rfl) ?_
              refine lv_iconst (v := 0) hx hb dX11_triesTwo_86 (by decide) ?_
              refine qc_Vip (As := [.int a0, .int w5_4, .int a1, .int 0]) (rest := []) (k0 := 4) (m_rowsWith l D ca o b z5 y5 J5 a0 w5_4 a1 0 ⟨by omega, by omega⟩ ⟨by omega, by omega⟩) kc_yX11_rowsWith ⟨hx, hb, hml, hown, hts⟩ wq_1477 rfl rfl ⟨Nat.le_of_ble_eq_true rfl, Nat.le_of_ble_eq_true rfl⟩ wq_all hP hK hS qw_Ai (q0 := 0) (by decide) (hgM_0 ca o _ _) rfl rfl hl.1 rfl (Nat.le_of_ble_eq_true rfl) dX11_triesTwo_87 ⟨Nat.zero_le _, Nat.zero_le _⟩ (fun r15 H locs h15 hP hS _ _ => ?_)
              refine lv_iconst (v := 1) hx hb dX11_triesTwo_90 (by decide) ?_
              refine lv_icmp_eq (tgt := 97) hx hb dX11_triesTwo_91 (by decide) (fun c16 => ?_) (fun c16 => ?_)
              · have t16 : r15.toInt = (1 : Int) := gl_eq c16
                refine lv_aload_n hx hb dX11_triesTwo_97 rfl (lv_at hl 2 rfl) ?_
                refine lv_iconst (v := 4) hx hb dX11_triesTwo_98 (by decide) ?_
                refine lv_iload hx hb dX11_triesTwo_99 (lv_at hl 0 rfl) ?_
                refine qc_Sip (As := [.int w5_4]) (rest := [.int 4, .ref (o + 0)]) (k0 := 1) (m_digitsOf l D ca o b z5 y5 J5 w5_4) kc_yX11_digitsOf ⟨hx, hb, hml, hown, hts⟩ wq_1481 rfl rfl ⟨Nat.le_of_ble_eq_true rfl, Nat.le_of_ble_eq_true rfl⟩ wq_all hP hK hS qw_Ai rfl hl.1 rfl (Nat.le_of_ble_eq_true rfl) dX11_triesTwo_101 ⟨Nat.zero_le _, Nat.zero_le _⟩ (fun r17 H locs h17 hP hS _ _ => ?_)
                have b17 : (1 : Int) ≤ r17.toInt ∧ r17.toInt ≤ 3 := h17
                refine lv_iadd hx hb dX11_triesTwo_104 ?_
                refine lv_topi (fun x18 e18 => ?_)
                have t18 : x18.toInt = (4 : Int) + r17.toInt := ga_add e18 rfl rfl (by omega) (by omega)
                refine lv_iconst (v := 2) hx hb dX11_triesTwo_105 (by decide) ?_
                refine lv_iload_n hx hb dX11_triesTwo_106 rfl (lv_at hl 3 rfl) ?_
                refine lv_iload_n hx hb dX11_triesTwo_107 rfl (lv_at hl 4 rfl) ?_
                refine lv_iload hx hb dX11_triesTwo_108 (lv_at hl 0 rfl) ?_
                refine qc_Vv2 (As := [.int x18, .int 2, .int a0, .int a1, .int w5_4]) (rest := []) (k0 := 5) (m_mayBe l D ca o b z5 y5 J5 x18 2 a0 a1 w5_4) kc_yX11_mayBe ⟨hx, hb, hml, hown, hts⟩ wq_1484 rfl rfl ⟨Nat.le_of_ble_eq_true rfl, Nat.le_of_ble_eq_true rfl⟩ wq_all hP hK hS qw_Ai (q0 := 0) (by decide) (hgM_0 ca o _ _) rfl rfl hl.1 rfl (Nat.le_of_ble_eq_true rfl) dX11_triesTwo_110 ⟨Nat.zero_le _, Nat.zero_le _⟩ (fun z19 y19 H locs h19 hP hS _ _ => ?_)
                have J19 : qJM b z19 := h19
                obtain ⟨x20, e20⟩ : ∃ t : Int32, t = w5_4 + 1 := ⟨_, rfl⟩
                refine lv_iinc (v := x20) (lv' := [(4, .int x20), (3, .int x3), (0, .ref (o + 0)), (1, .int a0), (2, .int a1)]) hx hb dX11_triesTwo_113 hl (k := 0) rfl (by rw [e20]; rfl) (by decide) rfl (fun ls hl => ?_)
                have t20 : x20.toInt = w5_4.toInt + (1 : Int) := ga_add e20 rfl rfl (by omega) (by omega)
                refine lv_goto (tgt := 47) hx hb dX11_triesTwo_116 (by decide) ?_
                exact ih5 x20 z19 y19 (show (100 - x20.toInt : Int) < (n5 : Int) from by omega) ⟨by omega, by omega⟩ J19 _ _ hP hS _ (lv_sub hl [0, 1, 2, 3, 4] rfl)
              · have t16 : r15.toInt ≠ (1 : Int) := gl_ne c16
                refine lv_goto (tgt := 113) hx hb dX11_triesTwo_94 (by decide) ?_
                obtain ⟨x21, e21⟩ : ∃ t : Int32, t = w5_4 + 1 := ⟨_, rfl⟩
                refine lv_iinc (v := x21) (lv' := [(4, .int x21), (3, .int x3), (0, .ref (o + 0)), (1, .int a0), (2, .int a1)]) hx hb dX11_triesTwo_113 hl (k := 0) rfl (by rw [e21]; rfl) (by decide) rfl (fun ls hl => ?_)
                have t21 : x21.toInt = w5_4.toInt + (1 : Int) := ga_add e21 rfl rfl (by omega) (by omega)
                refine lv_goto (tgt := 47) hx hb dX11_triesTwo_116 (by decide) ?_
                exact ih5 x21 z5 y5 (show (100 - x21.toInt : Int) < (n5 : Int) from by omega) ⟨by omega, by omega⟩ J5 _ _ hP hS _ (lv_sub hl [0, 1, 2, 3, 4] rfl)
    exact loop5 99 2 z y (show (100 - (2 : Int) : Int) < ((99 : Nat) : Int) from by omega) ⟨by decide, by decide⟩ J0 _ _ hP hS _ (lv_sub hl [0, 1, 2, 3, 4] rfl)
  · have t4 : x3.toInt > (0 : Int) := gl_nle c4
    refine lv_aload_n hx hb dX11_triesTwo_18 rfl (lv_at hl 1 rfl) ?_
    refine lv_iload_n hx hb dX11_triesTwo_19 rfl (lv_at hl 2 rfl) ?_
    refine lv_iconst (v := 1) hx hb dX11_triesTwo_20 (by decide) ?_
    refine lv_iload_n hx hb dX11_triesTwo_21 rfl (lv_at hl 3 rfl) ?_
    refine lv_iload_n hx hb dX11_triesTwo_22 rfl (lv_at hl 0 rfl) ?_
    refine qc_Vip (As := [.int a0, .int 1, .int a1, .int x3]) (rest := []) (k0 := 4) (m_rowsWith l D ca o b z y J0 a0 1 a1 x3 ⟨by omega, by omega⟩ ⟨by omega, by omega⟩) kc_yX11_rowsWith ⟨hx, hb, hml, hown, hts⟩ wq_1477 rfl rfl ⟨Nat.le_of_ble_eq_true rfl, Nat.le_of_ble_eq_true rfl⟩ wq_all hP hK hS qw_Ai (q0 := 0) (by decide) (hgM_0 ca o _ _) rfl rfl hl.1 rfl (Nat.le_of_ble_eq_true rfl) dX11_triesTwo_23 ⟨Nat.zero_le _, Nat.zero_le _⟩ (fun r22 H locs h22 hP hS _ _ => ?_)
    refine lv_iconst (v := 1) hx hb dX11_triesTwo_26 (by decide) ?_
    refine lv_icmp_ne (tgt := 44) hx hb dX11_triesTwo_27 (by decide) (fun c23 => ?_) (fun c23 => ?_)
    · have t23 : r22.toInt ≠ (1 : Int) := gl_ne c23
      refine lv_iconst (v := 2) hx hb dX11_triesTwo_44 (by decide) ?_
      refine lv_istore (lv' := [(4, .int 2), (3, .int x3), (0, .ref (o + 0)), (1, .int a0), (2, .int a1)]) hx hb dX11_triesTwo_45 hl (by decide) rfl (fun ls hl => ?_)
      have loop24 : ∀ (n : Nat) (w24_4 : Int32) (z24 : Nat → Nat → Int32) (y24 : Nat → Nat → Int64), ((100 - w24_4.toInt : Int) < (n : Int)) → ((2 : Int) ≤ w24_4.toInt ∧ w24_4.toInt ≤ 100) → (qJM b z24) → ∀ (H : Heap) (locs : List Loc), qw_P D vwCl o 41 (qG (GM ca o) z24 y24) H → va_S (qw_A o 41) s.heap H locs → ∀ (ls : Array Slot), lv_has ls 5 [(4, .int w24_4), (3, .int x3), (0, .ref (o + 0)), (1, .int a0), (2, .int a1)] → W p l e (headSpec (Cond.code yX11_triesTwo cX11_triesTwo 5 none :: qtbl) ({ frames := 4, cells := 0, slots := 0, locals := 130 })).room s m (([.ref (o + 0), .int a0, .int a1] : List Value).toArray) below meth c H locs 0 0 (MQ below (va_Qv (fun u => qJM b u.1) (qB D vwCl (qT6 ca) o 41 (fun u : qZ => qG (GM ca o) u.1 u.2)) (qw_A o 41)) (([.ref (o + 0), .int a0, .int a1] : List Value).toArray) s 0 0 (qw_A o 41)) (F0 m 47 ls []) := by
        intro n
        induction n with
        | zero => intro w24_4 z24 y24 hb24 hv24_4 J24; exfalso; omega
        | succ n24 ih24 =>
          intro w24_4 z24 y24 hb24 hv24_4 J24 H locs hP hS ls hl
          refine lv_iload hx hb dX11_triesTwo_47 (lv_at hl 0 rfl) ?_
          refine lv_bipush (v := 99) hx hb dX11_triesTwo_49 (by decide) ?_
          refine lv_icmp_gt (tgt := 119) hx hb dX11_triesTwo_51 (by decide) (fun c25 => ?_) (fun c25 => ?_)
          · have t25 : w24_4.toInt > (99 : Int) := gl_lt c25
            exact W.vret hx hb hr (fun t ht hW => ⟨⟨(z24, y24), rfl, J24, by rw [ht]; exact hP, va_K.moved hW.alike hK⟩, hS.F ht⟩) hS.2.2 dX11_triesTwo_119
          · have t25 : w24_4.toInt ≤ (99 : Int) := gl_nlt c25
            refine lv_aload_n hx hb dX11_triesTwo_54 rfl (lv_at hl 2 rfl) ?_
            refine lv_iconst (v := 0) hx hb dX11_triesTwo_55 (by decide) ?_
            refine lv_iload_n hx hb dX11_triesTwo_56 rfl (lv_at hl 4 rfl) ?_
            refine qc_Vip (As := [.int 0, .int a1]) (rest := []) (k0 := 2) (m_ageNow l D ca o b z24 y24 J24 0 a1 ⟨by decide, by decide⟩ ⟨by omega, by omega⟩) kc_yX11_ageNow ⟨hx, hb, hml, hown, hts⟩ wq_1473 rfl rfl ⟨Nat.le_of_ble_eq_true rfl, Nat.le_of_ble_eq_true rfl⟩ wq_all hP hK hS qw_Ai (q0 := 0) (by decide) (hgM_0 ca o _ _) rfl rfl hl.1 rfl (Nat.le_of_ble_eq_true rfl) dX11_triesTwo_57 ⟨Nat.zero_le _, Nat.zero_le _⟩ (fun r26 H locs h26 hP hS _ _ => ?_)
            refine lv_if_eq (tgt := 113) hx hb dX11_triesTwo_60 (by decide) (fun c27 => ?_) (fun c27 => ?_)
            · have t27 : r26.toInt = (0 : Int) := gl_eq c27
              obtain ⟨x28, e28⟩ : ∃ t : Int32, t = w24_4 + 1 := ⟨_, rfl⟩
              refine lv_iinc (v := x28) (lv' := [(4, .int x28), (3, .int x3), (0, .ref (o + 0)), (1, .int a0), (2, .int a1)]) hx hb dX11_triesTwo_113 hl (k := 0) rfl (by rw [e28]; rfl) (by decide) rfl (fun ls hl => ?_)
              have t28 : x28.toInt = w24_4.toInt + (1 : Int) := ga_add e28 rfl rfl (by omega) (by omega)
              refine lv_goto (tgt := 47) hx hb dX11_triesTwo_116 (by decide) ?_
              exact ih24 x28 z24 y24 (show (100 - x28.toInt : Int) < (n24 : Int) from by omega) ⟨by omega, by omega⟩ J24 _ _ hP hS _ (lv_sub hl [0, 1, 2, 3, 4] rfl)
            · have t27 : r26.toInt ≠ (0 : Int) := gl_ne c27
              refine lv_aload_n hx hb dX11_triesTwo_63 rfl (lv_at hl 2 rfl) ?_
              refine lv_iconst (v := 0) hx hb dX11_triesTwo_64 (by decide) ?_
              refine lv_iload_n hx hb dX11_triesTwo_65 rfl (lv_at hl 3 rfl) ?_
              refine qc_Vip (As := [.int 0, .int a0]) (rest := []) (k0 := 2) (m_ageNow l D ca o b z24 y24 J24 0 a0 ⟨by decide, by decide⟩ ⟨by omega, by omega⟩) kc_yX11_ageNow ⟨hx, hb, hml, hown, hts⟩ wq_1473 rfl rfl ⟨Nat.le_of_ble_eq_true rfl, Nat.le_of_ble_eq_true rfl⟩ wq_all hP hK hS qw_Ai (q0 := 0) (by decide) (hgM_0 ca o _ _) rfl rfl hl.1 rfl (Nat.le_of_ble_eq_true rfl) dX11_triesTwo_66 ⟨Nat.zero_le _, Nat.zero_le _⟩ (fun r29 H locs h29 hP hS _ _ => ?_)
              refine lv_iload hx hb dX11_triesTwo_69 (lv_at hl 0 rfl) ?_
              refine lv_aload_n hx hb dX11_triesTwo_71 rfl (lv_at hl 2 rfl) ?_
              refine lv_iconst (v := 0) hx hb dX11_triesTwo_72 (by decide) ?_
              refine lv_iload_n hx hb dX11_triesTwo_73 rfl (lv_at hl 4 rfl) ?_
              refine qc_Vip (As := [.int 0, .int a1]) (rest := [.int w24_4, .int r29]) (k0 := 2) (m_ageNow l D ca o b z24 y24 J24 0 a1 ⟨by decide, by decide⟩ ⟨by omega, by omega⟩) kc_yX11_ageNow ⟨hx, hb, hml, hown, hts⟩ wq_1473 rfl rfl ⟨Nat.le_of_ble_eq_true rfl, Nat.le_of_ble_eq_true rfl⟩ wq_all hP hK hS qw_Ai (q0 := 0) (by decide) (hgM_0 ca o _ _) rfl rfl hl.1 rfl (Nat.le_of_ble_eq_true rfl) dX11_triesTwo_74 ⟨Nat.zero_le _, Nat.zero_le _⟩ (fun r30 H locs h30 hP hS _ _ => ?_)
              refine lv_imul hx hb dX11_triesTwo_77 ?_
              refine lv_topi (fun x31 e31 => ?_)
              refine lv_icmp_ne (tgt := 113) hx hb dX11_triesTwo_78 (by decide) (fun c32 => ?_) (fun c32 => ?_)
              · have t32 : r29.toInt ≠ x31.toInt := gl_ne c32
                obtain ⟨x33, e33⟩ : ∃ t : Int32, t = w24_4 + 1 := ⟨_, rfl⟩
                refine lv_iinc (v := x33) (lv' := [(4, .int x33), (3, .int x3), (0, .ref (o + 0)), (1, .int a0), (2, .int a1)]) hx hb dX11_triesTwo_113 hl (k := 0) rfl (by rw [e33]; rfl) (by decide) rfl (fun ls hl => ?_)
                have t33 : x33.toInt = w24_4.toInt + (1 : Int) := ga_add e33 rfl rfl (by omega) (by omega)
                refine lv_goto (tgt := 47) hx hb dX11_triesTwo_116 (by decide) ?_
                exact ih24 x33 z24 y24 (show (100 - x33.toInt : Int) < (n24 : Int) from by omega) ⟨by omega, by omega⟩ J24 _ _ hP hS _ (lv_sub hl [0, 1, 2, 3, 4] rfl)
              · have t32 : r29.toInt = x31.toInt := gl_eq c32
                refine lv_aload_n hx hb dX11_triesTwo_81 rfl (lv_at hl 2 rfl) ?_
                refine lv_iload_n hx hb dX11_triesTwo_82 rfl (lv_at hl 3 rfl) ?_
                refine lv_iload hx hb dX11_triesTwo_83 (lv_at hl 0 rfl) ?_
                refine lv_iload_n hx hb dX11_triesTwo_85 rfl (lv_at hl 4 rfl) ?_
                refine lv_iconst (v := 0) hx hb dX11_triesTwo_86 (by decide) ?_
                refine qc_Vip (As := [.int a0, .int w24_4, .int a1, .int 0]) (rest := []) (k0 := 4) (m_rowsWith l D ca o b z24 y24 J24 a0 w24_4 a1 0 ⟨by omega, by omega⟩ ⟨by omega, by omega⟩) kc_yX11_rowsWith ⟨hx, hb, hml, hown, hts⟩ wq_1477 rfl rfl ⟨Nat.le_of_ble_eq_true rfl, Nat.le_of_ble_eq_true rfl⟩ wq_all hP hK hS qw_Ai (q0 := 0) (by decide) (hgM_0 ca o _ _) rfl rfl hl.1 rfl (Nat.le_of_ble_eq_true rfl) dX11_triesTwo_87 ⟨Nat.zero_le _, Nat.zero_le _⟩ (fun r34 H locs h34 hP hS _ _ => ?_)
                refine lv_iconst (v := 1) hx hb dX11_triesTwo_90 (by decide) ?_
                refine lv_icmp_eq (tgt := 97) hx hb dX11_triesTwo_91 (by decide) (fun c35 => ?_) (fun c35 => ?_)
                · have t35 : r34.toInt = (1 : Int) := gl_eq c35
                  refine lv_aload_n hx hb dX11_triesTwo_97 rfl (lv_at hl 2 rfl) ?_
                  refine lv_iconst (v := 4) hx hb dX11_triesTwo_98 (by decide) ?_
                  refine lv_iload hx hb dX11_triesTwo_99 (lv_at hl 0 rfl) ?_
                  refine qc_Sip (As := [.int w24_4]) (rest := [.int 4, .ref (o + 0)]) (k0 := 1) (m_digitsOf l D ca o b z24 y24 J24 w24_4) kc_yX11_digitsOf ⟨hx, hb, hml, hown, hts⟩ wq_1481 rfl rfl ⟨Nat.le_of_ble_eq_true rfl, Nat.le_of_ble_eq_true rfl⟩ wq_all hP hK hS qw_Ai rfl hl.1 rfl (Nat.le_of_ble_eq_true rfl) dX11_triesTwo_101 ⟨Nat.zero_le _, Nat.zero_le _⟩ (fun r36 H locs h36 hP hS _ _ => ?_)
                  have b36 : (1 : Int) ≤ r36.toInt ∧ r36.toInt ≤ 3 := h36
                  refine lv_iadd hx hb dX11_triesTwo_104 ?_
                  refine lv_topi (fun x37 e37 => ?_)
                  have t37 : x37.toInt = (4 : Int) + r36.toInt := ga_add e37 rfl rfl (by omega) (by omega)
                  refine lv_iconst (v := 2) hx hb dX11_triesTwo_105 (by decide) ?_
                  refine lv_iload_n hx hb dX11_triesTwo_106 rfl (lv_at hl 3 rfl) ?_
                  refine lv_iload_n hx hb dX11_triesTwo_107 rfl (lv_at hl 4 rfl) ?_
                  refine lv_iload hx hb dX11_triesTwo_108 (lv_at hl 0 rfl) ?_
                  refine qc_Vv2 (As := [.int x37, .int 2, .int a0, .int a1, .int w24_4]) (rest := []) (k0 := 5) (m_mayBe l D ca o b z24 y24 J24 x37 2 a0 a1 w24_4) kc_yX11_mayBe ⟨hx, hb, hml, hown, hts⟩ wq_1484 rfl rfl ⟨Nat.le_of_ble_eq_true rfl, Nat.le_of_ble_eq_true rfl⟩ wq_all hP hK hS qw_Ai (q0 := 0) (by decide) (hgM_0 ca o _ _) rfl rfl hl.1 rfl (Nat.le_of_ble_eq_true rfl) dX11_triesTwo_110 ⟨Nat.zero_le _, Nat.zero_le _⟩ (fun z38 y38 H locs h38 hP hS _ _ => ?_)
                  have J38 : qJM b z38 := h38
                  obtain ⟨x39, e39⟩ : ∃ t : Int32, t = w24_4 + 1 := ⟨_, rfl⟩
                  refine lv_iinc (v := x39) (lv' := [(4, .int x39), (3, .int x3), (0, .ref (o + 0)), (1, .int a0), (2, .int a1)]) hx hb dX11_triesTwo_113 hl (k := 0) rfl (by rw [e39]; rfl) (by decide) rfl (fun ls hl => ?_)
                  have t39 : x39.toInt = w24_4.toInt + (1 : Int) := ga_add e39 rfl rfl (by omega) (by omega)
                  refine lv_goto (tgt := 47) hx hb dX11_triesTwo_116 (by decide) ?_
                  exact ih24 x39 z38 y38 (show (100 - x39.toInt : Int) < (n24 : Int) from by omega) ⟨by omega, by omega⟩ J38 _ _ hP hS _ (lv_sub hl [0, 1, 2, 3, 4] rfl)
                · have t35 : r34.toInt ≠ (1 : Int) := gl_ne c35
                  refine lv_goto (tgt := 113) hx hb dX11_triesTwo_94 (by decide) ?_
                  obtain ⟨x40, e40⟩ : ∃ t : Int32, t = w24_4 + 1 := ⟨_, rfl⟩
                  refine lv_iinc (v := x40) (lv' := [(4, .int x40), (3, .int x3), (0, .ref (o + 0)), (1, .int a0), (2, .int a1)]) hx hb dX11_triesTwo_113 hl (k := 0) rfl (by rw [e40]; rfl) (by decide) rfl (fun ls hl => ?_)
                  have t40 : x40.toInt = w24_4.toInt + (1 : Int) := ga_add e40 rfl rfl (by omega) (by omega)
                  refine lv_goto (tgt := 47) hx hb dX11_triesTwo_116 (by decide) ?_
                  exact ih24 x40 z24 y24 (show (100 - x40.toInt : Int) < (n24 : Int) from by omega) ⟨by omega, by omega⟩ J24 _ _ hP hS _ (lv_sub hl [0, 1, 2, 3, 4] rfl)
      exact loop24 99 2 z y (show (100 - (2 : Int) : Int) < ((99 : Nat) : Int) from by omega) ⟨by decide, by decide⟩ J0 _ _ hP hS _ (lv_sub hl [0, 1, 2, 3, 4] rfl)
    · have t23 : r22.toInt = (1 : Int) := gl_eq c23
      refine lv_aload_n hx hb dX11_triesTwo_30 rfl (lv_at hl 1 rfl) ?_
      refine lv_iconst (v := 4) hx hb dX11_triesTwo_31 (by decide) ?_
      refine lv_iload_n hx hb dX11_triesTwo_32 rfl (lv_at hl 0 rfl) ?_
      refine qc_Sip (As := [.int x3]) (rest := [.int 4, .ref (o + 0)]) (k0 := 1) (m_digitsOf l D ca o b z y J0 x3) kc_yX11_digitsOf ⟨hx, hb, hml, hown, hts⟩ wq_1481 rfl rfl ⟨Nat.le_of_ble_eq_true rfl, Nat.le_of_ble_eq_true rfl⟩ wq_all hP hK hS qw_Ai rfl hl.1 rfl (Nat.le_of_ble_eq_true rfl) dX11_triesTwo_33 ⟨Nat.zero_le _, Nat.zero_le _⟩ (fun r41 H locs h41 hP hS _ _ => ?_)
      have b41 : (1 : Int) ≤ r41.toInt ∧ r41.toInt ≤ 3 := h41
      refine lv_iadd hx hb dX11_triesTwo_36 ?_
      refine lv_topi (fun x42 e42 => ?_)
      have t42 : x42.toInt = (4 : Int) + r41.toInt := ga_add e42 rfl rfl (by omega) (by omega)
      refine lv_iconst (v := 1) hx hb dX11_triesTwo_37 (by decide) ?_
      refine lv_iload_n hx hb dX11_triesTwo_38 rfl (lv_at hl 2 rfl) ?_
      refine lv_iload_n hx hb dX11_triesTwo_39 rfl (lv_at hl 3 rfl) ?_
      refine lv_iload_n hx hb dX11_triesTwo_40 rfl (lv_at hl 0 rfl) ?_
      refine qc_Vv2 (As := [.int x42, .int 1, .int a0, .int a1, .int x3]) (rest := []) (k0 := 5) (m_mayBe l D ca o b z y J0 x42 1 a0 a1 x3) kc_yX11_mayBe ⟨hx, hb, hml, hown, hts⟩ wq_1484 rfl rfl ⟨Nat.le_of_ble_eq_true rfl, Nat.le_of_ble_eq_true rfl⟩ wq_all hP hK hS qw_Ai (q0 := 0) (by decide) (hgM_0 ca o _ _) rfl rfl hl.1 rfl (Nat.le_of_ble_eq_true rfl) dX11_triesTwo_41 ⟨Nat.zero_le _, Nat.zero_le _⟩ (fun z43 y43 H locs h43 hP hS _ _ => ?_)
      have J43 : qJM b z43 := h43
      refine lv_iconst (v := 2) hx hb dX11_triesTwo_44 (by decide) ?_
      refine lv_istore (lv' := [(4, .int 2), (3, .int x3), (0, .ref (o + 0)), (1, .int a0), (2, .int a1)]) hx hb dX11_triesTwo_45 hl (by decide) rfl (fun ls hl => ?_)
      have loop44 : ∀ (n : Nat) (w44_4 : Int32) (z44 : Nat → Nat → Int32) (y44 : Nat → Nat → Int64), ((100 - w44_4.toInt : Int) < (n : Int)) → ((2 : Int) ≤ w44_4.toInt ∧ w44_4.toInt ≤ 100) → (qJM b z44) → ∀ (H : Heap) (locs : List Loc), qw_P D vwCl o 41 (qG (GM ca o) z44 y44) H → va_S (qw_A o 41) s.heap H locs → ∀ (ls : Array Slot), lv_has ls 5 [(4, .int w44_4), (3, .int x3), (0, .ref (o + 0)), (1, .int a0), (2, .int a1)] → W p l e (headSpec (Cond.code yX11_triesTwo cX11_triesTwo 5 none :: qtbl) ({ frames := 4, cells := 0, slots := 0, locals := 130 })).room s m (([.ref (o + 0), .int a0, .int a1] : List Value).toArray) below meth c H locs 0 0 (MQ below (va_Qv (fun u => qJM b u.1) (qB D vwCl (qT6 ca) o 41 (fun u : qZ => qG (GM ca o) u.1 u.2)) (qw_A o 41)) (([.ref (o + 0), .int a0, .int a1] : List Value).toArray) s 0 0 (qw_A o 41)) (F0 m 47 ls []) := by
        intro n
        induction n with
        | zero => intro w44_4 z44 y44 hb44 hv44_4 J44; exfalso; omega
        | succ n44 ih44 =>
          intro w44_4 z44 y44 hb44 hv44_4 J44 H locs hP hS ls hl
          refine lv_iload hx hb dX11_triesTwo_47 (lv_at hl 0 rfl) ?_
          refine lv_bipush (v := 99) hx hb dX11_triesTwo_49 (by decide) ?_
          refine lv_icmp_gt (tgt := 119) hx hb dX11_triesTwo_51 (by decide) (fun c45 => ?_) (fun c45 => ?_)
          · have t45 : w44_4.toInt > (99 : Int) := gl_lt c45
            exact W.vret hx hb hr (fun t ht hW => ⟨⟨(z44, y44), rfl, J44, by rw [ht]; exact hP, va_K.moved hW.alike hK⟩, hS.F ht⟩) hS.2.2 dX11_triesTwo_119
          · have t45 : w44_4.toInt ≤ (99 : Int) := gl_nlt c45
            refine lv_aload_n hx hb dX11_triesTwo_54 rfl (lv_at hl 2 rfl) ?_
            refine lv_iconst (v := 0) hx hb dX11_triesTwo_55 (by decide) ?_
            refine lv_iload_n hx hb dX11_triesTwo_56 rfl (lv_at hl 4 rfl) ?_
            refine qc_Vip (As := [.int 0, .int a1]) (rest := []) (k0 := 2) (m_ageNow l D ca o b z44 y44 J44 0 a1 ⟨by decide, by decide⟩ ⟨by omega, by omega⟩) kc_yX11_ageNow ⟨hx, hb, hml, hown, hts⟩ wq_1473 rfl rfl ⟨Nat.le_of_ble_eq_true rfl, Nat.le_of_ble_eq_true rfl⟩ wq_all hP hK hS qw_Ai (q0 := 0) (by decide) (hgM_0 ca o _ _) rfl rfl hl.1 rfl (Nat.le_of_ble_eq_true rfl) dX11_triesTwo_57 ⟨Nat.zero_le _, Nat.zero_le _⟩ (fun r46 H locs h46 hP hS _ _ => ?_)
            refine lv_if_eq (tgt := 113) hx hb dX11_triesTwo_60 (by decide) (fun c47 => ?_) (fun c47 => ?_)
            · have t47 : r46.toInt = (0 : Int) := gl_eq c47
              obtain ⟨x48, e48⟩ : ∃ t : Int32, t = w44_4 + 1 := ⟨_, rfl⟩
              refine lv_iinc (v := x48) (lv' := [(4, .int x48), (3, .int x3), (0, .ref (o + 0)), (1, .int a0), (2, .int a1)]) hx hb dX11_triesTwo_113 hl (k := 0) rfl (by rw [e48]; rfl) (by decide) rfl (fun ls hl => ?_)
              have t48 : x48.toInt = w44_4.toInt + (1 : Int) := ga_add e48 rfl rfl (by omega) (by omega)
              refine lv_goto (tgt := 47) hx hb dX11_triesTwo_116 (by decide) ?_
              exact ih44 x48 z44 y44 (show (100 - x48.toInt : Int) < (n44 : Int) from by omega) ⟨by omega, by omega⟩ J44 _ _ hP hS _ (lv_sub hl [0, 1, 2, 3, 4] rfl)
            · have t47 : r46.toInt ≠ (0 : Int) := gl_ne c47
              refine lv_aload_n hx hb dX11_triesTwo_63 rfl (lv_at hl 2 rfl) ?_
              refine lv_iconst (v := 0) hx hb dX11_triesTwo_64 (by decide) ?_
              refine lv_iload_n hx hb dX11_triesTwo_65 rfl (lv_at hl 3 rfl) ?_
              refine qc_Vip (As := [.int 0, .int a0]) (rest := []) (k0 := 2) (m_ageNow l D ca o b z44 y44 J44 0 a0 ⟨by decide, by decide⟩ ⟨by omega, by omega⟩) kc_yX11_ageNow ⟨hx, hb, hml, hown, hts⟩ wq_1473 rfl rfl ⟨Nat.le_of_ble_eq_true rfl, Nat.le_of_ble_eq_true rfl⟩ wq_all hP hK hS qw_Ai (q0 := 0) (by decide) (hgM_0 ca o _ _) rfl rfl hl.1 rfl (Nat.le_of_ble_eq_true rfl) dX11_triesTwo_66 ⟨Nat.zero_le _, Nat.zero_le _⟩ (fun r49 H locs h49 hP hS _ _ => ?_)
              refine lv_iload hx hb dX11_triesTwo_69 (lv_at hl 0 rfl) ?_
              refine lv_aload_n hx hb dX11_triesTwo_71 rfl (lv_at hl 2 rfl) ?_
              refine lv_iconst (v := 0) hx hb dX11_triesTwo_72 (by decide) ?_
              refine lv_iload_n hx hb dX11_triesTwo_73 rfl (lv_at hl 4 rfl) ?_
              refine qc_Vip (As := [.int 0, .int a1]) (rest := [.int w44_4, .int r49]) (k0 := 2) (m_ageNow l D ca o b z44 y44 J44 0 a1 ⟨by decide, by decide⟩ ⟨by omega, by omega⟩) kc_yX11_ageNow ⟨hx, hb, hml, hown, hts⟩ wq_1473 rfl rfl ⟨Nat.le_of_ble_eq_true rfl, Nat.le_of_ble_eq_true rfl⟩ wq_all hP hK hS qw_Ai (q0 := 0) (by decide) (hgM_0 ca o _ _) rfl rfl hl.1 rfl (Nat.le_of_ble_eq_true rfl) dX11_triesTwo_74 ⟨Nat.zero_le _, Nat.zero_le _⟩ (fun r50 H locs h50 hP hS _ _ => ?_)
              refine lv_imul hx hb dX11_triesTwo_77 ?_
              refine lv_topi (fun x51 e51 => ?_)
              refine lv_icmp_ne (tgt := 113) hx hb dX11_triesTwo_78 (by decide) (fun c52 => ?_) (fun c52 => ?_)
              · have t52 : r49.toInt ≠ x51.toInt := gl_ne c52
                obtain ⟨x53, e53⟩ : ∃ t : Int32, t = w44_4 + 1 := ⟨_, rfl⟩
                refine lv_iinc (v := x53) (lv' := [(4, .int x53), (3, .int x3), (0, .ref (o + 0)), (1, .int a0), (2, .int a1)]) hx hb dX11_triesTwo_113 hl (k := 0) rfl (by rw [e53]; rfl) (by decide) rfl (fun ls hl => ?_)
                have t53 : x53.toInt = w44_4.toInt + (1 : Int) := ga_add e53 rfl rfl (by omega) (by omega)
                refine lv_goto (tgt := 47) hx hb dX11_triesTwo_116 (by decide) ?_
                exact ih44 x53 z44 y44 (show (100 - x53.toInt : Int) < (n44 : Int) from by omega) ⟨by omega, by omega⟩ J44 _ _ hP hS _ (lv_sub hl [0, 1, 2, 3, 4] rfl)
              · have t52 : r49.toInt = x51.toInt := gl_eq c52
                refine lv_aload_n hx hb dX11_triesTwo_81 rfl (lv_at hl 2 rfl) ?_
                refine lv_iload_n hx hb dX11_triesTwo_82 rfl (lv_at hl 3 rfl) ?_
                refine lv_iload hx hb dX11_triesTwo_83 (lv_at hl 0 rfl) ?_
                refine lv_iload_n hx hb dX11_triesTwo_85 rfl (lv_at hl 4 rfl) ?_
                refine lv_iconst (v := 0) hx hb dX11_triesTwo_86 (by decide) ?_
                refine qc_Vip (As := [.int a0, .int w44_4, .int a1, .int 0]) (rest := []) (k0 := 4) (m_rowsWith l D ca o b z44 y44 J44 a0 w44_4 a1 0 ⟨by omega, by omega⟩ ⟨by omega, by omega⟩) kc_yX11_rowsWith ⟨hx, hb, hml, hown, hts⟩ wq_1477 rfl rfl ⟨Nat.le_of_ble_eq_true rfl, Nat.le_of_ble_eq_true rfl⟩ wq_all hP hK hS qw_Ai (q0 := 0) (by decide) (hgM_0 ca o _ _) rfl rfl hl.1 rfl (Nat.le_of_ble_eq_true rfl) dX11_triesTwo_87 ⟨Nat.zero_le _, Nat.zero_le _⟩ (fun r54 H locs h54 hP hS _ _ => ?_)
                refine lv_iconst (v := 1) hx hb dX11_triesTwo_90 (by decide) ?_
                refine lv_icmp_eq (tgt := 97) hx hb dX11_triesTwo_91 (by decide) (fun c55 => ?_) (fun c55 => ?_)
                · have t55 : r54.toInt = (1 : Int) := gl_eq c55
                  refine lv_aload_n hx hb dX11_triesTwo_97 rfl (lv_at hl 2 rfl) ?_
                  refine lv_iconst (v := 4) hx hb dX11_triesTwo_98 (by decide) ?_
                  refine lv_iload hx hb dX11_triesTwo_99 (lv_at hl 0 rfl) ?_
                  refine qc_Sip (As := [.int w44_4]) (rest := [.int 4, .ref (o + 0)]) (k0 := 1) (m_digitsOf l D ca o b z44 y44 J44 w44_4) kc_yX11_digitsOf ⟨hx, hb, hml, hown, hts⟩ wq_1481 rfl rfl ⟨Nat.le_of_ble_eq_true rfl, Nat.le_of_ble_eq_true rfl⟩ wq_all hP hK hS qw_Ai rfl hl.1 rfl (Nat.le_of_ble_eq_true rfl) dX11_triesTwo_101 ⟨Nat.zero_le _, Nat.zero_le _⟩ (fun r56 H locs h56 hP hS _ _ => ?_)
                  have b56 : (1 : Int) ≤ r56.toInt ∧ r56.toInt ≤ 3 := h56
                  refine lv_iadd hx hb dX11_triesTwo_104 ?_
                  refine lv_topi (fun x57 e57 => ?_)
                  have t57 : x57.toInt = (4 : Int) + r56.toInt := ga_add e57 rfl rfl (by omega) (by omega)
                  refine lv_iconst (v := 2) hx hb dX11_triesTwo_105 (by decide) ?_
                  refine lv_iload_n hx hb dX11_triesTwo_106 rfl (lv_at hl 3 rfl) ?_
                  refine lv_iload_n hx hb dX11_triesTwo_107 rfl (lv_at hl 4 rfl) ?_
                  refine lv_iload hx hb dX11_triesTwo_108 (lv_at hl 0 rfl) ?_
                  refine qc_Vv2 (As := [.int x57, .int 2, .int a0, .int a1, .int w44_4]) (rest := []) (k0 := 5) (m_mayBe l D ca o b z44 y44 J44 x57 2 a0 a1 w44_4) kc_yX11_mayBe ⟨hx, hb, hml, hown, hts⟩ wq_1484 rfl rfl ⟨Nat.le_of_ble_eq_true rfl, Nat.le_of_ble_eq_true rfl⟩ wq_all hP hK hS qw_Ai (q0 := 0) (by decide) (hgM_0 ca o _ _) rfl rfl hl.1 rfl (Nat.le_of_ble_eq_true rfl) dX11_triesTwo_110 ⟨Nat.zero_le _, Nat.zero_le _⟩ (fun z58 y58 H locs h58 hP hS _ _ => ?_)
                  have J58 : qJM b z58 := h58
                  obtain ⟨x59, e59⟩ : ∃ t : Int32, t = w44_4 + 1 := ⟨_, rfl⟩
                  refine lv_iinc (v := x59) (lv' := [(4, .int x59), (3, .int x3), (0, .ref (o + 0)), (1, .int a0), (2, .int a1)]) hx hb dX11_triesTwo_113 hl (k := 0) rfl (by rw [e59]; rfl) (by decide) rfl (fun ls hl => ?_)
                  have t59 : x59.toInt = w44_4.toInt + (1 : Int) := ga_add e59 rfl rfl (by omega) (by omega)
                  refine lv_goto (tgt := 47) hx hb dX11_triesTwo_116 (by decide) ?_
                  exact ih44 x59 z58 y58 (show (100 - x59.toInt : Int) < (n44 : Int) from by omega) ⟨by omega, by omega⟩ J58 _ _ hP hS _ (lv_sub hl [0, 1, 2, 3, 4] rfl)
                · have t55 : r54.toInt ≠ (1 : Int) := gl_ne c55
                  refine lv_goto (tgt := 113) hx hb dX11_triesTwo_94 (by decide) ?_
                  obtain ⟨x60, e60⟩ : ∃ t : Int32, t = w44_4 + 1 := ⟨_, rfl⟩
                  refine lv_iinc (v := x60) (lv' := [(4, .int x60), (3, .int x3), (0, .ref (o + 0)), (1, .int a0), (2, .int a1)]) hx hb dX11_triesTwo_113 hl (k := 0) rfl (by rw [e60]; rfl) (by decide) rfl (fun ls hl => ?_)
                  have t60 : x60.toInt = w44_4.toInt + (1 : Int) := ga_add e60 rfl rfl (by omega) (by omega)
                  refine lv_goto (tgt := 47) hx hb dX11_triesTwo_116 (by decide) ?_
                  exact ih44 x60 z44 y44 (show (100 - x60.toInt : Int) < (n44 : Int) from by omega) ⟨by omega, by omega⟩ J44 _ _ hP hS _ (lv_sub hl [0, 1, 2, 3, 4] rfl)
      exact loop44 99 2 z43 y43 (show (100 - (2 : Int) : Int) < ((99 : Nat) : Int) from by omega) ⟨by decide, by decide⟩ J43 _ _ hP hS _ (lv_sub hl [0, 1, 2, 3, 4] rfl)
set_option maxRecDepth 100000 in
set_option maxHeartbeats 8000000 in
theorem m_shortest (l : Launch) (D : va_G) (ca : Nat → ClassId) (o : Nat) (b z : Nat → Nat → Int32) (y : Nat → Nat → Int64) (J0 : qJM b z) (a0 : Int32) (a1 : Int32)  : qM l yX11_shortest cX11_shortest 6 (some .int) 5 154 (qPre D vwCl (qT6 ca) o 41 (qG (GM ca o) z y) [.ref (o + 0), .int a0, .int a1]) (va_Qi (fun r u => True ∧ qJM b u.1) (qB D vwCl (qT6 ca) o 41 (fun u : qZ => qG (GM ca o) u.1 u.2)) (qw_A o 41)) (qw_A o 41) := by
  refine Met.ofW (cc := cX11_shortest) (maxL := 6) (ret := (some .int)) (by decide) rfl ?_
  intro p e s m args below meth c s₁ B hml hv
  obtain ⟨rfl, hP, hK⟩ := hv
  have hx := B.exec
  have hb := B.bytes
  have hr := B.returns
  have hts0 := atoms_spec (ws := Cond.code yX11_shortest cX11_shortest 6 (some .int) :: qtbl) B.pre
  have hts : ∀ w ∈ qtbl, w.before _ s = true := fun w h => hts0 w (List.mem_cons_of_mem _ h)
  have hown : s.vm.findClass RX11 = some m.cls := findClass_of_methodNamed B.named
  have hlocks := B.notSynchronized
  have hS : va_S (qw_A o 41) s.heap s.heap [] := va_S.rf
  have hl := lv_entry ([.ref (o + 0), .int a0, .int a1]) (n := 6) (Nat.le_of_ble_eq_true rfl)
  rw [lg_entry_eq]
  generalize (lg_sl ([.ref (o + 0), .int a0, .int a1]) ++ List.replicate (6 - (lg_sl ([.ref (o + 0), .int a0, .int a1])).length) Slot.unset).toArray = ls at hl ⊢
  have hl : lv_has ls 6 [(0, .ref (o + 0)), (1, .int a0), (2, .int a1)] := hl
  refine lv_aload_n hx hb dX11_shortest_0 rfl (lv_at hl 0 rfl) ?_
  refine lv_iload_n hx hb dX11_shortest_1 rfl (lv_at hl 1 rfl) ?_
  refine qc_Vip (As := [.int a0]) (rest := []) (k0 := 1) (m_areRemarks l D ca o b z y J0 a0) kc_yX11_areRemarks ⟨hx, hb, hml, hown, hts⟩ wq_1324 rfl rfl ⟨Nat.le_of_ble_eq_true rfl, Nat.le_of_ble_eq_true rfl⟩ wq_all hP hK hS qw_Ai (q0 := 0) (by decide) (hgM_0 ca o _ _) rfl rfl hl.1 rfl (Nat.le_of_ble_eq_true rfl) dX11_shortest_2 ⟨Nat.zero_le _, Nat.zero_le _⟩ (fun r1 H locs h1 hP hS _ _ => ?_)
  have b1 : (0 : Int) ≤ r1.toInt ∧ r1.toInt ≤ 1 := h1
  refine lv_if_eq (tgt := 17) hx hb dX11_shortest_5 (by decide) (fun c2 => ?_) (fun c2 => ?_)
  · have t2 : r1.toInt = (0 : Int) := gl_eq c2
    refine lv_iconst (v := (-1)) hx hb dX11_shortest_17 (by decide) ?_
    exact W.iret (v := (-1)) hx hb hr (fun t ht hW => ⟨⟨(-1), (z, y), rfl, ⟨trivial, J0⟩, by rw [ht]; exact hP, va_K.moved hW.alike hK⟩, hS.F ht⟩) hS.2.2 dX11_shortest_18
  · have t2 : r1.toInt ≠ (0 : Int) := gl_ne c2
    refine lv_iload_n hx hb dX11_shortest_8 rfl (lv_at hl 2 rfl) ?_
    refine lv_iconst (v := 0) hx hb dX11_shortest_9 (by decide) ?_
    refine lv_iconst (v := 4) hx hb dX11_shortest_10 (by decide) ?_
    refine qc_Sip (As := [.int a1, .int 0, .int 4]) (rest := []) (k0 := 3) (m_in l D ca o b z y J0 a1 0 4) kc_yX11_in ⟨hx, hb, hml, hown, hts⟩ wq_1187 rfl rfl ⟨Nat.le_of_ble_eq_true rfl, Nat.le_of_ble_eq_true rfl⟩ wq_all hP hK hS qw_Ai rfl hl.1 rfl (Nat.le_of_ble_eq_true rfl) dX11_shortest_11 ⟨Nat.zero_le _, Nat.zero_le _⟩ (fun r3 H locs h3 hP hS _ _ => ?_)
    rcases h3 with ⟨hr3, hf3_0⟩ | ⟨hr3, hf3_0⟩
    · subst hr3
      have hg3_0 : (0 : Int) ≤ a1.toInt ∧ a1.toInt ≤ (4 : Int) := hf3_0
      refine lv_if_ne (tgt := 19) hx hb dX11_shortest_14 (by decide) (fun _ => ?_) (fun q => absurd q (by decide))
      refine lv_aload_n hx hb dX11_shortest_19 rfl (lv_at hl 0 rfl) ?_
      refine lv_iload_n hx hb dX11_shortest_20 rfl (lv_at hl 1 rfl) ?_
      refine qc_Vi2 (As := [.int a0]) (rest := []) (k0 := 1) (m_lists l D ca o b z y J0 a0) kc_yX11_lists ⟨hx, hb, hml, hown, hts⟩ wq_1437 rfl rfl ⟨Nat.le_of_ble_eq_true rfl, Nat.le_of_ble_eq_true rfl⟩ wq_all hP hK hS qw_Ai (q0 := 0) (by decide) (hgM_0 ca o _ _) rfl rfl hl.1 rfl (Nat.le_of_ble_eq_true rfl) dX11_shortest_21 ⟨Nat.zero_le _, Nat.zero_le _⟩ (fun r4 z4 y4 H locs h4 hP hS _ _ => ?_)
      have J4 : qJM b z4 := h4.2.1
      have b4 : (0 : Int) ≤ r4.toInt ∧ r4.toInt ≤ 1 := h4.1
      refine lv_if_ne (tgt := 30) hx hb dX11_shortest_24 (by decide) (fun c5 => ?_) (fun c5 => ?_)
      · have t5 : r4.toInt ≠ (0 : Int) := gl_ne c5
        refine lv_aload_n hx hb dX11_shortest_30 rfl (lv_at hl 0 rfl) ?_
        refine lv_ldcw (v := 100000000) hx hb hown (hts _ wq_1388) dX11_shortest_31 ?_
        refine qf_put2 hx hb hts inX11 tyX11 tyX11_ok nmX11 hown hK hP hS qw_Ai (q0 := 0) (by decide) (hgM_0 ca o) rfl 43 (by decide) wq_1035 rfl (x := 100000000) 43 rfl rfl rfl (Nat.le_of_ble_eq_true rfl) dX11_shortest_34 (fun z6 H locs hz6 hP hS => ?_)
        have J6 := jM_0_43 J4 hz6
        refine lv_iconst (v := 0) hx hb dX11_shortest_37 (by decide) ?_
        refine lv_istore_n (lv' := [(3, .int 0), (0, .ref (o + 0)), (1, .int a0), (2, .int a1)]) hx hb dX11_shortest_38 rfl hl (by decide) rfl (fun ls hl => ?_)
        have loop7 : ∀ (n : Nat) (w7_3 : Int32) (z7 : Nat → Nat → Int32) (y7 : Nat → Nat → Int64), ((6 - w7_3.toInt : Int) < (n : Int)) → ((0 : Int) ≤ w7_3.toInt ∧ w7_3.toInt ≤ 6) → (qJM b z7) → ∀ (H : Heap) (locs : List Loc), qw_P D vwCl o 41 (qG (GM ca o) z7 y7) H → va_S (qw_A o 41) s.heap H locs → ∀ (ls : Array Slot), lv_has ls 6 [(3, .int w7_3), (0, .ref (o + 0)), (1, .int a0), (2, .int a1)] → W p l e (headSpec (Cond.code yX11_shortest cX11_shortest 6 (some .int) :: qtbl) ({ frames := 5, cells := 0, slots := 0, locals := 154 })).room s m (([.ref (o + 0), .int a0, .int a1] : List Value).toArray) below meth c H locs 0 0 (MQ below (va_Qi (fun r u => True ∧ qJM b u.1) (qB D vwCl (qT6 ca) o 41 (fun u : qZ => qG (GM ca o) u.1 u.2)) (qw_A o 41)) (([.ref (o + 0), .int a0, .int a1] : List Value).toArray) s 0 0 (qw_A o 41)) (F0 m 39 ls []) := by
          intro n
          induction n with
          | zero => intro w7_3 z7 y7 hb7 hv7_3 J7; exfalso; omega
          | succ n7 ih7 =>
            intro w7_3 z7 y7 hb7 hv7_3 J7 H locs hP hS ls hl
            refine lv_iload_n hx hb dX11_shortest_39 rfl (lv_at hl 0 rfl) ?_
            refine lv_bipush (v := 6) hx hb dX11_shortest_40 (by decide) ?_
            refine lv_icmp_ge (tgt := 140) hx hb dX11_shortest_42 (by decide) (fun c8 => ?_) (fun c8 => ?_)
            · have t8 : w7_3.toInt ≥ (6 : Int) := gl_le c8
              refine lv_aload_n hx hb dX11_shortest_140 rfl (lv_at hl 1 rfl) ?_
              refine qf_get hx hb hts inX11 hown hK hP (q0 := 0) (by decide) (hgM_0 ca o) rfl 43 (by decide) wq_1035 (v := .int (z7 0 43)) rfl dX11_shortest_141 ?_
              refine lv_topi (fun x9 e9 => ?_)
              refine lv_ldcw (v := 100000000) hx hb hown (hts _ wq_1388) dX11_shortest_144 ?_
              refine lv_icmp_ne (tgt := 153) hx hb dX11_shortest_147 (by decide) (fun c10 => ?_) (fun c10 => ?_)
              · have t10 : x9.toInt ≠ (100000000 : Int) := gl_ne c10
                refine lv_iload_n hx hb dX11_shortest_153 rfl (lv_at hl 3 rfl) ?_
                refine lv_if_ne (tgt := 164) hx hb dX11_shortest_154 (by decide) (fun c11 => ?_) (fun c11 => ?_)
                · have t11 : a1.toInt ≠ (0 : Int) := gl_ne c11
                  refine lv_iload_n hx hb dX11_shortest_164 rfl (lv_at hl 3 rfl) ?_
                  refine lv_iconst (v := 1) hx hb dX11_shortest_165 (by decide) ?_
                  refine lv_icmp_ne (tgt := 176) hx hb dX11_shortest_166 (by decide) (fun c12 => ?_) (fun c12 => ?_)
                  · have t12 : a1.toInt ≠ (1 : Int) := gl_ne c12
                    refine lv_iload_n hx hb dX11_shortest_176 rfl (lv_at hl 3 rfl) ?_
                    refine lv_iconst (v := 2) hx hb dX11_shortest_177 (by decide) ?_
                    refine lv_icmp_ne (tgt := 188) hx hb dX11_shortest_178 (by decide) (fun c13 => ?_) (fun c13 => ?_)
                    · have t13 : a1.toInt ≠ (2 : Int) := gl_ne c13
                      refine lv_iload_n hx hb dX11_shortest_188 rfl (lv_at hl 3 rfl) ?_
                      refine lv_iconst (v := 3) hx hb dX11_shortest_189 (by decide) ?_
                      refine lv_icmp_ne (tgt := 200) hx hb dX11_shortest_190 (by decide) (fun c14 => ?_) (fun c14 => ?_)
                      · have t14 : a1.toInt ≠ (3 : Int) := gl_ne c14
                        refine lv_aload_n hx hb dX11_shortest_200 rfl (lv_at hl 1 rfl) ?_
                        refine qf_get hx hb hts inX11 hown hK hP (q0 := 0) (by decide) (hgM_0 ca o) rfl 47 (by decide) wq_1039 (v := .int (z7 0 47)) rfl dX11_shortest_201 ?_
                        refine lv_topi (fun x15 e15 => ?_)
                        exact W.iret (v := x15) hx hb hr (fun t ht hW => ⟨⟨x15, (z7, y7), rfl, ⟨trivial, J7⟩, by rw [ht]; exact hP, va_K.moved hW.alike hK⟩, hS.F ht⟩) hS.2.2 dX11_shortest_204
                      · have t14 : a1.toInt = (3 : Int) := gl_eq c14
                        refine lv_aload_n hx hb dX11_shortest_193 rfl (lv_at hl 1 rfl) ?_
                        refine qf_get hx hb hts inX11 hown hK hP (q0 := 0) (by decide) (hgM_0 ca o) rfl 46 (by decide) wq_1038 (v := .int (z7 0 46)) rfl dX11_shortest_194 ?_
                        refine lv_topi (fun x16 e16 => ?_)
                        refine lv_goto (tgt := 204) hx hb dX11_shortest_197 (by decide) ?_
                        exact W.iret (v := x16) hx hb hr (fun t ht hW => ⟨⟨x16, (z7, y7), rfl, ⟨trivial, J7⟩, by rw [ht]; exact hP, va_K.moved hW.alike hK⟩, hS.F ht⟩) hS.2.2 dX11_shortest_204
                    · have t13 : a1.toInt = (2 : Int) := gl_eq c13
                      refine lv_aload_n hx hb dX11_shortest_181 rfl (lv_at hl 1 rfl) ?_
                      refine qf_get hx hb hts inX11 hown hK hP (q0 := 0) (by decide) (hgM_0 ca o) rfl 45 (by decide) wq_1037 (v := .int (z7 0 45)) rfl dX11_shortest_182 ?_
                      refine lv_topi (fun x17 e17 => ?_)
                      refine lv_goto (tgt := 204) hx hb dX11_shortest_185 (by decide) ?_
                      exact W.iret (v := x17) hx hb hr (fun t ht hW => ⟨⟨x17, (z7, y7), rfl, ⟨trivial, J7⟩, by rw [ht]; exact hP, va_K.moved hW.alike hK⟩, hS.F ht⟩) hS.2.2 dX11_shortest_204
                  · have t12 : a1.toInt = (1 : Int) := gl_eq c12
                    refine lv_aload_n hx hb dX11_shortest_169 rfl (lv_at hl 1 rfl) ?_
                    refine qf_get hx hb hts inX11 hown hK hP (q0 := 0) (by decide) (hgM_0 ca o) rfl 44 (by decide) wq_1036 (v := .int (z7 0 44)) rfl dX11_shortest_170 ?_
                    refine lv_topi (fun x18 e18 => ?_)
                    refine lv_goto (tgt := 204) hx hb dX11_shortest_173 (by decide) ?_
                    exact W.iret (v := x18) hx hb hr (fun t ht hW => ⟨⟨x18, (z7, y7), rfl, ⟨trivial, J7⟩, by rw [ht]; exact hP, va_K.moved hW.alike hK⟩, hS.F ht⟩) hS.2.2 dX11_shortest_204
                · have t11 : a1.toInt = (0 : Int) := gl_eq c11
                  refine lv_aload_n hx hb dX11_shortest_157 rfl (lv_at hl 1 rfl) ?_
                  refine qf_get hx hb hts inX11 hown hK hP (q0 := 0) (by decide) (hgM_0 ca o) rfl 43 (by decide) wq_1035 (v := .int (z7 0 43)) rfl dX11_shortest_158 ?_
                  refine lv_topi (fun x19 e19 => ?_)
                  have ag19 : x19.toInt = x9.toInt := congrArg Int32.toInt (e19.trans e9.symm)
                  refine lv_goto (tgt := 204) hx hb dX11_shortest_161 (by decide) ?_
                  exact W.iret (v := x19) hx hb hr (fun t ht hW => ⟨⟨x19, (z7, y7), rfl, ⟨trivial, J7⟩, by rw [ht]; exact hP, va_K.moved hW.alike hK⟩, hS.F ht⟩) hS.2.2 dX11_shortest_204
              · have t10 : x9.toInt = (100000000 : Int) := gl_eq c10
                refine lv_bipush (v := (-2)) hx hb dX11_shortest_150 (by decide) ?_
                exact W.iret (v := (-2)) hx hb hr (fun t ht hW => ⟨⟨(-2), (z7, y7), rfl, ⟨trivial, J7⟩, by rw [ht]; exact hP, va_K.moved hW.alike hK⟩, hS.F ht⟩) hS.2.2 dX11_shortest_152
            · have t8 : w7_3.toInt < (6 : Int) := gl_nle c8
              refine lv_aload_n hx hb dX11_shortest_45 rfl (lv_at hl 1 rfl) ?_
              refine qf_get hx hb hts inX11 hown hK hP (q0 := 0) (by decide) (hgM_0 ca o) rfl 41 (by decide) wq_1033 (v := .int (z7 0 41)) rfl dX11_shortest_46 ?_
              refine lv_topi (fun x20 e20 => ?_)
              have b20 := iM_0_41 J7 e20
              refine lv_if_le (tgt := 140) hx hb dX11_shortest_49 (by decide) (fun c21 => ?_) (fun c21 => ?_)
              · have t21 : x20.toInt ≤ (0 : Int) := gl_le c21
                refine lv_aload_n hx hb dX11_shortest_140 rfl (lv_at hl 1 rfl) ?_
                refine qf_get hx hb hts inX11 hown hK hP (q0 := 0) (by decide) (hgM_0 ca o) rfl 43 (by decide) wq_1035 (v := .int (z7 0 43)) rfl dX11_shortest_141 ?_
                refine lv_topi (fun x22 e22 => ?_)
                refine lv_ldcw (v := 100000000) hx hb hown (hts _ wq_1388) dX11_shortest_144 ?_
                refine lv_icmp_ne (tgt := 153) hx hb dX11_shortest_147 (by decide) (fun c23 => ?_) (fun c23 => ?_)
                · have t23 : x22.toInt ≠ (100000000 : Int) := gl_ne c23
                  refine lv_iload_n hx hb dX11_shortest_153 rfl (lv_at hl 3 rfl) ?_
                  refine lv_if_ne (tgt := 164) hx hb dX11_shortest_154 (by decide) (fun c24 => ?_) (fun c24 => ?_)
                  · have t24 : a1.toInt ≠ (0 : Int) := gl_ne c24
                    refine lv_iload_n hx hb dX11_shortest_164 rfl (lv_at hl 3 rfl) ?_
                    refine lv_iconst (v := 1) hx hb dX11_shortest_165 (by decide) ?_
                    refine lv_icmp_ne (tgt := 176) hx hb dX11_shortest_166 (by decide) (fun c25 => ?_) (fun c25 => ?_)
                    · have t25 : a1.toInt ≠ (1 : Int) := gl_ne c25
                      refine lv_iload_n hx hb dX11_shortest_176 rfl (lv_at hl 3 rfl) ?_
                      refine lv_iconst (v := 2) hx hb dX11_shortest_177 (by decide) ?_
                      refine lv_icmp_ne (tgt := 188) hx hb dX11_shortest_178 (by decide) (fun c26 => ?_) (fun c26 => ?_)
                      · have t26 : a1.toInt ≠ (2 : Int) := gl_ne c26
                        refine lv_iload_n hx hb dX11_shortest_188 rfl (lv_at hl 3 rfl) ?_
                        refine lv_iconst (v := 3) hx hb dX11_shortest_189 (by decide) ?_
                        refine lv_icmp_ne (tgt := 200) hx hb dX11_shortest_190 (by decide) (fun c27 => ?_) (fun c27 => ?_)
                        · have t27 : a1.toInt ≠ (3 : Int) := gl_ne c27
                          refine lv_aload_n hx hb dX11_shortest_200 rfl (lv_at hl 1 rfl) ?_
                          refine qf_get hx hb hts inX11 hown hK hP (q0 := 0) (by decide) (hgM_0 ca o) rfl 47 (by decide) wq_1039 (v := .int (z7 0 47)) rfl dX11_shortest_201 ?_
                          refine lv_topi (fun x28 e28 => ?_)
                          exact W.iret (v := x28) hx hb hr (fun t ht hW => ⟨⟨x28, (z7, y7), rfl, ⟨trivial, J7⟩, by rw [ht]; exact hP, va_K.moved hW.alike hK⟩, hS.F ht⟩) hS.2.2 dX11_shortest_204
                        · have t27 : a1.toInt = (3 : Int) := gl_eq c27
                          refine lv_aload_n hx hb dX11_shortest_193 rfl (lv_at hl 1 rfl) ?_
                          refine qf_get hx hb hts inX11 hown hK hP (q0 := 0) (by decide) (hgM_0 ca o) rfl 46 (by decide) wq_1038 (v := .int (z7 0 46)) rfl dX11_shortest_194 ?_
                          refine lv_topi (fun x29 e29 => ?_)
                          refine lv_goto (tgt := 204) hx hb dX11_shortest_197 (by decide) ?_
                          exact W.iret (v := x29) hx hb hr (fun t ht hW => ⟨⟨x29, (z7, y7), rfl, ⟨trivial, J7⟩, by rw [ht]; exact hP, va_K.moved hW.alike hK⟩, hS.F ht⟩) hS.2.2 dX11_shortest_204
                      · have t26 : a1.toInt = (2 : Int) := gl_eq c26
                        refine lv_aload_n hx hb dX11_shortest_181 rfl (lv_at hl 1 rfl) ?_
                        refine qf_get hx hb hts inX11 hown hK hP (q0 := 0) (by decide) (hgM_0 ca o) rfl 45 (by decide) wq_1037 (v := .int (z7 0 45)) rfl dX11_shortest_182 ?_
                        refine lv_topi (fun x30 e30 => ?_)
                        refine lv_goto (tgt := 204) hx hb dX11_shortest_185 (by decide) ?_
                        exact W.iret (v := x30) hx hb hr (fun t ht hW => ⟨⟨x30, (z7, y7), rfl, ⟨trivial, J7⟩, by rw [ht]; exact hP, va_K.moved hW.alike hK⟩, hS.F ht⟩) hS.2.2 dX11_shortest_204
                    · have t25 : a1.toInt = (1 : Int) := gl_eq c25
                      refine lv_aload_n hx hb dX11_shortest_169 rfl (lv_at hl 1 rfl) ?_
                      refine qf_get hx hb hts inX11 hown hK hP (q0 := 0) (by decide) (hgM_0 ca o) rfl 44 (by decide) wq_1036 (v := .int (z7 0 44)) rfl dX11_shortest_170 ?_
                      refine lv_topi (fun x31 e31 => ?_)
                      refine lv_goto (tgt := 204) hx hb dX11_shortest_173 (by decide) ?_
                      exact W.iret (v := x31) hx hb hr (fun t ht hW => ⟨⟨x31, (z7, y7), rfl, ⟨trivial, J7⟩, by rw [ht]; exact hP, va_K.moved hW.alike hK⟩, hS.F ht⟩) hS.2.2 dX11_shortest_204
                  · have t24 : a1.toInt = (0 : Int) := gl_eq c24
                    refine lv_aload_n hx hb dX11_shortest_157 rfl (lv_at hl 1 rfl) ?_
                    refine qf_get hx hb hts inX11 hown hK hP (q0 := 0) (by decide) (hgM_0 ca o) rfl 43 (by decide) wq_1035 (v := .int (z7 0 43)) rfl dX11_shortest_158 ?_
                    refine lv_topi (fun x32 e32 => ?_)
                    have ag32 : x32.toInt = x22.toInt := congrArg Int32.toInt (e32.trans e22.symm)
                    refine lv_goto (tgt := 204) hx hb dX11_shortest_161 (by decide) ?_
                    exact W.iret (v := x32) hx hb hr (fun t ht hW => ⟨⟨x32, (z7, y7), rfl, ⟨trivial, J7⟩, by rw [ht]; exact hP, va_K.moved hW.alike hK⟩, hS.F ht⟩) hS.2.2 dX11_shortest_204
                · have t23 : x22.toInt = (100000000 : Int) := gl_eq c23
                  refine lv_bipush (v := (-2)) hx hb dX11_shortest_150 (by decide) ?_
                  exact W.iret (v := (-2)) hx hb hr (fun t ht hW => ⟨⟨(-2), (z7, y7), rfl, ⟨trivial, J7⟩, by rw [ht]; exact hP, va_K.moved hW.alike hK⟩, hS.F ht⟩) hS.2.2 dX11_shortest_152
              · have t21 : x20.toInt > (0 : Int) := gl_nle c21
                refine lv_aload_n hx hb dX11_shortest_52 rfl (lv_at hl 1 rfl) ?_
                refine lv_iload_n hx hb dX11_shortest_53 rfl (lv_at hl 0 rfl) ?_
                refine qc_Vip (As := [.int w7_3]) (rest := []) (k0 := 1) (m_isPerson l D ca o b z7 y7 J7 w7_3) kc_yX11_isPerson ⟨hx, hb, hml, hown, hts⟩ wq_1194 rfl rfl ⟨Nat.le_of_ble_eq_true rfl, Nat.le_of_ble_eq_true rfl⟩ wq_all hP hK hS qw_Ai (q0 := 0) (by decide) (hgM_0 ca o _ _) rfl rfl hl.1 rfl (Nat.le_of_ble_eq_true rfl) dX11_shortest_54 ⟨Nat.zero_le _, Nat.zero_le _⟩ (fun r33 H locs h33 hP hS _ _ => ?_)
                rcases h33 with ⟨hr33, hf33_0, hf33_1⟩ | ⟨hr33, hf33_0⟩
                · subst hr33
                  have hg33_0 : pHas (z7 0 4) w7_3 := hf33_0
                  have hg33_1 : 0 ≤ w7_3.toInt ∧ w7_3.toInt ≤ 5 := hf33_1
                  refine lv_if_ne (tgt := 63) hx hb dX11_shortest_57 (by decide) (fun _ => ?_) (fun q => absurd q (by decide))
                  refine lv_aload_n hx hb dX11_shortest_63 rfl (lv_at hl 1 rfl) ?_
                  refine lv_iconst (v := 0) hx hb dX11_shortest_64 (by decide) ?_
                  refine lv_iload_n hx hb dX11_shortest_65 rfl (lv_at hl 0 rfl) ?_
                  refine qc_Vip (As := [.int 0, .int w7_3]) (rest := []) (k0 := 2) (m_ageNow l D ca o b z7 y7 J7 0 w7_3 ⟨by decide, by decide⟩ ⟨by omega, by omega⟩) kc_yX11_ageNow ⟨hx, hb, hml, hown, hts⟩ wq_1473 rfl rfl ⟨Nat.le_of_ble_eq_true rfl, Nat.le_of_ble_eq_true rfl⟩ wq_all hP hK hS qw_Ai (q0 := 0) (by decide) (hgM_0 ca o _ _) rfl rfl hl.1 rfl (Nat.le_of_ble_eq_true rfl) dX11_shortest_66 ⟨Nat.zero_le _, Nat.zero_le _⟩ (fun r34 H locs h34 hP hS _ _ => ?_)
                  refine lv_istore (lv' := [(4, .int r34), (3, .int w7_3), (0, .ref (o + 0)), (1, .int a0), (2, .int a1)]) hx hb dX11_shortest_69 hl (by decide) rfl (fun ls hl => ?_)
                  refine lv_aload_n hx hb dX11_shortest_71 rfl (lv_at hl 2 rfl) ?_
                  refine lv_iload_n hx hb dX11_shortest_72 rfl (lv_at hl 1 rfl) ?_
                  refine lv_iconst (v := 0) hx hb dX11_shortest_73 (by decide) ?_
                  refine lv_iconst (v := (-1)) hx hb dX11_shortest_74 (by decide) ?_
                  refine lv_iload hx hb dX11_shortest_75 (lv_at hl 0 rfl) ?_
                  refine qc_Vip (As := [.int w7_3, .int 0, .int ((-1)), .int r34]) (rest := []) (k0 := 4) (m_rowsWith l D ca o b z7 y7 J7 w7_3 0 (-1) r34 ⟨by omega, by omega⟩ ⟨by decide, by decide⟩) kc_yX11_rowsWith ⟨hx, hb, hml, hown, hts⟩ wq_1477 rfl rfl ⟨Nat.le_of_ble_eq_true rfl, Nat.le_of_ble_eq_true rfl⟩ wq_all hP hK hS qw_Ai (q0 := 0) (by decide) (hgM_0 ca o _ _) rfl rfl hl.1 rfl (Nat.le_of_ble_eq_true rfl) dX11_shortest_77 ⟨Nat.zero_le _, Nat.zero_le _⟩ (fun r35 H locs h35 hP hS _ _ => ?_)
                  refine lv_iconst (v := 1) hx hb dX11_shortest_80 (by decide) ?_
                  refine lv_icmp_ne (tgt := 101) hx hb dX11_shortest_81 (by decide) (fun c36 => ?_) (fun c36 => ?_)
                  · have t36 : r35.toInt ≠ (1 : Int) := gl_ne c36
                    refine lv_iconst (v := 0) hx hb dX11_shortest_101 (by decide) ?_
                    refine lv_istore (lv' := [(5, .int 0), (4, .int r34), (3, .int w7_3), (0, .ref (o + 0)), (1, .int a0), (2, .int a1)]) hx hb dX11_shortest_102 hl (by decide) rfl (fun ls hl => ?_)
                    have loop37 : ∀ (n : Nat) (w37_5 : Int32) (z37 : Nat → Nat → Int32) (y37 : Nat → Nat → Int64), ((6 - w37_5.toInt : Int) < (n : Int)) → ((0 : Int) ≤ w37_5.toInt ∧ w37_5.toInt ≤ 6) → (qJM b z37) → ∀ (H : Heap) (locs : List Loc), qw_P D vwCl o 41 (qG (GM ca o) z37 y37) H → va_S (qw_A o 41) s.heap H locs → ∀ (ls : Array Slot), lv_has ls 6 [(5, .int w37_5), (4, .int r34), (3, .int w7_3), (0, .ref (o + 0)), (1, .int a0), (2, .int a1)] → W p l e (headSpec (Cond.code yX11_shortest cX11_shortest 6 (some .int) :: qtbl) ({ frames := 5, cells := 0, slots := 0, locals := 154 })).room s m (([.ref (o + 0), .int a0, .int a1] : List Value).toArray) below meth c H locs 0 0 (MQ below (va_Qi (fun r u => True ∧ qJM b u.1) (qB D vwCl (qT6 ca) o 41 (fun u : qZ => qG (GM ca o) u.1 u.2)) (qw_A o 41)) (([.ref (o + 0), .int a0, .int a1] : List Value).toArray) s 0 0 (qw_A o 41)) (F0 m 104 ls []) := by
                      intro n
                      induction n with
                      | zero => intro w37_5 z37 y37 hb37 hv37_5 J37; exfalso; omega
                      | succ n37 ih37 =>
                        intro w37_5 z37 y37 hb37 hv37_5 J37 H locs hP hS ls hl
                        refine lv_iload hx hb dX11_shortest_104 (lv_at hl 0 rfl) ?_
                        refine lv_bipush (v := 6) hx hb dX11_shortest_106 (by decide) ?_
                        refine lv_icmp_ge (tgt := 134) hx hb dX11_shortest_108 (by decide) (fun c38 => ?_) (fun c38 => ?_)
                        · have t38 : w37_5.toInt ≥ (6 : Int) := gl_le c38
                          obtain ⟨x39, e39⟩ : ∃ t : Int32, t = w7_3 + 1 := ⟨_, rfl⟩
                          refine lv_iinc (v := x39) (lv' := [(3, .int x39), (5, .int w37_5), (4, .int r34), (0, .ref (o + 0)), (1, .int a0), (2, .int a1)]) hx hb dX11_shortest_134 hl (k := 2) rfl (by rw [e39]; rfl) (by decide) rfl (fun ls hl => ?_)
                          have t39 : x39.toInt = w7_3.toInt + (1 : Int) := ga_add e39 rfl rfl (by omega) (by omega)
                          refine lv_goto (tgt := 39) hx hb dX11_shortest_137 (by decide) ?_
                          exact ih7 x39 z37 y37 (show (6 - x39.toInt : Int) < (n7 : Int) from by omega) ⟨by omega, by omega⟩ J37 _ _ hP hS _ (lv_sub hl [0, 3, 4, 5] rfl)
                        · have t38 : w37_5.toInt < (6 : Int) := gl_nle c38
                          refine lv_aload_n hx hb dX11_shortest_111 rfl (lv_at hl 3 rfl) ?_
                          refine lv_iload_n hx hb dX11_shortest_112 rfl (lv_at hl 2 rfl) ?_
                          refine lv_iload hx hb dX11_shortest_113 (lv_at hl 0 rfl) ?_
                          refine qc_Vip (As := [.int w7_3, .int w37_5]) (rest := []) (k0 := 2) (m_areTwo l D ca o b z37 y37 J37 w7_3 w37_5) kc_yX11_areTwo ⟨hx, hb, hml, hown, hts⟩ wq_1384 rfl rfl ⟨Nat.le_of_ble_eq_true rfl, Nat.le_of_ble_eq_true rfl⟩ wq_all hP hK hS qw_Ai (q0 := 0) (by decide) (hgM_0 ca o _ _) rfl rfl hl.1 rfl (Nat.le_of_ble_eq_true rfl) dX11_shortest_115 ⟨Nat.zero_le _, Nat.zero_le _⟩ (fun r40 H locs h40 hP hS _ _ => ?_)
                          rcases h40 with ⟨hr40, hf40_0, hf40_1⟩ | ⟨hr40, hf40_0⟩
                          · subst hr40
                            have hg40_0 : pHas (z37 0 4) w7_3 ∧ pHas (z37 0 4) w37_5 ∧ w7_3.toInt ≠ w37_5.toInt := hf40_0
                            have hg40_1 : 0 ≤ w7_3.toInt ∧ w7_3.toInt ≤ 5 ∧ 0 ≤ w37_5.toInt ∧ w37_5.toInt ≤ 5 := hf40_1
                            refine lv_if_eq (tgt := 128) hx hb dX11_shortest_118 (by decide) (fun q => absurd q (by decide)) (fun _ => ?_)
                            refine lv_aload_n hx hb dX11_shortest_121 rfl (lv_at hl 3 rfl) ?_
                            refine lv_iload_n hx hb dX11_shortest_122 rfl (lv_at hl 2 rfl) ?_
                            refine lv_iload hx hb dX11_shortest_123 (lv_at hl 0 rfl) ?_
                            refine qc_Vv2 (As := [.int w7_3, .int w37_5]) (rest := []) (k0 := 2) (m_triesTwo l D ca o b z37 y37 J37 w7_3 w37_5 ⟨by omega, by omega⟩ ⟨by omega, by omega⟩) kc_yX11_triesTwo ⟨hx, hb, hml, hown, hts⟩ wq_1488 rfl rfl ⟨Nat.le_of_ble_eq_true rfl, Nat.le_of_ble_eq_true rfl⟩ wq_all hP hK hS qw_Ai (q0 := 0) (by decide) (hgM_0 ca o _ _) rfl rfl hl.1 rfl (Nat.le_of_ble_eq_true rfl) dX11_shortest_125 ⟨Nat.zero_le _, Nat.zero_le _⟩ (fun z41 y41 H locs h41 hP hS _ _ => ?_)
                            have J41 : qJM b z41 := h41
                            obtain ⟨x42, e42⟩ : ∃ t : Int32, t = w37_5 + 1 := ⟨_, rfl⟩
                            refine lv_iinc (v := x42) (lv' := [(5, .int x42), (4, .int r34), (3, .int w7_3), (0, .ref (o + 0)), (1, .int a0), (2, .int a1)]) hx hb dX11_shortest_128 hl (k := 0) rfl (by rw [e42]; rfl) (by decide) rfl (fun ls hl => ?_)
                            have t42 : x42.toInt = w37_5.toInt + (1 : Int) := ga_add e42 rfl rfl (by omega) (by omega)
                            refine lv_goto (tgt := 104) hx hb dX11_shortest_131 (by decide) ?_
                            exact ih37 x42 z41 y41 (show (6 - x42.toInt : Int) < (n37 : Int) from by omega) ⟨by omega, by omega⟩ J41 _ _ hP hS _ (lv_sub hl [0, 1, 2, 3, 4, 5] rfl)
                          · subst hr40
                            have hg40_0 : ¬ (pHas (z37 0 4) w7_3 ∧ pHas (z37 0 4) w37_5 ∧ w7_3.toInt ≠ w37_5.toInt) := hf40_0
                            refine lv_if_eq (tgt := 128) hx hb dX11_shortest_118 (by decide) (fun _ => ?_) (fun q => absurd (by decide) q)
                            obtain ⟨x43, e43⟩ : ∃ t : Int32, t = w37_5 + 1 := ⟨_, rfl⟩
                            refine lv_iinc (v := x43) (lv' := [(5, .int x43), (4, .int r34), (3, .int w7_3), (0, .ref (o + 0)), (1, .int a0), (2, .int a1)]) hx hb dX11_shortest_128 hl (k := 0) rfl (by rw [e43]; rfl) (by decide) rfl (fun ls hl => ?_)
                            have t43 : x43.toInt = w37_5.toInt + (1 : Int) := ga_add e43 rfl rfl (by omega) (by omega)
                            refine lv_goto (tgt := 104) hx hb dX11_shortest_131 (by decide) ?_
                            exact ih37 x43 z37 y37 (show (6 - x43.toInt : Int) < (n37 : Int) from by omega) ⟨by omega, by omega⟩ J37 _ _ hP hS _ (lv_sub hl [0, 1, 2, 3, 4, 5] rfl)
                    exact loop37 7 0 z7 y7 (show (6 - (0 : Int) : Int) < ((7 : Nat) : Int) from by omega) ⟨by decide, by decide⟩ J7 _ _ hP hS _ (lv_sub hl [0, 1, 2, 3, 4, 5] rfl)
                  · have t36 : r35.toInt = (1 : Int) := gl_eq c36
                    refine lv_aload_n hx hb dX11_shortest_84 rfl (lv_at hl 2 rfl) ?_
                    refine lv_iconst (v := 2) hx hb dX11_shortest_85 (by decide) ?_
                    refine lv_iload hx hb dX11_shortest_86 (lv_at hl 0 rfl) ?_
                    refine qc_Sip (As := [.int r34]) (rest := [.int 2, .ref (o + 0)]) (k0 := 1) (m_digitsOf l D ca o b z7 y7 J7 r34) kc_yX11_digitsOf ⟨hx, hb, hml, hown, hts⟩ wq_1481 rfl rfl ⟨Nat.le_of_ble_eq_true rfl, Nat.le_of_ble_eq_true rfl⟩ wq_all hP hK hS qw_Ai rfl hl.1 rfl (Nat.le_of_ble_eq_true rfl) dX11_shortest_88 ⟨Nat.zero_le _, Nat.zero_le _⟩ (fun r44 H locs h44 hP hS _ _ => ?_)
                    have b44 : (1 : Int) ≤ r44.toInt ∧ r44.toInt ≤ 3 := h44
                    refine lv_iadd hx hb dX11_shortest_91 ?_
                    refine lv_topi (fun x45 e45 => ?_)
                    have t45 : x45.toInt = (2 : Int) + r44.toInt := ga_add e45 rfl rfl (by omega) (by omega)
                    refine lv_iconst (v := 0) hx hb dX11_shortest_92 (by decide) ?_
                    refine lv_iload_n hx hb dX11_shortest_93 rfl (lv_at hl 1 rfl) ?_
                    refine lv_bipush (v := (-2)) hx hb dX11_shortest_94 (by decide) ?_
                    refine lv_iload hx hb dX11_shortest_96 (lv_at hl 0 rfl) ?_
                    refine qc_Vv2 (As := [.int x45, .int 0, .int w7_3, .int ((-2)), .int r34]) (rest := []) (k0 := 5) (m_mayBe l D ca o b z7 y7 J7 x45 0 w7_3 (-2) r34) kc_yX11_mayBe ⟨hx, hb, hml, hown, hts⟩ wq_1484 rfl rfl ⟨Nat.le_of_ble_eq_true rfl, Nat.le_of_ble_eq_true rfl⟩ wq_all hP hK hS qw_Ai (q0 := 0) (by decide) (hgM_0 ca o _ _) rfl rfl hl.1 rfl (Nat.le_of_ble_eq_true rfl) dX11_shortest_98 ⟨Nat.zero_le _, Nat.zero_le _⟩ (fun z46 y46 H locs h46 hP hS _ _ => ?_)
                    have J46 : qJM b z46 := h46
                    refine lv_iconst (v := 0) hx hb dX11_shortest_101 (by decide) ?_
                    refine lv_istore (lv' := [(5, .int 0), (4, .int r34), (3, .int w7_3), (0, .ref (o + 0)), (1, .int a0), (2, .int a1)]) hx hb dX11_shortest_102 hl (by decide) rfl (fun ls hl => ?_)
                    have loop47 : ∀ (n : Nat) (w47_5 : Int32) (z47 : Nat → Nat → Int32) (y47 : Nat → Nat → Int64), ((6 - w47_5.toInt : Int) < (n : Int)) → ((0 : Int) ≤ w47_5.toInt ∧ w47_5.toInt ≤ 6) → (qJM b z47) → ∀ (H : Heap) (locs : List Loc), qw_P D vwCl o 41 (qG (GM ca o) z47 y47) H → va_S (qw_A o 41) s.heap H locs → ∀ (ls : Array Slot), lv_has ls 6 [(5, .int w47_5), (4, .int r34), (3, .int w7_3), (0, .ref (o + 0)), (1, .int a0), (2, .int a1)] → W p l e (headSpec (Cond.code yX11_shortest cX11_shortest 6 (some .int) :: qtbl) ({ frames := 5, cells := 0, slots := 0, locals := 154 })).room s m (([.ref (o + 0), .int a0, .int a1] : List Value).toArray) below meth c H locs 0 0 (MQ below (va_Qi (fun r u => True ∧ qJM b u.1) (qB D vwCl (qT6 ca) o 41 (fun u : qZ => qG (GM ca o) u.1 u.2)) (qw_A o 41)) (([.ref (o + 0), .int a0, .int a1] : List Value).toArray) s 0 0 (qw_A o 41)) (F0 m 104 ls []) := by
                      intro n
                      induction n with
                      | zero => intro w47_5 z47 y47 hb47 hv47_5 J47; exfalso; omega
                      | succ n47 ih47 =>
                        intro w47_5 z47 y47 hb47 hv47_5 J47 H locs hP hS ls hl
                        refine lv_iload hx hb dX11_shortest_104 (lv_at hl 0 rfl) ?_
                        refine lv_bipush (v := 6) hx hb dX11_shortest_106 (by decide) ?_
                        refine lv_icmp_ge (tgt := 134) hx hb dX11_shortest_108 (by decide) (fun c48 => ?_) (fun c48 => ?_)
                        · have t48 : w47_5.toInt ≥ (6 : Int) := gl_le c48
                          obtain ⟨x49, e49⟩ : ∃ t : Int32, t = w7_3 + 1 := ⟨_, rfl⟩
                          refine lv_iinc (v := x49) (lv' := [(3, .int x49), (5, .int w47_5), (4, .int r34), (0, .ref (o + 0)), (1, .int a0), (2, .int a1)]) hx hb dX11_shortest_134 hl (k := 2) rfl (by rw [e49]; rfl) (by decide) rfl (fun ls hl => ?_)
                          have t49 : x49.toInt = w7_3.toInt + (1 : Int) := ga_add e49 rfl rfl (by omega) (by omega)
                          refine lv_goto (tgt := 39) hx hb dX11_shortest_137 (by decide) ?_
                          exact ih7 x49 z47 y47 (show (6 - x49.toInt : Int) < (n7 : Int) from by omega) ⟨by omega, by omega⟩ J47 _ _ hP hS _ (lv_sub hl [0, 3, 4, 5] rfl)
                        · have t48 : w47_5.toInt < (6 : Int) := gl_nle c48
                          refine lv_aload_n hx hb dX11_shortest_111 rfl (lv_at hl 3 rfl) ?_
                          refine lv_iload_n hx hb dX11_shortest_112 rfl (lv_at hl 2 rfl) ?_
                          refine lv_iload hx hb dX11_shortest_113 (lv_at hl 0 rfl) ?_
                          refine qc_Vip (As := [.int w7_3, .int w47_5]) (rest := []) (k0 := 2) (m_areTwo l D ca o b z47 y47 J47 w7_3 w47_5) kc_yX11_areTwo ⟨hx, hb, hml, hown, hts⟩ wq_1384 rfl rfl ⟨Nat.le_of_ble_eq_true rfl, Nat.le_of_ble_eq_true rfl⟩ wq_all hP hK hS qw_Ai (q0 := 0) (by decide) (hgM_0 ca o _ _) rfl rfl hl.1 rfl (Nat.le_of_ble_eq_true rfl) dX11_shortest_115 ⟨Nat.zero_le _, Nat.zero_le _⟩ (fun r50 H locs h50 hP hS _ _ => ?_)
                          rcases h50 with ⟨hr50, hf50_0, hf50_1⟩ | ⟨hr50, hf50_0⟩
                          · subst hr50
                            have hg50_0 : pHas (z47 0 4) w7_3 ∧ pHas (z47 0 4) w47_5 ∧ w7_3.toInt ≠ w47_5.toInt := hf50_0
                            have hg50_1 : 0 ≤ w7_3.toInt ∧ w7_3.toInt ≤ 5 ∧ 0 ≤ w47_5.toInt ∧ w47_5.toInt ≤ 5 := hf50_1
                            refine lv_if_eq (tgt := 128) hx hb dX11_shortest_118 (by decide) (fun q => absurd q (by decide)) (fun _ => ?_)
                            refine lv_aload_n hx hb dX11_shortest_121 rfl (lv_at hl 3 rfl) ?_
                            refine lv_iload_n hx hb dX11_shortest_122 rfl (lv_at hl 2 rfl) ?_
                            refine lv_iload hx hb dX11_shortest_123 (lv_at hl 0 rfl) ?_
                            refine qc_Vv2 (As := [.int w7_3, .int w47_5]) (rest := []) (k0 := 2) (m_triesTwo l D ca o b z47 y47 J47 w7_3 w47_5 ⟨by omega, by omega⟩ ⟨by omega, by omega⟩) kc_yX11_triesTwo ⟨hx, hb, hml, hown, hts⟩ wq_1488 rfl rfl ⟨Nat.le_of_ble_eq_true rfl, Nat.le_of_ble_eq_true rfl⟩ wq_all hP hK hS qw_Ai (q0 := 0) (by decide) (hgM_0 ca o _ _) rfl rfl hl.1 rfl (Nat.le_of_ble_eq_true rfl) dX11_shortest_125 ⟨Nat.zero_le _, Nat.zero_le _⟩ (fun z51 y51 H locs h51 hP hS _ _ => ?_)
                            have J51 : qJM b z51 := h51
                            obtain ⟨x52, e52⟩ : ∃ t : Int32, t = w47_5 + 1 := ⟨_, rfl⟩
                            refine lv_iinc (v := x52) (lv' := [(5, .int x52), (4, .int r34), (3, .int w7_3), (0, .ref (o + 0)), (1, .int a0), (2, .int a1)]) hx hb dX11_shortest_128 hl (k := 0) rfl (by rw [e52]; rfl) (by decide) rfl (fun ls hl => ?_)
                            have t52 : x52.toInt = w47_5.toInt + (1 : Int) := ga_add e52 rfl rfl (by omega) (by omega)
                            refine lv_goto (tgt := 104) hx hb dX11_shortest_131 (by decide) ?_
                            exact ih47 x52 z51 y51 (show (6 - x52.toInt : Int) < (n47 : Int) from by omega) ⟨by omega, by omega⟩ J51 _ _ hP hS _ (lv_sub hl [0, 1, 2, 3, 4, 5] rfl)
                          · subst hr50
                            have hg50_0 : ¬ (pHas (z47 0 4) w7_3 ∧ pHas (z47 0 4) w47_5 ∧ w7_3.toInt ≠ w47_5.toInt) := hf50_0
                            refine lv_if_eq (tgt := 128) hx hb dX11_shortest_118 (by decide) (fun _ => ?_) (fun q => absurd (by decide) q)
                            obtain ⟨x53, e53⟩ : ∃ t : Int32, t = w47_5 + 1 := ⟨_, rfl⟩
                            refine lv_iinc (v := x53) (lv' := [(5, .int x53), (4, .int r34), (3, .int w7_3), (0, .ref (o + 0)), (1, .int a0), (2, .int a1)]) hx hb dX11_shortest_128 hl (k := 0) rfl (by rw [e53]; rfl) (by decide) rfl (fun ls hl => ?_)
                            have t53 : x53.toInt = w47_5.toInt + (1 : Int) := ga_add e53 rfl rfl (by omega) (by omega)
                            refine lv_goto (tgt := 104) hx hb dX11_shortest_131 (by decide) ?_
                            exact ih47 x53 z47 y47 (show (6 - x53.toInt : Int) < (n47 : Int) from by omega) ⟨by omega, by omega⟩ J47 _ _ hP hS _ (lv_sub hl [0, 1, 2, 3, 4, 5] rfl)
                    exact loop47 7 0 z46 y46 (show (6 - (0 : Int) : Int) < ((7 : Nat) : Int) from by omega) ⟨by decide, by decide⟩ J46 _ _ hP hS _ (lv_sub hl [0, 1, 2, 3, 4, 5] rfl)
                · subst hr33
                  have hg33_0 : ¬ pHas (z7 0 4) w7_3 := hf33_0
                  refine lv_if_ne (tgt := 63) hx hb dX11_shortest_57 (by decide) (fun q => absurd q (by decide)) (fun _ => ?_)
                  refine lv_goto (tgt := 134) hx hb dX11_shortest_60 (by decide) ?_
                  obtain ⟨x54, e54⟩ : ∃ t : Int32, t = w7_3 + 1 := ⟨_, rfl⟩
                  refine lv_iinc (v := x54) (lv' := [(3, .int x54), (0, .ref (o + 0)), (1, .int a0), (2, .int a1)]) hx hb dX11_shortest_134 hl (k := 0) rfl (by rw [e54]; rfl) (by decide) rfl (fun ls hl => ?_)
                  have t54 : x54.toInt = w7_3.toInt + (1 : Int) := ga_add e54 rfl rfl (by omega) (by omega)
                  refine lv_goto (tgt := 39) hx hb dX11_shortest_137 (by decide) ?_
                  exact ih7 x54 z7 y7 (show (6 - x54.toInt : Int) < (n7 : Int) from by omega) ⟨by omega, by omega⟩ J7 _ _ hP hS _ (lv_sub hl [0, 1, 2, 3] rfl)
        exact loop7 7 0 z6 y4 (show (6 - (0 : Int) : Int) < ((7 : Nat) : Int) from by omega) ⟨by decide, by decide⟩ J6 _ _ hP hS _ (lv_sub hl [0, 1, 2, 3] rfl)
      · have t5 : r4.toInt = (0 : Int) := gl_eq c5
        refine lv_bipush (v := (-3)) hx hb dX11_shortest_27 (by decide) ?_
        exact W.iret (v := (-3)) hx hb hr (fun t ht hW => ⟨⟨(-3), (z4, y4), rfl, ⟨trivial, J4⟩, by rw [ht]; exact hP, va_K.moved hW.alike hK⟩, hS.F ht⟩) hS.2.2 dX11_shortest_29
    · subst hr3
      have hg3_0 : ¬ ((0 : Int) ≤ a1.toInt ∧ a1.toInt ≤ (4 : Int)) := hf3_0
      refine lv_if_ne (tgt := 19) hx hb dX11_shortest_14 (by decide) (fun q => absurd q (by decide)) (fun _ => ?_)
      refine lv_iconst (v := (-1)) hx hb dX11_shortest_17 (by decide) ?_
      exact W.iret (v := (-1)) hx hb hr (fun t ht hW => ⟨⟨(-1), (z, y), rfl, ⟨trivial, J0⟩, by rw [ht]; exact hP, va_K.moved hW.alike hK⟩, hS.F ht⟩) hS.2.2 dX11_shortest_18
set_option maxRecDepth 100000 in
set_option maxHeartbeats 8000000 in
theorem m_often (l : Launch) (D : va_G) (ca : Nat → ClassId) (o : Nat) (b z : Nat → Nat → Int32) (y : Nat → Nat → Int64) (J0 : qJM b z) (a0 : Int32) (a1 : Int32) (a2 : Int32)  : qM l yX11_often cX11_often 10 (some .int) 5 148 (qPre D vwCl (qT6 ca) o 41 (qG (GM ca o) z y) [.ref (o + 0), .int a0, .int a1, .int a2]) (va_Qi (fun r u => True ∧ qJM b u.1) (qB D vwCl (qT6 ca) o 41 (fun u : qZ => qG (GM ca o) u.1 u.2)) (qw_A o 41)) (qw_A o 41) := by
  refine Met.ofW (cc := cX11_often) (maxL := 10) (ret := (some .int)) (by decide) rfl ?_
  intro p e s m args below meth c s₁ B hml hv
  obtain ⟨rfl, hP, hK⟩ := hv
  have hx := B.exec
  have hb := B.bytes
  have hr := B.returns
  have hts0 := atoms_spec (ws := Cond.code yX11_often cX11_often 10 (some .int) :: qtbl) B.pre
  have hts : ∀ w ∈ qtbl, w.before _ s = true := fun w h => hts0 w (List.mem_cons_of_mem _ h)
  have hown : s.vm.findClass RX11 = some m.cls := findClass_of_methodNamed B.named
  have hlocks := B.notSynchronized
  have hS : va_S (qw_A o 41) s.heap s.heap [] := va_S.rf
  have hl := lv_entry ([.ref (o + 0), .int a0, .int a1, .int a2]) (n := 10) (Nat.le_of_ble_eq_true rfl)
  rw [lg_entry_eq]
  generalize (lg_sl ([.ref (o + 0), .int a0, .int a1, .int a2]) ++ List.replicate (10 - (lg_sl ([.ref (o + 0), .int a0, .int a1, .int a2])).length) Slot.unset).toArray = ls at hl ⊢
  have hl : lv_has ls 10 [(0, .ref (o + 0)), (1, .int a0), (2, .int a1), (3, .int a2)] := hl
  refine lv_aload_n hx hb dX11_often_0 rfl (lv_at hl 0 rfl) ?_
  refine lv_iload_n hx hb dX11_often_1 rfl (lv_at hl 1 rfl) ?_
  refine qc_Vip (As := [.int a0]) (rest := []) (k0 := 1) (m_areRemarks l D ca o b z y J0 a0) kc_yX11_areRemarks ⟨hx, hb, hml, hown, hts⟩ wq_1324 rfl rfl ⟨Nat.le_of_ble_eq_true rfl, Nat.le_of_ble_eq_true rfl⟩ wq_all hP hK hS qw_Ai (q0 := 0) (by decide) (hgM_0 ca o _ _) rfl rfl hl.1 rfl (Nat.le_of_ble_eq_true rfl) dX11_often_2 ⟨Nat.zero_le _, Nat.zero_le _⟩ (fun r1 H locs h1 hP hS _ _ => ?_)
  have b1 : (0 : Int) ≤ r1.toInt ∧ r1.toInt ≤ 1 := h1
  refine lv_if_eq (tgt := 25) hx hb dX11_often_5 (by decide) (fun c2 => ?_) (fun c2 => ?_)
  · have t2 : r1.toInt = (0 : Int) := gl_eq c2
    refine lv_iconst (v := (-1)) hx hb dX11_often_25 (by decide) ?_
    exact W.iret (v := (-1)) hx hb hr (fun t ht hW => ⟨⟨(-1), (z, y), rfl, ⟨trivial, J0⟩, by rw [ht]; exact hP, va_K.moved hW.alike hK⟩, hS.F ht⟩) hS.2.2 dX11_often_26
  · have t2 : r1.toInt ≠ (0 : Int) := gl_ne c2
    refine lv_aload_n hx hb dX11_often_8 rfl (lv_at hl 0 rfl) ?_
    refine lv_iload_n hx hb dX11_often_9 rfl (lv_at hl 2 rfl) ?_
    refine qc_Vip (As := [.int a1]) (rest := []) (k0 := 1) (m_isForm l D ca o b z y J0 a1) kc_yX11_isForm ⟨hx, hb, hml, hown, hts⟩ wq_1433 rfl rfl ⟨Nat.le_of_ble_eq_true rfl, Nat.le_of_ble_eq_true rfl⟩ wq_all hP hK hS qw_Ai (q0 := 0) (by decide) (hgM_0 ca o _ _) rfl rfl hl.1 rfl (Nat.le_of_ble_eq_true rfl) dX11_often_10 ⟨Nat.zero_le _, Nat.zero_le _⟩ (fun r3 H locs h3 hP hS _ _ => ?_)
    rcases h3 with ⟨hr3, hf3_0⟩ | hr3
    · subst hr3
      have hg3_0 : 0 ≤ a1.toInt ∧ a1.toInt ≤ 5 := hf3_0
      refine lv_if_eq (tgt := 25) hx hb dX11_often_13 (by decide) (fun q => absurd q (by decide)) (fun _ => ?_)
      refine lv_iload_n hx hb dX11_often_16 rfl (lv_at hl 3 rfl) ?_
      refine lv_iconst (v := 0) hx hb dX11_often_17 (by decide) ?_
      refine lv_iconst (v := 2) hx hb dX11_often_18 (by decide) ?_
      refine qc_Sip (As := [.int a2, .int 0, .int 2]) (rest := []) (k0 := 3) (m_in l D ca o b z y J0 a2 0 2) kc_yX11_in ⟨hx, hb, hml, hown, hts⟩ wq_1187 rfl rfl ⟨Nat.le_of_ble_eq_true rfl, Nat.le_of_ble_eq_true rfl⟩ wq_all hP hK hS qw_Ai rfl hl.1 rfl (Nat.le_of_ble_eq_true rfl) dX11_often_19 ⟨Nat.zero_le _, Nat.zero_le _⟩ (fun r4 H locs h4 hP hS _ _ => ?_)
      rcases h4 with ⟨hr4, hf4_0⟩ | ⟨hr4, hf4_0⟩
      · subst hr4
        have hg4_0 : (0 : Int) ≤ a2.toInt ∧ a2.toInt ≤ (2 : Int) := hf4_0
        refine lv_if_ne (tgt := 27) hx hb dX11_often_22 (by decide) (fun _ => ?_) (fun q => absurd q (by decide))
        refine lv_aload_n hx hb dX11_often_27 rfl (lv_at hl 0 rfl) ?_
        refine lv_iload_n hx hb dX11_often_28 rfl (lv_at hl 1 rfl) ?_
        refine qc_Vi2 (As := [.int a0]) (rest := []) (k0 := 1) (m_lists l D ca o b z y J0 a0) kc_yX11_lists ⟨hx, hb, hml, hown, hts⟩ wq_1437 rfl rfl ⟨Nat.le_of_ble_eq_true rfl, Nat.le_of_ble_eq_true rfl⟩ wq_all hP hK hS qw_Ai (q0 := 0) (by decide) (hgM_0 ca o _ _) rfl rfl hl.1 rfl (Nat.le_of_ble_eq_true rfl) dX11_often_29 ⟨Nat.zero_le _, Nat.zero_le _⟩ (fun r5 z5 y5 H locs h5 hP hS _ _ => ?_)
        have J5 : qJM b z5 := h5.2.1
        have b5 : (0 : Int) ≤ r5.toInt ∧ r5.toInt ≤ 1 := h5.1
        refine lv_if_ne (tgt := 38) hx hb dX11_often_32 (by decide) (fun c6 => ?_) (fun c6 => ?_)
        · have t6 : r5.toInt ≠ (0 : Int) := gl_ne c6
          refine lv_aload_n hx hb dX11_often_38 rfl (lv_at hl 0 rfl) ?_
          refine lv_bipush (v := 10) hx hb dX11_often_39 (by decide) ?_
          refine lv_iload_n hx hb dX11_often_41 rfl (lv_at hl 2 rfl) ?_
          refine lv_iadd hx hb dX11_often_42 ?_
          refine lv_topi (fun x7 e7 => ?_)
          have t7 : x7.toInt = (10 : Int) + a1.toInt := ga_add e7 rfl rfl (by omega) (by omega)
          refine qc_Vv2 (As := [.int x7]) (rest := []) (k0 := 1) (m_hears l D ca o b z5 y5 J5 x7 ⟨by omega, by omega⟩) kc_yX11_hears ⟨hx, hb, hml, hown, hts⟩ wq_1441 rfl rfl ⟨Nat.le_of_ble_eq_true rfl, Nat.le_of_ble_eq_true rfl⟩ wq_all hP hK hS qw_Ai (q0 := 0) (by decide) (hgM_0 ca o _ _) rfl rfl hl.1 rfl (Nat.le_of_ble_eq_true rfl) dX11_often_43 ⟨Nat.zero_le _, Nat.zero_le _⟩ (fun z8 y8 H locs h8 hP hS _ _ => ?_)
          have J8 : qJM b z8 := h8.1
          refine lv_iconst (v := 0) hx hb dX11_often_46 (by decide) ?_
          refine lv_istore (lv' := [(4, .int 0), (0, .ref (o + 0)), (1, .int a0), (2, .int a1), (3, .int a2)]) hx hb dX11_often_47 hl (by decide) rfl (fun ls hl => ?_)
          refine lv_iconst (v := 0) hx hb dX11_often_49 (by decide) ?_
          refine lv_istore (lv' := [(5, .int 0), (4, .int 0), (0, .ref (o + 0)), (1, .int a0), (2, .int a1), (3, .int a2)]) hx hb dX11_often_50 hl (by decide) rfl (fun ls hl => ?_)
          refine lv_bipush (v := (-2)) hx hb dX11_often_52 (by decide) ?_
          refine lv_istore (lv' := [(6, .int ((-2))), (5, .int 0), (4, .int 0), (0, .ref (o + 0)), (1, .int a0), (2, .int a1), (3, .int a2)]) hx hb dX11_often_54 hl (by decide) rfl (fun ls hl => ?_)
          refine lv_iconst (v := 0) hx hb dX11_often_56 (by decide) ?_
          refine lv_istore (lv' := [(7, .int 0), (6, .int ((-2))), (5, .int 0), (4, .int 0), (0, .ref (o + 0)), (1, .int a0), (2, .int a1), (3, .int a2)]) hx hb dX11_often_57 hl (by decide) rfl (fun ls hl => ?_)
          have loop9 : ∀ (n : Nat) (w9_7 : Int32) (w9_6 : Int32) (w9_5 : Int32) (w9_4 : Int32), ((2000 - w9_7.toInt : Int) < (n : Int)) → ((0 : Int) ≤ w9_7.toInt ∧ w9_7.toInt ≤ 2000) → ((0 : Int) ≤ w9_5.toInt ∧ w9_5.toInt ≤ 2147483647) → ∀ (H : Heap) (locs : List Loc), qw_P D vwCl o 41 (qG (GM ca o) z8 y8) H → va_S (qw_A o 41) s.heap H locs → ∀ (ls : Array Slot), lv_has ls 10 [(7, .int w9_7), (6, .int w9_6), (5, .int w9_5), (4, .int w9_4), (0, .ref (o + 0)), (1, .int a0), (2, .int a1), (3, .int a2)] → W p l e (headSpec (Cond.code yX11_often cX11_often 10 (some .int) :: qtbl) ({ frames := 5, cells := 0, slots := 0, locals := 148 })).room s m (([.ref (o + 0), .int a0, .int a1, .int a2] : List Value).toArray) below meth c H locs 0 0 (MQ below (va_Qi (fun r u => True ∧ qJM b u.1) (qB D vwCl (qT6 ca) o 41 (fun u : qZ => qG (GM ca o) u.1 u.2)) (qw_A o 41)) (([.ref (o + 0), .int a0, .int a1, .int a2] : List Value).toArray) s 0 0 (qw_A o 41)) (F0 m 59 ls []) := by
            intro n
            induction n with
            | zero => intro w9_7 w9_6 w9_5 w9_4 hb9 hv9_7 hv9_5; exfalso; omega
            | succ n9 ih9 =>
              intro w9_7 w9_6 w9_5 w9_4 hb9 hv9_7 hv9_5 H locs hP hS ls hl
              refine lv_iload hx hb dX11_often_59 (lv_at hl 0 rfl) ?_
              refine lv_aload_n hx hb dX11_often_61 rfl (lv_at hl 4 rfl) ?_
              refine qf_get hx hb hts inX11 hown hK hP (q0 := 0) (by decide) (hgM_0 ca o) rfl 41 (by decide) wq_1033 (v := .int (z8 0 41)) rfl dX11_often_62 ?_
              refine lv_topi (fun x10 e10 => ?_)
              have b10 := iM_0_41 J8 e10
              refine lv_icmp_ge (tgt := 169) hx hb dX11_often_65 (by decide) (fun c11 => ?_) (fun c11 => ?_)
              · have t11 : w9_7.toInt ≥ x10.toInt := gl_le c11
                refine lv_iload_n hx hb dX11_often_169 rfl (lv_at hl 7 rfl) ?_
                refine lv_if_ne (tgt := 178) hx hb dX11_often_170 (by decide) (fun c12 => ?_) (fun c12 => ?_)
                · have t12 : a2.toInt ≠ (0 : Int) := gl_ne c12
                  refine lv_iload_n hx hb dX11_often_178 rfl (lv_at hl 7 rfl) ?_
                  refine lv_iconst (v := 1) hx hb dX11_often_179 (by decide) ?_
                  refine lv_icmp_ne (tgt := 188) hx hb dX11_often_180 (by decide) (fun c13 => ?_) (fun c13 => ?_)
                  · have t13 : a2.toInt ≠ (1 : Int) := gl_ne c13
                    refine lv_iload hx hb dX11_often_188 (lv_at hl 1 rfl) ?_
                    exact W.iret (v := w9_6) hx hb hr (fun t ht hW => ⟨⟨w9_6, (z8, y8), rfl, ⟨trivial, J8⟩, by rw [ht]; exact hP, va_K.moved hW.alike hK⟩, hS.F ht⟩) hS.2.2 dX11_often_190
                  · have t13 : a2.toInt = (1 : Int) := gl_eq c13
                    refine lv_iload hx hb dX11_often_183 (lv_at hl 2 rfl) ?_
                    refine lv_goto (tgt := 190) hx hb dX11_often_185 (by decide) ?_
                    exact W.iret (v := w9_5) hx hb hr (fun t ht hW => ⟨⟨w9_5, (z8, y8), rfl, ⟨trivial, J8⟩, by rw [ht]; exact hP, va_K.moved hW.alike hK⟩, hS.F ht⟩) hS.2.2 dX11_often_190
                · have t12 : a2.toInt = (0 : Int) := gl_eq c12
                  refine lv_iload hx hb dX11_often_173 (lv_at hl 3 rfl) ?_
                  refine lv_goto (tgt := 190) hx hb dX11_often_175 (by decide) ?_
                  exact W.iret (v := w9_4) hx hb hr (fun t ht hW => ⟨⟨w9_4, (z8, y8), rfl, ⟨trivial, J8⟩, by rw [ht]; exact hP, va_K.moved hW.alike hK⟩, hS.F ht⟩) hS.2.2 dX11_often_190
              · have t11 : w9_7.toInt < x10.toInt := gl_nle c11
                refine lv_iconst (v := 0) hx hb dX11_often_68 (by decide) ?_
                refine lv_istore (lv' := [(8, .int 0), (7, .int w9_7), (6, .int w9_6), (5, .int w9_5), (4, .int w9_4), (0, .ref (o + 0)), (1, .int a0), (2, .int a1), (3, .int a2)]) hx hb dX11_often_69 hl (by decide) rfl (fun ls hl => ?_)
                have loop14 : ∀ (n : Nat) (w14_8 : Int32), ((1999 - w14_8.toInt : Int) < (n : Int)) → ((0 : Int) ≤ w14_8.toInt ∧ w14_8.toInt ≤ 1999) → (w14_8.toInt ≤ w9_7.toInt) → ∀ (H : Heap) (locs : List Loc), qw_P D vwCl o 41 (qG (GM ca o) z8 y8) H → va_S (qw_A o 41) s.heap H locs → ∀ (ls : Array Slot), lv_has ls 10 [(8, .int w14_8), (7, .int w9_7), (6, .int w9_6), (5, .int w9_5), (4, .int w9_4), (0, .ref (o + 0)), (1, .int a0), (2, .int a1), (3, .int a2)] → W p l e (headSpec (Cond.code yX11_often cX11_often 10 (some .int) :: qtbl) ({ frames := 5, cells := 0, slots := 0, locals := 148 })).room s m (([.ref (o + 0), .int a0, .int a1, .int a2] : List Value).toArray) below meth c H locs 0 0 (MQ below (va_Qi (fun r u => True ∧ qJM b u.1) (qB D vwCl (qT6 ca) o 41 (fun u : qZ => qG (GM ca o) u.1 u.2)) (qw_A o 41)) (([.ref (o + 0), .int a0, .int a1, .int a2] : List Value).toArray) s 0 0 (qw_A o 41)) (F0 m 71 ls []) := by
                  intro n
                  induction n with
                  | zero => intro w14_8 hb14 hv14_8 v14_0; exfalso; omega
                  | succ n14 ih14 =>
                    intro w14_8 hb14 hv14_8 v14_0 H locs hP hS ls hl
                    refine lv_aload_n hx hb dX11_often_71 rfl (lv_at hl 5 rfl) ?_
                    refine qf_get hx hb hts inX11 hown hK hP (q0 := 0) (by decide) (hgM_0 ca o) rfl 40 (by decide) wq_1032 (v := .ref (o + 27)) rfl dX11_often_72 ?_
                    refine lv_iload hx hb dX11_often_75 (lv_at hl 0 rfl) ?_
                    refine qa_iald hx hb hK hP (q0 := 27) (by decide) 0 (N := 2000) (hgM_27 ca o) rfl (gi_in (by omega) (by omega)) dX11_often_77 ?_
                    refine lv_topi (fun x15 e15 => ?_)
                    refine lv_aload_n hx hb dX11_often_78 rfl (lv_at hl 5 rfl) ?_
                    refine qf_get hx hb hts inX11 hown hK hP (q0 := 0) (by decide) (hgM_0 ca o) rfl 40 (by decide) wq_1032 (v := .ref (o + 27)) rfl dX11_often_79 ?_
                    refine lv_iload hx hb dX11_often_82 (lv_at hl 1 rfl) ?_
                    refine qa_iald hx hb hK hP (q0 := 27) (by decide) 0 (N := 2000) (hgM_27 ca o) rfl (gi_in (by omega) (by omega)) dX11_often_84 ?_
                    refine lv_topi (fun x16 e16 => ?_)
                    refine lv_icmp_eq (tgt := 97) hx hb dX11_often_85 (by decide) (fun c17 => ?_) (fun c17 => ?_)
                    · have t17 : x15.toInt = x16.toInt := gl_eq c17
                      refine lv_iload hx hb dX11_often_97 (lv_at hl 0 rfl) ?_
                      refine lv_iload hx hb dX11_often_99 (lv_at hl 1 rfl) ?_
                      refine lv_icmp_ge (tgt := 107) hx hb dX11_often_101 (by decide) (fun c18 => ?_) (fun c18 => ?_)
                      · have t18 : w14_8.toInt ≥ w9_7.toInt := gl_le c18
                        refine lv_aload_n hx hb dX11_often_107 rfl (lv_at hl 5 rfl) ?_
                        refine lv_iload hx hb dX11_often_108 (lv_at hl 1 rfl) ?_
                        refine qc_Vip (As := [.int w9_7]) (rest := []) (k0 := 1) (m_alikeTo l D ca o b z8 y8 J8 w9_7 ⟨by omega, by omega⟩) kc_yX11_alikeTo ⟨hx, hb, hml, hown, hts⟩ wq_1449 rfl rfl ⟨Nat.le_of_ble_eq_true rfl, Nat.le_of_ble_eq_true rfl⟩ wq_all hP hK hS qw_Ai (q0 := 0) (by decide) (hgM_0 ca o _ _) rfl rfl hl.1 rfl (Nat.le_of_ble_eq_true rfl) dX11_often_110 ⟨Nat.zero_le _, Nat.zero_le _⟩ (fun r19 H locs h19 hP hS _ _ => ?_)
                        refine lv_istore (lv' := [(9, .int r19), (8, .int w14_8), (7, .int w9_7), (6, .int w9_6), (5, .int w9_5), (4, .int w9_4), (0, .ref (o + 0)), (1, .int a0), (2, .int a1), (3, .int a2)]) hx hb dX11_often_113 hl (by decide) rfl (fun ls hl => ?_)
                        refine lv_iload hx hb dX11_often_115 (lv_at hl 5 rfl) ?_
                        refine lv_iconst (v := 1) hx hb dX11_often_117 (by decide) ?_
                        refine lv_iadd hx hb dX11_often_118 ?_
                        refine lv_topi (fun x20 e20 => ?_)
                        refine lv_istore (lv' := [(4, .int x20), (9, .int r19), (8, .int w14_8), (7, .int w9_7), (6, .int w9_6), (5, .int w9_5), (0, .ref (o + 0)), (1, .int a0), (2, .int a1), (3, .int a2)]) hx hb dX11_often_119 hl (by decide) rfl (fun ls hl => ?_)
                        refine lv_iload hx hb dX11_often_121 (lv_at hl 1 rfl) ?_
                        refine lv_iload hx hb dX11_often_123 (lv_at hl 5 rfl) ?_
                        refine lv_icmp_lt (tgt := 163) hx hb dX11_often_125 (by decide) (fun c21 => ?_) (fun c21 => ?_)
                        · have t21 : r19.toInt < w9_5.toInt := gl_lt c21
                          obtain ⟨x22, e22⟩ : ∃ t : Int32, t = w9_7 + 1 := ⟨_, rfl⟩
                          refine lv_iinc (v := x22) (lv' := [(7, .int x22), (4, .int x20), (9, .int r19), (8, .int w14_8), (6, .int w9_6), (5, .int w9_5), (0, .ref (o + 0)), (1, .int a0), (2, .int a1), (3, .int a2)]) hx hb dX11_often_163 hl (k := 3) rfl (by rw [e22]; rfl) (by decide) rfl (fun ls hl => ?_)
                          have t22 : x22.toInt = w9_7.toInt + (1 : Int) := ga_add e22 rfl rfl (by omega) (by omega)
                          refine lv_goto (tgt := 59) hx hb dX11_often_166 (by decide) ?_
                          exact ih9 x22 w9_6 w9_5 x20 (show (2000 - x22.toInt : Int) < (n9 : Int) from by omega) ⟨by omega, by omega⟩ ⟨by omega, (gl_b w9_5).2⟩ _ _ hP hS _ (lv_sub hl [0, 4, 5, 1, 6, 7, 8, 9] rfl)
                        · have t21 : r19.toInt ≥ w9_5.toInt := gl_nlt c21
                          refine lv_iload hx hb dX11_often_128 (lv_at hl 1 rfl) ?_
                          refine lv_iload hx hb dX11_often_130 (lv_at hl 5 rfl) ?_
                          refine lv_icmp_ne (tgt := 150) hx hb dX11_often_132 (by decide) (fun c23 => ?_) (fun c23 => ?_)
                          · have t23 : r19.toInt ≠ w9_5.toInt := gl_ne c23
                            refine lv_iload hx hb dX11_often_150 (lv_at hl 1 rfl) ?_
                            refine lv_istore (lv' := [(5, .int r19), (4, .int x20), (9, .int r19), (8, .int w14_8), (7, .int w9_7), (6, .int w9_6), (0, .ref (o + 0)), (1, .int a0), (2, .int a1), (3, .int a2)]) hx hb dX11_often_152 hl (by decide) rfl (fun ls hl => ?_)
                            refine lv_aload_n hx hb dX11_often_154 rfl (lv_at hl 6 rfl) ?_
                            refine qf_get hx hb hts inX11 hown hK hP (q0 := 0) (by decide) (hgM_0 ca o) rfl 40 (by decide) wq_1032 (v := .ref (o + 27)) rfl dX11_often_155 ?_
                            refine lv_iload hx hb dX11_often_158 (lv_at hl 4 rfl) ?_
                            refine qa_iald hx hb hK hP (q0 := 27) (by decide) 0 (N := 2000) (hgM_27 ca o) rfl (gi_in (by omega) (by omega)) dX11_often_160 ?_
                            refine lv_topi (fun x24 e24 => ?_)
                            have ag24 : x24.toInt = x16.toInt := congrArg Int32.toInt (e24.trans e16.symm)
                            refine lv_istore (lv' := [(6, .int x24), (5, .int r19), (4, .int x20), (9, .int r19), (8, .int w14_8), (7, .int w9_7), (0, .ref (o + 0)), (1, .int a0), (2, .int a1), (3, .int a2)]) hx hb dX11_often_161 hl (by decide) rfl (fun ls hl => ?_)
                            obtain ⟨x25, e25⟩ : ∃ t : Int32, t = w9_7 + 1 := ⟨_, rfl⟩
                            refine lv_iinc (v := x25) (lv' := [(7, .int x25), (6, .int x24), (5, .int r19), (4, .int x20), (9, .int r19), (8, .int w14_8), (0, .ref (o + 0)), (1, .int a0), (2, .int a1), (3, .int a2)]) hx hb dX11_often_163 hl (k := 5) rfl (by rw [e25]; rfl) (by decide) rfl (fun ls hl => ?_)
                            have t25 : x25.toInt = w9_7.toInt + (1 : Int) := ga_add e25 rfl rfl (by omega) (by omega)
                            refine lv_goto (tgt := 59) hx hb dX11_often_166 (by decide) ?_
                            exact ih9 x25 x24 r19 x20 (show (2000 - x25.toInt : Int) < (n9 : Int) from by omega) ⟨by omega, by omega⟩ ⟨by omega, (gl_b r19).2⟩ _ _ hP hS _ (lv_sub hl [0, 1, 2, 3, 6, 7, 8, 9] rfl)
                          · have t23 : r19.toInt = w9_5.toInt := gl_eq c23
                            refine lv_aload_n hx hb dX11_often_135 rfl (lv_at hl 6 rfl) ?_
                            refine qf_get hx hb hts inX11 hown hK hP (q0 := 0) (by decide) (hgM_0 ca o) rfl 40 (by decide) wq_1032 (v := .ref (o + 27)) rfl dX11_often_136 ?_
                            refine lv_iload hx hb dX11_often_139 (lv_at hl 3 rfl) ?_
                            refine qa_iald hx hb hK hP (q0 := 27) (by decide) 0 (N := 2000) (hgM_27 ca o) rfl (gi_in (by omega) (by omega)) dX11_often_141 ?_
                            refine lv_topi (fun x26 e26 => ?_)
                            have ag26 : x26.toInt = x16.toInt := congrArg Int32.toInt (e26.trans e16.symm)
                            refine lv_iload hx hb dX11_often_142 (lv_at hl 4 rfl) ?_
                            refine lv_icmp_le (tgt := 150) hx hb dX11_often_144 (by decide) (fun c27 => ?_) (fun c27 => ?_)
                            · have t27 : x26.toInt ≤ w9_6.toInt := gl_le c27
                              refine lv_iload hx hb dX11_often_150 (lv_at hl 1 rfl) ?_
                              refine lv_istore (lv' := [(5, .int r19), (4, .int x20), (9, .int r19), (8, .int w14_8), (7, .int w9_7), (6, .int w9_6), (0, .ref (o + 0)), (1, .int a0), (2, .int a1), (3, .int a2)]) hx hb dX11_often_152 hl (by decide) rfl (fun ls hl => ?_)
                              refine lv_aload_n hx hb dX11_often_154 rfl (lv_at hl 6 rfl) ?_
                              refine qf_get hx hb hts inX11 hown hK hP (q0 := 0) (by decide) (hgM_0 ca o) rfl 40 (by decide) wq_1032 (v := .ref (o + 27)) rfl dX11_often_155 ?_
                              refine lv_iload hx hb dX11_often_158 (lv_at hl 4 rfl) ?_
                              refine qa_iald hx hb hK hP (q0 := 27) (by decide) 0 (N := 2000) (hgM_27 ca o) rfl (gi_in (by omega) (by omega)) dX11_often_160 ?_
                              refine lv_topi (fun x28 e28 => ?_)
                              have ag28 : x28.toInt = x16.toInt := congrArg Int32.toInt (e28.trans e16.symm)
                              refine lv_istore (lv' := [(6, .int x28), (5, .int r19), (4, .int x20), (9, .int r19), (8, .int w14_8), (7, .int w9_7), (0, .ref (o + 0)), (1, .int a0), (2, .int a1), (3, .int a2)]) hx hb dX11_often_161 hl (by decide) rfl (fun ls hl => ?_)
                              obtain ⟨x29, e29⟩ : ∃ t : Int32, t = w9_7 + 1 := ⟨_, rfl⟩
                              refine lv_iinc (v := x29) (lv' := [(7, .int x29), (6, .int x28), (5, .int r19), (4, .int x20), (9, .int r19), (8, .int w14_8), (0, .ref (o + 0)), (1, .int a0), (2, .int a1), (3, .int a2)]) hx hb dX11_often_163 hl (k := 5) rfl (by rw [e29]; rfl) (by decide) rfl (fun ls hl => ?_)
                              have t29 : x29.toInt = w9_7.toInt + (1 : Int) := ga_add e29 rfl rfl (by omega) (by omega)
                              refine lv_goto (tgt := 59) hx hb dX11_often_166 (by decide) ?_
                              exact ih9 x29 x28 r19 x20 (show (2000 - x29.toInt : Int) < (n9 : Int) from by omega) ⟨by omega, by omega⟩ ⟨by omega, (gl_b r19).2⟩ _ _ hP hS _ (lv_sub hl [0, 1, 2, 3, 6, 7, 8, 9] rfl)
                            · have t27 : x26.toInt > w9_6.toInt := gl_nle c27
                              refine lv_goto (tgt := 163) hx hb dX11_often_147 (by decide) ?_
                              obtain ⟨x30, e30⟩ : ∃ t : Int32, t = w9_7 + 1 := ⟨_, rfl⟩
                              refine lv_iinc (v := x30) (lv' := [(7, .int x30), (4, .int x20), (9, .int r19), (8, .int w14_8), (6, .int w9_6), (5, .int w9_5), (0, .ref (o + 0)), (1, .int a0), (2, .int a1), (3, .int a2)]) hx hb dX11_often_163 hl (k := 3) rfl (by rw [e30]; rfl) (by decide) rfl (fun ls hl => ?_)
                              have t30 : x30.toInt = w9_7.toInt + (1 : Int) := ga_add e30 rfl rfl (by omega) (by omega)
                              refine lv_goto (tgt := 59) hx hb dX11_often_166 (by decide) ?_
                              exact ih9 x30 w9_6 w9_5 x20 (show (2000 - x30.toInt : Int) < (n9 : Int) from by omega) ⟨by omega, by omega⟩ ⟨by omega, (gl_b w9_5).2⟩ _ _ hP hS _ (lv_sub hl [0, 4, 5, 1, 6, 7, 8, 9] rfl)
                      · have t18 : w14_8.toInt < w9_7.toInt := gl_nle c18
                        refine lv_goto (tgt := 163) hx hb dX11_often_104 (by decide) ?_
                        obtain ⟨x31, e31⟩ : ∃ t : Int32, t = w9_7 + 1 := ⟨_, rfl⟩
                        refine lv_iinc (v := x31) (lv' := [(7, .int x31), (8, .int w14_8), (6, .int w9_6), (5, .int w9_5), (4, .int w9_4), (0, .ref (o + 0)), (1, .int a0), (2, .int a1), (3, .int a2)]) hx hb dX11_often_163 hl (k := 1) rfl (by rw [e31]; rfl) (by decide) rfl (fun ls hl => ?_)
                        have t31 : x31.toInt = w9_7.toInt + (1 : Int) := ga_add e31 rfl rfl (by omega) (by omega)
                        refine lv_goto (tgt := 59) hx hb dX11_often_166 (by decide) ?_
                        exact ih9 x31 w9_6 w9_5 w9_4 (show (2000 - x31.toInt : Int) < (n9 : Int) from by omega) ⟨by omega, by omega⟩ ⟨by omega, (gl_b w9_5).2⟩ _ _ hP hS _ (lv_sub hl [0, 2, 3, 4, 5, 6, 7, 8] rfl)
                    · have t17 : x15.toInt ≠ x16.toInt := gl_ne c17
                      have nf17 : w14_8.toInt ≠ w9_7.toInt := fun h => t17 (congrArg Int32.toInt (e15.trans ((by rw [gr_eq h] : z8 27 w14_8.toNatClampNeg = z8 27 w9_7.toNatClampNeg).trans e16.symm)))
                      refine lv_iload hx hb dX11_often_88 (lv_at hl 0 rfl) ?_
                      refine lv_iconst (v := 1) hx hb dX11_often_90 (by decide) ?_
                      refine lv_iadd hx hb dX11_often_91 ?_
                      refine lv_topi (fun x32 e32 => ?_)
                      have t32 : x32.toInt = w14_8.toInt + (1 : Int) := ga_add e32 rfl rfl (by omega) (by omega)
                      refine lv_istore (lv' := [(8, .int x32), (7, .int w9_7), (6, .int w9_6), (5, .int w9_5), (4, .int w9_4), (0, .ref (o + 0)), (1, .int a0), (2, .int a1), (3, .int a2)]) hx hb dX11_often_92 hl (by decide) rfl (fun ls hl => ?_)
                      refine lv_goto (tgt := 71) hx hb dX11_often_94 (by decide) ?_
                      exact ih14 x32 (show (1999 - x32.toInt : Int) < (n14 : Int) from by omega) ⟨by omega, by omega⟩ (show x32.toInt ≤ w9_7.toInt from by omega) _ _ hP hS _ (lv_sub hl [0, 1, 2, 3, 4, 5, 6, 7, 8] rfl)
                exact loop14 2000 0 (show (1999 - (0 : Int) : Int) < ((2000 : Nat) : Int) from by omega) ⟨by decide, by decide⟩ (show (0 : Int) ≤ w9_7.toInt from by omega) _ _ hP hS _ (lv_sub hl [0, 1, 2, 3, 4, 5, 6, 7, 8] rfl)
          exact loop9 2001 0 (-2) 0 0 (show (2000 - (0 : Int) : Int) < ((2001 : Nat) : Int) from by omega) ⟨by decide, by decide⟩ ⟨by decide, by decide⟩ _ _ hP hS _ (lv_sub hl [0, 1, 2, 3, 4, 5, 6, 7] rfl)
        · have t6 : r5.toInt = (0 : Int) := gl_eq c6
          refine lv_bipush (v := (-3)) hx hb dX11_often_35 (by decide) ?_
          exact W.iret (v := (-3)) hx hb hr (fun t ht hW => ⟨⟨(-3), (z5, y5), rfl, ⟨trivial, J5⟩, by rw [ht]; exact hP, va_K.moved hW.alike hK⟩, hS.F ht⟩) hS.2.2 dX11_often_37
      · subst hr4
        have hg4_0 : ¬ ((0 : Int) ≤ a2.toInt ∧ a2.toInt ≤ (2 : Int)) := hf4_0
        refine lv_if_ne (tgt := 27) hx hb dX11_often_22 (by decide) (fun q => absurd q (by decide)) (fun _ => ?_)
        refine lv_iconst (v := (-1)) hx hb dX11_often_25 (by decide) ?_
        exact W.iret (v := (-1)) hx hb hr (fun t ht hW => ⟨⟨(-1), (z, y), rfl, ⟨trivial, J0⟩, by rw [ht]; exact hP, va_K.moved hW.alike hK⟩, hS.F ht⟩) hS.2.2 dX11_often_26
    · subst hr3
      refine lv_if_eq (tgt := 25) hx hb dX11_often_13 (by decide) (fun _ => ?_) (fun q => absurd (by decide) q)
      refine lv_iconst (v := (-1)) hx hb dX11_often_25 (by decide) ?_
      exact W.iret (v := (-1)) hx hb hr (fun t ht hW => ⟨⟨(-1), (z, y), rfl, ⟨trivial, J0⟩, by rw [ht]; exact hP, va_K.moved hW.alike hK⟩, hS.F ht⟩) hS.2.2 dX11_often_26
