set_option maxRecDepth 100000 in
set_option maxHeartbeats 8000000 in
theorem u_together (l : Launch) (D : va_G) (ca : Nat → ClassId) (o : Nat) (b z : Nat → Nat → Int32) (y : Nat → Nat → Int64) (J0 : qJU b z) (a0 : Int32) (a1 : Int32) (a2 : Int32)  : qM l yX10_together cX10_together 8 (some .int) 6 166 (qPre D vwCl (qT6 ca) o 132 (qG (GU ca o) z y) [.ref (o + 0), .int a0, .int a1, .int a2]) (va_Qi (fun r u => True ∧ qJU b u.1) (qB D vwCl (qT6 ca) o 132 (fun u : qZ => qG (GU ca o) u.1 u.2)) (qw_A o 132)) (qw_A o 132) := by
  refine Met.ofW (cc := cX10_together) (maxL := 8) (ret := (some .int)) (by decide) rfl ?_
  intro p e s m args below meth c s₁ B hml hv
  obtain ⟨rfl, hP, hK⟩ := hv
  have hx := B.exec
  have hb := B.bytes
  have hr := B.returns
  have hts0 := atoms_spec (ws := Cond.code yX10_together cX10_together 8 (some .int) :: qtbl) B.pre
  have hts : ∀ w ∈ qtbl, w.before _ s = true := fun w h => hts0 w (List.mem_cons_of_mem _ h)
  have hown : s.vm.findClass RX10 = some m.cls := findClass_of_methodNamed B.named
  have hlocks := B.notSynchronized
  have hS : va_S (qw_A o 132) s.heap s.heap [] := va_S.rf
  have hl := lv_entry ([.ref (o + 0), .int a0, .int a1, .int a2]) (n := 8) (Nat.le_of_ble_eq_true rfl)
  rw [lg_entry_eq]
  generalize (lg_sl ([.ref (o + 0), .int a0, .int a1, .int a2]) ++ List.replicate (8 - (lg_sl ([.ref (o + 0), .int a0, .int a1, .int a2])).length) Slot.unset).toArray = ls at hl ⊢
  have hl : lv_has ls 8 [(0, .ref (o + 0)), (1, .int a0), (2, .int a1), (3, .int a2)] := hl
  refine lv_iload_n hx hb dX10_together_0 rfl (lv_at hl 3 rfl) ?_
  refine qc_Sip (As := [.int a2]) (rest := []) (k0 := 1) (u_Integer_bitCount l D ca o b z y J0 a2) kc_yJ6_bitCount_0f7a4 ⟨hx, hb, hml, hown, hts⟩ wq_513 rfl rfl ⟨Nat.le_of_ble_eq_true rfl, Nat.le_of_ble_eq_true rfl⟩ wq_all hP hK hS qw_Ai rfl hl.1 rfl (Nat.le_of_ble_eq_true rfl) dX10_together_1 ⟨Nat.zero_le _, Nat.zero_le _⟩ (fun r1 H locs h1 hP hS _ _ => ?_)
  have b1 : (0 : Int) ≤ r1.toInt ∧ r1.toInt ≤ 63 := h1
  refine lv_istore (lv' := [(4, .int r1), (0, .ref (o + 0)), (1, .int a0), (2, .int a1), (3, .int a2)]) hx hb dX10_together_4 hl (by decide) rfl (fun ls hl => ?_)
  refine lv_aload_n hx hb dX10_together_6 rfl (lv_at hl 1 rfl) ?_
  refine lv_iload_n hx hb dX10_together_7 rfl (lv_at hl 2 rfl) ?_
  refine qc_Vip (As := [.int a0]) (rest := []) (k0 := 1) (u_areRemarks l D ca o b z y J0 a0) kc_yX10_areRemarks ⟨hx, hb, hml, hown, hts⟩ wq_583 rfl rfl ⟨Nat.le_of_ble_eq_true rfl, Nat.le_of_ble_eq_true rfl⟩ wq_all hP hK hS qw_Ai (q0 := 0) (by decide) (hgU_0 ca o _ _) rfl rfl hl.1 rfl (Nat.le_of_ble_eq_true rfl) dX10_together_8 ⟨Nat.zero_le _, Nat.zero_le _⟩ (fun r2 H locs h2 hP hS _ _ => ?_)
  have b2 : (0 : Int) ≤ r2.toInt ∧ r2.toInt ≤ 1 := h2
  refine lv_if_eq (tgt := 59) hx hb dX10_together_11 (by decide) (fun c3 => ?_) (fun c3 => ?_)
  · have t3 : r2.toInt = (0 : Int) := gl_eq c3
    refine lv_sipush (v := (-4000)) hx hb dX10_together_59 (by decide) ?_
    exact W.iret (v := (-4000)) hx hb hr (fun t ht hW => ⟨⟨(-4000), (z, y), rfl, ⟨trivial, J0⟩, by rw [ht]; exact hP, va_K.moved hW.alike hK⟩, hS.F ht⟩) hS.2.2 dX10_together_62
  · have t3 : r2.toInt ≠ (0 : Int) := gl_ne c3
    refine lv_aload_n hx hb dX10_together_14 rfl (lv_at hl 1 rfl) ?_
    refine qf_get hx hb hts inX10 hown hK hP (q0 := 0) (by decide) (hgU_0 ca o) rfl 0 (by decide) wq_353 (v := .ref (o + 1)) rfl dX10_together_15 ?_
    refine lv_iload_n hx hb dX10_together_18 rfl (lv_at hl 3 rfl) ?_
    refine qc_Vip (As := [.int a1]) (rest := []) (k0 := 1) (u_Told_hasPerson l D ca o b z y J0 a1) kc_yX9_hasPerson ⟨hx, hb, hml, hown, hts⟩ wq_411 rfl rfl ⟨Nat.le_of_ble_eq_true rfl, Nat.le_of_ble_eq_true rfl⟩ wq_all hP hK hS qw_Ai (q0 := 1) (by decide) (hgU_1 ca o _ _) rfl rfl hl.1 rfl (Nat.le_of_ble_eq_true rfl) dX10_together_19 ⟨Nat.zero_le _, Nat.zero_le _⟩ (fun r4 H locs h4 hP hS _ _ => ?_)
    rcases h4 with ⟨hr4, hf4_0, hf4_1⟩ | ⟨hr4, hf4_0⟩
    · subst hr4
      have hg4_0 : pHas (z 1 5) a1 := hf4_0
      have hg4_1 : 0 ≤ a1.toInt ∧ a1.toInt ≤ 5 := hf4_1
      refine lv_if_eq (tgt := 59) hx hb dX10_together_22 (by decide) (fun q => absurd q (by decide)) (fun _ => ?_)
      refine lv_iload_n hx hb dX10_together_25 rfl (lv_at hl 4 rfl) ?_
      refine lv_aload_n hx hb dX10_together_26 rfl (lv_at hl 1 rfl) ?_
      refine qf_get hx hb hts inX10 hown hK hP (q0 := 0) (by decide) (hgU_0 ca o) rfl 0 (by decide) wq_353 (v := .ref (o + 1)) rfl dX10_together_27 ?_
      refine qf_get hx hb hts inX9 hown hK hP (q0 := 1) (by decide) (hgU_1 ca o) rfl 5 (by decide) wq_98 (v := .int (z 1 5)) rfl dX10_together_30 ?_
      refine lv_topi (fun x5 e5 => ?_)
      refine lv_iconst (v := (-1)) hx hb dX10_together_33 (by decide) ?_
      refine lv_ixor hx hb dX10_together_34 ?_
      refine lv_topi (fun x6 e6 => ?_)
      refine lv_iand hx hb dX10_together_35 ?_
      refine lv_topi (fun x7 e7 => ?_)
      refine lv_if_ne (tgt := 59) hx hb dX10_together_36 (by decide) (fun c8 => ?_) (fun c8 => ?_)
      · have t8 : x7.toInt ≠ (0 : Int) := gl_ne c8
        refine lv_sipush (v := (-4000)) hx hb dX10_together_59 (by decide) ?_
        exact W.iret (v := (-4000)) hx hb hr (fun t ht hW => ⟨⟨(-4000), (z, y), rfl, ⟨trivial, J0⟩, by rw [ht]; exact hP, va_K.moved hW.alike hK⟩, hS.F ht⟩) hS.2.2 dX10_together_62
      · have t8 : x7.toInt = (0 : Int) := gl_eq c8
        refine lv_iload_n hx hb dX10_together_39 rfl (lv_at hl 4 rfl) ?_
        refine lv_iload_n hx hb dX10_together_40 rfl (lv_at hl 3 rfl) ?_
        refine lv_ishr hx hb dX10_together_41 ?_
        refine lv_topi (fun x9 e9 => ?_)
        refine lv_iconst (v := 1) hx hb dX10_together_42 (by decide) ?_
        refine lv_iand hx hb dX10_together_43 ?_
        refine lv_topi (fun x10 e10 => ?_)
        have t10 : 0 ≤ x10.toInt ∧ x10.toInt ≤ (1 : Int) := ga_and e10 rfl (by omega)
        refine lv_if_ne (tgt := 59) hx hb dX10_together_44 (by decide) (fun c11 => ?_) (fun c11 => ?_)
        · have t11 : x10.toInt ≠ (0 : Int) := gl_ne c11
          refine lv_sipush (v := (-4000)) hx hb dX10_together_59 (by decide) ?_
          exact W.iret (v := (-4000)) hx hb hr (fun t ht hW => ⟨⟨(-4000), (z, y), rfl, ⟨trivial, J0⟩, by rw [ht]; exact hP, va_K.moved hW.alike hK⟩, hS.F ht⟩) hS.2.2 dX10_together_62
        · have t11 : x10.toInt = (0 : Int) := gl_eq c11
          refine lv_iload hx hb dX10_together_47 (lv_at hl 0 rfl) ?_
          refine lv_iconst (v := 2) hx hb dX10_together_49 (by decide) ?_
          refine lv_icmp_lt (tgt := 59) hx hb dX10_together_50 (by decide) (fun c12 => ?_) (fun c12 => ?_)
          · have t12 : r1.toInt < (2 : Int) := gl_lt c12
            refine lv_sipush (v := (-4000)) hx hb dX10_together_59 (by decide) ?_
            exact W.iret (v := (-4000)) hx hb hr (fun t ht hW => ⟨⟨(-4000), (z, y), rfl, ⟨trivial, J0⟩, by rw [ht]; exact hP, va_K.moved hW.alike hK⟩, hS.F ht⟩) hS.2.2 dX10_together_62
          · have t12 : r1.toInt ≥ (2 : Int) := gl_nlt c12
            refine lv_iload hx hb dX10_together_53 (lv_at hl 0 rfl) ?_
            refine lv_iconst (v := 5) hx hb dX10_together_55 (by decide) ?_
            refine lv_icmp_le (tgt := 63) hx hb dX10_together_56 (by decide) (fun c13 => ?_) (fun c13 => ?_)
            · have t13 : r1.toInt ≤ (5 : Int) := gl_le c13
              refine lv_aload_n hx hb dX10_together_63 rfl (lv_at hl 1 rfl) ?_
              refine qf_get hx hb hts inX10 hown hK hP (q0 := 0) (by decide) (hgU_0 ca o) rfl 6 (by decide) wq_359 (v := .ref (o + 104)) rfl dX10_together_64 ?_
              refine lv_iload_n hx hb dX10_together_67 rfl (lv_at hl 2 rfl) ?_
              refine qc_Vi2 (As := [.int a0]) (rest := []) (k0 := 1) (u_Rows_seek l D ca o b z y J0 a0) kc_yX7_seek ⟨hx, hb, hml, hown, hts⟩ wq_587 rfl rfl ⟨Nat.le_of_ble_eq_true rfl, Nat.le_of_ble_eq_true rfl⟩ wq_all hP hK hS qw_Ai (q0 := 104) (by decide) (hgU_104 ca o _ _) rfl rfl hl.1 rfl (Nat.le_of_ble_eq_true rfl) dX10_together_68 ⟨Nat.zero_le _, Nat.zero_le _⟩ (fun r14 z14 y14 H locs h14 hP hS _ _ => ?_)
              have J14 : qJU b z14 := h14.2
              have b14 : (-3 : Int) ≤ r14.toInt ∧ r14.toInt ≤ 0 := h14.1
              refine lv_istore (lv' := [(5, .int r14), (4, .int r1), (0, .ref (o + 0)), (1, .int a0), (2, .int a1), (3, .int a2)]) hx hb dX10_together_71 hl (by decide) rfl (fun ls hl => ?_)
              refine lv_iload hx hb dX10_together_73 (lv_at hl 0 rfl) ?_
              refine lv_if_ge (tgt := 95) hx hb dX10_together_75 (by decide) (fun c15 => ?_) (fun c15 => ?_)
              · have t15 : r14.toInt ≥ (0 : Int) := gl_le c15
                refine lv_aload_n hx hb dX10_together_95 rfl (lv_at hl 2 rfl) ?_
                refine qf_get hx hb hts inX10 hown hK hP (q0 := 0) (by decide) (hgU_0 ca o) rfl 6 (by decide) wq_359 (v := .ref (o + 104)) rfl dX10_together_96 ?_
                refine qf_get hx hb hts inX7 hown hK hP (q0 := 104) (by decide) (hgU_104 ca o) rfl 1 (by decide) wq_189 (v := .ref (o + 105)) rfl dX10_together_99 ?_
                refine lv_iload_n hx hb dX10_together_102 rfl (lv_at hl 4 rfl) ?_
                refine qa_iald hx hb hK hP (q0 := 105) (by decide) 0 (N := 6) (hgU_105 ca o) rfl (gi_in (by omega) (by omega)) dX10_together_103 ?_
                refine lv_topi (fun x16 e16 => ?_)
                have b16 := iU_105 J14 e16
                refine lv_aload_n hx hb dX10_together_104 rfl (lv_at hl 2 rfl) ?_
                refine qf_get hx hb hts inX10 hown hK hP (q0 := 0) (by decide) (hgU_0 ca o) rfl 0 (by decide) wq_353 (v := .ref (o + 1)) rfl dX10_together_105 ?_
                refine qf_get hx hb hts inX9 hown hK hP (q0 := 1) (by decide) (hgU_1 ca o) rfl 7 (by decide) wq_104 (v := .int (z14 1 7)) rfl dX10_together_108 ?_
                refine lv_topi (fun x17 e17 => ?_)
                refine lv_iadd hx hb dX10_together_111 ?_
                refine lv_topi (fun x18 e18 => ?_)
                refine lv_istore (lv' := [(6, .int x18), (5, .int r14), (4, .int r1), (0, .ref (o + 0)), (1, .int a0), (2, .int a1), (3, .int a2)]) hx hb dX10_together_112 hl (by decide) rfl (fun ls hl => ?_)
                refine lv_iconst (v := 0) hx hb dX10_together_114 (by decide) ?_
                refine lv_istore (lv' := [(7, .int 0), (6, .int x18), (5, .int r14), (4, .int r1), (0, .ref (o + 0)), (1, .int a0), (2, .int a1), (3, .int a2)]) hx hb dX10_together_115 hl (by decide) rfl (fun ls hl => ?_)
                have loop19 : ∀ (n : Nat) (w19_7 : Int32) (w19_6 : Int32), ((6 - w19_7.toInt : Int) < (n : Int)) → ((0 : Int) ≤ w19_7.toInt ∧ w19_7.toInt ≤ 6) → ∀ (H : Heap) (locs : List Loc), qw_P D vwCl o 132 (qG (GU ca o) z14 y14) H → va_S (qw_A o 132) s.heap H locs → ∀ (ls : Array Slot), lv_has ls 8 [(7, .int w19_7), (6, .int w19_6), (5, .int r14), (4, .int r1), (0, .ref (o + 0)), (1, .int a0), (2, .int a1), (3, .int a2)] → W p l e (headSpec (Cond.code yX10_together cX10_together 8 (some .int) :: qtbl) ({ frames := 6, cells := 0, slots := 0, locals := 166 })).room s m (([.ref (o + 0), .int a0, .int a1, .int a2] : List Value).toArray) below meth c H locs 0 0 (MQ below (va_Qi (fun r u => True ∧ qJU b u.1) (qB D vwCl (qT6 ca) o 132 (fun u : qZ => qG (GU ca o) u.1 u.2)) (qw_A o 132)) (([.ref (o + 0), .int a0, .int a1, .int a2] : List Value).toArray) s 0 0 (qw_A o 132)) (F0 m 117 ls []) := by
                  intro n
                  induction n with
                  | zero => intro w19_7 w19_6 hb19 hv19_7; exfalso; omega
                  | succ n19 ih19 =>
                    intro w19_7 w19_6 hb19 hv19_7 H locs hP hS ls hl
                    refine lv_iload hx hb dX10_together_117 (lv_at hl 0 rfl) ?_
                    refine lv_bipush (v := 6) hx hb dX10_together_119 (by decide) ?_
                    refine lv_icmp_ge (tgt := 162) hx hb dX10_together_121 (by decide) (fun c20 => ?_) (fun c20 => ?_)
                    · have t20 : w19_7.toInt ≥ (6 : Int) := gl_le c20
                      refine lv_iload hx hb dX10_together_162 (lv_at hl 3 rfl) ?_
                      refine lv_iconst (v := 1) hx hb dX10_together_164 (by decide) ?_
                      refine lv_isub hx hb dX10_together_165 ?_
                      refine lv_topi (fun x21 e21 => ?_)
                      have t21 : x21.toInt = r1.toInt - (1 : Int) := ga_sub e21 rfl rfl (by omega) (by omega)
                      refine lv_istore (lv' := [(7, .int x21), (6, .int w19_6), (5, .int r14), (4, .int r1), (0, .ref (o + 0)), (1, .int a0), (2, .int a1), (3, .int a2)]) hx hb dX10_together_166 hl (by decide) rfl (fun ls hl => ?_)
                      refine lv_iload hx hb dX10_together_168 (lv_at hl 0 rfl) ?_
                      refine lv_iconst (v := 1) hx hb dX10_together_170 (by decide) ?_
                      refine lv_icmp_lt (tgt := 182) hx hb dX10_together_171 (by decide) (fun c22 => ?_) (fun c22 => ?_)
                      · have t22 : x21.toInt < (1 : Int) := gl_lt c22
                        exfalso; omega
                      · have t22 : x21.toInt ≥ (1 : Int) := gl_nlt c22
                        refine lv_iload hx hb dX10_together_174 (lv_at hl 1 rfl) ?_
                        refine lv_iload hx hb dX10_together_176 (lv_at hl 0 rfl) ?_
                        refine lv_irem hx hb dX10_together_178 (gr_ne (show x21.toInt ≠ (0 : Int) from by omega)) ?_
                        refine lv_topi (fun x23 e23 => ?_)
                        refine lv_if_eq (tgt := 186) hx hb dX10_together_179 (by decide) (fun c24 => ?_) (fun c24 => ?_)
                        · have t24 : x23.toInt = (0 : Int) := gl_eq c24
                          refine lv_iload hx hb dX10_together_186 (lv_at hl 1 rfl) ?_
                          refine lv_iload hx hb dX10_together_188 (lv_at hl 0 rfl) ?_
                          refine lv_idiv hx hb dX10_together_190 (gr_ne (show x21.toInt ≠ (0 : Int) from by omega)) ?_
                          refine lv_topi (fun x25 e25 => ?_)
                          exact W.iret (v := x25) hx hb hr (fun t ht hW => ⟨⟨x25, (z14, y14), rfl, ⟨trivial, J14⟩, by rw [ht]; exact hP, va_K.moved hW.alike hK⟩, hS.F ht⟩) hS.2.2 dX10_together_191
                        · have t24 : x23.toInt ≠ (0 : Int) := gl_ne c24
                          refine lv_sipush (v := (-1000)) hx hb dX10_together_182 (by decide) ?_
                          exact W.iret (v := (-1000)) hx hb hr (fun t ht hW => ⟨⟨(-1000), (z14, y14), rfl, ⟨trivial, J14⟩, by rw [ht]; exact hP, va_K.moved hW.alike hK⟩, hS.F ht⟩) hS.2.2 dX10_together_185
                    · have t20 : w19_7.toInt < (6 : Int) := gl_nle c20
                      refine lv_iload_n hx hb dX10_together_124 rfl (lv_at hl 7 rfl) ?_
                      refine lv_iload hx hb dX10_together_125 (lv_at hl 0 rfl) ?_
                      refine lv_ishr hx hb dX10_together_127 ?_
                      refine lv_topi (fun x26 e26 => ?_)
                      refine lv_iconst (v := 1) hx hb dX10_together_128 (by decide) ?_
                      refine lv_iand hx hb dX10_together_129 ?_
                      refine lv_topi (fun x27 e27 => ?_)
                      have t27 : 0 ≤ x27.toInt ∧ x27.toInt ≤ (1 : Int) := ga_and e27 rfl (by omega)
                      refine lv_if_eq (tgt := 156) hx hb dX10_together_130 (by decide) (fun c28 => ?_) (fun c28 => ?_)
                      · have t28 : x27.toInt = (0 : Int) := gl_eq c28
                        obtain ⟨x29, e29⟩ : ∃ t : Int32, t = w19_7 + 1 := ⟨_, rfl⟩
                        refine lv_iinc (v := x29) (lv' := [(7, .int x29), (6, .int w19_6), (5, .int r14), (4, .int r1), (0, .ref (o + 0)), (1, .int a0), (2, .int a1), (3, .int a2)]) hx hb dX10_together_156 hl (k := 0) rfl (by rw [e29]; rfl) (by decide) rfl (fun ls hl => ?_)
                        have t29 : x29.toInt = w19_7.toInt + (1 : Int) := ga_add e29 rfl rfl (by omega) (by omega)
                        refine lv_goto (tgt := 117) hx hb dX10_together_159 (by decide) ?_
                        exact ih19 x29 w19_6 (show (6 - x29.toInt : Int) < (n19 : Int) from by omega) ⟨by omega, by omega⟩ _ _ hP hS _ (lv_sub hl [0, 1, 2, 3, 4, 5, 6, 7] rfl)
                      · have t28 : x27.toInt ≠ (0 : Int) := gl_ne c28
                        refine lv_iload hx hb dX10_together_133 (lv_at hl 1 rfl) ?_
                        refine lv_aload_n hx hb dX10_together_135 rfl (lv_at hl 4 rfl) ?_
                        refine qf_get hx hb hts inX10 hown hK hP (q0 := 0) (by decide) (hgU_0 ca o) rfl 6 (by decide) wq_359 (v := .ref (o + 104)) rfl dX10_together_136 ?_
                        refine qf_get hx hb hts inX7 hown hK hP (q0 := 104) (by decide) (hgU_104 ca o) rfl 1 (by decide) wq_189 (v := .ref (o + 105)) rfl dX10_together_139 ?_
                        refine lv_iload hx hb dX10_together_142 (lv_at hl 0 rfl) ?_
                        refine qa_iald hx hb hK hP (q0 := 105) (by decide) 0 (N := 6) (hgU_105 ca o) rfl (gi_in (by omega) (by omega)) dX10_together_144 ?_
                        refine lv_topi (fun x30 e30 => ?_)
                        have b30 := iU_105 J14 e30
                        refine lv_aload_n hx hb dX10_together_145 rfl (lv_at hl 4 rfl) ?_
                        refine qf_get hx hb hts inX10 hown hK hP (q0 := 0) (by decide) (hgU_0 ca o) rfl 0 (by decide) wq_353 (v := .ref (o + 1)) rfl dX10_together_146 ?_
                        refine qf_get hx hb hts inX9 hown hK hP (q0 := 1) (by decide) (hgU_1 ca o) rfl 7 (by decide) wq_104 (v := .int (z14 1 7)) rfl dX10_together_149 ?_
                        refine lv_topi (fun x31 e31 => ?_)
                        have ag31 : x31.toInt = x17.toInt := congrArg Int32.toInt (e31.trans e17.symm)
                        refine lv_iadd hx hb dX10_together_152 ?_
                        refine lv_topi (fun x32 e32 => ?_)
                        refine lv_isub hx hb dX10_together_153 ?_
                        refine lv_topi (fun x33 e33 => ?_)
                        refine lv_istore (lv' := [(6, .int x33), (7, .int w19_7), (5, .int r14), (4, .int r1), (0, .ref (o + 0)), (1, .int a0), (2, .int a1), (3, .int a2)]) hx hb dX10_together_154 hl (by decide) rfl (fun ls hl => ?_)
                        obtain ⟨x34, e34⟩ : ∃ t : Int32, t = w19_7 + 1 := ⟨_, rfl⟩
                        refine lv_iinc (v := x34) (lv' := [(7, .int x34), (6, .int x33), (5, .int r14), (4, .int r1), (0, .ref (o + 0)), (1, .int a0), (2, .int a1), (3, .int a2)]) hx hb dX10_together_156 hl (k := 1) rfl (by rw [e34]; rfl) (by decide) rfl (fun ls hl => ?_)
                        have t34 : x34.toInt = w19_7.toInt + (1 : Int) := ga_add e34 rfl rfl (by omega) (by omega)
                        refine lv_goto (tgt := 117) hx hb dX10_together_159 (by decide) ?_
                        exact ih19 x34 x33 (show (6 - x34.toInt : Int) < (n19 : Int) from by omega) ⟨by omega, by omega⟩ _ _ hP hS _ (lv_sub hl [0, 1, 2, 3, 4, 5, 6, 7] rfl)
                exact loop19 7 0 x18 (show (6 - (0 : Int) : Int) < ((7 : Nat) : Int) from by omega) ⟨by decide, by decide⟩ _ _ hP hS _ (lv_sub hl [0, 1, 2, 3, 4, 5, 6, 7] rfl)
              · have t15 : r14.toInt < (0 : Int) := gl_nle c15
                refine lv_iload hx hb dX10_together_78 (lv_at hl 0 rfl) ?_
                refine lv_bipush (v := (-3)) hx hb dX10_together_80 (by decide) ?_
                refine lv_icmp_ne (tgt := 91) hx hb dX10_together_82 (by decide) (fun c35 => ?_) (fun c35 => ?_)
                · have t35 : r14.toInt ≠ (-3 : Int) := gl_ne c35
                  refine lv_sipush (v := (-2000)) hx hb dX10_together_91 (by decide) ?_
                  exact W.iret (v := (-2000)) hx hb hr (fun t ht hW => ⟨⟨(-2000), (z14, y14), rfl, ⟨trivial, J14⟩, by rw [ht]; exact hP, va_K.moved hW.alike hK⟩, hS.F ht⟩) hS.2.2 dX10_together_94
                · have t35 : r14.toInt = (-3 : Int) := gl_eq c35
                  refine lv_sipush (v := (-3000)) hx hb dX10_together_85 (by decide) ?_
                  refine lv_goto (tgt := 94) hx hb dX10_together_88 (by decide) ?_
                  exact W.iret (v := (-3000)) hx hb hr (fun t ht hW => ⟨⟨(-3000), (z14, y14), rfl, ⟨trivial, J14⟩, by rw [ht]; exact hP, va_K.moved hW.alike hK⟩, hS.F ht⟩) hS.2.2 dX10_together_94
            · have t13 : r1.toInt > (5 : Int) := gl_nle c13
              refine lv_sipush (v := (-4000)) hx hb dX10_together_59 (by decide) ?_
              exact W.iret (v := (-4000)) hx hb hr (fun t ht hW => ⟨⟨(-4000), (z, y), rfl, ⟨trivial, J0⟩, by rw [ht]; exact hP, va_K.moved hW.alike hK⟩, hS.F ht⟩) hS.2.2 dX10_together_62
    · subst hr4
      have hg4_0 : ¬ pHas (z 1 5) a1 := hf4_0
      refine lv_if_eq (tgt := 59) hx hb dX10_together_22 (by decide) (fun _ => ?_) (fun q => absurd (by decide) q)
      refine lv_sipush (v := (-4000)) hx hb dX10_together_59 (by decide) ?_
      exact W.iret (v := (-4000)) hx hb hr (fun t ht hW => ⟨⟨(-4000), (z, y), rfl, ⟨trivial, J0⟩, by rw [ht]; exact hP, va_K.moved hW.alike hK⟩, hS.F ht⟩) hS.2.2 dX10_together_62
set_option maxRecDepth 100000 in
set_option maxHeartbeats 8000000 in
theorem u_areTurned (l : Launch) (D : va_G) (ca : Nat → ClassId) (o : Nat) (b z : Nat → Nat → Int32) (y : Nat → Nat → Int64) (J0 : qJU b z) (a0 : Int32) (a1 : Int32)  : qM l yX10_areTurned cX10_areTurned 2 (some .boolean) 1 60 (qPre D vwCl (qT6 ca) o 132 (qG (GU ca o) z y) [.int a0, .int a1]) (va_Qi (fun r (_ : Unit) => ((0 : Int) ≤ r.toInt ∧ r.toInt ≤ 1)) (qB D vwCl (qT6 ca) o 132 (fun _ : Unit => qG (GU ca o) z y)) (qw_A o 132)) (qw_A o 132) := by
  refine Met.ofW (cc := cX10_areTurned) (maxL := 2) (ret := (some .boolean)) (by decide) rfl ?_
  intro p e s m args below meth c s₁ B hml hv
  obtain ⟨rfl, hP, hK⟩ := hv
  have hx := B.exec
  have hb := B.bytes
  have hr := B.returns
  have hts0 := atoms_spec (ws := Cond.code yX10_areTurned cX10_areTurned 2 (some .boolean) :: qtbl) B.pre
  have hts : ∀ w ∈ qtbl, w.before _ s = true := fun w h => hts0 w (List.mem_cons_of_mem _ h)
  have hown : s.vm.findClass RX10 = some m.cls := findClass_of_methodNamed B.named
  have hlocks := B.notSynchronized
  have hS : va_S (qw_A o 132) s.heap s.heap [] := va_S.rf
  have hl := lv_entry ([.int a0, .int a1]) (n := 2) (Nat.le_of_ble_eq_true rfl)
  rw [lg_entry_eq]
  generalize (lg_sl ([.int a0, .int a1]) ++ List.replicate (2 - (lg_sl ([.int a0, .int a1])).length) Slot.unset).toArray = ls at hl ⊢
  have hl : lv_has ls 2 [(0, .int a0), (1, .int a1)] := hl
  refine lv_iload_n hx hb dX10_areTurned_0 rfl (lv_at hl 0 rfl) ?_
  refine lv_bipush (v := 10) hx hb dX10_areTurned_1 (by decide) ?_
  refine lv_icmp_lt (tgt := 44) hx hb dX10_areTurned_3 (by decide) (fun c1 => ?_) (fun c1 => ?_)
  · have t1 : a0.toInt < (10 : Int) := gl_lt c1
    refine lv_iconst (v := 0) hx hb dX10_areTurned_44 (by decide) ?_
    exact W.zret (v := 0) (ty := .boolean) hx hb hr rfl (fun t ht hW => ⟨⟨0, (), rfl, ⟨by decide, by decide⟩, by rw [ht]; exact hP, va_K.moved hW.alike hK⟩, hS.F ht⟩) hS.2.2 dX10_areTurned_45
  · have t1 : a0.toInt ≥ (10 : Int) := gl_nlt c1
    refine lv_iload_n hx hb dX10_areTurned_6 rfl (lv_at hl 0 rfl) ?_
    refine lv_bipush (v := 99) hx hb dX10_areTurned_7 (by decide) ?_
    refine lv_icmp_gt (tgt := 44) hx hb dX10_areTurned_9 (by decide) (fun c2 => ?_) (fun c2 => ?_)
    · have t2 : a0.toInt > (99 : Int) := gl_lt c2
      refine lv_iconst (v := 0) hx hb dX10_areTurned_44 (by decide) ?_
      exact W.zret (v := 0) (ty := .boolean) hx hb hr rfl (fun t ht hW => ⟨⟨0, (), rfl, ⟨by decide, by decide⟩, by rw [ht]; exact hP, va_K.moved hW.alike hK⟩, hS.F ht⟩) hS.2.2 dX10_areTurned_45
    · have t2 : a0.toInt ≤ (99 : Int) := gl_nlt c2
      refine lv_iload_n hx hb dX10_areTurned_12 rfl (lv_at hl 1 rfl) ?_
      refine lv_bipush (v := 10) hx hb dX10_areTurned_13 (by decide) ?_
      refine lv_icmp_lt (tgt := 44) hx hb dX10_areTurned_15 (by decide) (fun c3 => ?_) (fun c3 => ?_)
      · have t3 : a1.toInt < (10 : Int) := gl_lt c3
        refine lv_iconst (v := 0) hx hb dX10_areTurned_44 (by decide) ?_
        exact W.zret (v := 0) (ty := .boolean) hx hb hr rfl (fun t ht hW => ⟨⟨0, (), rfl, ⟨by decide, by decide⟩, by rw [ht]; exact hP, va_K.moved hW.alike hK⟩, hS.F ht⟩) hS.2.2 dX10_areTurned_45
      · have t3 : a1.toInt ≥ (10 : Int) := gl_nlt c3
        refine lv_iload_n hx hb dX10_areTurned_18 rfl (lv_at hl 1 rfl) ?_
        refine lv_bipush (v := 99) hx hb dX10_areTurned_19 (by decide) ?_
        refine lv_icmp_gt (tgt := 44) hx hb dX10_areTurned_21 (by decide) (fun c4 => ?_) (fun c4 => ?_)
        · have t4 : a1.toInt > (99 : Int) := gl_lt c4
          refine lv_iconst (v := 0) hx hb dX10_areTurned_44 (by decide) ?_
          exact W.zret (v := 0) (ty := .boolean) hx hb hr rfl (fun t ht hW => ⟨⟨0, (), rfl, ⟨by decide, by decide⟩, by rw [ht]; exact hP, va_K.moved hW.alike hK⟩, hS.F ht⟩) hS.2.2 dX10_areTurned_45
        · have t4 : a1.toInt ≤ (99 : Int) := gl_nlt c4
          refine lv_iload_n hx hb dX10_areTurned_24 rfl (lv_at hl 1 rfl) ?_
          refine lv_iload_n hx hb dX10_areTurned_25 rfl (lv_at hl 0 rfl) ?_
          refine lv_bipush (v := 10) hx hb dX10_areTurned_26 (by decide) ?_
          refine lv_irem hx hb dX10_areTurned_28 (by decide) ?_
          refine lv_topi (fun x5 e5 => ?_)
          have t5 : x5.toInt = a0.toInt % 10 := ga_rem e5 rfl (by omega) (by decide)
          refine lv_bipush (v := 10) hx hb dX10_areTurned_29 (by decide) ?_
          refine lv_imul hx hb dX10_areTurned_31 ?_
          refine lv_topi (fun x6 e6 => ?_)
          have t6 : x6.toInt = x5.toInt * (10 : Int) := ga_mul e6 rfl rfl (by omega) (by omega)
          refine lv_iload_n hx hb dX10_areTurned_32 rfl (lv_at hl 0 rfl) ?_
          refine lv_bipush (v := 10) hx hb dX10_areTurned_33 (by decide) ?_
          refine lv_idiv hx hb dX10_areTurned_35 (by decide) ?_
          refine lv_topi (fun x7 e7 => ?_)
          have t7 : x7.toInt = a0.toInt / 10 := ga_div e7 rfl (by omega) (by decide)
          refine lv_iadd hx hb dX10_areTurned_36 ?_
          refine lv_topi (fun x8 e8 => ?_)
          have t8 : x8.toInt = x6.toInt + x7.toInt := ga_add e8 rfl rfl (by omega) (by omega)
          refine lv_icmp_ne (tgt := 44) hx hb dX10_areTurned_37 (by decide) (fun c9 => ?_) (fun c9 => ?_)
          · have t9 : a1.toInt ≠ x8.toInt := gl_ne c9
            refine lv_iconst (v := 0) hx hb dX10_areTurned_44 (by decide) ?_
            exact W.zret (v := 0) (ty := .boolean) hx hb hr rfl (fun t ht hW => ⟨⟨0, (), rfl, ⟨by decide, by decide⟩, by rw [ht]; exact hP, va_K.moved hW.alike hK⟩, hS.F ht⟩) hS.2.2 dX10_areTurned_45
          · have t9 : a1.toInt = x8.toInt := gl_eq c9
            refine lv_iconst (v := 1) hx hb dX10_areTurned_40 (by decide) ?_
            refine lv_goto (tgt := 45) hx hb dX10_areTurned_41 (by decide) ?_
            exact W.zret (v := 1) (ty := .boolean) hx hb hr rfl (fun t ht hW => ⟨⟨1, (), rfl, ⟨by decide, by decide⟩, by rw [ht]; exact hP, va_K.moved hW.alike hK⟩, hS.F ht⟩) hS.2.2 dX10_areTurned_45
set_option maxRecDepth 100000 in
set_option maxHeartbeats 8000000 in
theorem u_turned (l : Launch) (D : va_G) (ca : Nat → ClassId) (o : Nat) (b z : Nat → Nat → Int32) (y : Nat → Nat → Int64) (J0 : qJU b z) (a0 : Int32) (a1 : Int32) (a2 : Int32) (a3 : Int32)  : qM l yX10_turned cX10_turned 9 (some .int) 6 166 (qPre D vwCl (qT6 ca) o 132 (qG (GU ca o) z y) [.ref (o + 0), .int a0, .int a1, .int a2, .int a3]) (va_Qi (fun r u => True ∧ qJU b u.1) (qB D vwCl (qT6 ca) o 132 (fun u : qZ => qG (GU ca o) u.1 u.2)) (qw_A o 132)) (qw_A o 132) := by
  refine Met.ofW (cc := cX10_turned) (maxL := 9) (ret := (some .int)) (by decide) rfl ?_
  intro p e s m args below meth c s₁ B hml hv
  obtain ⟨rfl, hP, hK⟩ := hv
  have hx := B.exec
  have hb := B.bytes
  have hr := B.returns
  have hts0 := atoms_spec (ws := Cond.code yX10_turned cX10_turned 9 (some .int) :: qtbl) B.pre
  have hts : ∀ w ∈ qtbl, w.before _ s = true := fun w h => hts0 w (List.mem_cons_of_mem _ h)
  have hown : s.vm.findClass RX10 = some m.cls := findClass_of_methodNamed B.named
  have hlocks := B.notSynchronized
  have hS : va_S (qw_A o 132) s.heap s.heap [] := va_S.rf
  have hl := lv_entry ([.ref (o + 0), .int a0, .int a1, .int a2, .int a3]) (n := 9) (Nat.le_of_ble_eq_true rfl)
  rw [lg_entry_eq]
  generalize (lg_sl ([.ref (o + 0), .int a0, .int a1, .int a2, .int a3]) ++ List.replicate (9 - (lg_sl ([.ref (o + 0), .int a0, .int a1, .int a2, .int a3])).length) Slot.unset).toArray = ls at hl ⊢
  have hl : lv_has ls 9 [(0, .ref (o + 0)), (1, .int a0), (2, .int a1), (3, .int a2), (4, .int a3)] := hl
  refine lv_aload_n hx hb dX10_turned_0 rfl (lv_at hl 0 rfl) ?_
  refine lv_iload_n hx hb dX10_turned_1 rfl (lv_at hl 1 rfl) ?_
  refine qc_Vip (As := [.int a0]) (rest := []) (k0 := 1) (u_areRemarks l D ca o b z y J0 a0) kc_yX10_areRemarks ⟨hx, hb, hml, hown, hts⟩ wq_583 rfl rfl ⟨Nat.le_of_ble_eq_true rfl, Nat.le_of_ble_eq_true rfl⟩ wq_all hP hK hS qw_Ai (q0 := 0) (by decide) (hgU_0 ca o _ _) rfl rfl hl.1 rfl (Nat.le_of_ble_eq_true rfl) dX10_turned_2 ⟨Nat.zero_le _, Nat.zero_le _⟩ (fun r1 H locs h1 hP hS _ _ => ?_)
  have b1 : (0 : Int) ≤ r1.toInt ∧ r1.toInt ≤ 1 := h1
  refine lv_if_eq (tgt := 46) hx hb dX10_turned_5 (by decide) (fun c2 => ?_) (fun c2 => ?_)
  · have t2 : r1.toInt = (0 : Int) := gl_eq c2
    refine lv_iconst (v := (-1)) hx hb dX10_turned_46 (by decide) ?_
    exact W.iret (v := (-1)) hx hb hr (fun t ht hW => ⟨⟨(-1), (z, y), rfl, ⟨trivial, J0⟩, by rw [ht]; exact hP, va_K.moved hW.alike hK⟩, hS.F ht⟩) hS.2.2 dX10_turned_47
  · have t2 : r1.toInt ≠ (0 : Int) := gl_ne c2
    refine lv_aload_n hx hb dX10_turned_8 rfl (lv_at hl 0 rfl) ?_
    refine qf_get hx hb hts inX10 hown hK hP (q0 := 0) (by decide) (hgU_0 ca o) rfl 0 (by decide) wq_353 (v := .ref (o + 1)) rfl dX10_turned_9 ?_
    refine lv_iload_n hx hb dX10_turned_12 rfl (lv_at hl 2 rfl) ?_
    refine qc_Vip (As := [.int a1]) (rest := []) (k0 := 1) (u_Told_hasPerson l D ca o b z y J0 a1) kc_yX9_hasPerson ⟨hx, hb, hml, hown, hts⟩ wq_411 rfl rfl ⟨Nat.le_of_ble_eq_true rfl, Nat.le_of_ble_eq_true rfl⟩ wq_all hP hK hS qw_Ai (q0 := 1) (by decide) (hgU_1 ca o _ _) rfl rfl hl.1 rfl (Nat.le_of_ble_eq_true rfl) dX10_turned_13 ⟨Nat.zero_le _, Nat.zero_le _⟩ (fun r3 H locs h3 hP hS _ _ => ?_)
    rcases h3 with ⟨hr3, hf3_0, hf3_1⟩ | ⟨hr3, hf3_0⟩
    · subst hr3
      have hg3_0 : pHas (z 1 5) a1 := hf3_0
      have hg3_1 : 0 ≤ a1.toInt ∧ a1.toInt ≤ 5 := hf3_1
      refine lv_if_eq (tgt := 46) hx hb dX10_turned_16 (by decide) (fun q => absurd q (by decide)) (fun _ => ?_)
      refine lv_aload_n hx hb dX10_turned_19 rfl (lv_at hl 0 rfl) ?_
      refine qf_get hx hb hts inX10 hown hK hP (q0 := 0) (by decide) (hgU_0 ca o) rfl 0 (by decide) wq_353 (v := .ref (o + 1)) rfl dX10_turned_20 ?_
      refine lv_iload_n hx hb dX10_turned_23 rfl (lv_at hl 3 rfl) ?_
      refine qc_Vip (As := [.int a2]) (rest := []) (k0 := 1) (u_Told_hasPerson l D ca o b z y J0 a2) kc_yX9_hasPerson ⟨hx, hb, hml, hown, hts⟩ wq_411 rfl rfl ⟨Nat.le_of_ble_eq_true rfl, Nat.le_of_ble_eq_true rfl⟩ wq_all hP hK hS qw_Ai (q0 := 1) (by decide) (hgU_1 ca o _ _) rfl rfl hl.1 rfl (Nat.le_of_ble_eq_true rfl) dX10_turned_24 ⟨Nat.zero_le _, Nat.zero_le _⟩ (fun r4 H locs h4 hP hS _ _ => ?_)
      rcases h4 with ⟨hr4, hf4_0, hf4_1⟩ | ⟨hr4, hf4_0⟩
      · subst hr4
        have hg4_0 : pHas (z 1 5) a2 := hf4_0
        have hg4_1 : 0 ≤ a2.toInt ∧ a2.toInt ≤ 5 := hf4_1
        refine lv_if_eq (tgt := 46) hx hb dX10_turned_27 (by decide) (fun q => absurd q (by decide)) (fun _ => ?_)
        refine lv_iload_n hx hb dX10_turned_30 rfl (lv_at hl 2 rfl) ?_
        refine lv_iload_n hx hb dX10_turned_31 rfl (lv_at hl 3 rfl) ?_
        refine lv_icmp_eq (tgt := 46) hx hb dX10_turned_32 (by decide) (fun c5 => ?_) (fun c5 => ?_)
        · have t5 : a1.toInt = a2.toInt := gl_eq c5
          refine lv_iconst (v := (-1)) hx hb dX10_turned_46 (by decide) ?_
          exact W.iret (v := (-1)) hx hb hr (fun t ht hW => ⟨⟨(-1), (z, y), rfl, ⟨trivial, J0⟩, by rw [ht]; exact hP, va_K.moved hW.alike hK⟩, hS.F ht⟩) hS.2.2 dX10_turned_47
        · have t5 : a1.toInt ≠ a2.toInt := gl_ne c5
          refine lv_iload hx hb dX10_turned_35 (lv_at hl 4 rfl) ?_
          refine lv_if_lt (tgt := 46) hx hb dX10_turned_37 (by decide) (fun c6 => ?_) (fun c6 => ?_)
          · have t6 : a3.toInt < (0 : Int) := gl_lt c6
            refine lv_iconst (v := (-1)) hx hb dX10_turned_46 (by decide) ?_
            exact W.iret (v := (-1)) hx hb hr (fun t ht hW => ⟨⟨(-1), (z, y), rfl, ⟨trivial, J0⟩, by rw [ht]; exact hP, va_K.moved hW.alike hK⟩, hS.F ht⟩) hS.2.2 dX10_turned_47
          · have t6 : a3.toInt ≥ (0 : Int) := gl_nlt c6
            refine lv_iload hx hb dX10_turned_40 (lv_at hl 4 rfl) ?_
            refine lv_iconst (v := 1) hx hb dX10_turned_42 (by decide) ?_
            refine lv_icmp_le (tgt := 48) hx hb dX10_turned_43 (by decide) (fun c7 => ?_) (fun c7 => ?_)
            · have t7 : a3.toInt ≤ (1 : Int) := gl_le c7
              refine lv_aload_n hx hb dX10_turned_48 rfl (lv_at hl 0 rfl) ?_
              refine qf_get hx hb hts inX10 hown hK hP (q0 := 0) (by decide) (hgU_0 ca o) rfl 6 (by decide) wq_359 (v := .ref (o + 104)) rfl dX10_turned_49 ?_
              refine lv_iload_n hx hb dX10_turned_52 rfl (lv_at hl 1 rfl) ?_
              refine qc_Vi2 (As := [.int a0]) (rest := []) (k0 := 1) (u_Rows_seek l D ca o b z y J0 a0) kc_yX7_seek ⟨hx, hb, hml, hown, hts⟩ wq_587 rfl rfl ⟨Nat.le_of_ble_eq_true rfl, Nat.le_of_ble_eq_true rfl⟩ wq_all hP hK hS qw_Ai (q0 := 104) (by decide) (hgU_104 ca o _ _) rfl rfl hl.1 rfl (Nat.le_of_ble_eq_true rfl) dX10_turned_53 ⟨Nat.zero_le _, Nat.zero_le _⟩ (fun r8 z8 y8 H locs h8 hP hS _ _ => ?_)
              have J8 : qJU b z8 := h8.2
              have b8 : (-3 : Int) ≤ r8.toInt ∧ r8.toInt ≤ 0 := h8.1
              refine lv_istore (lv' := [(5, .int r8), (0, .ref (o + 0)), (1, .int a0), (2, .int a1), (3, .int a2), (4, .int a3)]) hx hb dX10_turned_56 hl (by decide) rfl (fun ls hl => ?_)
              refine lv_iload hx hb dX10_turned_58 (lv_at hl 0 rfl) ?_
              refine lv_if_ge (tgt := 66) hx hb dX10_turned_60 (by decide) (fun c9 => ?_) (fun c9 => ?_)
              · have t9 : r8.toInt ≥ (0 : Int) := gl_le c9
                refine lv_iconst (v := 0) hx hb dX10_turned_66 (by decide) ?_
                refine lv_istore (lv' := [(6, .int 0), (5, .int r8), (0, .ref (o + 0)), (1, .int a0), (2, .int a1), (3, .int a2), (4, .int a3)]) hx hb dX10_turned_67 hl (by decide) rfl (fun ls hl => ?_)
                refine lv_bipush (v := (-2)) hx hb dX10_turned_69 (by decide) ?_
                refine lv_istore (lv' := [(7, .int ((-2))), (6, .int 0), (5, .int r8), (0, .ref (o + 0)), (1, .int a0), (2, .int a1), (3, .int a2), (4, .int a3)]) hx hb dX10_turned_71 hl (by decide) rfl (fun ls hl => ?_)
                refine lv_bipush (v := 99) hx hb dX10_turned_73 (by decide) ?_
                refine lv_istore (lv' := [(8, .int 99), (7, .int ((-2))), (6, .int 0), (5, .int r8), (0, .ref (o + 0)), (1, .int a0), (2, .int a1), (3, .int a2), (4, .int a3)]) hx hb dX10_turned_75 hl (by decide) rfl (fun ls hl => ?_)
                have loop10 : ∀ (n : Nat) (w10_8 : Int32) (w10_7 : Int32) (w10_6 : Int32), ((w10_8.toInt - (-1) : Int) < (n : Int)) → ((-1 : Int) ≤ w10_8.toInt ∧ w10_8.toInt ≤ 99) → ((-2 : Int) ≤ w10_7.toInt ∧ w10_7.toInt ≤ 99) → ∀ (H : Heap) (locs : List Loc), qw_P D vwCl o 132 (qG (GU ca o) z8 y8) H → va_S (qw_A o 132) s.heap H locs → ∀ (ls : Array Slot), lv_has ls 9 [(8, .int w10_8), (7, .int w10_7), (6, .int w10_6), (5, .int r8), (0, .ref (o + 0)), (1, .int a0), (2, .int a1), (3, .int a2), (4, .int a3)] → W p l e (headSpec (Cond.code yX10_turned cX10_turned 9 (some .int) :: qtbl) ({ frames := 6, cells := 0, slots := 0, locals := 166 })).room s m (([.ref (o + 0), .int a0, .int a1, .int a2, .int a3] : List Value).toArray) below meth c H locs 0 0 (MQ below (va_Qi (fun r u => True ∧ qJU b u.1) (qB D vwCl (qT6 ca) o 132 (fun u : qZ => qG (GU ca o) u.1 u.2)) (qw_A o 132)) (([.ref (o + 0), .int a0, .int a1, .int a2, .int a3] : List Value).toArray) s 0 0 (qw_A o 132)) (F0 m 77 ls []) := by
                  intro n
                  induction n with
                  | zero => intro w10_8 w10_7 w10_6 hb10 hv10_8 hv10_7; exfalso; omega
                  | succ n10 ih10 =>
                    intro w10_8 w10_7 w10_6 hb10 hv10_8 hv10_7 H locs hP hS ls hl
                    refine lv_iload hx hb dX10_turned_77 (lv_at hl 0 rfl) ?_
                    refine lv_if_lt (tgt := 141) hx hb dX10_turned_79 (by decide) (fun c11 => ?_) (fun c11 => ?_)
                    · have t11 : w10_8.toInt < (0 : Int) := gl_lt c11
                      refine lv_iload hx hb dX10_turned_141 (lv_at hl 8 rfl) ?_
                      refine lv_if_ne (tgt := 151) hx hb dX10_turned_143 (by decide) (fun c12 => ?_) (fun c12 => ?_)
                      · have t12 : a3.toInt ≠ (0 : Int) := gl_ne c12
                        refine lv_iload hx hb dX10_turned_151 (lv_at hl 1 rfl) ?_
                        exact W.iret (v := w10_7) hx hb hr (fun t ht hW => ⟨⟨w10_7, (z8, y8), rfl, ⟨trivial, J8⟩, by rw [ht]; exact hP, va_K.moved hW.alike hK⟩, hS.F ht⟩) hS.2.2 dX10_turned_153
                      · have t12 : a3.toInt = (0 : Int) := gl_eq c12
                        refine lv_iload hx hb dX10_turned_146 (lv_at hl 2 rfl) ?_
                        refine lv_goto (tgt := 153) hx hb dX10_turned_148 (by decide) ?_
                        exact W.iret (v := w10_6) hx hb hr (fun t ht hW => ⟨⟨w10_6, (z8, y8), rfl, ⟨trivial, J8⟩, by rw [ht]; exact hP, va_K.moved hW.alike hK⟩, hS.F ht⟩) hS.2.2 dX10_turned_153
                    · have t11 : w10_8.toInt ≥ (0 : Int) := gl_nlt c11
                      refine lv_aload_n hx hb dX10_turned_82 rfl (lv_at hl 4 rfl) ?_
                      refine qf_get hx hb hts inX10 hown hK hP (q0 := 0) (by decide) (hgU_0 ca o) rfl 6 (by decide) wq_359 (v := .ref (o + 104)) rfl dX10_turned_83 ?_
                      refine qf_get hx hb hts inX7 hown hK hP (q0 := 104) (by decide) (hgU_104 ca o) rfl 1 (by decide) wq_189 (v := .ref (o + 105)) rfl dX10_turned_86 ?_
                      refine lv_iload_n hx hb dX10_turned_89 rfl (lv_at hl 6 rfl) ?_
                      refine qa_iald hx hb hK hP (q0 := 105) (by decide) 0 (N := 6) (hgU_105 ca o) rfl (gi_in (by omega) (by omega)) dX10_turned_90 ?_
                      refine lv_topi (fun x13 e13 => ?_)
                      have b13 := iU_105 J8 e13
                      refine lv_aload_n hx hb dX10_turned_91 rfl (lv_at hl 4 rfl) ?_
                      refine qf_get hx hb hts inX10 hown hK hP (q0 := 0) (by decide) (hgU_0 ca o) rfl 0 (by decide) wq_353 (v := .ref (o + 1)) rfl dX10_turned_92 ?_
                      refine qf_get hx hb hts inX9 hown hK hP (q0 := 1) (by decide) (hgU_1 ca o) rfl 7 (by decide) wq_104 (v := .int (z8 1 7)) rfl dX10_turned_95 ?_
                      refine lv_topi (fun x14 e14 => ?_)
                      refine lv_iadd hx hb dX10_turned_98 ?_
                      refine lv_topi (fun x15 e15 => ?_)
                      refine lv_iload hx hb dX10_turned_99 (lv_at hl 0 rfl) ?_
                      refine lv_iadd hx hb dX10_turned_101 ?_
                      refine lv_topi (fun x16 e16 => ?_)
                      refine lv_aload_n hx hb dX10_turned_102 rfl (lv_at hl 4 rfl) ?_
                      refine qf_get hx hb hts inX10 hown hK hP (q0 := 0) (by decide) (hgU_0 ca o) rfl 6 (by decide) wq_359 (v := .ref (o + 104)) rfl dX10_turned_103 ?_
                      refine qf_get hx hb hts inX7 hown hK hP (q0 := 104) (by decide) (hgU_104 ca o) rfl 1 (by decide) wq_189 (v := .ref (o + 105)) rfl dX10_turned_106 ?_
                      refine lv_iload_n hx hb dX10_turned_109 rfl (lv_at hl 7 rfl) ?_
                      refine qa_iald hx hb hK hP (q0 := 105) (by decide) 0 (N := 6) (hgU_105 ca o) rfl (gi_in (by omega) (by omega)) dX10_turned_110 ?_
                      refine lv_topi (fun x17 e17 => ?_)
                      have b17 := iU_105 J8 e17
                      refine lv_aload_n hx hb dX10_turned_111 rfl (lv_at hl 4 rfl) ?_
                      refine qf_get hx hb hts inX10 hown hK hP (q0 := 0) (by decide) (hgU_0 ca o) rfl 0 (by decide) wq_353 (v := .ref (o + 1)) rfl dX10_turned_112 ?_
                      refine qf_get hx hb hts inX9 hown hK hP (q0 := 1) (by decide) (hgU_1 ca o) rfl 7 (by decide) wq_104 (v := .int (z8 1 7)) rfl dX10_turned_115 ?_
                      refine lv_topi (fun x18 e18 => ?_)
                      have ag18 : x18.toInt = x14.toInt := congrArg Int32.toInt (e18.trans e14.symm)
                      refine lv_iadd hx hb dX10_turned_118 ?_
                      refine lv_topi (fun x19 e19 => ?_)
                      refine lv_iload hx hb dX10_turned_119 (lv_at hl 0 rfl) ?_
                      refine lv_iadd hx hb dX10_turned_121 ?_
                      refine lv_topi (fun x20 e20 => ?_)
                      refine qc_Sip (As := [.int x16, .int x20]) (rest := []) (k0 := 2) (u_areTurned l D ca o b z8 y8 J8 x16 x20) kc_yX10_areTurned ⟨hx, hb, hml, hown, hts⟩ wq_834 rfl rfl ⟨Nat.le_of_ble_eq_true rfl, Nat.le_of_ble_eq_true rfl⟩ wq_all hP hK hS qw_Ai rfl hl.1 rfl (Nat.le_of_ble_eq_true rfl) dX10_turned_122 ⟨Nat.zero_le _, Nat.zero_le _⟩ (fun r21 H locs h21 hP hS _ _ => ?_)
                      have b21 : (0 : Int) ≤ r21.toInt ∧ r21.toInt ≤ 1 := h21
                      refine lv_if_eq (tgt := 135) hx hb dX10_turned_125 (by decide) (fun c22 => ?_) (fun c22 => ?_)
                      · have t22 : r21.toInt = (0 : Int) := gl_eq c22
                        obtain ⟨x23, e23⟩ : ∃ t : Int32, t = w10_8 + (-1) := ⟨_, rfl⟩
                        refine lv_iinc (v := x23) (lv' := [(8, .int x23), (7, .int w10_7), (6, .int w10_6), (5, .int r8), (0, .ref (o + 0)), (1, .int a0), (2, .int a1), (3, .int a2), (4, .int a3)]) hx hb dX10_turned_135 hl (k := 0) rfl (by rw [e23]; rfl) (by decide) rfl (fun ls hl => ?_)
                        have t23 : x23.toInt = w10_8.toInt + (-1 : Int) := ga_add e23 rfl rfl (by omega) (by omega)
                        refine lv_goto (tgt := 77) hx hb dX10_turned_138 (by decide) ?_
                        exact ih10 x23 w10_7 w10_6 (show (x23.toInt - (-1) : Int) < (n10 : Int) from by omega) ⟨by omega, by omega⟩ ⟨by omega, by omega⟩ _ _ hP hS _ (lv_sub hl [0, 1, 2, 3, 4, 5, 6, 7, 8] rfl)
                      · have t22 : r21.toInt ≠ (0 : Int) := gl_ne c22
                        obtain ⟨x24, e24⟩ : ∃ t : Int32, t = w10_6 + 1 := ⟨_, rfl⟩
                        refine lv_iinc (v := x24) (lv' := [(6, .int x24), (8, .int w10_8), (7, .int w10_7), (5, .int r8), (0, .ref (o + 0)), (1, .int a0), (2, .int a1), (3, .int a2), (4, .int a3)]) hx hb dX10_turned_128 hl (k := 2) rfl (by rw [e24]; rfl) (by decide) rfl (fun ls hl => ?_)
                        refine lv_iload hx hb dX10_turned_131 (lv_at hl 1 rfl) ?_
                        refine lv_istore (lv' := [(7, .int w10_8), (6, .int x24), (8, .int w10_8), (5, .int r8), (0, .ref (o + 0)), (1, .int a0), (2, .int a1), (3, .int a2), (4, .int a3)]) hx hb dX10_turned_133 hl (by decide) rfl (fun ls hl => ?_)
                        obtain ⟨x25, e25⟩ : ∃ t : Int32, t = w10_8 + (-1) := ⟨_, rfl⟩
                        refine lv_iinc (v := x25) (lv' := [(8, .int x25), (7, .int w10_8), (6, .int x24), (5, .int r8), (0, .ref (o + 0)), (1, .int a0), (2, .int a1), (3, .int a2), (4, .int a3)]) hx hb dX10_turned_135 hl (k := 2) rfl (by rw [e25]; rfl) (by decide) rfl (fun ls hl => ?_)
                        have t25 : x25.toInt = w10_8.toInt + (-1 : Int) := ga_add e25 rfl rfl (by omega) (by omega)
                        refine lv_goto (tgt := 77) hx hb dX10_turned_138 (by decide) ?_
                        exact ih10 x25 w10_8 x24 (show (x25.toInt - (-1) : Int) < (n10 : Int) from by omega) ⟨by omega, by omega⟩ ⟨by omega, by omega⟩ _ _ hP hS _ (lv_sub hl [0, 1, 2, 3, 4, 5, 6, 7, 8] rfl)
                exact loop10 101 99 (-2) 0 (show ((99 : Int) - (-1) : Int) < ((101 : Nat) : Int) from by omega) ⟨by decide, by decide⟩ ⟨by decide, by decide⟩ _ _ hP hS _ (lv_sub hl [0, 1, 2, 3, 4, 5, 6, 7, 8] rfl)
              · have t9 : r8.toInt < (0 : Int) := gl_nle c9
                refine lv_iload hx hb dX10_turned_63 (lv_at hl 0 rfl) ?_
                exact W.iret (v := r8) hx hb hr (fun t ht hW => ⟨⟨r8, (z8, y8), rfl, ⟨trivial, J8⟩, by rw [ht]; exact hP, va_K.moved hW.alike hK⟩, hS.F ht⟩) hS.2.2 dX10_turned_65
            · have t7 : a3.toInt > (1 : Int) := gl_nle c7
              refine lv_iconst (v := (-1)) hx hb dX10_turned_46 (by decide) ?_
              exact W.iret (v := (-1)) hx hb hr (fun t ht hW => ⟨⟨(-1), (z, y), rfl, ⟨trivial, J0⟩, by rw [ht]; exact hP, va_K.moved hW.alike hK⟩, hS.F ht⟩) hS.2.2 dX10_turned_47
      · subst hr4
        have hg4_0 : ¬ pHas (z 1 5) a2 := hf4_0
        refine lv_if_eq (tgt := 46) hx hb dX10_turned_27 (by decide) (fun _ => ?_) (fun q => absurd (by decide) q)
        refine lv_iconst (v := (-1)) hx hb dX10_turned_46 (by decide) ?_
        exact W.iret (v := (-1)) hx hb hr (fun t ht hW => ⟨⟨(-1), (z, y), rfl, ⟨trivial, J0⟩, by rw [ht]; exact hP, va_K.moved hW.alike hK⟩, hS.F ht⟩) hS.2.2 dX10_turned_47
    · subst hr3
      have hg3_0 : ¬ pHas (z 1 5) a1 := hf3_0
      refine lv_if_eq (tgt := 46) hx hb dX10_turned_16 (by decide) (fun _ => ?_) (fun q => absurd (by decide) q)
      refine lv_iconst (v := (-1)) hx hb dX10_turned_46 (by decide) ?_
      exact W.iret (v := (-1)) hx hb hr (fun t ht hW => ⟨⟨(-1), (z, y), rfl, ⟨trivial, J0⟩, by rw [ht]; exact hP, va_K.moved hW.alike hK⟩, hS.F ht⟩) hS.2.2 dX10_turned_47
set_option maxRecDepth 100000 in
set_option maxHeartbeats 8000000 in
theorem u_isSquare (l : Launch) (D : va_G) (ca : Nat → ClassId) (o : Nat) (b z : Nat → Nat → Int32) (y : Nat → Nat → Int64) (J0 : qJU b z) (a0 : Int32)  : qM l yX10_isSquare cX10_isSquare 2 (some .boolean) 1 60 (qPre D vwCl (qT6 ca) o 132 (qG (GU ca o) z y) [.int a0]) (va_Qi (fun r (_ : Unit) => ((0 : Int) ≤ r.toInt ∧ r.toInt ≤ 1)) (qB D vwCl (qT6 ca) o 132 (fun _ : Unit => qG (GU ca o) z y)) (qw_A o 132)) (qw_A o 132) := by
  refine Met.ofW (cc := cX10_isSquare) (maxL := 2) (ret := (some .boolean)) (by decide) rfl ?_
  intro p e s m args below meth c s₁ B hml hv
  obtain ⟨rfl, hP, hK⟩ := hv
  have hx := B.exec
  have hb := B.bytes
  have hr := B.returns
  have hts0 := atoms_spec (ws := Cond.code yX10_isSquare cX10_isSquare 2 (some .boolean) :: qtbl) B.pre
  have hts : ∀ w ∈ qtbl, w.before _ s = true := fun w h => hts0 w (List.mem_cons_of_mem _ h)
  have hown : s.vm.findClass RX10 = some m.cls := findClass_of_methodNamed B.named
  have hlocks := B.notSynchronized
  have hS : va_S (qw_A o 132) s.heap s.heap [] := va_S.rf
  have hl := lv_entry ([.int a0]) (n := 2) (Nat.le_of_ble_eq_true rfl)
  rw [lg_entry_eq]
  generalize (lg_sl ([.int a0]) ++ List.replicate (2 - (lg_sl ([.int a0])).length) Slot.unset).toArray = ls at hl ⊢
  have hl : lv_has ls 2 [(0, .int a0)] := hl
  refine lv_iconst (v := 0) hx hb dX10_isSquare_0 (by decide) ?_
  refine lv_istore_n (lv' := [(1, .int 0), (0, .int a0)]) hx hb dX10_isSquare_1 rfl hl (by decide) rfl (fun ls hl => ?_)
  have loop1 : ∀ (n : Nat) (w1_1 : Int32), ((100 - w1_1.toInt : Int) < (n : Int)) → ((0 : Int) ≤ w1_1.toInt ∧ w1_1.toInt ≤ 100) → ∀ (H : Heap) (locs : List Loc), qw_P D vwCl o 132 (qG (GU ca o) z y) H → va_S (qw_A o 132) s.heap H locs → ∀ (ls : Array Slot), lv_has ls 2 [(1, .int w1_1), (0, .int a0)] → W p l e (headSpec (Cond.code yX10_isSquare cX10_isSquare 2 (some .boolean) :: qtbl) ({ frames := 1, cells := 0, slots := 0, locals := 60 })).room s m (([.int a0] : List Value).toArray) below meth c H locs 0 0 (MQ below (va_Qi (fun r (_ : Unit) => ((0 : Int) ≤ r.toInt ∧ r.toInt ≤ 1)) (qB D vwCl (qT6 ca) o 132 (fun _ : Unit => qG (GU ca o) z y)) (qw_A o 132)) (([.int a0] : List Value).toArray) s 0 0 (qw_A o 132)) (F0 m 2 ls []) := by
    intro n
    induction n with
    | zero => intro w1_1 hb1 hv1_1; exfalso; omega
    | succ n1 ih1 =>
      intro w1_1 hb1 hv1_1 H locs hP hS ls hl
      refine lv_iload_n hx hb dX10_isSquare_2 rfl (lv_at hl 0 rfl) ?_
      refine lv_bipush (v := 99) hx hb dX10_isSquare_3 (by decide) ?_
      refine lv_icmp_gt (tgt := 23) hx hb dX10_isSquare_5 (by decide) (fun c2 => ?_) (fun c2 => ?_)
      · have t2 : w1_1.toInt > (99 : Int) := gl_lt c2
        refine lv_iconst (v := 0) hx hb dX10_isSquare_23 (by decide) ?_
        exact W.zret (v := 0) (ty := .boolean) hx hb hr rfl (fun t ht hW => ⟨⟨0, (), rfl, ⟨by decide, by decide⟩, by rw [ht]; exact hP, va_K.moved hW.alike hK⟩, hS.F ht⟩) hS.2.2 dX10_isSquare_24
      · have t2 : w1_1.toInt ≤ (99 : Int) := gl_nlt c2
        refine lv_iload_n hx hb dX10_isSquare_8 rfl (lv_at hl 0 rfl) ?_
        refine lv_iload_n hx hb dX10_isSquare_9 rfl (lv_at hl 0 rfl) ?_
        refine lv_imul hx hb dX10_isSquare_10 ?_
        refine lv_topi (fun x3 e3 => ?_)
        refine lv_iload_n hx hb dX10_isSquare_11 rfl (lv_at hl 1 rfl) ?_
        refine lv_icmp_ne (tgt := 17) hx hb dX10_isSquare_12 (by decide) (fun c4 => ?_) (fun c4 => ?_)
        · have t4 : x3.toInt ≠ a0.toInt := gl_ne c4
          obtain ⟨x5, e5⟩ : ∃ t : Int32, t = w1_1 + 1 := ⟨_, rfl⟩
          refine lv_iinc (v := x5) (lv' := [(1, .int x5), (0, .int a0)]) hx hb dX10_isSquare_17 hl (k := 0) rfl (by rw [e5]; rfl) (by decide) rfl (fun ls hl => ?_)
          have t5 : x5.toInt = w1_1.toInt + (1 : Int) := ga_add e5 rfl rfl (by omega) (by omega)
          refine lv_goto (tgt := 2) hx hb dX10_isSquare_20 (by decide) ?_
          exact ih1 x5 (show (100 - x5.toInt : Int) < (n1 : Int) from by omega) ⟨by omega, by omega⟩ _ _ hP hS _ (lv_sub hl [0, 1] rfl)
        · have t4 : x3.toInt = a0.toInt := gl_eq c4
          refine lv_iconst (v := 1) hx hb dX10_isSquare_15 (by decide) ?_
          exact W.zret (v := 1) (ty := .boolean) hx hb hr rfl (fun t ht hW => ⟨⟨1, (), rfl, ⟨by decide, by decide⟩, by rw [ht]; exact hP, va_K.moved hW.alike hK⟩, hS.F ht⟩) hS.2.2 dX10_isSquare_16
  exact loop1 101 0 (show (100 - (0 : Int) : Int) < ((101 : Nat) : Int) from by omega) ⟨by decide, by decide⟩ _ _ hP hS _ (lv_sub hl [0, 1] rfl)
set_option maxRecDepth 100000 in
set_option maxHeartbeats 8000000 in
theorem u_squaresIn (l : Launch) (D : va_G) (ca : Nat → ClassId) (o : Nat) (b z : Nat → Nat → Int32) (y : Nat → Nat → Int64) (J0 : qJU b z) (a0 : Int32)  : qM l yX10_squaresIn cX10_squaresIn 4 (some .int) 2 81 (qPre D vwCl (qT6 ca) o 132 (qG (GU ca o) z y) [.ref (o + 0), .int a0]) (va_Qi (fun r (_ : Unit) => True) (qB D vwCl (qT6 ca) o 132 (fun _ : Unit => qG (GU ca o) z y)) (qw_A o 132)) (qw_A o 132) := by
  refine Met.ofW (cc := cX10_squaresIn) (maxL := 4) (ret := (some .int)) (by decide) rfl ?_
  intro p e s m args below meth c s₁ B hml hv
  obtain ⟨rfl, hP, hK⟩ := hv
  have hx := B.exec
  have hb := B.bytes
  have hr := B.returns
  have hts0 := atoms_spec (ws := Cond.code yX10_squaresIn cX10_squaresIn 4 (some .int) :: qtbl) B.pre
  have hts : ∀ w ∈ qtbl, w.before _ s = true := fun w h => hts0 w (List.mem_cons_of_mem _ h)
  have hown : s.vm.findClass RX10 = some m.cls := findClass_of_methodNamed B.named
  have hlocks := B.notSynchronized
  have hS : va_S (qw_A o 132) s.heap s.heap [] := va_S.rf
  have hl := lv_entry ([.ref (o + 0), .int a0]) (n := 4) (Nat.le_of_ble_eq_true rfl)
  rw [lg_entry_eq]
  generalize (lg_sl ([.ref (o + 0), .int a0]) ++ List.replicate (4 - (lg_sl ([.ref (o + 0), .int a0])).length) Slot.unset).toArray = ls at hl ⊢
  have hl : lv_has ls 4 [(0, .ref (o + 0)), (1, .int a0)] := hl
  refine lv_iconst (v := 0) hx hb dX10_squaresIn_0 (by decide) ?_
  refine lv_istore_n (lv' := [(2, .int 0), (0, .ref (o + 0)), (1, .int a0)]) hx hb dX10_squaresIn_1 rfl hl (by decide) rfl (fun ls hl => ?_)
  refine lv_iconst (v := 0) hx hb dX10_squaresIn_2 (by decide) ?_
  refine lv_istore_n (lv' := [(3, .int 0), (2, .int 0), (0, .ref (o + 0)), (1, .int a0)]) hx hb dX10_squaresIn_3 rfl hl (by decide) rfl (fun ls hl => ?_)
  have loop1 : ∀ (n : Nat) (w1_3 : Int32) (w1_2 : Int32), ((6 - w1_3.toInt : Int) < (n : Int)) → ((0 : Int) ≤ w1_3.toInt ∧ w1_3.toInt ≤ 6) → ∀ (H : Heap) (locs : List Loc), qw_P D vwCl o 132 (qG (GU ca o) z y) H → va_S (qw_A o 132) s.heap H locs → ∀ (ls : Array Slot), lv_has ls 4 [(3, .int w1_3), (2, .int w1_2), (0, .ref (o + 0)), (1, .int a0)] → W p l e (headSpec (Cond.code yX10_squaresIn cX10_squaresIn 4 (some .int) :: qtbl) ({ frames := 2, cells := 0, slots := 0, locals := 81 })).room s m (([.ref (o + 0), .int a0] : List Value).toArray) below meth c H locs 0 0 (MQ below (va_Qi (fun r (_ : Unit) => True) (qB D vwCl (qT6 ca) o 132 (fun _ : Unit => qG (GU ca o) z y)) (qw_A o 132)) (([.ref (o + 0), .int a0] : List Value).toArray) s 0 0 (qw_A o 132)) (F0 m 4 ls []) := by
    intro n
    induction n with
    | zero => intro w1_3 w1_2 hb1 hv1_3; exfalso; omega
    | succ n1 ih1 =>
      intro w1_3 w1_2 hb1 hv1_3 H locs hP hS ls hl
      refine lv_iload_n hx hb dX10_squaresIn_4 rfl (lv_at hl 0 rfl) ?_
      refine lv_bipush (v := 6) hx hb dX10_squaresIn_5 (by decide) ?_
      refine lv_icmp_ge (tgt := 47) hx hb dX10_squaresIn_7 (by decide) (fun c2 => ?_) (fun c2 => ?_)
      · have t2 : w1_3.toInt ≥ (6 : Int) := gl_le c2
        refine lv_iload_n hx hb dX10_squaresIn_47 rfl (lv_at hl 1 rfl) ?_
        exact W.iret (v := w1_2) hx hb hr (fun t ht hW => ⟨⟨w1_2, (), rfl, trivial, by rw [ht]; exact hP, va_K.moved hW.alike hK⟩, hS.F ht⟩) hS.2.2 dX10_squaresIn_48
      · have t2 : w1_3.toInt < (6 : Int) := gl_nle c2
        refine lv_aload_n hx hb dX10_squaresIn_10 rfl (lv_at hl 2 rfl) ?_
        refine qf_get hx hb hts inX10 hown hK hP (q0 := 0) (by decide) (hgU_0 ca o) rfl 0 (by decide) wq_353 (v := .ref (o + 1)) rfl dX10_squaresIn_11 ?_
        refine lv_iload_n hx hb dX10_squaresIn_14 rfl (lv_at hl 0 rfl) ?_
        refine qc_Vip (As := [.int w1_3]) (rest := []) (k0 := 1) (u_Told_hasPerson l D ca o b z y J0 w1_3) kc_yX9_hasPerson ⟨hx, hb, hml, hown, hts⟩ wq_411 rfl rfl ⟨Nat.le_of_ble_eq_true rfl, Nat.le_of_ble_eq_true rfl⟩ wq_all hP hK hS qw_Ai (q0 := 1) (by decide) (hgU_1 ca o _ _) rfl rfl hl.1 rfl (Nat.le_of_ble_eq_true rfl) dX10_squaresIn_15 ⟨Nat.zero_le _, Nat.zero_le _⟩ (fun r3 H locs h3 hP hS _ _ => ?_)
        rcases h3 with ⟨hr3, hf3_0, hf3_1⟩ | ⟨hr3, hf3_0⟩
        · subst hr3
          have hg3_0 : pHas (z 1 5) w1_3 := hf3_0
          have hg3_1 : 0 ≤ w1_3.toInt ∧ w1_3.toInt ≤ 5 := hf3_1
          refine lv_if_eq (tgt := 41) hx hb dX10_squaresIn_18 (by decide) (fun q => absurd q (by decide)) (fun _ => ?_)
          refine lv_aload_n hx hb dX10_squaresIn_21 rfl (lv_at hl 2 rfl) ?_
          refine qf_get hx hb hts inX10 hown hK hP (q0 := 0) (by decide) (hgU_0 ca o) rfl 6 (by decide) wq_359 (v := .ref (o + 104)) rfl dX10_squaresIn_22 ?_
          refine qf_get hx hb hts inX7 hown hK hP (q0 := 104) (by decide) (hgU_104 ca o) rfl 1 (by decide) wq_189 (v := .ref (o + 105)) rfl dX10_squaresIn_25 ?_
          refine lv_iload_n hx hb dX10_squaresIn_28 rfl (lv_at hl 0 rfl) ?_
          refine qa_iald hx hb hK hP (q0 := 105) (by decide) 0 (N := 6) (hgU_105 ca o) rfl (gi_in (by omega) (by omega)) dX10_squaresIn_29 ?_
          refine lv_topi (fun x4 e4 => ?_)
          have b4 := iU_105 J0 e4
          refine lv_iload_n hx hb dX10_squaresIn_30 rfl (lv_at hl 3 rfl) ?_
          refine lv_iadd hx hb dX10_squaresIn_31 ?_
          refine lv_topi (fun x5 e5 => ?_)
          refine qc_Sip (As := [.int x5]) (rest := []) (k0 := 1) (u_isSquare l D ca o b z y J0 x5) kc_yX10_isSquare ⟨hx, hb, hml, hown, hts⟩ wq_845 rfl rfl ⟨Nat.le_of_ble_eq_true rfl, Nat.le_of_ble_eq_true rfl⟩ wq_all hP hK hS qw_Ai rfl hl.1 rfl (Nat.le_of_ble_eq_true rfl) dX10_squaresIn_32 ⟨Nat.zero_le _, Nat.zero_le _⟩ (fun r6 H locs h6 hP hS _ _ => ?_)
          have b6 : (0 : Int) ≤ r6.toInt ∧ r6.toInt ≤ 1 := h6
          refine lv_if_eq (tgt := 41) hx hb dX10_squaresIn_35 (by decide) (fun c7 => ?_) (fun c7 => ?_)
          · have t7 : r6.toInt = (0 : Int) := gl_eq c7
            obtain ⟨x8, e8⟩ : ∃ t : Int32, t = w1_3 + 1 := ⟨_, rfl⟩
            refine lv_iinc (v := x8) (lv' := [(3, .int x8), (2, .int w1_2), (0, .ref (o + 0)), (1, .int a0)]) hx hb dX10_squaresIn_41 hl (k := 0) rfl (by rw [e8]; rfl) (by decide) rfl (fun ls hl => ?_)
            have t8 : x8.toInt = w1_3.toInt + (1 : Int) := ga_add e8 rfl rfl (by omega) (by omega)
            refine lv_goto (tgt := 4) hx hb dX10_squaresIn_44 (by decide) ?_
            exact ih1 x8 w1_2 (show (6 - x8.toInt : Int) < (n1 : Int) from by omega) ⟨by omega, by omega⟩ _ _ hP hS _ (lv_sub hl [0, 1, 2, 3] rfl)
          · have t7 : r6.toInt ≠ (0 : Int) := gl_ne c7
            obtain ⟨x9, e9⟩ : ∃ t : Int32, t = w1_2 + 1 := ⟨_, rfl⟩
            refine lv_iinc (v := x9) (lv' := [(2, .int x9), (3, .int w1_3), (0, .ref (o + 0)), (1, .int a0)]) hx hb dX10_squaresIn_38 hl (k := 1) rfl (by rw [e9]; rfl) (by decide) rfl (fun ls hl => ?_)
            obtain ⟨x10, e10⟩ : ∃ t : Int32, t = w1_3 + 1 := ⟨_, rfl⟩
            refine lv_iinc (v := x10) (lv' := [(3, .int x10), (2, .int x9), (0, .ref (o + 0)), (1, .int a0)]) hx hb dX10_squaresIn_41 hl (k := 1) rfl (by rw [e10]; rfl) (by decide) rfl (fun ls hl => ?_)
            have t10 : x10.toInt = w1_3.toInt + (1 : Int) := ga_add e10 rfl rfl (by omega) (by omega)
            refine lv_goto (tgt := 4) hx hb dX10_squaresIn_44 (by decide) ?_
            exact ih1 x10 x9 (show (6 - x10.toInt : Int) < (n1 : Int) from by omega) ⟨by omega, by omega⟩ _ _ hP hS _ (lv_sub hl [0, 1, 2, 3] rfl)
        · subst hr3
          have hg3_0 : ¬ pHas (z 1 5) w1_3 := hf3_0
          refine lv_if_eq (tgt := 41) hx hb dX10_squaresIn_18 (by decide) (fun _ => ?_) (fun q => absurd (by decide) q)
          obtain ⟨x11, e11⟩ : ∃ t : Int32, t = w1_3 + 1 := ⟨_, rfl⟩
          refine lv_iinc (v := x11) (lv' := [(3, .int x11), (2, .int w1_2), (0, .ref (o + 0)), (1, .int a0)]) hx hb dX10_squaresIn_41 hl (k := 0) rfl (by rw [e11]; rfl) (by decide) rfl (fun ls hl => ?_)
          have t11 : x11.toInt = w1_3.toInt + (1 : Int) := ga_add e11 rfl rfl (by omega) (by omega)
          refine lv_goto (tgt := 4) hx hb dX10_squaresIn_44 (by decide) ?_
          exact ih1 x11 w1_2 (show (6 - x11.toInt : Int) < (n1 : Int) from by omega) ⟨by omega, by omega⟩ _ _ hP hS _ (lv_sub hl [0, 1, 2, 3] rfl)
  exact loop1 7 0 0 (show (6 - (0 : Int) : Int) < ((7 : Nat) : Int) from by omega) ⟨by decide, by decide⟩ _ _ hP hS _ (lv_sub hl [0, 1, 2, 3] rfl)
set_option maxRecDepth 100000 in
set_option maxHeartbeats 8000000 in
theorem u_squares (l : Launch) (D : va_G) (ca : Nat → ClassId) (o : Nat) (b z : Nat → Nat → Int32) (y : Nat → Nat → Int64) (J0 : qJU b z) (a0 : Int32) (a1 : Int32)  : qM l yX10_squares cX10_squares 6 (some .int) 6 166 (qPre D vwCl (qT6 ca) o 132 (qG (GU ca o) z y) [.ref (o + 0), .int a0, .int a1]) (va_Qi (fun r u => True ∧ qJU b u.1) (qB D vwCl (qT6 ca) o 132 (fun u : qZ => qG (GU ca o) u.1 u.2)) (qw_A o 132)) (qw_A o 132) := by
  refine Met.ofW (cc := cX10_squares) (maxL := 6) (ret := (some .int)) (by decide) rfl ?_
  intro p e s m args below meth c s₁ B hml hv
  obtain ⟨rfl, hP, hK⟩ := hv
  have hx := B.exec
  have hb := B.bytes
  have hr := B.returns
  have hts0 := atoms_spec (ws := Cond.code yX10_squares cX10_squares 6 (some .int) :: qtbl) B.pre
  have hts : ∀ w ∈ qtbl, w.before _ s = true := fun w h => hts0 w (List.mem_cons_of_mem _ h)
  have hown : s.vm.findClass RX10 = some m.cls := findClass_of_methodNamed B.named
  have hlocks := B.notSynchronized
  have hS : va_S (qw_A o 132) s.heap s.heap [] := va_S.rf
  have hl := lv_entry ([.ref (o + 0), .int a0, .int a1]) (n := 6) (Nat.le_of_ble_eq_true rfl)
  rw [lg_entry_eq]
  generalize (lg_sl ([.ref (o + 0), .int a0, .int a1]) ++ List.replicate (6 - (lg_sl ([.ref (o + 0), .int a0, .int a1])).length) Slot.unset).toArray = ls at hl ⊢
  have hl : lv_has ls 6 [(0, .ref (o + 0)), (1, .int a0), (2, .int a1)] := hl
  refine lv_aload_n hx hb dX10_squares_0 rfl (lv_at hl 0 rfl) ?_
  refine lv_iload_n hx hb dX10_squares_1 rfl (lv_at hl 1 rfl) ?_
  refine qc_Vip (As := [.int a0]) (rest := []) (k0 := 1) (u_areRemarks l D ca o b z y J0 a0) kc_yX10_areRemarks ⟨hx, hb, hml, hown, hts⟩ wq_583 rfl rfl ⟨Nat.le_of_ble_eq_true rfl, Nat.le_of_ble_eq_true rfl⟩ wq_all hP hK hS qw_Ai (q0 := 0) (by decide) (hgU_0 ca o _ _) rfl rfl hl.1 rfl (Nat.le_of_ble_eq_true rfl) dX10_squares_2 ⟨Nat.zero_le _, Nat.zero_le _⟩ (fun r1 H locs h1 hP hS _ _ => ?_)
  have b1 : (0 : Int) ≤ r1.toInt ∧ r1.toInt ≤ 1 := h1
  refine lv_if_eq (tgt := 18) hx hb dX10_squares_5 (by decide) (fun c2 => ?_) (fun c2 => ?_)
  · have t2 : r1.toInt = (0 : Int) := gl_eq c2
    refine lv_iconst (v := (-1)) hx hb dX10_squares_18 (by decide) ?_
    exact W.iret (v := (-1)) hx hb hr (fun t ht hW => ⟨⟨(-1), (z, y), rfl, ⟨trivial, J0⟩, by rw [ht]; exact hP, va_K.moved hW.alike hK⟩, hS.F ht⟩) hS.2.2 dX10_squares_19
  · have t2 : r1.toInt ≠ (0 : Int) := gl_ne c2
    refine lv_iload_n hx hb dX10_squares_8 rfl (lv_at hl 2 rfl) ?_
    refine lv_if_lt (tgt := 18) hx hb dX10_squares_9 (by decide) (fun c3 => ?_) (fun c3 => ?_)
    · have t3 : a1.toInt < (0 : Int) := gl_lt c3
      refine lv_iconst (v := (-1)) hx hb dX10_squares_18 (by decide) ?_
      exact W.iret (v := (-1)) hx hb hr (fun t ht hW => ⟨⟨(-1), (z, y), rfl, ⟨trivial, J0⟩, by rw [ht]; exact hP, va_K.moved hW.alike hK⟩, hS.F ht⟩) hS.2.2 dX10_squares_19
    · have t3 : a1.toInt ≥ (0 : Int) := gl_nlt c3
      refine lv_iload_n hx hb dX10_squares_12 rfl (lv_at hl 2 rfl) ?_
      refine lv_bipush (v := 100) hx hb dX10_squares_13 (by decide) ?_
      refine lv_icmp_le (tgt := 20) hx hb dX10_squares_15 (by decide) (fun c4 => ?_) (fun c4 => ?_)
      · have t4 : a1.toInt ≤ (100 : Int) := gl_le c4
        refine lv_aload_n hx hb dX10_squares_20 rfl (lv_at hl 0 rfl) ?_
        refine qf_get hx hb hts inX10 hown hK hP (q0 := 0) (by decide) (hgU_0 ca o) rfl 6 (by decide) wq_359 (v := .ref (o + 104)) rfl dX10_squares_21 ?_
        refine lv_iload_n hx hb dX10_squares_24 rfl (lv_at hl 1 rfl) ?_
        refine qc_Vi2 (As := [.int a0]) (rest := []) (k0 := 1) (u_Rows_seek l D ca o b z y J0 a0) kc_yX7_seek ⟨hx, hb, hml, hown, hts⟩ wq_587 rfl rfl ⟨Nat.le_of_ble_eq_true rfl, Nat.le_of_ble_eq_true rfl⟩ wq_all hP hK hS qw_Ai (q0 := 104) (by decide) (hgU_104 ca o _ _) rfl rfl hl.1 rfl (Nat.le_of_ble_eq_true rfl) dX10_squares_25 ⟨Nat.zero_le _, Nat.zero_le _⟩ (fun r5 z5 y5 H locs h5 hP hS _ _ => ?_)
        have J5 : qJU b z5 := h5.2
        have b5 : (-3 : Int) ≤ r5.toInt ∧ r5.toInt ≤ 0 := h5.1
        refine lv_istore_n (lv' := [(3, .int r5), (0, .ref (o + 0)), (1, .int a0), (2, .int a1)]) hx hb dX10_squares_28 rfl hl (by decide) rfl (fun ls hl => ?_)
        refine lv_iload_n hx hb dX10_squares_29 rfl (lv_at hl 0 rfl) ?_
        refine lv_if_ge (tgt := 35) hx hb dX10_squares_30 (by decide) (fun c6 => ?_) (fun c6 => ?_)
        · have t6 : r5.toInt ≥ (0 : Int) := gl_le c6
          refine lv_iload_n hx hb dX10_squares_35 rfl (lv_at hl 3 rfl) ?_
          refine lv_bipush (v := 100) hx hb dX10_squares_36 (by decide) ?_
          refine lv_icmp_ge (tgt := 55) hx hb dX10_squares_38 (by decide) (fun c7 => ?_) (fun c7 => ?_)
          · have t7 : a1.toInt ≥ (100 : Int) := gl_le c7
            refine lv_iconst (v := 0) hx hb dX10_squares_55 (by decide) ?_
            refine lv_istore (lv' := [(4, .int 0), (3, .int r5), (0, .ref (o + 0)), (1, .int a0), (2, .int a1)]) hx hb dX10_squares_56 hl (by decide) rfl (fun ls hl => ?_)
            refine lv_iconst (v := 1) hx hb dX10_squares_58 (by decide) ?_
            refine lv_istore (lv' := [(5, .int 1), (4, .int 0), (3, .int r5), (0, .ref (o + 0)), (1, .int a0), (2, .int a1)]) hx hb dX10_squares_59 hl (by decide) rfl (fun ls hl => ?_)
            have loop8 : ∀ (n : Nat) (w8_5 : Int32) (w8_4 : Int32), ((100 - w8_5.toInt : Int) < (n : Int)) → ((1 : Int) ≤ w8_5.toInt ∧ w8_5.toInt ≤ 100) → ((0 : Int) ≤ w8_4.toInt ∧ w8_4.toInt ≤ 99) → ∀ (H : Heap) (locs : List Loc), qw_P D vwCl o 132 (qG (GU ca o) z5 y5) H → va_S (qw_A o 132) s.heap H locs → ∀ (ls : Array Slot), lv_has ls 6 [(5, .int w8_5), (4, .int w8_4), (3, .int r5), (0, .ref (o + 0)), (1, .int a0), (2, .int a1)] → W p l e (headSpec (Cond.code yX10_squares cX10_squares 6 (some .int) :: qtbl) ({ frames := 6, cells := 0, slots := 0, locals := 166 })).room s m (([.ref (o + 0), .int a0, .int a1] : List Value).toArray) below meth c H locs 0 0 (MQ below (va_Qi (fun r u => True ∧ qJU b u.1) (qB D vwCl (qT6 ca) o 132 (fun u : qZ => qG (GU ca o) u.1 u.2)) (qw_A o 132)) (([.ref (o + 0), .int a0, .int a1] : List Value).toArray) s 0 0 (qw_A o 132)) (F0 m 61 ls []) := by
              intro n
              induction n with
              | zero => intro w8_5 w8_4 hb8 hv8_5 hv8_4; exfalso; omega
              | succ n8 ih8 =>
                intro w8_5 w8_4 hb8 hv8_5 hv8_4 H locs hP hS ls hl
                refine lv_iload hx hb dX10_squares_61 (lv_at hl 0 rfl) ?_
                refine lv_bipush (v := 100) hx hb dX10_squares_63 (by decide) ?_
                refine lv_icmp_ge (tgt := 109) hx hb dX10_squares_65 (by decide) (fun c9 => ?_) (fun c9 => ?_)
                · have t9 : w8_5.toInt ≥ (100 : Int) := gl_le c9
                  refine lv_iload hx hb dX10_squares_109 (lv_at hl 1 rfl) ?_
                  exact W.iret (v := w8_4) hx hb hr (fun t ht hW => ⟨⟨w8_4, (z5, y5), rfl, ⟨trivial, J5⟩, by rw [ht]; exact hP, va_K.moved hW.alike hK⟩, hS.F ht⟩) hS.2.2 dX10_squares_111
                · have t9 : w8_5.toInt < (100 : Int) := gl_nle c9
                  refine lv_aload_n hx hb dX10_squares_68 rfl (lv_at hl 3 rfl) ?_
                  refine lv_aload_n hx hb dX10_squares_69 rfl (lv_at hl 3 rfl) ?_
                  refine qf_get hx hb hts inX10 hown hK hP (q0 := 0) (by decide) (hgU_0 ca o) rfl 0 (by decide) wq_353 (v := .ref (o + 1)) rfl dX10_squares_70 ?_
                  refine qf_get hx hb hts inX9 hown hK hP (q0 := 1) (by decide) (hgU_1 ca o) rfl 7 (by decide) wq_104 (v := .int (z5 1 7)) rfl dX10_squares_73 ?_
                  refine lv_topi (fun x10 e10 => ?_)
                  refine lv_iload hx hb dX10_squares_76 (lv_at hl 0 rfl) ?_
                  refine lv_iadd hx hb dX10_squares_78 ?_
                  refine lv_topi (fun x11 e11 => ?_)
                  refine qc_Vip (As := [.int x11]) (rest := []) (k0 := 1) (u_squaresIn l D ca o b z5 y5 J5 x11) kc_yX10_squaresIn ⟨hx, hb, hml, hown, hts⟩ wq_841 rfl rfl ⟨Nat.le_of_ble_eq_true rfl, Nat.le_of_ble_eq_true rfl⟩ wq_all hP hK hS qw_Ai (q0 := 0) (by decide) (hgU_0 ca o _ _) rfl rfl hl.1 rfl (Nat.le_of_ble_eq_true rfl) dX10_squares_79 ⟨Nat.zero_le _, Nat.zero_le _⟩ (fun r12 H locs h12 hP hS _ _ => ?_)
                  refine lv_aload_n hx hb dX10_squares_82 rfl (lv_at hl 3 rfl) ?_
                  refine lv_aload_n hx hb dX10_squares_83 rfl (lv_at hl 3 rfl) ?_
                  refine qf_get hx hb hts inX10 hown hK hP (q0 := 0) (by decide) (hgU_0 ca o) rfl 0 (by decide) wq_353 (v := .ref (o + 1)) rfl dX10_squares_84 ?_
                  refine qf_get hx hb hts inX9 hown hK hP (q0 := 1) (by decide) (hgU_1 ca o) rfl 7 (by decide) wq_104 (v := .int (z5 1 7)) rfl dX10_squares_87 ?_
                  refine lv_topi (fun x13 e13 => ?_)
                  have ag13 : x13.toInt = x10.toInt := congrArg Int32.toInt (e13.trans e10.symm)
                  refine lv_iload hx hb dX10_squares_90 (lv_at hl 1 rfl) ?_
                  refine lv_iadd hx hb dX10_squares_92 ?_
                  refine lv_topi (fun x14 e14 => ?_)
                  refine qc_Vip (As := [.int x14]) (rest := [.int r12]) (k0 := 1) (u_squaresIn l D ca o b z5 y5 J5 x14) kc_yX10_squaresIn ⟨hx, hb, hml, hown, hts⟩ wq_841 rfl rfl ⟨Nat.le_of_ble_eq_true rfl, Nat.le_of_ble_eq_true rfl⟩ wq_all hP hK hS qw_Ai (q0 := 0) (by decide) (hgU_0 ca o _ _) rfl rfl hl.1 rfl (Nat.le_of_ble_eq_true rfl) dX10_squares_93 ⟨Nat.zero_le _, Nat.zero_le _⟩ (fun r15 H locs h15 hP hS _ _ => ?_)
                  refine lv_icmp_le (tgt := 103) hx hb dX10_squares_96 (by decide) (fun c16 => ?_) (fun c16 => ?_)
                  · have t16 : r12.toInt ≤ r15.toInt := gl_le c16
                    obtain ⟨x17, e17⟩ : ∃ t : Int32, t = w8_5 + 1 := ⟨_, rfl⟩
                    refine lv_iinc (v := x17) (lv' := [(5, .int x17), (4, .int w8_4), (3, .int r5), (0, .ref (o + 0)), (1, .int a0), (2, .int a1)]) hx hb dX10_squares_103 hl (k := 0) rfl (by rw [e17]; rfl) (by decide) rfl (fun ls hl => ?_)
                    have t17 : x17.toInt = w8_5.toInt + (1 : Int) := ga_add e17 rfl rfl (by omega) (by omega)
                    refine lv_goto (tgt := 61) hx hb dX10_squares_106 (by decide) ?_
                    exact ih8 x17 w8_4 (show (100 - x17.toInt : Int) < (n8 : Int) from by omega) ⟨by omega, by omega⟩ ⟨by omega, by omega⟩ _ _ hP hS _ (lv_sub hl [0, 1, 2, 3, 4, 5] rfl)
                  · have t16 : r12.toInt > r15.toInt := gl_nle c16
                    refine lv_iload hx hb dX10_squares_99 (lv_at hl 0 rfl) ?_
                    refine lv_istore (lv' := [(4, .int w8_5), (5, .int w8_5), (3, .int r5), (0, .ref (o + 0)), (1, .int a0), (2, .int a1)]) hx hb dX10_squares_101 hl (by decide) rfl (fun ls hl => ?_)
                    obtain ⟨x18, e18⟩ : ∃ t : Int32, t = w8_5 + 1 := ⟨_, rfl⟩
                    refine lv_iinc (v := x18) (lv' := [(5, .int x18), (4, .int w8_5), (3, .int r5), (0, .ref (o + 0)), (1, .int a0), (2, .int a1)]) hx hb dX10_squares_103 hl (k := 1) rfl (by rw [e18]; rfl) (by decide) rfl (fun ls hl => ?_)
                    have t18 : x18.toInt = w8_5.toInt + (1 : Int) := ga_add e18 rfl rfl (by omega) (by omega)
                    refine lv_goto (tgt := 61) hx hb dX10_squares_106 (by decide) ?_
                    exact ih8 x18 w8_5 (show (100 - x18.toInt : Int) < (n8 : Int) from by omega) ⟨by omega, by omega⟩ ⟨by omega, by omega⟩ _ _ hP hS _ (lv_sub hl [0, 1, 2, 3, 4, 5] rfl)
            exact loop8 100 1 0 (show (100 - (1 : Int) : Int) < ((100 : Nat) : Int) from by omega) ⟨by decide, by decide⟩ ⟨by decide, by decide⟩ _ _ hP hS _ (lv_sub hl [0, 1, 2, 3, 4, 5] rfl)
          · have t7 : a1.toInt < (100 : Int) := gl_nle c7
            refine lv_aload_n hx hb dX10_squares_41 rfl (lv_at hl 1 rfl) ?_
            refine lv_aload_n hx hb dX10_squares_42 rfl (lv_at hl 1 rfl) ?_
            refine qf_get hx hb hts inX10 hown hK hP (q0 := 0) (by decide) (hgU_0 ca o) rfl 0 (by decide) wq_353 (v := .ref (o + 1)) rfl dX10_squares_43 ?_
            refine qf_get hx hb hts inX9 hown hK hP (q0 := 1) (by decide) (hgU_1 ca o) rfl 7 (by decide) wq_104 (v := .int (z5 1 7)) rfl dX10_squares_46 ?_
            refine lv_topi (fun x19 e19 => ?_)
            refine lv_iload_n hx hb dX10_squares_49 rfl (lv_at hl 3 rfl) ?_
            refine lv_iadd hx hb dX10_squares_50 ?_
            refine lv_topi (fun x20 e20 => ?_)
            refine qc_Vip (As := [.int x20]) (rest := []) (k0 := 1) (u_squaresIn l D ca o b z5 y5 J5 x20) kc_yX10_squaresIn ⟨hx, hb, hml, hown, hts⟩ wq_841 rfl rfl ⟨Nat.le_of_ble_eq_true rfl, Nat.le_of_ble_eq_true rfl⟩ wq_all hP hK hS qw_Ai (q0 := 0) (by decide) (hgU_0 ca o _ _) rfl rfl hl.1 rfl (Nat.le_of_ble_eq_true rfl) dX10_squares_51 ⟨Nat.zero_le _, Nat.zero_le _⟩ (fun r21 H locs h21 hP hS _ _ => ?_)
            exact W.iret (v := r21) hx hb hr (fun t ht hW => ⟨⟨r21, (z5, y5), rfl, ⟨trivial, J5⟩, by rw [ht]; exact hP, va_K.moved hW.alike hK⟩, hS.F ht⟩) hS.2.2 dX10_squares_54
        · have t6 : r5.toInt < (0 : Int) := gl_nle c6
          refine lv_iload_n hx hb dX10_squares_33 rfl (lv_at hl 0 rfl) ?_
          exact W.iret (v := r5) hx hb hr (fun t ht hW => ⟨⟨r5, (z5, y5), rfl, ⟨trivial, J5⟩, by rw [ht]; exact hP, va_K.moved hW.alike hK⟩, hS.F ht⟩) hS.2.2 dX10_squares_34
      · have t4 : a1.toInt > (100 : Int) := gl_nle c4
        refine lv_iconst (v := (-1)) hx hb dX10_squares_18 (by decide) ?_
        exact W.iret (v := (-1)) hx hb hr (fun t ht hW => ⟨⟨(-1), (z, y), rfl, ⟨trivial, J0⟩, by rw [ht]; exact hP, va_K.moved hW.alike hK⟩, hS.F ht⟩) hS.2.2 dX10_squares_19
set_option maxRecDepth 100000 in
set_option maxHeartbeats 8000000 in
theorem u_when (l : Launch) (D : va_G) (ca : Nat → ClassId) (o : Nat) (b z : Nat → Nat → Int32) (y : Nat → Nat → Int64) (J0 : qJU b z) (a0 : Int32) (a1 : Int32) (a2 : Int32) (a3 : Int32)  : qM l yX10_when cX10_when 6 (some .int) 6 166 (qPre D vwCl (qT6 ca) o 132 (qG (GU ca o) z y) [.ref (o + 0), .int a0, .int a1, .int a2, .int a3]) (va_Qi (fun r u => ((-4000 : Int) ≤ r.toInt ∧ r.toInt ≤ 298) ∧ qJU b u.1) (qB D vwCl (qT6 ca) o 132 (fun u : qZ => qG (GU ca o) u.1 u.2)) (qw_A o 132)) (qw_A o 132) := by
  refine Met.ofW (cc := cX10_when) (maxL := 6) (ret := (some .int)) (by decide) rfl ?_
  intro p e s m args below meth c s₁ B hml hv
  obtain ⟨rfl, hP, hK⟩ := hv
  have hx := B.exec
  have hb := B.bytes
  have hr := B.returns
  have hts0 := atoms_spec (ws := Cond.code yX10_when cX10_when 6 (some .int) :: qtbl) B.pre
  have hts : ∀ w ∈ qtbl, w.before _ s = true := fun w h => hts0 w (List.mem_cons_of_mem _ h)
  have hown : s.vm.findClass RX10 = some m.cls := findClass_of_methodNamed B.named
  have hlocks := B.notSynchronized
  have hS : va_S (qw_A o 132) s.heap s.heap [] := va_S.rf
  have hl := lv_entry ([.ref (o + 0), .int a0, .int a1, .int a2, .int a3]) (n := 6) (Nat.le_of_ble_eq_true rfl)
  rw [lg_entry_eq]
  generalize (lg_sl ([.ref (o + 0), .int a0, .int a1, .int a2, .int a3]) ++ List.replicate (6 - (lg_sl ([.ref (o + 0), .int a0, .int a1, .int a2, .int a3])).length) Slot.unset).toArray = ls at hl ⊢
  have hl : lv_has ls 6 [(0, .ref (o + 0)), (1, .int a0), (2, .int a1), (3, .int a2), (4, .int a3)] := hl
  refine lv_aload_n hx hb dX10_when_0 rfl (lv_at hl 0 rfl) ?_
  refine lv_iload_n hx hb dX10_when_1 rfl (lv_at hl 1 rfl) ?_
  refine qc_Vip (As := [.int a0]) (rest := []) (k0 := 1) (u_areRemarks l D ca o b z y J0 a0) kc_yX10_areRemarks ⟨hx, hb, hml, hown, hts⟩ wq_583 rfl rfl ⟨Nat.le_of_ble_eq_true rfl, Nat.le_of_ble_eq_true rfl⟩ wq_all hP hK hS qw_Ai (q0 := 0) (by decide) (hgU_0 ca o _ _) rfl rfl hl.1 rfl (Nat.le_of_ble_eq_true rfl) dX10_when_2 ⟨Nat.zero_le _, Nat.zero_le _⟩ (fun r1 H locs h1 hP hS _ _ => ?_)
  have b1 : (0 : Int) ≤ r1.toInt ∧ r1.toInt ≤ 1 := h1
  refine lv_if_eq (tgt := 43) hx hb dX10_when_5 (by decide) (fun c2 => ?_) (fun c2 => ?_)
  · have t2 : r1.toInt = (0 : Int) := gl_eq c2
    refine lv_sipush (v := (-4000)) hx hb dX10_when_43 (by decide) ?_
    exact W.iret (v := (-4000)) hx hb hr (fun t ht hW => ⟨⟨(-4000), (z, y), rfl, ⟨⟨by decide, by decide⟩, J0⟩, by rw [ht]; exact hP, va_K.moved hW.alike hK⟩, hS.F ht⟩) hS.2.2 dX10_when_46
  · have t2 : r1.toInt ≠ (0 : Int) := gl_ne c2
    refine lv_aload_n hx hb dX10_when_8 rfl (lv_at hl 0 rfl) ?_
    refine qf_get hx hb hts inX10 hown hK hP (q0 := 0) (by decide) (hgU_0 ca o) rfl 0 (by decide) wq_353 (v := .ref (o + 1)) rfl dX10_when_9 ?_
    refine lv_iload_n hx hb dX10_when_12 rfl (lv_at hl 2 rfl) ?_
    refine qc_Vip (As := [.int a1]) (rest := []) (k0 := 1) (u_Told_hasPerson l D ca o b z y J0 a1) kc_yX9_hasPerson ⟨hx, hb, hml, hown, hts⟩ wq_411 rfl rfl ⟨Nat.le_of_ble_eq_true rfl, Nat.le_of_ble_eq_true rfl⟩ wq_all hP hK hS qw_Ai (q0 := 1) (by decide) (hgU_1 ca o _ _) rfl rfl hl.1 rfl (Nat.le_of_ble_eq_true rfl) dX10_when_13 ⟨Nat.zero_le _, Nat.zero_le _⟩ (fun r3 H locs h3 hP hS _ _ => ?_)
    rcases h3 with ⟨hr3, hf3_0, hf3_1⟩ | ⟨hr3, hf3_0⟩
    · subst hr3
      have hg3_0 : pHas (z 1 5) a1 := hf3_0
      have hg3_1 : 0 ≤ a1.toInt ∧ a1.toInt ≤ 5 := hf3_1
      refine lv_if_eq (tgt := 43) hx hb dX10_when_16 (by decide) (fun q => absurd q (by decide)) (fun _ => ?_)
      refine lv_aload_n hx hb dX10_when_19 rfl (lv_at hl 0 rfl) ?_
      refine qf_get hx hb hts inX10 hown hK hP (q0 := 0) (by decide) (hgU_0 ca o) rfl 0 (by decide) wq_353 (v := .ref (o + 1)) rfl dX10_when_20 ?_
      refine lv_iload_n hx hb dX10_when_23 rfl (lv_at hl 3 rfl) ?_
      refine qc_Vip (As := [.int a2]) (rest := []) (k0 := 1) (u_Told_hasPerson l D ca o b z y J0 a2) kc_yX9_hasPerson ⟨hx, hb, hml, hown, hts⟩ wq_411 rfl rfl ⟨Nat.le_of_ble_eq_true rfl, Nat.le_of_ble_eq_true rfl⟩ wq_all hP hK hS qw_Ai (q0 := 1) (by decide) (hgU_1 ca o _ _) rfl rfl hl.1 rfl (Nat.le_of_ble_eq_true rfl) dX10_when_24 ⟨Nat.zero_le _, Nat.zero_le _⟩ (fun r4 H locs h4 hP hS _ _ => ?_)
      rcases h4 with ⟨hr4, hf4_0, hf4_1⟩ | ⟨hr4, hf4_0⟩
      · subst hr4
        have hg4_0 : pHas (z 1 5) a2 := hf4_0
        have hg4_1 : 0 ≤ a2.toInt ∧ a2.toInt ≤ 5 := hf4_1
        refine lv_if_eq (tgt := 43) hx hb dX10_when_27 (by decide) (fun q => absurd q (by decide)) (fun _ => ?_)
        refine lv_iload hx hb dX10_when_30 (lv_at hl 4 rfl) ?_
        refine lv_if_lt (tgt := 43) hx hb dX10_when_32 (by decide) (fun c5 => ?_) (fun c5 => ?_)
        · have t5 : a3.toInt < (0 : Int) := gl_lt c5
          refine lv_sipush (v := (-4000)) hx hb dX10_when_43 (by decide) ?_
          exact W.iret (v := (-4000)) hx hb hr (fun t ht hW => ⟨⟨(-4000), (z, y), rfl, ⟨⟨by decide, by decide⟩, J0⟩, by rw [ht]; exact hP, va_K.moved hW.alike hK⟩, hS.F ht⟩) hS.2.2 dX10_when_46
        · have t5 : a3.toInt ≥ (0 : Int) := gl_nlt c5
          refine lv_iload hx hb dX10_when_35 (lv_at hl 4 rfl) ?_
          refine lv_sipush (v := 199) hx hb dX10_when_37 (by decide) ?_
          refine lv_icmp_le (tgt := 47) hx hb dX10_when_40 (by decide) (fun c6 => ?_) (fun c6 => ?_)
          · have t6 : a3.toInt ≤ (199 : Int) := gl_le c6
            refine lv_aload_n hx hb dX10_when_47 rfl (lv_at hl 0 rfl) ?_
            refine qf_get hx hb hts inX10 hown hK hP (q0 := 0) (by decide) (hgU_0 ca o) rfl 6 (by decide) wq_359 (v := .ref (o + 104)) rfl dX10_when_48 ?_
            refine lv_iload_n hx hb dX10_when_51 rfl (lv_at hl 1 rfl) ?_
            refine qc_Vi2 (As := [.int a0]) (rest := []) (k0 := 1) (u_Rows_seek l D ca o b z y J0 a0) kc_yX7_seek ⟨hx, hb, hml, hown, hts⟩ wq_587 rfl rfl ⟨Nat.le_of_ble_eq_true rfl, Nat.le_of_ble_eq_true rfl⟩ wq_all hP hK hS qw_Ai (q0 := 104) (by decide) (hgU_104 ca o _ _) rfl rfl hl.1 rfl (Nat.le_of_ble_eq_true rfl) dX10_when_52 ⟨Nat.zero_le _, Nat.zero_le _⟩ (fun r7 z7 y7 H locs h7 hP hS _ _ => ?_)
            have J7 : qJU b z7 := h7.2
            have b7 : (-3 : Int) ≤ r7.toInt ∧ r7.toInt ≤ 0 := h7.1
            refine lv_istore (lv' := [(5, .int r7), (0, .ref (o + 0)), (1, .int a0), (2, .int a1), (3, .int a2), (4, .int a3)]) hx hb dX10_when_55 hl (by decide) rfl (fun ls hl => ?_)
            refine lv_iload hx hb dX10_when_57 (lv_at hl 0 rfl) ?_
            refine lv_if_ge (tgt := 79) hx hb dX10_when_59 (by decide) (fun c8 => ?_) (fun c8 => ?_)
            · have t8 : r7.toInt ≥ (0 : Int) := gl_le c8
              refine lv_aload_n hx hb dX10_when_79 rfl (lv_at hl 1 rfl) ?_
              refine qf_get hx hb hts inX10 hown hK hP (q0 := 0) (by decide) (hgU_0 ca o) rfl 6 (by decide) wq_359 (v := .ref (o + 104)) rfl dX10_when_80 ?_
              refine qf_get hx hb hts inX7 hown hK hP (q0 := 104) (by decide) (hgU_104 ca o) rfl 1 (by decide) wq_189 (v := .ref (o + 105)) rfl dX10_when_83 ?_
              refine lv_iload_n hx hb dX10_when_86 rfl (lv_at hl 3 rfl) ?_
              refine qa_iald hx hb hK hP (q0 := 105) (by decide) 0 (N := 6) (hgU_105 ca o) rfl (gi_in (by omega) (by omega)) dX10_when_87 ?_
              refine lv_topi (fun x9 e9 => ?_)
              have b9 := iU_105 J7 e9
              refine lv_aload_n hx hb dX10_when_88 rfl (lv_at hl 1 rfl) ?_
              refine qf_get hx hb hts inX10 hown hK hP (q0 := 0) (by decide) (hgU_0 ca o) rfl 6 (by decide) wq_359 (v := .ref (o + 104)) rfl dX10_when_89 ?_
              refine qf_get hx hb hts inX7 hown hK hP (q0 := 104) (by decide) (hgU_104 ca o) rfl 1 (by decide) wq_189 (v := .ref (o + 105)) rfl dX10_when_92 ?_
              refine lv_iload_n hx hb dX10_when_95 rfl (lv_at hl 4 rfl) ?_
              refine qa_iald hx hb hK hP (q0 := 105) (by decide) 0 (N := 6) (hgU_105 ca o) rfl (gi_in (by omega) (by omega)) dX10_when_96 ?_
              refine lv_topi (fun x10 e10 => ?_)
              have b10 := iU_105 J7 e10
              refine lv_isub hx hb dX10_when_97 ?_
              refine lv_topi (fun x11 e11 => ?_)
              have t11 : x11.toInt = x9.toInt - x10.toInt := ga_sub e11 rfl rfl (by omega) (by omega)
              refine lv_iload hx hb dX10_when_98 (lv_at hl 5 rfl) ?_
              refine lv_iadd hx hb dX10_when_100 ?_
              refine lv_topi (fun x12 e12 => ?_)
              have t12 : x12.toInt = x11.toInt + a3.toInt := ga_add e12 rfl rfl (by omega) (by omega)
              exact W.iret (v := x12) hx hb hr (fun t ht hW => ⟨⟨x12, (z7, y7), rfl, ⟨⟨by omega, by omega⟩, J7⟩, by rw [ht]; exact hP, va_K.moved hW.alike hK⟩, hS.F ht⟩) hS.2.2 dX10_when_101
            · have t8 : r7.toInt < (0 : Int) := gl_nle c8
              refine lv_iload hx hb dX10_when_62 (lv_at hl 0 rfl) ?_
              refine lv_bipush (v := (-3)) hx hb dX10_when_64 (by decide) ?_
              refine lv_icmp_ne (tgt := 75) hx hb dX10_when_66 (by decide) (fun c13 => ?_) (fun c13 => ?_)
              · have t13 : r7.toInt ≠ (-3 : Int) := gl_ne c13
                refine lv_sipush (v := (-1000)) hx hb dX10_when_75 (by decide) ?_
                exact W.iret (v := (-1000)) hx hb hr (fun t ht hW => ⟨⟨(-1000), (z7, y7), rfl, ⟨⟨by decide, by decide⟩, J7⟩, by rw [ht]; exact hP, va_K.moved hW.alike hK⟩, hS.F ht⟩) hS.2.2 dX10_when_78
              · have t13 : r7.toInt = (-3 : Int) := gl_eq c13
                refine lv_sipush (v := (-3000)) hx hb dX10_when_69 (by decide) ?_
                refine lv_goto (tgt := 78) hx hb dX10_when_72 (by decide) ?_
                exact W.iret (v := (-3000)) hx hb hr (fun t ht hW => ⟨⟨(-3000), (z7, y7), rfl, ⟨⟨by decide, by decide⟩, J7⟩, by rw [ht]; exact hP, va_K.moved hW.alike hK⟩, hS.F ht⟩) hS.2.2 dX10_when_78
          · have t6 : a3.toInt > (199 : Int) := gl_nle c6
            refine lv_sipush (v := (-4000)) hx hb dX10_when_43 (by decide) ?_
            exact W.iret (v := (-4000)) hx hb hr (fun t ht hW => ⟨⟨(-4000), (z, y), rfl, ⟨⟨by decide, by decide⟩, J0⟩, by rw [ht]; exact hP, va_K.moved hW.alike hK⟩, hS.F ht⟩) hS.2.2 dX10_when_46
      · subst hr4
        have hg4_0 : ¬ pHas (z 1 5) a2 := hf4_0
        refine lv_if_eq (tgt := 43) hx hb dX10_when_27 (by decide) (fun _ => ?_) (fun q => absurd (by decide) q)
        refine lv_sipush (v := (-4000)) hx hb dX10_when_43 (by decide) ?_
        exact W.iret (v := (-4000)) hx hb hr (fun t ht hW => ⟨⟨(-4000), (z, y), rfl, ⟨⟨by decide, by decide⟩, J0⟩, by rw [ht]; exact hP, va_K.moved hW.alike hK⟩, hS.F ht⟩) hS.2.2 dX10_when_46
    · subst hr3
      have hg3_0 : ¬ pHas (z 1 5) a1 := hf3_0
      refine lv_if_eq (tgt := 43) hx hb dX10_when_16 (by decide) (fun _ => ?_) (fun q => absurd (by decide) q)
      refine lv_sipush (v := (-4000)) hx hb dX10_when_43 (by decide) ?_
      exact W.iret (v := (-4000)) hx hb hr (fun t ht hW => ⟨⟨(-4000), (z, y), rfl, ⟨⟨by decide, by decide⟩, J0⟩, by rw [ht]; exact hP, va_K.moved hW.alike hK⟩, hS.F ht⟩) hS.2.2 dX10_when_46
set_option maxRecDepth 100000 in
set_option maxHeartbeats 8000000 in
theorem u_hasAgeAbove (l : Launch) (D : va_G) (ca : Nat → ClassId) (o : Nat) (b z : Nat → Nat → Int32) (y : Nat → Nat → Int64) (J0 : qJU b z) (a0 : Int32)  : qM l yX10_hasAgeAbove cX10_hasAgeAbove 3 (some .boolean) 1 60 (qPre D vwCl (qT6 ca) o 132 (qG (GU ca o) z y) [.ref (o + 0), .int a0]) (va_Qi (fun r (_ : Unit) => ((0 : Int) ≤ r.toInt ∧ r.toInt ≤ 1)) (qB D vwCl (qT6 ca) o 132 (fun _ : Unit => qG (GU ca o) z y)) (qw_A o 132)) (qw_A o 132) := by
  refine Met.ofW (cc := cX10_hasAgeAbove) (maxL := 3) (ret := (some .boolean)) (by decide) rfl ?_
  intro p e s m args below meth c s₁ B hml hv
  obtain ⟨rfl, hP, hK⟩ := hv
  have hx := B.exec
  have hb := B.bytes
  have hr := B.returns
  have hts0 := atoms_spec (ws := Cond.code yX10_hasAgeAbove cX10_hasAgeAbove 3 (some .boolean) :: qtbl) B.pre
  have hts : ∀ w ∈ qtbl, w.before _ s = true := fun w h => hts0 w (List.mem_cons_of_mem _ h)
  have hown : s.vm.findClass RX10 = some m.cls := findClass_of_methodNamed B.named
  have hlocks := B.notSynchronized
  have hS : va_S (qw_A o 132) s.heap s.heap [] := va_S.rf
  have hl := lv_entry ([.ref (o + 0), .int a0]) (n := 3) (Nat.le_of_ble_eq_true rfl)
  rw [lg_entry_eq]
  generalize (lg_sl ([.ref (o + 0), .int a0]) ++ List.replicate (3 - (lg_sl ([.ref (o + 0), .int a0])).length) Slot.unset).toArray = ls at hl ⊢
  have hl : lv_has ls 3 [(0, .ref (o + 0)), (1, .int a0)] := hl
  refine lv_iconst (v := 0) hx hb dX10_hasAgeAbove_0 (by decide) ?_
  refine lv_istore_n (lv' := [(2, .int 0), (0, .ref (o + 0)), (1, .int a0)]) hx hb dX10_hasAgeAbove_1 rfl hl (by decide) rfl (fun ls hl => ?_)
  have loop1 : ∀ (n : Nat) (w1_2 : Int32), ((260 - w1_2.toInt : Int) < (n : Int)) → ((0 : Int) ≤ w1_2.toInt ∧ w1_2.toInt ≤ 260) → ∀ (H : Heap) (locs : List Loc), qw_P D vwCl o 132 (qG (GU ca o) z y) H → va_S (qw_A o 132) s.heap H locs → ∀ (ls : Array Slot), lv_has ls 3 [(2, .int w1_2), (0, .ref (o + 0)), (1, .int a0)] → W p l e (headSpec (Cond.code yX10_hasAgeAbove cX10_hasAgeAbove 3 (some .boolean) :: qtbl) ({ frames := 1, cells := 0, slots := 0, locals := 60 })).room s m (([.ref (o + 0), .int a0] : List Value).toArray) below meth c H locs 0 0 (MQ below (va_Qi (fun r (_ : Unit) => ((0 : Int) ≤ r.toInt ∧ r.toInt ≤ 1)) (qB D vwCl (qT6 ca) o 132 (fun _ : Unit => qG (GU ca o) z y)) (qw_A o 132)) (([.ref (o + 0), .int a0] : List Value).toArray) s 0 0 (qw_A o 132)) (F0 m 2 ls []) := by
    intro n
    induction n with
    | zero => intro w1_2 hb1 hv1_2; exfalso; omega
    | succ n1 ih1 =>
      intro w1_2 hb1 hv1_2 H locs hP hS ls hl
      refine lv_iload_n hx hb dX10_hasAgeAbove_2 rfl (lv_at hl 0 rfl) ?_
      refine lv_iload_n hx hb dX10_hasAgeAbove_3 rfl (lv_at hl 2 rfl) ?_
      refine lv_icmp_ge (tgt := 33) hx hb dX10_hasAgeAbove_4 (by decide) (fun c2 => ?_) (fun c2 => ?_)
      · have t2 : w1_2.toInt ≥ a0.toInt := gl_le c2
        refine lv_iconst (v := 0) hx hb dX10_hasAgeAbove_33 (by decide) ?_
        exact W.zret (v := 0) (ty := .boolean) hx hb hr rfl (fun t ht hW => ⟨⟨0, (), rfl, ⟨by decide, by decide⟩, by rw [ht]; exact hP, va_K.moved hW.alike hK⟩, hS.F ht⟩) hS.2.2 dX10_hasAgeAbove_34
      · have t2 : w1_2.toInt < a0.toInt := gl_nle c2
        refine lv_iload_n hx hb dX10_hasAgeAbove_7 rfl (lv_at hl 0 rfl) ?_
        refine lv_sipush (v := 260) hx hb dX10_hasAgeAbove_8 (by decide) ?_
        refine lv_icmp_ge (tgt := 33) hx hb dX10_hasAgeAbove_11 (by decide) (fun c3 => ?_) (fun c3 => ?_)
        · have t3 : w1_2.toInt ≥ (260 : Int) := gl_le c3
          refine lv_iconst (v := 0) hx hb dX10_hasAgeAbove_33 (by decide) ?_
          exact W.zret (v := 0) (ty := .boolean) hx hb hr rfl (fun t ht hW => ⟨⟨0, (), rfl, ⟨by decide, by decide⟩, by rw [ht]; exact hP, va_K.moved hW.alike hK⟩, hS.F ht⟩) hS.2.2 dX10_hasAgeAbove_34
        · have t3 : w1_2.toInt < (260 : Int) := gl_nle c3
          refine lv_aload_n hx hb dX10_hasAgeAbove_14 rfl (lv_at hl 1 rfl) ?_
          refine qf_get hx hb hts inX10 hown hK hP (q0 := 0) (by decide) (hgU_0 ca o) rfl 3 (by decide) wq_356 (v := .ref (o + 77)) rfl dX10_hasAgeAbove_15 ?_
          refine lv_iload_n hx hb dX10_hasAgeAbove_18 rfl (lv_at hl 0 rfl) ?_
          refine qa_iald hx hb hK hP (q0 := 77) (by decide) 0 (N := 260) (hgU_77 ca o) rfl (gi_in (by omega) (by omega)) dX10_hasAgeAbove_19 ?_
          refine lv_topi (fun x4 e4 => ?_)
          refine lv_bipush (v := 99) hx hb dX10_hasAgeAbove_20 (by decide) ?_
          refine lv_icmp_le (tgt := 27) hx hb dX10_hasAgeAbove_22 (by decide) (fun c5 => ?_) (fun c5 => ?_)
          · have t5 : x4.toInt ≤ (99 : Int) := gl_le c5
            obtain ⟨x6, e6⟩ : ∃ t : Int32, t = w1_2 + 1 := ⟨_, rfl⟩
            refine lv_iinc (v := x6) (lv' := [(2, .int x6), (0, .ref (o + 0)), (1, .int a0)]) hx hb dX10_hasAgeAbove_27 hl (k := 0) rfl (by rw [e6]; rfl) (by decide) rfl (fun ls hl => ?_)
            have t6 : x6.toInt = w1_2.toInt + (1 : Int) := ga_add e6 rfl rfl (by omega) (by omega)
            refine lv_goto (tgt := 2) hx hb dX10_hasAgeAbove_30 (by decide) ?_
            exact ih1 x6 (show (260 - x6.toInt : Int) < (n1 : Int) from by omega) ⟨by omega, by omega⟩ _ _ hP hS _ (lv_sub hl [0, 1, 2] rfl)
          · have t5 : x4.toInt > (99 : Int) := gl_nle c5
            refine lv_iconst (v := 1) hx hb dX10_hasAgeAbove_25 (by decide) ?_
            exact W.zret (v := 1) (ty := .boolean) hx hb hr rfl (fun t ht hW => ⟨⟨1, (), rfl, ⟨by decide, by decide⟩, by rw [ht]; exact hP, va_K.moved hW.alike hK⟩, hS.F ht⟩) hS.2.2 dX10_hasAgeAbove_26
  exact loop1 261 0 (show (260 - (0 : Int) : Int) < ((261 : Nat) : Int) from by omega) ⟨by decide, by decide⟩ _ _ hP hS _ (lv_sub hl [0, 1, 2] rfl)
set_option maxRecDepth 100000 in
set_option maxHeartbeats 8000000 in
theorem u_standAlone (l : Launch) (D : va_G) (ca : Nat → ClassId) (o : Nat) (b z : Nat → Nat → Int32) (y : Nat → Nat → Int64) (J0 : qJU b z) (a0 : Int32) (a1 : Int32)  : qM l yX10_standAlone cX10_standAlone 4 (some .boolean) 1 60 (qPre D vwCl (qT6 ca) o 132 (qG (GU ca o) z y) [.ref (o + 0), .int a0, .int a1]) (va_Qi (fun r (_ : Unit) => ((0 : Int) ≤ r.toInt ∧ r.toInt ≤ 1)) (qB D vwCl (qT6 ca) o 132 (fun _ : Unit => qG (GU ca o) z y)) (qw_A o 132)) (qw_A o 132) := by
  refine Met.ofW (cc := cX10_standAlone) (maxL := 4) (ret := (some .boolean)) (by decide) rfl ?_
  intro p e s m args below meth c s₁ B hml hv
  obtain ⟨rfl, hP, hK⟩ := hv
  have hx := B.exec
  have hb := B.bytes
  have hr := B.returns
  have hts0 := atoms_spec (ws := Cond.code yX10_standAlone cX10_standAlone 4 (some .boolean) :: qtbl) B.pre
  have hts : ∀ w ∈ qtbl, w.before _ s = true := fun w h => hts0 w (List.mem_cons_of_mem _ h)
  have hown : s.vm.findClass RX10 = some m.cls := findClass_of_methodNamed B.named
  have hlocks := B.notSynchronized
  have hS : va_S (qw_A o 132) s.heap s.heap [] := va_S.rf
  have hl := lv_entry ([.ref (o + 0), .int a0, .int a1]) (n := 4) (Nat.le_of_ble_eq_true rfl)
  rw [lg_entry_eq]
  generalize (lg_sl ([.ref (o + 0), .int a0, .int a1]) ++ List.replicate (4 - (lg_sl ([.ref (o + 0), .int a0, .int a1])).length) Slot.unset).toArray = ls at hl ⊢
  have hl : lv_has ls 4 [(0, .ref (o + 0)), (1, .int a0), (2, .int a1)] := hl
  refine lv_iconst (v := 0) hx hb dX10_standAlone_0 (by decide) ?_
  refine lv_istore_n (lv' := [(3, .int 0), (0, .ref (o + 0)), (1, .int a0), (2, .int a1)]) hx hb dX10_standAlone_1 rfl hl (by decide) rfl (fun ls hl => ?_)
  have loop1 : ∀ (n : Nat) (w1_3 : Int32), ((10 - w1_3.toInt : Int) < (n : Int)) → ((0 : Int) ≤ w1_3.toInt ∧ w1_3.toInt ≤ 10) → ∀ (H : Heap) (locs : List Loc), qw_P D vwCl o 132 (qG (GU ca o) z y) H → va_S (qw_A o 132) s.heap H locs → ∀ (ls : Array Slot), lv_has ls 4 [(3, .int w1_3), (0, .ref (o + 0)), (1, .int a0), (2, .int a1)] → W p l e (headSpec (Cond.code yX10_standAlone cX10_standAlone 4 (some .boolean) :: qtbl) ({ frames := 1, cells := 0, slots := 0, locals := 60 })).room s m (([.ref (o + 0), .int a0, .int a1] : List Value).toArray) below meth c H locs 0 0 (MQ below (va_Qi (fun r (_ : Unit) => ((0 : Int) ≤ r.toInt ∧ r.toInt ≤ 1)) (qB D vwCl (qT6 ca) o 132 (fun _ : Unit => qG (GU ca o) z y)) (qw_A o 132)) (([.ref (o + 0), .int a0, .int a1] : List Value).toArray) s 0 0 (qw_A o 132)) (F0 m 2 ls []) := by
    intro n
    induction n with
    | zero => intro w1_3 hb1 hv1_3; exfalso; omega
    | succ n1 ih1 =>
      intro w1_3 hb1 hv1_3 H locs hP hS ls hl
      refine lv_iload_n hx hb dX10_standAlone_2 rfl (lv_at hl 0 rfl) ?_
      refine lv_bipush (v := 10) hx hb dX10_standAlone_3 (by decide) ?_
      refine lv_icmp_ge (tgt := 43) hx hb dX10_standAlone_5 (by decide) (fun c2 => ?_) (fun c2 => ?_)
      · have t2 : w1_3.toInt ≥ (10 : Int) := gl_le c2
        refine lv_iconst (v := 1) hx hb dX10_standAlone_43 (by decide) ?_
        exact W.zret (v := 1) (ty := .boolean) hx hb hr rfl (fun t ht hW => ⟨⟨1, (), rfl, ⟨by decide, by decide⟩, by rw [ht]; exact hP, va_K.moved hW.alike hK⟩, hS.F ht⟩) hS.2.2 dX10_standAlone_44
      · have t2 : w1_3.toInt < (10 : Int) := gl_nle c2
        refine lv_iload_n hx hb dX10_standAlone_8 rfl (lv_at hl 3 rfl) ?_
        refine lv_iload_n hx hb dX10_standAlone_9 rfl (lv_at hl 0 rfl) ?_
        refine lv_ishr hx hb dX10_standAlone_10 ?_
        refine lv_topi (fun x3 e3 => ?_)
        refine lv_iconst (v := 1) hx hb dX10_standAlone_11 (by decide) ?_
        refine lv_iand hx hb dX10_standAlone_12 ?_
        refine lv_topi (fun x4 e4 => ?_)
        have t4 : 0 ≤ x4.toInt ∧ x4.toInt ≤ (1 : Int) := ga_and e4 rfl (by omega)
        refine lv_if_eq (tgt := 37) hx hb dX10_standAlone_13 (by decide) (fun c5 => ?_) (fun c5 => ?_)
        · have t5 : x4.toInt = (0 : Int) := gl_eq c5
          obtain ⟨x6, e6⟩ : ∃ t : Int32, t = w1_3 + 1 := ⟨_, rfl⟩
          refine lv_iinc (v := x6) (lv' := [(3, .int x6), (0, .ref (o + 0)), (1, .int a0), (2, .int a1)]) hx hb dX10_standAlone_37 hl (k := 0) rfl (by rw [e6]; rfl) (by decide) rfl (fun ls hl => ?_)
          have t6 : x6.toInt = w1_3.toInt + (1 : Int) := ga_add e6 rfl rfl (by omega) (by omega)
          refine lv_goto (tgt := 2) hx hb dX10_standAlone_40 (by decide) ?_
          exact ih1 x6 (show (10 - x6.toInt : Int) < (n1 : Int) from by omega) ⟨by omega, by omega⟩ _ _ hP hS _ (lv_sub hl [0, 1, 2, 3] rfl)
        · have t5 : x4.toInt ≠ (0 : Int) := gl_ne c5
          refine lv_aload_n hx hb dX10_standAlone_16 rfl (lv_at hl 1 rfl) ?_
          refine qf_get hx hb hts inX10 hown hK hP (q0 := 0) (by decide) (hgU_0 ca o) rfl 0 (by decide) wq_353 (v := .ref (o + 1)) rfl dX10_standAlone_17 ?_
          refine qf_get hx hb hts inX9 hown hK hP (q0 := 1) (by decide) (hgU_1 ca o) rfl 4 (by decide) wq_97 (v := .ref (o + 6)) rfl dX10_standAlone_20 ?_
          refine lv_iload_n hx hb dX10_standAlone_23 rfl (lv_at hl 0 rfl) ?_
          have hi_w1_3 : w1_3.toNatClampNeg < 16 := ga_nat (by omega) (show _ < (16 : Int) from by omega)
          refine qa_aald hx hb hK hP (q0 := 6) (by decide) 4 rfl (N := 16) (hgU_6 ca o) rfl (gi_in (by omega) (by omega)) dX10_standAlone_24 ?_
          refine qf_get hx hb hts inX5 hown hK hP (q0 := 7 + 2 * w1_3.toNatClampNeg) (show _ < _ from by have := hi_w1_3; omega) (hgU_LT ca o hi_w1_3) rfl 6 (by decide) wq_64 (v := .int (z (7 + 2 * w1_3.toNatClampNeg) 6)) rfl dX10_standAlone_25 ?_
          refine lv_topi (fun x7 e7 => ?_)
          refine lv_iload_n hx hb dX10_standAlone_28 rfl (lv_at hl 2 rfl) ?_
          refine lv_iconst (v := (-1)) hx hb dX10_standAlone_29 (by decide) ?_
          refine lv_ixor hx hb dX10_standAlone_30 ?_
          refine lv_topi (fun x8 e8 => ?_)
          refine lv_iand hx hb dX10_standAlone_31 ?_
          refine lv_topi (fun x9 e9 => ?_)
          refine lv_if_eq (tgt := 37) hx hb dX10_standAlone_32 (by decide) (fun c10 => ?_) (fun c10 => ?_)
          · have t10 : x9.toInt = (0 : Int) := gl_eq c10
            obtain ⟨x11, e11⟩ : ∃ t : Int32, t = w1_3 + 1 := ⟨_, rfl⟩
            refine lv_iinc (v := x11) (lv' := [(3, .int x11), (0, .ref (o + 0)), (1, .int a0), (2, .int a1)]) hx hb dX10_standAlone_37 hl (k := 0) rfl (by rw [e11]; rfl) (by decide) rfl (fun ls hl => ?_)
            have t11 : x11.toInt = w1_3.toInt + (1 : Int) := ga_add e11 rfl rfl (by omega) (by omega)
            refine lv_goto (tgt := 2) hx hb dX10_standAlone_40 (by decide) ?_
            exact ih1 x11 (show (10 - x11.toInt : Int) < (n1 : Int) from by omega) ⟨by omega, by omega⟩ _ _ hP hS _ (lv_sub hl [0, 1, 2, 3] rfl)
          · have t10 : x9.toInt ≠ (0 : Int) := gl_ne c10
            refine lv_iconst (v := 0) hx hb dX10_standAlone_35 (by decide) ?_
            exact W.zret (v := 0) (ty := .boolean) hx hb hr rfl (fun t ht hW => ⟨⟨0, (), rfl, ⟨by decide, by decide⟩, by rw [ht]; exact hP, va_K.moved hW.alike hK⟩, hS.F ht⟩) hS.2.2 dX10_standAlone_36
  exact loop1 11 0 (show (10 - (0 : Int) : Int) < ((11 : Nat) : Int) from by omega) ⟨by decide, by decide⟩ _ _ hP hS _ (lv_sub hl [0, 1, 2, 3] rfl)
set_option maxRecDepth 100000 in
set_option maxHeartbeats 8000000 in
theorem u_Giving_give (l : Launch) (D : va_G) (ca : Nat → ClassId) (o : Nat) (b z : Nat → Nat → Int32) (y : Nat → Nat → Int64) (J0 : qJU b z) (a1 : Int32)  : qM l yX4_give cX4_give 5 none 1 60 (qPre D vwCl (qT6 ca) o 132 (qG (GU ca o) z y) [.ref (o + 116), .ref (o + 77), .int a1]) (va_Qv (fun u => qJU b u.1) (qB D vwCl (qT6 ca) o 132 (fun u : qZ => qG (GU ca o) u.1 u.2)) (qw_A o 132)) (qw_A o 132) := by
  refine Met.ofW (cc := cX4_give) (maxL := 5) (ret := none) (by decide) rfl ?_
  intro p e s m args below meth c s₁ B hml hv
  obtain ⟨rfl, hP, hK⟩ := hv
  have hx := B.exec
  have hb := B.bytes
  have hr := B.returns
  have hts0 := atoms_spec (ws := Cond.code yX4_give cX4_give 5 none :: qtbl) B.pre
  have hts : ∀ w ∈ qtbl, w.before _ s = true := fun w h => hts0 w (List.mem_cons_of_mem _ h)
  have hown : s.vm.findClass RX4 = some m.cls := findClass_of_methodNamed B.named
  have hlocks := B.notSynchronized
  have hS : va_S (qw_A o 132) s.heap s.heap [] := va_S.rf
  have hl := lv_entry ([.ref (o + 116), .ref (o + 77), .int a1]) (n := 5) (Nat.le_of_ble_eq_true rfl)
  rw [lg_entry_eq]
  generalize (lg_sl ([.ref (o + 116), .ref (o + 77), .int a1]) ++ List.replicate (5 - (lg_sl ([.ref (o + 116), .ref (o + 77), .int a1])).length) Slot.unset).toArray = ls at hl ⊢
  have hl : lv_has ls 5 [(0, .ref (o + 116)), (1, .ref (o + 77)), (2, .int a1)] := hl
  refine lv_iconst (v := 0) hx hb dX4_give_0 (by decide) ?_
  refine lv_istore_n (lv' := [(3, .int 0), (0, .ref (o + 116)), (1, .ref (o + 77)), (2, .int a1)]) hx hb dX4_give_1 rfl hl (by decide) rfl (fun ls hl => ?_)
  refine lv_iconst (v := 0) hx hb dX4_give_2 (by decide) ?_
  refine lv_istore (lv' := [(4, .int 0), (3, .int 0), (0, .ref (o + 116)), (1, .ref (o + 77)), (2, .int a1)]) hx hb dX4_give_3 hl (by decide) rfl (fun ls hl => ?_)
  have loop1 : ∀ (n : Nat) (w1_4 : Int32) (w1_3 : Int32) (z1 : Nat → Nat → Int32) (y1 : Nat → Nat → Int64), ((6 - w1_4.toInt : Int) < (n : Int)) → ((0 : Int) ≤ w1_4.toInt ∧ w1_4.toInt ≤ 6) → ((0 : Int) ≤ w1_3.toInt ∧ w1_3.toInt ≤ 6) → (qJU b z1) → (w1_3.toInt ≤ w1_4.toInt) → ∀ (H : Heap) (locs : List Loc), qw_P D vwCl o 132 (qG (GU ca o) z1 y1) H → va_S (qw_A o 132) s.heap H locs → ∀ (ls : Array Slot), lv_has ls 5 [(4, .int w1_4), (3, .int w1_3), (0, .ref (o + 116)), (1, .ref (o + 77)), (2, .int a1)] → W p l e (headSpec (Cond.code yX4_give cX4_give 5 none :: qtbl) ({ frames := 1, cells := 0, slots := 0, locals := 60 })).room s m (([.ref (o + 116), .ref (o + 77), .int a1] : List Value).toArray) below meth c H locs 0 0 (MQ below (va_Qv (fun u => qJU b u.1) (qB D vwCl (qT6 ca) o 132 (fun u : qZ => qG (GU ca o) u.1 u.2)) (qw_A o 132)) (([.ref (o + 116), .ref (o + 77), .int a1] : List Value).toArray) s 0 0 (qw_A o 132)) (F0 m 5 ls []) := by
    intro n
    induction n with
    | zero => intro w1_4 w1_3 z1 y1 hb1 hv1_4 hv1_3 J1 v1_0; exfalso; omega
    | succ n1 ih1 =>
      intro w1_4 w1_3 z1 y1 hb1 hv1_4 hv1_3 J1 v1_0 H locs hP hS ls hl
      refine lv_iload hx hb dX4_give_5 (lv_at hl 0 rfl) ?_
      refine lv_bipush (v := 6) hx hb dX4_give_7 (by decide) ?_
      refine lv_icmp_ge (tgt := 45) hx hb dX4_give_9 (by decide) (fun c2 => ?_) (fun c2 => ?_)
      · have t2 : w1_4.toInt ≥ (6 : Int) := gl_le c2
        exact W.vret hx hb hr (fun t ht hW => ⟨⟨(z1, y1), rfl, J1, by rw [ht]; exact hP, va_K.moved hW.alike hK⟩, hS.F ht⟩) hS.2.2 dX4_give_45
      · have t2 : w1_4.toInt < (6 : Int) := gl_nle c2
        refine lv_iload_n hx hb dX4_give_12 rfl (lv_at hl 4 rfl) ?_
        refine lv_iload hx hb dX4_give_13 (lv_at hl 0 rfl) ?_
        refine lv_ishr hx hb dX4_give_15 ?_
        refine lv_topi (fun x3 e3 => ?_)
        refine lv_iconst (v := 1) hx hb dX4_give_16 (by decide) ?_
        refine lv_iand hx hb dX4_give_17 ?_
        refine lv_topi (fun x4 e4 => ?_)
        have t4 : 0 ≤ x4.toInt ∧ x4.toInt ≤ (1 : Int) := ga_and e4 rfl (by omega)
        refine lv_if_eq (tgt := 39) hx hb dX4_give_18 (by decide) (fun c5 => ?_) (fun c5 => ?_)
        · have t5 : x4.toInt = (0 : Int) := gl_eq c5
          obtain ⟨x6, e6⟩ : ∃ t : Int32, t = w1_4 + 1 := ⟨_, rfl⟩
          refine lv_iinc (v := x6) (lv' := [(4, .int x6), (3, .int w1_3), (0, .ref (o + 116)), (1, .ref (o + 77)), (2, .int a1)]) hx hb dX4_give_39 hl (k := 0) rfl (by rw [e6]; rfl) (by decide) rfl (fun ls hl => ?_)
          have t6 : x6.toInt = w1_4.toInt + (1 : Int) := ga_add e6 rfl rfl (by omega) (by omega)
          refine lv_goto (tgt := 5) hx hb dX4_give_42 (by decide) ?_
          exact ih1 x6 w1_3 z1 y1 (show (6 - x6.toInt : Int) < (n1 : Int) from by omega) ⟨by omega, by omega⟩ ⟨by omega, by omega⟩ J1 (show w1_3.toInt ≤ x6.toInt from by omega) _ _ hP hS _ (lv_sub hl [0, 1, 2, 3, 4] rfl)
        · have t5 : x4.toInt ≠ (0 : Int) := gl_ne c5
          refine lv_aload_n hx hb dX4_give_21 rfl (lv_at hl 2 rfl) ?_
          refine qf_get hx hb hts inX4 hown hK hP (q0 := 116) (by decide) (hgU_116 ca o) rfl 1 (by decide) wq_296 (v := .ref (o + 118)) rfl dX4_give_22 ?_
          refine lv_iload hx hb dX4_give_25 (lv_at hl 0 rfl) ?_
          refine lv_aload_n hx hb dX4_give_27 rfl (lv_at hl 3 rfl) ?_
          refine lv_aload_n hx hb dX4_give_28 rfl (lv_at hl 2 rfl) ?_
          refine qf_get hx hb hts inX4 hown hK hP (q0 := 116) (by decide) (hgU_116 ca o) rfl 0 (by decide) wq_295 (v := .ref (o + 117)) rfl dX4_give_29 ?_
          refine lv_iload_n hx hb dX4_give_32 rfl (lv_at hl 1 rfl) ?_
          refine qa_iald hx hb hK hP (q0 := 117) (by decide) 0 (N := 6) (hgU_117 ca o) rfl (gi_in (by omega) (by omega)) dX4_give_33 ?_
          refine lv_topi (fun x7 e7 => ?_)
          have b7 := iU_117 J1 e7
          refine qa_iald hx hb hK hP (q0 := 77) (by decide) 0 (N := 260) (hgU_77 ca o) rfl (gi_in (by omega) (by omega)) dX4_give_34 ?_
          refine lv_topi (fun x8 e8 => ?_)
          refine qa_iast2 hx hb hK hP hS qw_Ai (q0 := 118) (by decide) 0 (N := 6) (hgU_118 ca o) rfl (i := w1_4) (x := x8) (gi_in (by omega) (by omega)) dX4_give_35 (fun z9 H locs hz9 hP hS => ?_)
          have J9 := jU_118 J1 hz9
          obtain ⟨x10, e10⟩ : ∃ t : Int32, t = w1_3 + 1 := ⟨_, rfl⟩
          refine lv_iinc (v := x10) (lv' := [(3, .int x10), (4, .int w1_4), (0, .ref (o + 116)), (1, .ref (o + 77)), (2, .int a1)]) hx hb dX4_give_36 hl (k := 1) rfl (by rw [e10]; rfl) (by decide) rfl (fun ls hl => ?_)
          have t10 : x10.toInt = w1_3.toInt + (1 : Int) := ga_add e10 rfl rfl (by omega) (by omega)
          obtain ⟨x11, e11⟩ : ∃ t : Int32, t = w1_4 + 1 := ⟨_, rfl⟩
          refine lv_iinc (v := x11) (lv' := [(4, .int x11), (3, .int x10), (0, .ref (o + 116)), (1, .ref (o + 77)), (2, .int a1)]) hx hb dX4_give_39 hl (k := 1) rfl (by rw [e11]; rfl) (by decide) rfl (fun ls hl => ?_)
          have t11 : x11.toInt = w1_4.toInt + (1 : Int) := ga_add e11 rfl rfl (by omega) (by omega)
          refine lv_goto (tgt := 5) hx hb dX4_give_42 (by decide) ?_
          exact ih1 x11 x10 z9 y1 (show (6 - x11.toInt : Int) < (n1 : Int) from by omega) ⟨by omega, by omega⟩ ⟨by omega, by omega⟩ J9 (show x10.toInt ≤ x11.toInt from by omega) _ _ hP hS _ (lv_sub hl [0, 1, 2, 3, 4] rfl)
  exact loop1 7 0 0 z y (show (6 - (0 : Int) : Int) < ((7 : Nat) : Int) from by omega) ⟨by decide, by decide⟩ ⟨by decide, by decide⟩ J0 (show (0 : Int) ≤ (0 : Int) from by omega) _ _ hP hS _ (lv_sub hl [0, 1, 2, 3, 4] rfl)
set_option maxRecDepth 100000 in
set_option maxHeartbeats 8000000 in
theorem u_Line_tellsIn_v1 (l : Launch) (D : va_G) (ca : Nat → ClassId) (o : Nat) (b z : Nat → Nat → Int32) (y : Nat → Nat → Int64) (J0 : qJU b z) {i0_ : Nat} (hi0_ : i0_ < 16) (a1 : Int32)  : qM l yX5_tellsIn cX5_tellsIn 5 (some .int) 1 60 (qPre D vwCl (qT6 ca) o 132 (qG (GU ca o) z y) [.ref (o + (7 + 2 * i0_)), .ref (o + 118), .int a1]) (va_Qi (fun r (_ : Unit) => True) (qB D vwCl (qT6 ca) o 132 (fun _ : Unit => qG (GU ca o) z y)) (qw_A o 132)) (qw_A o 132) := by
  refine Met.ofW (cc := cX5_tellsIn) (maxL := 5) (ret := (some .int)) (by decide) rfl ?_
  intro p e s m args below meth c s₁ B hml hv
  obtain ⟨rfl, hP, hK⟩ := hv
  have hx := B.exec
  have hb := B.bytes
  have hr := B.returns
  have hts0 := atoms_spec (ws := Cond.code yX5_tellsIn cX5_tellsIn 5 (some .int) :: qtbl) B.pre
  have hts : ∀ w ∈ qtbl, w.before _ s = true := fun w h => hts0 w (List.mem_cons_of_mem _ h)
  have hown : s.vm.findClass RX5 = some m.cls := findClass_of_methodNamed B.named
  have hlocks := B.notSynchronized
  have hS : va_S (qw_A o 132) s.heap s.heap [] := va_S.rf
  have hl := lv_entry ([.ref (o + (7 + 2 * i0_)), .ref (o + 118), .int a1]) (n := 5) (Nat.le_of_ble_eq_true rfl)
  rw [lg_entry_eq]
  generalize (lg_sl ([.ref (o + (7 + 2 * i0_)), .ref (o + 118), .int a1]) ++ List.replicate (5 - (lg_sl ([.ref (o + (7 + 2 * i0_)), .ref (o + 118), .int a1])).length) Slot.unset).toArray = ls at hl ⊢
  have hl : lv_has ls 5 [(0, .ref (o + (7 + 2 * i0_))), (1, .ref (o + 118)), (2, .int a1)] := hl
  refine lv_aload_n hx hb dX5_tellsIn_0 rfl (lv_at hl 0 rfl) ?_
  refine qf_get hx hb hts inX5 hown hK hP (q0 := 7 + 2 * i0_) (show _ < _ from by have := hi0_; omega) (hgU_LT ca o hi0_) rfl 1 (by decide) wq_46 (v := .int (z (7 + 2 * i0_) 1)) rfl dX5_tellsIn_1 ?_
  refine lv_topi (fun x1 e1 => ?_)
  refine lv_istore_n (lv' := [(3, .int x1), (0, .ref (o + (7 + 2 * i0_))), (1, .ref (o + 118)), (2, .int a1)]) hx hb dX5_tellsIn_4 rfl hl (by decide) rfl (fun ls hl => ?_)
  refine lv_iconst (v := 0) hx hb dX5_tellsIn_5 (by decide) ?_
  refine lv_istore (lv' := [(4, .int 0), (3, .int x1), (0, .ref (o + (7 + 2 * i0_))), (1, .ref (o + 118)), (2, .int a1)]) hx hb dX5_tellsIn_6 hl (by decide) rfl (fun ls hl => ?_)
  have loop2 : ∀ (n : Nat) (w2_4 : Int32) (w2_3 : Int32), ((6 - w2_4.toInt : Int) < (n : Int)) → ((0 : Int) ≤ w2_4.toInt ∧ w2_4.toInt ≤ 6) → ∀ (H : Heap) (locs : List Loc), qw_P D vwCl o 132 (qG (GU ca o) z y) H → va_S (qw_A o 132) s.heap H locs → ∀ (ls : Array Slot), lv_has ls 5 [(4, .int w2_4), (3, .int w2_3), (0, .ref (o + (7 + 2 * i0_))), (1, .ref (o + 118)), (2, .int a1)] → W p l e (headSpec (Cond.code yX5_tellsIn cX5_tellsIn 5 (some .int) :: qtbl) ({ frames := 1, cells := 0, slots := 0, locals := 60 })).room s m (([.ref (o + (7 + 2 * i0_)), .ref (o + 118), .int a1] : List Value).toArray) below meth c H locs 0 0 (MQ below (va_Qi (fun r (_ : Unit) => True) (qB D vwCl (qT6 ca) o 132 (fun _ : Unit => qG (GU ca o) z y)) (qw_A o 132)) (([.ref (o + (7 + 2 * i0_)), .ref (o + 118), .int a1] : List Value).toArray) s 0 0 (qw_A o 132)) (F0 m 8 ls []) := by
    intro n
    induction n with
    | zero => intro w2_4 w2_3 hb2 hv2_4; exfalso; omega
    | succ n2 ih2 =>
      intro w2_4 w2_3 hb2 hv2_4 H locs hP hS ls hl
      refine lv_iload hx hb dX5_tellsIn_8 (lv_at hl 0 rfl) ?_
      refine lv_bipush (v := 6) hx hb dX5_tellsIn_10 (by decide) ?_
      refine lv_icmp_ge (tgt := 38) hx hb dX5_tellsIn_12 (by decide) (fun c3 => ?_) (fun c3 => ?_)
      · have t3 : w2_4.toInt ≥ (6 : Int) := gl_le c3
        refine lv_iload_n hx hb dX5_tellsIn_38 rfl (lv_at hl 1 rfl) ?_
        exact W.iret (v := w2_3) hx hb hr (fun t ht hW => ⟨⟨w2_3, (), rfl, trivial, by rw [ht]; exact hP, va_K.moved hW.alike hK⟩, hS.F ht⟩) hS.2.2 dX5_tellsIn_39
      · have t3 : w2_4.toInt < (6 : Int) := gl_nle c3
        refine lv_iload_n hx hb dX5_tellsIn_15 rfl (lv_at hl 1 rfl) ?_
        refine lv_aload_n hx hb dX5_tellsIn_16 rfl (lv_at hl 2 rfl) ?_
        refine qf_get hx hb hts inX5 hown hK hP (q0 := 7 + 2 * i0_) (show _ < _ from by have := hi0_; omega) (hgU_LT ca o hi0_) rfl 0 (by decide) wq_41 (v := .ref (o + (7 + 2 * i0_ + 1))) rfl dX5_tellsIn_17 ?_
        refine lv_iload hx hb dX5_tellsIn_20 (lv_at hl 0 rfl) ?_
        refine qa_iald hx hb hK hP (q0 := 7 + 2 * i0_ + 1) (show _ < _ from by have := hi0_; omega) 0 (N := 6) (hgU_AT ca o hi0_) rfl (gi_in (by omega) (by omega)) dX5_tellsIn_22 ?_
        refine lv_topi (fun x4 e4 => ?_)
        refine lv_aload_n hx hb dX5_tellsIn_23 rfl (lv_at hl 3 rfl) ?_
        refine lv_iload hx hb dX5_tellsIn_24 (lv_at hl 0 rfl) ?_
        refine qa_iald hx hb hK hP (q0 := 118) (by decide) 0 (N := 6) (hgU_118 ca o) rfl (gi_in (by omega) (by omega)) dX5_tellsIn_26 ?_
        refine lv_topi (fun x5 e5 => ?_)
        refine lv_iload_n hx hb dX5_tellsIn_27 rfl (lv_at hl 4 rfl) ?_
        refine lv_iadd hx hb dX5_tellsIn_28 ?_
        refine lv_topi (fun x6 e6 => ?_)
        refine lv_imul hx hb dX5_tellsIn_29 ?_
        refine lv_topi (fun x7 e7 => ?_)
        refine lv_iadd hx hb dX5_tellsIn_30 ?_
        refine lv_topi (fun x8 e8 => ?_)
        refine lv_istore_n (lv' := [(3, .int x8), (4, .int w2_4), (0, .ref (o + (7 + 2 * i0_))), (1, .ref (o + 118)), (2, .int a1)]) hx hb dX5_tellsIn_31 rfl hl (by decide) rfl (fun ls hl => ?_)
        obtain ⟨x9, e9⟩ : ∃ t : Int32, t = w2_4 + 1 := ⟨_, rfl⟩
        refine lv_iinc (v := x9) (lv' := [(4, .int x9), (3, .int x8), (0, .ref (o + (7 + 2 * i0_))), (1, .ref (o + 118)), (2, .int a1)]) hx hb dX5_tellsIn_32 hl (k := 1) rfl (by rw [e9]; rfl) (by decide) rfl (fun ls hl => ?_)
        have t9 : x9.toInt = w2_4.toInt + (1 : Int) := ga_add e9 rfl rfl (by omega) (by omega)
        refine lv_goto (tgt := 8) hx hb dX5_tellsIn_35 (by decide) ?_
        exact ih2 x9 x8 (show (6 - x9.toInt : Int) < (n2 : Int) from by omega) ⟨by omega, by omega⟩ _ _ hP hS _ (lv_sub hl [0, 1, 2, 3, 4] rfl)
  exact loop2 7 0 x1 (show (6 - (0 : Int) : Int) < ((7 : Nat) : Int) from by omega) ⟨by decide, by decide⟩ _ _ hP hS _ (lv_sub hl [0, 1, 2, 3, 4] rfl)
set_option maxRecDepth 100000 in
set_option maxHeartbeats 8000000 in
theorem u_Giving_allHold (l : Launch) (D : va_G) (ca : Nat → ClassId) (o : Nat) (b z : Nat → Nat → Int32) (y : Nat → Nat → Int64) (J0 : qJU b z) (a1 : Int32)  : qM l yX4_allHold cX4_allHold 5 (some .boolean) 2 84 (qPre D vwCl (qT6 ca) o 132 (qG (GU ca o) z y) [.ref (o + 116), .ref (o + 1), .int a1]) (va_Qi (fun r (_ : Unit) => ((0 : Int) ≤ r.toInt ∧ r.toInt ≤ 1)) (qB D vwCl (qT6 ca) o 132 (fun _ : Unit => qG (GU ca o) z y)) (qw_A o 132)) (qw_A o 132) := by
  refine Met.ofW (cc := cX4_allHold) (maxL := 5) (ret := (some .boolean)) (by decide) rfl ?_
  intro p e s m args below meth c s₁ B hml hv
  obtain ⟨rfl, hP, hK⟩ := hv
  have hx := B.exec
  have hb := B.bytes
  have hr := B.returns
  have hts0 := atoms_spec (ws := Cond.code yX4_allHold cX4_allHold 5 (some .boolean) :: qtbl) B.pre
  have hts : ∀ w ∈ qtbl, w.before _ s = true := fun w h => hts0 w (List.mem_cons_of_mem _ h)
  have hown : s.vm.findClass RX4 = some m.cls := findClass_of_methodNamed B.named
  have hlocks := B.notSynchronized
  have hS : va_S (qw_A o 132) s.heap s.heap [] := va_S.rf
  have hl := lv_entry ([.ref (o + 116), .ref (o + 1), .int a1]) (n := 5) (Nat.le_of_ble_eq_true rfl)
  rw [lg_entry_eq]
  generalize (lg_sl ([.ref (o + 116), .ref (o + 1), .int a1]) ++ List.replicate (5 - (lg_sl ([.ref (o + 116), .ref (o + 1), .int a1])).length) Slot.unset).toArray = ls at hl ⊢
  have hl : lv_has ls 5 [(0, .ref (o + 116)), (1, .ref (o + 1)), (2, .int a1)] := hl
  refine lv_iconst (v := 0) hx hb dX4_allHold_0 (by decide) ?_
  refine lv_istore_n (lv' := [(3, .int 0), (0, .ref (o + 116)), (1, .ref (o + 1)), (2, .int a1)]) hx hb dX4_allHold_1 rfl hl (by decide) rfl (fun ls hl => ?_)
  have loop1 : ∀ (n : Nat) (w1_3 : Int32), ((10 - w1_3.toInt : Int) < (n : Int)) → ((0 : Int) ≤ w1_3.toInt ∧ w1_3.toInt ≤ 10) → ∀ (H : Heap) (locs : List Loc), qw_P D vwCl o 132 (qG (GU ca o) z y) H → va_S (qw_A o 132) s.heap H locs → ∀ (ls : Array Slot), lv_has ls 5 [(3, .int w1_3), (0, .ref (o + 116)), (1, .ref (o + 1)), (2, .int a1)] → W p l e (headSpec (Cond.code yX4_allHold cX4_allHold 5 (some .boolean) :: qtbl) ({ frames := 2, cells := 0, slots := 0, locals := 84 })).room s m (([.ref (o + 116), .ref (o + 1), .int a1] : List Value).toArray) below meth c H locs 0 0 (MQ below (va_Qi (fun r (_ : Unit) => ((0 : Int) ≤ r.toInt ∧ r.toInt ≤ 1)) (qB D vwCl (qT6 ca) o 132 (fun _ : Unit => qG (GU ca o) z y)) (qw_A o 132)) (([.ref (o + 116), .ref (o + 1), .int a1] : List Value).toArray) s 0 0 (qw_A o 132)) (F0 m 2 ls []) := by
    intro n
    induction n with
    | zero => intro w1_3 hb1 hv1_3; exfalso; omega
    | succ n1 ih1 =>
      intro w1_3 hb1 hv1_3 H locs hP hS ls hl
      refine lv_iload_n hx hb dX4_allHold_2 rfl (lv_at hl 0 rfl) ?_
      refine lv_bipush (v := 10) hx hb dX4_allHold_3 (by decide) ?_
      refine lv_icmp_ge (tgt := 50) hx hb dX4_allHold_5 (by decide) (fun c2 => ?_) (fun c2 => ?_)
      · have t2 : w1_3.toInt ≥ (10 : Int) := gl_le c2
        refine lv_iconst (v := 1) hx hb dX4_allHold_50 (by decide) ?_
        exact W.zret (v := 1) (ty := .boolean) hx hb hr rfl (fun t ht hW => ⟨⟨1, (), rfl, ⟨by decide, by decide⟩, by rw [ht]; exact hP, va_K.moved hW.alike hK⟩, hS.F ht⟩) hS.2.2 dX4_allHold_51
      · have t2 : w1_3.toInt < (10 : Int) := gl_nle c2
        refine lv_aload_n hx hb dX4_allHold_8 rfl (lv_at hl 2 rfl) ?_
        refine qf_get hx hb hts inX9 hown hK hP (q0 := 1) (by decide) (hgU_1 ca o) rfl 4 (by decide) wq_96 (v := .ref (o + 6)) rfl dX4_allHold_9 ?_
        refine lv_iload_n hx hb dX4_allHold_12 rfl (lv_at hl 0 rfl) ?_
        have hi_w1_3 : w1_3.toNatClampNeg < 16 := ga_nat (by omega) (show _ < (16 : Int) from by omega)
        refine qa_aald hx hb hK hP (q0 := 6) (by decide) 4 rfl (N := 16) (hgU_6 ca o) rfl (gi_in (by omega) (by omega)) dX4_allHold_13 ?_
        refine lv_astore (lv' := [(4, .ref (o + (7 + 2 * w1_3.toNatClampNeg))), (3, .int w1_3), (0, .ref (o + 116)), (1, .ref (o + 1)), (2, .int a1)]) hx hb dX4_allHold_14 hl (by decide) rfl (fun ls hl => ?_)
        refine lv_iload_n hx hb dX4_allHold_16 rfl (lv_at hl 4 rfl) ?_
        refine lv_iload_n hx hb dX4_allHold_17 rfl (lv_at hl 1 rfl) ?_
        refine lv_ishr hx hb dX4_allHold_18 ?_
        refine lv_topi (fun x3 e3 => ?_)
        refine lv_iconst (v := 1) hx hb dX4_allHold_19 (by decide) ?_
        refine lv_iand hx hb dX4_allHold_20 ?_
        refine lv_topi (fun x4 e4 => ?_)
        have t4 : 0 ≤ x4.toInt ∧ x4.toInt ≤ (1 : Int) := ga_and e4 rfl (by omega)
        refine lv_if_eq (tgt := 44) hx hb dX4_allHold_21 (by decide) (fun c5 => ?_) (fun c5 => ?_)
        · have t5 : x4.toInt = (0 : Int) := gl_eq c5
          obtain ⟨x6, e6⟩ : ∃ t : Int32, t = w1_3 + 1 := ⟨_, rfl⟩
          refine lv_iinc (v := x6) (lv' := [(3, .int x6), (4, .ref (o + (7 + 2 * w1_3.toNatClampNeg))), (0, .ref (o + 116)), (1, .ref (o + 1)), (2, .int a1)]) hx hb dX4_allHold_44 hl (k := 1) rfl (by rw [e6]; rfl) (by decide) rfl (fun ls hl => ?_)
          have t6 : x6.toInt = w1_3.toInt + (1 : Int) := ga_add e6 rfl rfl (by omega) (by omega)
          refine lv_goto (tgt := 2) hx hb dX4_allHold_47 (by decide) ?_
          exact ih1 x6 (show (10 - x6.toInt : Int) < (n1 : Int) from by omega) ⟨by omega, by omega⟩ _ _ hP hS _ (lv_sub hl [0, 2, 3, 4] rfl)
        · have t5 : x4.toInt ≠ (0 : Int) := gl_ne c5
          refine lv_aload hx hb dX4_allHold_24 (lv_at hl 0 rfl) ?_
          refine lv_aload hx hb dX4_allHold_26 (lv_at hl 0 rfl) ?_
          refine lv_aload_n hx hb dX4_allHold_28 rfl (lv_at hl 2 rfl) ?_
          refine qf_get hx hb hts inX4 hown hK hP (q0 := 116) (by decide) (hgU_116 ca o) rfl 1 (by decide) wq_296 (v := .ref (o + 118)) rfl dX4_allHold_29 ?_
          refine lv_iconst (v := 0) hx hb dX4_allHold_32 (by decide) ?_
          refine qc_Vip (As := [.ref (o + 118), .int 0]) (rest := [.ref (o + (7 + 2 * w1_3.toNatClampNeg))]) (k0 := 2) (u_Line_tellsIn_v1 l D ca o b z y J0 (i0_ := w1_3.toNatClampNeg) hi_w1_3 0) kc_yX5_tellsIn ⟨hx, hb, hml, hown, hts⟩ wq_907 rfl rfl ⟨Nat.le_of_ble_eq_true rfl, Nat.le_of_ble_eq_true rfl⟩ wq_all hP hK hS qw_Ai (q0 := 7 + 2 * w1_3.toNatClampNeg) (show _ < _ from by have := hi_w1_3; omega) (hgU_LT ca o hi_w1_3 _ _) rfl rfl hl.1 rfl (Nat.le_of_ble_eq_true rfl) dX4_allHold_33 ⟨Nat.zero_le _, Nat.zero_le _⟩ (fun r7 H locs h7 hP hS _ _ => ?_)
          refine qc_Vip (As := [.int r7]) (rest := []) (k0 := 1) (u_Line_holds l D ca o b z y J0 (i0_ := w1_3.toNatClampNeg) hi_w1_3 r7) kc_yX5_holds ⟨hx, hb, hml, hown, hts⟩ wq_908 rfl rfl ⟨Nat.le_of_ble_eq_true rfl, Nat.le_of_ble_eq_true rfl⟩ wq_all hP hK hS qw_Ai (q0 := 7 + 2 * w1_3.toNatClampNeg) (show _ < _ from by have := hi_w1_3; omega) (hgU_LT ca o hi_w1_3 _ _) rfl rfl hl.1 rfl (Nat.le_of_ble_eq_true rfl) dX4_allHold_36 ⟨Nat.zero_le _, Nat.zero_le _⟩ (fun r8 H locs h8 hP hS _ _ => ?_)
          have b8 : (0 : Int) ≤ r8.toInt ∧ r8.toInt ≤ 1 := h8
          refine lv_if_ne (tgt := 44) hx hb dX4_allHold_39 (by decide) (fun c9 => ?_) (fun c9 => ?_)
          · have t9 : r8.toInt ≠ (0 : Int) := gl_ne c9
            obtain ⟨x10, e10⟩ : ∃ t : Int32, t = w1_3 + 1 := ⟨_, rfl⟩
            refine lv_iinc (v := x10) (lv' := [(3, .int x10), (4, .ref (o + (7 + 2 * w1_3.toNatClampNeg))), (0, .ref (o + 116)), (1, .ref (o + 1)), (2, .int a1)]) hx hb dX4_allHold_44 hl (k := 1) rfl (by rw [e10]; rfl) (by decide) rfl (fun ls hl => ?_)
            have t10 : x10.toInt = w1_3.toInt + (1 : Int) := ga_add e10 rfl rfl (by omega) (by omega)
            refine lv_goto (tgt := 2) hx hb dX4_allHold_47 (by decide) ?_
            exact ih1 x10 (show (10 - x10.toInt : Int) < (n1 : Int) from by omega) ⟨by omega, by omega⟩ _ _ hP hS _ (lv_sub hl [0, 2, 3, 4] rfl)
          · have t9 : r8.toInt = (0 : Int) := gl_eq c9
            refine lv_iconst (v := 0) hx hb dX4_allHold_42 (by decide) ?_
            exact W.zret (v := 0) (ty := .boolean) hx hb hr rfl (fun t ht hW => ⟨⟨0, (), rfl, ⟨by decide, by decide⟩, by rw [ht]; exact hP, va_K.moved hW.alike hK⟩, hS.F ht⟩) hS.2.2 dX4_allHold_43
  exact loop1 11 0 (show (10 - (0 : Int) : Int) < ((11 : Nat) : Int) from by omega) ⟨by decide, by decide⟩ _ _ hP hS _ (lv_sub hl [0, 1, 2, 3] rfl)
set_option maxRecDepth 100000 in
set_option maxHeartbeats 8000000 in
theorem u_Giving_swap (l : Launch) (D : va_G) (ca : Nat → ClassId) (o : Nat) (b z : Nat → Nat → Int32) (y : Nat → Nat → Int64) (J0 : qJU b z) (a0 : Int32) (a1 : Int32) (ha0 : (0 : Int) ≤ a0.toInt ∧ a0.toInt ≤ 5) (ha1 : (0 : Int) ≤ a1.toInt ∧ a1.toInt ≤ 5) : qM l yX4_swap cX4_swap 4 none 1 60 (qPre D vwCl (qT6 ca) o 132 (qG (GU ca o) z y) [.ref (o + 116), .int a0, .int a1]) (va_Qv (fun u => qJU b u.1) (qB D vwCl (qT6 ca) o 132 (fun u : qZ => qG (GU ca o) u.1 u.2)) (qw_A o 132)) (qw_A o 132) := by
  refine Met.ofW (cc := cX4_swap) (maxL := 4) (ret := none) (by decide) rfl ?_
  intro p e s m args below meth c s₁ B hml hv
  obtain ⟨rfl, hP, hK⟩ := hv
  have hx := B.exec
  have hb := B.bytes
  have hr := B.returns
  have hts0 := atoms_spec (ws := Cond.code yX4_swap cX4_swap 4 none :: qtbl) B.pre
  have hts : ∀ w ∈ qtbl, w.before _ s = true := fun w h => hts0 w (List.mem_cons_of_mem _ h)
  have hown : s.vm.findClass RX4 = some m.cls := findClass_of_methodNamed B.named
  have hlocks := B.notSynchronized
  have hS : va_S (qw_A o 132) s.heap s.heap [] := va_S.rf
  have hl := lv_entry ([.ref (o + 116), .int a0, .int a1]) (n := 4) (Nat.le_of_ble_eq_true rfl)
  rw [lg_entry_eq]
  generalize (lg_sl ([.ref (o + 116), .int a0, .int a1]) ++ List.replicate (4 - (lg_sl ([.ref (o + 116), .int a0, .int a1])).length) Slot.unset).toArray = ls at hl ⊢
  have hl : lv_has ls 4 [(0, .ref (o + 116)), (1, .int a0), (2, .int a1)] := hl
  refine lv_aload_n hx hb dX4_swap_0 rfl (lv_at hl 0 rfl) ?_
  refine qf_get hx hb hts inX4 hown hK hP (q0 := 116) (by decide) (hgU_116 ca o) rfl 0 (by decide) wq_295 (v := .ref (o + 117)) rfl dX4_swap_1 ?_
  refine lv_iload_n hx hb dX4_swap_4 rfl (lv_at hl 1 rfl) ?_
  refine qa_iald hx hb hK hP (q0 := 117) (by decide) 0 (N := 6) (hgU_117 ca o) rfl (gi_in (by omega) (by omega)) dX4_swap_5 ?_
  refine lv_topi (fun x1 e1 => ?_)
  have b1 := iU_117 J0 e1
  refine lv_istore_n (lv' := [(3, .int x1), (0, .ref (o + 116)), (1, .int a0), (2, .int a1)]) hx hb dX4_swap_6 rfl hl (by decide) rfl (fun ls hl => ?_)
  refine lv_aload_n hx hb dX4_swap_7 rfl (lv_at hl 1 rfl) ?_
  refine qf_get hx hb hts inX4 hown hK hP (q0 := 116) (by decide) (hgU_116 ca o) rfl 0 (by decide) wq_295 (v := .ref (o + 117)) rfl dX4_swap_8 ?_
  refine lv_iload_n hx hb dX4_swap_11 rfl (lv_at hl 2 rfl) ?_
  refine lv_aload_n hx hb dX4_swap_12 rfl (lv_at hl 1 rfl) ?_
  refine qf_get hx hb hts inX4 hown hK hP (q0 := 116) (by decide) (hgU_116 ca o) rfl 0 (by decide) wq_295 (v := .ref (o + 117)) rfl dX4_swap_13 ?_
  refine lv_iload_n hx hb dX4_swap_16 rfl (lv_at hl 3 rfl) ?_
  refine qa_iald hx hb hK hP (q0 := 117) (by decide) 0 (N := 6) (hgU_117 ca o) rfl (gi_in (by omega) (by omega)) dX4_swap_17 ?_
  refine lv_topi (fun x2 e2 => ?_)
  have b2 := iU_117 J0 e2
  refine qa_iast2 hx hb hK hP hS qw_Ai (q0 := 117) (by decide) 0 (N := 6) (hgU_117 ca o) rfl (i := a0) (x := x2) (gi_in (by omega) (by omega)) dX4_swap_18 (fun z3 H locs hz3 hP hS => ?_)
  have J3 := jU_117 J0 hz3 ⟨by omega, by omega⟩
  refine lv_aload_n hx hb dX4_swap_19 rfl (lv_at hl 1 rfl) ?_
  refine qf_get hx hb hts inX4 hown hK hP (q0 := 116) (by decide) (hgU_116 ca o) rfl 0 (by decide) wq_295 (v := .ref (o + 117)) rfl dX4_swap_20 ?_
  refine lv_iload_n hx hb dX4_swap_23 rfl (lv_at hl 3 rfl) ?_
  refine lv_iload_n hx hb dX4_swap_24 rfl (lv_at hl 0 rfl) ?_
  refine qa_iast2 hx hb hK hP hS qw_Ai (q0 := 117) (by decide) 0 (N := 6) (hgU_117 ca o) rfl (i := a1) (x := x1) (gi_in (by omega) (by omega)) dX4_swap_25 (fun z4 H locs hz4 hP hS => ?_)
  have J4 := jU_117 J3 hz4 ⟨by omega, by omega⟩
  exact W.vret hx hb hr (fun t ht hW => ⟨⟨(z4, y), rfl, J4, by rw [ht]; exact hP, va_K.moved hW.alike hK⟩, hS.F ht⟩) hS.2.2 dX4_swap_26
set_option maxRecDepth 100000 in
set_option maxHeartbeats 8000000 in
theorem u_Giving_nextOrder (l : Launch) (D : va_G) (ca : Nat → ClassId) (o : Nat) (b z : Nat → Nat → Int32) (y : Nat → Nat → Int64) (J0 : qJU b z) (a0 : Int32) (ha0 : (0 : Int) ≤ a0.toInt ∧ a0.toInt ≤ 6) : qM l yX4_nextOrder cX4_nextOrder 6 (some .boolean) 2 83 (qPre D vwCl (qT6 ca) o 132 (qG (GU ca o) z y) [.ref (o + 116), .int a0]) (va_Qi (fun r u => ((0 : Int) ≤ r.toInt ∧ r.toInt ≤ 1) ∧ qJU b u.1) (qB D vwCl (qT6 ca) o 132 (fun u : qZ => qG (GU ca o) u.1 u.2)) (qw_A o 132)) (qw_A o 132) := by
  refine Met.ofW (cc := cX4_nextOrder) (maxL := 6) (ret := (some .boolean)) (by decide) rfl ?_
  intro p e s m args below meth c s₁ B hml hv
  obtain ⟨rfl, hP, hK⟩ := hv
  have hx := B.exec
  have hb := B.bytes
  have hr := B.returns
  have hts0 := atoms_spec (ws := Cond.code yX4_nextOrder cX4_nextOrder 6 (some .boolean) :: qtbl) B.pre
  have hts : ∀ w ∈ qtbl, w.before _ s = true := fun w h => hts0 w (List.mem_cons_of_mem _ h)
  have hown : s.vm.findClass RX4 = some m.cls := findClass_of_methodNamed B.named
  have hlocks := B.notSynchronized
  have hS : va_S (qw_A o 132) s.heap s.heap [] := va_S.rf
  have hl := lv_entry ([.ref (o + 116), .int a0]) (n := 6) (Nat.le_of_ble_eq_true rfl)
  rw [lg_entry_eq]
  generalize (lg_sl ([.ref (o + 116), .int a0]) ++ List.replicate (6 - (lg_sl ([.ref (o + 116), .int a0])).length) Slot.unset).toArray = ls at hl ⊢
  have hl : lv_has ls 6 [(0, .ref (o + 116)), (1, .int a0)] := hl
  refine lv_iload_n hx hb dX4_nextOrder_0 rfl (lv_at hl 1 rfl) ?_
  refine lv_iconst (v := 2) hx hb dX4_nextOrder_1 (by decide) ?_
  refine lv_isub hx hb dX4_nextOrder_2 ?_
  refine lv_topi (fun x1 e1 => ?_)
  have t1 : x1.toInt = a0.toInt - (2 : Int) := ga_sub e1 rfl rfl (by omega) (by omega)
  refine lv_istore_n (lv' := [(2, .int x1), (0, .ref (o + 116)), (1, .int a0)]) hx hb dX4_nextOrder_3 rfl hl (by decide) rfl (fun ls hl => ?_)
  have loop2 : ∀ (n : Nat) (w2_2 : Int32), ((w2_2.toInt - (-2) : Int) < (n : Int)) → ((-2 : Int) ≤ w2_2.toInt ∧ w2_2.toInt ≤ 4) → (w2_2.toInt ≤ a0.toInt - 2) → ∀ (H : Heap) (locs : List Loc), qw_P D vwCl o 132 (qG (GU ca o) z y) H → va_S (qw_A o 132) s.heap H locs → ∀ (ls : Array Slot), lv_has ls 6 [(2, .int w2_2), (0, .ref (o + 116)), (1, .int a0)] → W p l e (headSpec (Cond.code yX4_nextOrder cX4_nextOrder 6 (some .boolean) :: qtbl) ({ frames := 2, cells := 0, slots := 0, locals := 83 })).room s m (([.ref (o + 116), .int a0] : List Value).toArray) below meth c H locs 0 0 (MQ below (va_Qi (fun r u => ((0 : Int) ≤ r.toInt ∧ r.toInt ≤ 1) ∧ qJU b u.1) (qB D vwCl (qT6 ca) o 132 (fun u : qZ => qG (GU ca o) u.1 u.2)) (qw_A o 132)) (([.ref (o + 116), .int a0] : List Value).toArray) s 0 0 (qw_A o 132)) (F0 m 4 ls []) := by
    intro n
    induction n with
    | zero => intro w2_2 hb2 hv2_2 v2_0; exfalso; omega
    | succ n2 ih2 =>
      intro w2_2 hb2 hv2_2 v2_0 H locs hP hS ls hl
      refine lv_iload_n hx hb dX4_nextOrder_4 rfl (lv_at hl 0 rfl) ?_
      refine lv_if_lt (tgt := 31) hx hb dX4_nextOrder_5 (by decide) (fun c3 => ?_) (fun c3 => ?_)
      · have t3 : w2_2.toInt < (0 : Int) := gl_lt c3
        refine lv_iload_n hx hb dX4_nextOrder_31 rfl (lv_at hl 0 rfl) ?_
        refine lv_if_ge (tgt := 37) hx hb dX4_nextOrder_32 (by decide) (fun c4 => ?_) (fun c4 => ?_)
        · have t4 : w2_2.toInt ≥ (0 : Int) := gl_le c4
          exfalso; omega
        · have t4 : w2_2.toInt < (0 : Int) := gl_nle c4
          refine lv_iconst (v := 0) hx hb dX4_nextOrder_35 (by decide) ?_
          exact W.zret (v := 0) (ty := .boolean) hx hb hr rfl (fun t ht hW => ⟨⟨0, (z, y), rfl, ⟨⟨by decide, by decide⟩, J0⟩, by rw [ht]; exact hP, va_K.moved hW.alike hK⟩, hS.F ht⟩) hS.2.2 dX4_nextOrder_36
      · have t3 : w2_2.toInt ≥ (0 : Int) := gl_nlt c3
        refine lv_aload_n hx hb dX4_nextOrder_8 rfl (lv_at hl 1 rfl) ?_
        refine qf_get hx hb hts inX4 hown hK hP (q0 := 116) (by decide) (hgU_116 ca o) rfl 0 (by decide) wq_295 (v := .ref (o + 117)) rfl dX4_nextOrder_9 ?_
        refine lv_iload_n hx hb dX4_nextOrder_12 rfl (lv_at hl 0 rfl) ?_
        refine qa_iald hx hb hK hP (q0 := 117) (by decide) 0 (N := 6) (hgU_117 ca o) rfl (gi_in (by omega) (by omega)) dX4_nextOrder_13 ?_
        refine lv_topi (fun x5 e5 => ?_)
        have b5 := iU_117 J0 e5
        refine lv_aload_n hx hb dX4_nextOrder_14 rfl (lv_at hl 1 rfl) ?_
        refine qf_get hx hb hts inX4 hown hK hP (q0 := 116) (by decide) (hgU_116 ca o) rfl 0 (by decide) wq_295 (v := .ref (o + 117)) rfl dX4_nextOrder_15 ?_
        refine lv_iload_n hx hb dX4_nextOrder_18 rfl (lv_at hl 0 rfl) ?_
        refine lv_iconst (v := 1) hx hb dX4_nextOrder_19 (by decide) ?_
        refine lv_iadd hx hb dX4_nextOrder_20 ?_
        refine lv_topi (fun x6 e6 => ?_)
        have t6 : x6.toInt = w2_2.toInt + (1 : Int) := ga_add e6 rfl rfl (by omega) (by omega)
        refine qa_iald hx hb hK hP (q0 := 117) (by decide) 0 (N := 6) (hgU_117 ca o) rfl (gi_in (by omega) (by omega)) dX4_nextOrder_21 ?_
        refine lv_topi (fun x7 e7 => ?_)
        have b7 := iU_117 J0 e7
        refine lv_icmp_le (tgt := 31) hx hb dX4_nextOrder_22 (by decide) (fun c8 => ?_) (fun c8 => ?_)
        · have t8 : x5.toInt ≤ x7.toInt := gl_le c8
          refine lv_iload_n hx hb dX4_nextOrder_31 rfl (lv_at hl 0 rfl) ?_
          refine lv_if_ge (tgt := 37) hx hb dX4_nextOrder_32 (by decide) (fun c9 => ?_) (fun c9 => ?_)
          · have t9 : w2_2.toInt ≥ (0 : Int) := gl_le c9
            refine lv_iload_n hx hb dX4_nextOrder_37 rfl (lv_at hl 2 rfl) ?_
            refine lv_iconst (v := 1) hx hb dX4_nextOrder_38 (by decide) ?_
            refine lv_isub hx hb dX4_nextOrder_39 ?_
            refine lv_topi (fun x10 e10 => ?_)
            have t10 : x10.toInt = a0.toInt - (1 : Int) := ga_sub e10 rfl rfl (by omega) (by omega)
            refine lv_istore_n (lv' := [(3, .int x10), (2, .int w2_2), (0, .ref (o + 116)), (1, .int a0)]) hx hb dX4_nextOrder_40 rfl hl (by decide) rfl (fun ls hl => ?_)
            have loop11 : ∀ (n : Nat) (w11_3 : Int32), ((w11_3.toInt - 0 : Int) < (n : Int)) → ((0 : Int) ≤ w11_3.toInt ∧ w11_3.toInt ≤ 5) → (w2_2.toInt ≤ w11_3.toInt) → ∀ (H : Heap) (locs : List Loc), qw_P D vwCl o 132 (qG (GU ca o) z y) H → va_S (qw_A o 132) s.heap H locs → ∀ (ls : Array Slot), lv_has ls 6 [(3, .int w11_3), (2, .int w2_2), (0, .ref (o + 116)), (1, .int a0)] → W p l e (headSpec (Cond.code yX4_nextOrder cX4_nextOrder 6 (some .boolean) :: qtbl) ({ frames := 2, cells := 0, slots := 0, locals := 83 })).room s m (([.ref (o + 116), .int a0] : List Value).toArray) below meth c H locs 0 0 (MQ below (va_Qi (fun r u => ((0 : Int) ≤ r.toInt ∧ r.toInt ≤ 1) ∧ qJU b u.1) (qB D vwCl (qT6 ca) o 132 (fun u : qZ => qG (GU ca o) u.1 u.2)) (qw_A o 132)) (([.ref (o + 116), .int a0] : List Value).toArray) s 0 0 (qw_A o 132)) (F0 m 41 ls []) := by
              intro n
              induction n with
              | zero => intro w11_3 hb11 hv11_3 v11_0; exfalso; omega
              | succ n11 ih11 =>
                intro w11_3 hb11 hv11_3 v11_0 H locs hP hS ls hl
                refine lv_iload_n hx hb dX4_nextOrder_41 rfl (lv_at hl 0 rfl) ?_
                refine lv_iload_n hx hb dX4_nextOrder_42 rfl (lv_at hl 1 rfl) ?_
                refine lv_icmp_le (tgt := 67) hx hb dX4_nextOrder_43 (by decide) (fun c12 => ?_) (fun c12 => ?_)
                · have t12 : w11_3.toInt ≤ w2_2.toInt := gl_le c12
                  refine lv_aload_n hx hb dX4_nextOrder_67 rfl (lv_at hl 2 rfl) ?_
                  refine lv_iload_n hx hb dX4_nextOrder_68 rfl (lv_at hl 1 rfl) ?_
                  refine lv_iload_n hx hb dX4_nextOrder_69 rfl (lv_at hl 0 rfl) ?_
                  refine qc_Vv2 (As := [.int w2_2, .int w11_3]) (rest := []) (k0 := 2) (u_Giving_swap l D ca o b z y J0 w2_2 w11_3 ⟨by omega, by omega⟩ ⟨by omega, by omega⟩) kc_yX4_swap ⟨hx, hb, hml, hown, hts⟩ wq_917 rfl rfl ⟨Nat.le_of_ble_eq_true rfl, Nat.le_of_ble_eq_true rfl⟩ wq_all hP hK hS qw_Ai (q0 := 116) (by decide) (hgU_116 ca o _ _) rfl rfl hl.1 rfl (Nat.le_of_ble_eq_true rfl) dX4_nextOrder_70 ⟨Nat.zero_le _, Nat.zero_le _⟩ (fun z13 y13 H locs h13 hP hS _ _ => ?_)
                  have J13 : qJU b z13 := h13
                  refine lv_iload_n hx hb dX4_nextOrder_73 rfl (lv_at hl 1 rfl) ?_
                  refine lv_iconst (v := 1) hx hb dX4_nextOrder_74 (by decide) ?_
                  refine lv_iadd hx hb dX4_nextOrder_75 ?_
                  refine lv_topi (fun x14 e14 => ?_)
                  have t14 : x14.toInt = x6.toInt := congrArg Int32.toInt (e14.trans e6.symm)
                  refine lv_istore (lv' := [(4, .int x14), (3, .int w11_3), (2, .int w2_2), (0, .ref (o + 116)), (1, .int a0)]) hx hb dX4_nextOrder_76 hl (by decide) rfl (fun ls hl => ?_)
                  refine lv_iload_n hx hb dX4_nextOrder_78 rfl (lv_at hl 4 rfl) ?_
                  refine lv_iconst (v := 1) hx hb dX4_nextOrder_79 (by decide) ?_
                  refine lv_isub hx hb dX4_nextOrder_80 ?_
                  refine lv_topi (fun x15 e15 => ?_)
                  have t15 : x15.toInt = x10.toInt := congrArg Int32.toInt (e15.trans e10.symm)
                  refine lv_istore (lv' := [(5, .int x15), (4, .int x14), (3, .int w11_3), (2, .int w2_2), (0, .ref (o + 116)), (1, .int a0)]) hx hb dX4_nextOrder_81 hl (by decide) rfl (fun ls hl => ?_)
                  have loop16 : ∀ (n : Nat) (w16_5 : Int32) (w16_4 : Int32) (z16 : Nat → Nat → Int32) (y16 : Nat → Nat → Int64), ((w16_5.toInt - (-1) : Int) < (n : Int)) → ((-1 : Int) ≤ w16_5.toInt ∧ w16_5.toInt ≤ 5) → ((1 : Int) ≤ w16_4.toInt ∧ w16_4.toInt ≤ 5) → (qJU b z16) → ∀ (H : Heap) (locs : List Loc), qw_P D vwCl o 132 (qG (GU ca o) z16 y16) H → va_S (qw_A o 132) s.heap H locs → ∀ (ls : Array Slot), lv_has ls 6 [(5, .int w16_5), (4, .int w16_4), (3, .int w11_3), (2, .int w2_2), (0, .ref (o + 116)), (1, .int a0)] → W p l e (headSpec (Cond.code yX4_nextOrder cX4_nextOrder 6 (some .boolean) :: qtbl) ({ frames := 2, cells := 0, slots := 0, locals := 83 })).room s m (([.ref (o + 116), .int a0] : List Value).toArray) below meth c H locs 0 0 (MQ below (va_Qi (fun r u => ((0 : Int) ≤ r.toInt ∧ r.toInt ≤ 1) ∧ qJU b u.1) (qB D vwCl (qT6 ca) o 132 (fun u : qZ => qG (GU ca o) u.1 u.2)) (qw_A o 132)) (([.ref (o + 116), .int a0] : List Value).toArray) s 0 0 (qw_A o 132)) (F0 m 83 ls []) := by
                    intro n
                    induction n with
                    | zero => intro w16_5 w16_4 z16 y16 hb16 hv16_5 hv16_4 J16; exfalso; omega
                    | succ n16 ih16 =>
                      intro w16_5 w16_4 z16 y16 hb16 hv16_5 hv16_4 J16 H locs hP hS ls hl
                      refine lv_iload hx hb dX4_nextOrder_83 (lv_at hl 1 rfl) ?_
                      refine lv_iload hx hb dX4_nextOrder_85 (lv_at hl 0 rfl) ?_
                      refine lv_icmp_ge (tgt := 107) hx hb dX4_nextOrder_87 (by decide) (fun c17 => ?_) (fun c17 => ?_)
                      · have t17 : w16_4.toInt ≥ w16_5.toInt := gl_le c17
                        refine lv_iconst (v := 1) hx hb dX4_nextOrder_107 (by decide) ?_
                        exact W.zret (v := 1) (ty := .boolean) hx hb hr rfl (fun t ht hW => ⟨⟨1, (z16, y16), rfl, ⟨⟨by decide, by decide⟩, J16⟩, by rw [ht]; exact hP, va_K.moved hW.alike hK⟩, hS.F ht⟩) hS.2.2 dX4_nextOrder_108
                      · have t17 : w16_4.toInt < w16_5.toInt := gl_nle c17
                        refine lv_aload_n hx hb dX4_nextOrder_90 rfl (lv_at hl 4 rfl) ?_
                        refine lv_iload hx hb dX4_nextOrder_91 (lv_at hl 1 rfl) ?_
                        refine lv_iload hx hb dX4_nextOrder_93 (lv_at hl 0 rfl) ?_
                        refine qc_Vv2 (As := [.int w16_4, .int w16_5]) (rest := []) (k0 := 2) (u_Giving_swap l D ca o b z16 y16 J16 w16_4 w16_5 ⟨by omega, by omega⟩ ⟨by omega, by omega⟩) kc_yX4_swap ⟨hx, hb, hml, hown, hts⟩ wq_917 rfl rfl ⟨Nat.le_of_ble_eq_true rfl, Nat.le_of_ble_eq_true rfl⟩ wq_all hP hK hS qw_Ai (q0 := 116) (by decide) (hgU_116 ca o _ _) rfl rfl hl.1 rfl (Nat.le_of_ble_eq_true rfl) dX4_nextOrder_95 ⟨Nat.zero_le _, Nat.zero_le _⟩ (fun z18 y18 H locs h18 hP hS _ _ => ?_)
                        have J18 : qJU b z18 := h18
                        obtain ⟨x19, e19⟩ : ∃ t : Int32, t = w16_4 + 1 := ⟨_, rfl⟩
                        refine lv_iinc (v := x19) (lv' := [(4, .int x19), (5, .int w16_5), (3, .int w11_3), (2, .int w2_2), (0, .ref (o + 116)), (1, .int a0)]) hx hb dX4_nextOrder_98 hl (k := 1) rfl (by rw [e19]; rfl) (by decide) rfl (fun ls hl => ?_)
                        have t19 : x19.toInt = w16_4.toInt + (1 : Int) := ga_add e19 rfl rfl (by omega) (by omega)
                        obtain ⟨x20, e20⟩ : ∃ t : Int32, t = w16_5 + (-1) := ⟨_, rfl⟩
                        refine lv_iinc (v := x20) (lv' := [(5, .int x20), (4, .int x19), (3, .int w11_3), (2, .int w2_2), (0, .ref (o + 116)), (1, .int a0)]) hx hb dX4_nextOrder_101 hl (k := 1) rfl (by rw [e20]; rfl) (by decide) rfl (fun ls hl => ?_)
                        have t20 : x20.toInt = w16_5.toInt + (-1 : Int) := ga_add e20 rfl rfl (by omega) (by omega)
                        refine lv_goto (tgt := 83) hx hb dX4_nextOrder_104 (by decide) ?_
                        exact ih16 x20 x19 z18 y18 (show (x20.toInt - (-1) : Int) < (n16 : Int) from by omega) ⟨by omega, by omega⟩ ⟨by omega, by omega⟩ J18 _ _ hP hS _ (lv_sub hl [0, 1, 2, 3, 4, 5] rfl)
                  exact loop16 7 x15 x14 z13 y13 (show (x15.toInt - (-1) : Int) < ((7 : Nat) : Int) from by omega) ⟨by omega, by omega⟩ ⟨by omega, by omega⟩ J13 _ _ hP hS _ (lv_sub hl [0, 1, 2, 3, 4, 5] rfl)
                · have t12 : w11_3.toInt > w2_2.toInt := gl_nle c12
                  refine lv_aload_n hx hb dX4_nextOrder_46 rfl (lv_at hl 2 rfl) ?_
                  refine qf_get hx hb hts inX4 hown hK hP (q0 := 116) (by decide) (hgU_116 ca o) rfl 0 (by decide) wq_295 (v := .ref (o + 117)) rfl dX4_nextOrder_47 ?_
                  refine lv_iload_n hx hb dX4_nextOrder_50 rfl (lv_at hl 0 rfl) ?_
                  refine qa_iald hx hb hK hP (q0 := 117) (by decide) 0 (N := 6) (hgU_117 ca o) rfl (gi_in (by omega) (by omega)) dX4_nextOrder_51 ?_
                  refine lv_topi (fun x21 e21 => ?_)
                  have b21 := iU_117 J0 e21
                  refine lv_aload_n hx hb dX4_nextOrder_52 rfl (lv_at hl 2 rfl) ?_
                  refine qf_get hx hb hts inX4 hown hK hP (q0 := 116) (by decide) (hgU_116 ca o) rfl 0 (by decide) wq_295 (v := .ref (o + 117)) rfl dX4_nextOrder_53 ?_
                  refine lv_iload_n hx hb dX4_nextOrder_56 rfl (lv_at hl 1 rfl) ?_
                  refine qa_iald hx hb hK hP (q0 := 117) (by decide) 0 (N := 6) (hgU_117 ca o) rfl (gi_in (by omega) (by omega)) dX4_nextOrder_57 ?_
                  refine lv_topi (fun x22 e22 => ?_)
                  have b22 := iU_117 J0 e22
                  have ag22 : x22.toInt = x5.toInt := congrArg Int32.toInt (e22.trans e5.symm)
                  refine lv_icmp_ge (tgt := 67) hx hb dX4_nextOrder_58 (by decide) (fun c23 => ?_) (fun c23 => ?_)
                  · have t23 : x21.toInt ≥ x22.toInt := gl_le c23
                    refine lv_aload_n hx hb dX4_nextOrder_67 rfl (lv_at hl 2 rfl) ?_
                    refine lv_iload_n hx hb dX4_nextOrder_68 rfl (lv_at hl 1 rfl) ?_
                    refine lv_iload_n hx hb dX4_nextOrder_69 rfl (lv_at hl 0 rfl) ?_
                    refine qc_Vv2 (As := [.int w2_2, .int w11_3]) (rest := []) (k0 := 2) (u_Giving_swap l D ca o b z y J0 w2_2 w11_3 ⟨by omega, by omega⟩ ⟨by omega, by omega⟩) kc_yX4_swap ⟨hx, hb, hml, hown, hts⟩ wq_917 rfl rfl ⟨Nat.le_of_ble_eq_true rfl, Nat.le_of_ble_eq_true rfl⟩ wq_all hP hK hS qw_Ai (q0 := 116) (by decide) (hgU_116 ca o _ _) rfl rfl hl.1 rfl (Nat.le_of_ble_eq_true rfl) dX4_nextOrder_70 ⟨Nat.zero_le _, Nat.zero_le _⟩ (fun z24 y24 H locs h24 hP hS _ _ => ?_)
                    have J24 : qJU b z24 := h24
                    refine lv_iload_n hx hb dX4_nextOrder_73 rfl (lv_at hl 1 rfl) ?_
                    refine lv_iconst (v := 1) hx hb dX4_nextOrder_74 (by decide) ?_
                    refine lv_iadd hx hb dX4_nextOrder_75 ?_
                    refine lv_topi (fun x25 e25 => ?_)
                    have t25 : x25.toInt = x6.toInt := congrArg Int32.toInt (e25.trans e6.symm)
                    refine lv_istore (lv' := [(4, .int x25), (3, .int w11_3), (2, .int w2_2), (0, .ref (o + 116)), (1, .int a0)]) hx hb dX4_nextOrder_76 hl (by decide) rfl (fun ls hl => ?_)
                    refine lv_iload_n hx hb dX4_nextOrder_78 rfl (lv_at hl 4 rfl) ?_
                    refine lv_iconst (v := 1) hx hb dX4_nextOrder_79 (by decide) ?_
                    refine lv_isub hx hb dX4_nextOrder_80 ?_
                    refine lv_topi (fun x26 e26 => ?_)
                    have t26 : x26.toInt = x10.toInt := congrArg Int32.toInt (e26.trans e10.symm)
                    refine lv_istore (lv' := [(5, .int x26), (4, .int x25), (3, .int w11_3), (2, .int w2_2), (0, .ref (o + 116)), (1, .int a0)]) hx hb dX4_nextOrder_81 hl (by decide) rfl (fun ls hl => ?_)
                    have loop27 : ∀ (n : Nat) (w27_5 : Int32) (w27_4 : Int32) (z27 : Nat → Nat → Int32) (y27 : Nat → Nat → Int64), ((w27_5.toInt - (-1) : Int) < (n : Int)) → ((-1 : Int) ≤ w27_5.toInt ∧ w27_5.toInt ≤ 5) → ((1 : Int) ≤ w27_4.toInt ∧ w27_4.toInt ≤ 5) → (qJU b z27) → ∀ (H : Heap) (locs : List Loc), qw_P D vwCl o 132 (qG (GU ca o) z27 y27) H → va_S (qw_A o 132) s.heap H locs → ∀ (ls : Array Slot), lv_has ls 6 [(5, .int w27_5), (4, .int w27_4), (3, .int w11_3), (2, .int w2_2), (0, .ref (o + 116)), (1, .int a0)] → W p l e (headSpec (Cond.code yX4_nextOrder cX4_nextOrder 6 (some .boolean) :: qtbl) ({ frames := 2, cells := 0, slots := 0, locals := 83 })).room s m (([.ref (o + 116), .int a0] : List Value).toArray) below meth c H locs 0 0 (MQ below (va_Qi (fun r u => ((0 : Int) ≤ r.toInt ∧ r.toInt ≤ 1) ∧ qJU b u.1) (qB D vwCl (qT6 ca) o 132 (fun u : qZ => qG (GU ca o) u.1 u.2)) (qw_A o 132)) (([.ref (o + 116), .int a0] : List Value).toArray) s 0 0 (qw_A o 132)) (F0 m 83 ls []) := by
                      intro n
                      induction n with
                      | zero => intro w27_5 w27_4 z27 y27 hb27 hv27_5 hv27_4 J27; exfalso; omega
                      | succ n27 ih27 =>
                        intro w27_5 w27_4 z27 y27 hb27 hv27_5 hv27_4 J27 H locs hP hS ls hl
                        refine lv_iload hx hb dX4_nextOrder_83 (lv_at hl 1 rfl) ?_
                        refine lv_iload hx hb dX4_nextOrder_85 (lv_at hl 0 rfl) ?_
                        refine lv_icmp_ge (tgt := 107) hx hb dX4_nextOrder_87 (by decide) (fun c28 => ?_) (fun c28 => ?_)
                        · have t28 : w27_4.toInt ≥ w27_5.toInt := gl_le c28
                          refine lv_iconst (v := 1) hx hb dX4_nextOrder_107 (by decide) ?_
                          exact W.zret (v := 1) (ty := .boolean) hx hb hr rfl (fun t ht hW => ⟨⟨1, (z27, y27), rfl, ⟨⟨by decide, by decide⟩, J27⟩, by rw [ht]; exact hP, va_K.moved hW.alike hK⟩, hS.F ht⟩) hS.2.2 dX4_nextOrder_108
                        · have t28 : w27_4.toInt < w27_5.toInt := gl_nle c28
                          refine lv_aload_n hx hb dX4_nextOrder_90 rfl (lv_at hl 4 rfl) ?_
                          refine lv_iload hx hb dX4_nextOrder_91 (lv_at hl 1 rfl) ?_
                          refine lv_iload hx hb dX4_nextOrder_93 (lv_at hl 0 rfl) ?_
                          refine qc_Vv2 (As := [.int w27_4, .int w27_5]) (rest := []) (k0 := 2) (u_Giving_swap l D ca o b z27 y27 J27 w27_4 w27_5 ⟨by omega, by omega⟩ ⟨by omega, by omega⟩) kc_yX4_swap ⟨hx, hb, hml, hown, hts⟩ wq_917 rfl rfl ⟨Nat.le_of_ble_eq_true rfl, Nat.le_of_ble_eq_true rfl⟩ wq_all hP hK hS qw_Ai (q0 := 116) (by decide) (hgU_116 ca o _ _) rfl rfl hl.1 rfl (Nat.le_of_ble_eq_true rfl) dX4_nextOrder_95 ⟨Nat.zero_le _, Nat.zero_le _⟩ (fun z29 y29 H locs h29 hP hS _ _ => ?_)
                          have J29 : qJU b z29 := h29
                          obtain ⟨x30, e30⟩ : ∃ t : Int32, t = w27_4 + 1 := ⟨_, rfl⟩
                          refine lv_iinc (v := x30) (lv' := [(4, .int x30), (5, .int w27_5), (3, .int w11_3), (2, .int w2_2), (0, .ref (o + 116)), (1, .int a0)]) hx hb dX4_nextOrder_98 hl (k := 1) rfl (by rw [e30]; rfl) (by decide) rfl (fun ls hl => ?_)
                          have t30 : x30.toInt = w27_4.toInt + (1 : Int) := ga_add e30 rfl rfl (by omega) (by omega)
                          obtain ⟨x31, e31⟩ : ∃ t : Int32, t = w27_5 + (-1) := ⟨_, rfl⟩
                          refine lv_iinc (v := x31) (lv' := [(5, .int x31), (4, .int x30), (3, .int w11_3), (2, .int w2_2), (0, .ref (o + 116)), (1, .int a0)]) hx hb dX4_nextOrder_101 hl (k := 1) rfl (by rw [e31]; rfl) (by decide) rfl (fun ls hl => ?_)
                          have t31 : x31.toInt = w27_5.toInt + (-1 : Int) := ga_add e31 rfl rfl (by omega) (by omega)
                          refine lv_goto (tgt := 83) hx hb dX4_nextOrder_104 (by decide) ?_
                          exact ih27 x31 x30 z29 y29 (show (x31.toInt - (-1) : Int) < (n27 : Int) from by omega) ⟨by omega, by omega⟩ ⟨by omega, by omega⟩ J29 _ _ hP hS _ (lv_sub hl [0, 1, 2, 3, 4, 5] rfl)
                    exact loop27 7 x26 x25 z24 y24 (show (x26.toInt - (-1) : Int) < ((7 : Nat) : Int) from by omega) ⟨by omega, by omega⟩ ⟨by omega, by omega⟩ J24 _ _ hP hS _ (lv_sub hl [0, 1, 2, 3, 4, 5] rfl)
                  · have t23 : x21.toInt < x22.toInt := gl_nle c23
                    obtain ⟨x32, e32⟩ : ∃ t : Int32, t = w11_3 + (-1) := ⟨_, rfl⟩
                    refine lv_iinc (v := x32) (lv' := [(3, .int x32), (2, .int w2_2), (0, .ref (o + 116)), (1, .int a0)]) hx hb dX4_nextOrder_61 hl (k := 0) rfl (by rw [e32]; rfl) (by decide) rfl (fun ls hl => ?_)
                    have t32 : x32.toInt = w11_3.toInt + (-1 : Int) := ga_add e32 rfl rfl (by omega) (by omega)
                    refine lv_goto (tgt := 41) hx hb dX4_nextOrder_64 (by decide) ?_
                    exact ih11 x32 (show (x32.toInt - 0 : Int) < (n11 : Int) from by omega) ⟨by omega, by omega⟩ (show w2_2.toInt ≤ x32.toInt from by omega) _ _ hP hS _ (lv_sub hl [0, 1, 2, 3] rfl)
            exact loop11 6 x10 (show (x10.toInt - 0 : Int) < ((6 : Nat) : Int) from by omega) ⟨by omega, by omega⟩ (show w2_2.toInt ≤ x10.toInt from by omega) _ _ hP hS _ (lv_sub hl [0, 1, 2, 3] rfl)
          · have t9 : w2_2.toInt < (0 : Int) := gl_nle c9
            exfalso; omega
        · have t8 : x5.toInt > x7.toInt := gl_nle c8
          obtain ⟨x33, e33⟩ : ∃ t : Int32, t = w2_2 + (-1) := ⟨_, rfl⟩
          refine lv_iinc (v := x33) (lv' := [(2, .int x33), (0, .ref (o + 116)), (1, .int a0)]) hx hb dX4_nextOrder_25 hl (k := 0) rfl (by rw [e33]; rfl) (by decide) rfl (fun ls hl => ?_)
          have t33 : x33.toInt = w2_2.toInt + (-1 : Int) := ga_add e33 rfl rfl (by omega) (by omega)
          refine lv_goto (tgt := 4) hx hb dX4_nextOrder_28 (by decide) ?_
          exact ih2 x33 (show (x33.toInt - (-2) : Int) < (n2 : Int) from by omega) ⟨by omega, by omega⟩ (show x33.toInt ≤ a0.toInt - 2 from by omega) _ _ hP hS _ (lv_sub hl [0, 1, 2] rfl)
  exact loop2 7 x1 (show (x1.toInt - (-2) : Int) < ((7 : Nat) : Int) from by omega) ⟨by omega, by omega⟩ (show x1.toInt ≤ a0.toInt - 2 from by omega) _ _ hP hS _ (lv_sub hl [0, 1, 2] rfl)
set_option maxRecDepth 100000 in
set_option maxHeartbeats 8000000 in
theorem u_Giving_noteWay (l : Launch) (D : va_G) (ca : Nat → ClassId) (o : Nat) (b z : Nat → Nat → Int32) (y : Nat → Nat → Int64) (J0 : qJU b z) (a0 : Int32)  : qM l yX4_noteWay cX4_noteWay 4 none 1 60 (qPre D vwCl (qT6 ca) o 132 (qG (GU ca o) z y) [.ref (o + 116), .int a0]) (va_Qv (fun u => qJU b u.1) (qB D vwCl (qT6 ca) o 132 (fun u : qZ => qG (GU ca o) u.1 u.2)) (qw_A o 132)) (qw_A o 132) := by
  refine Met.ofW (cc := cX4_noteWay) (maxL := 4) (ret := none) (by decide) rfl ?_
  intro p e s m args below meth c s₁ B hml hv
  obtain ⟨rfl, hP, hK⟩ := hv
  have hx := B.exec
  have hb := B.bytes
  have hr := B.returns
  have hts0 := atoms_spec (ws := Cond.code yX4_noteWay cX4_noteWay 4 none :: qtbl) B.pre
  have hts : ∀ w ∈ qtbl, w.before _ s = true := fun w h => hts0 w (List.mem_cons_of_mem _ h)
  have hown : s.vm.findClass RX4 = some m.cls := findClass_of_methodNamed B.named
  have hlocks := B.notSynchronized
  have hS : va_S (qw_A o 132) s.heap s.heap [] := va_S.rf
  have hl := lv_entry ([.ref (o + 116), .int a0]) (n := 4) (Nat.le_of_ble_eq_true rfl)
  rw [lg_entry_eq]
  generalize (lg_sl ([.ref (o + 116), .int a0]) ++ List.replicate (4 - (lg_sl ([.ref (o + 116), .int a0])).length) Slot.unset).toArray = ls at hl ⊢
  have hl : lv_has ls 4 [(0, .ref (o + 116)), (1, .int a0)] := hl
  refine lv_iconst (v := 0) hx hb dX4_noteWay_0 (by decide) ?_
  refine lv_istore_n (lv' := [(2, .int 0), (0, .ref (o + 116)), (1, .int a0)]) hx hb dX4_noteWay_1 rfl hl (by decide) rfl (fun ls hl => ?_)
  refine lv_iconst (v := 0) hx hb dX4_noteWay_2 (by decide) ?_
  refine lv_istore_n (lv' := [(3, .int 0), (2, .int 0), (0, .ref (o + 116)), (1, .int a0)]) hx hb dX4_noteWay_3 rfl hl (by decide) rfl (fun ls hl => ?_)
  have loop1 : ∀ (n : Nat) (w1_3 : Int32) (w1_2 : Int32) (z1 : Nat → Nat → Int32) (y1 : Nat → Nat → Int64), ((6 - w1_3.toInt : Int) < (n : Int)) → ((0 : Int) ≤ w1_3.toInt ∧ w1_3.toInt ≤ 6) → ((0 : Int) ≤ w1_2.toInt ∧ w1_2.toInt ≤ 6) → (qJU b z1) → (w1_2.toInt ≤ w1_3.toInt) → ∀ (H : Heap) (locs : List Loc), qw_P D vwCl o 132 (qG (GU ca o) z1 y1) H → va_S (qw_A o 132) s.heap H locs → ∀ (ls : Array Slot), lv_has ls 4 [(3, .int w1_3), (2, .int w1_2), (0, .ref (o + 116)), (1, .int a0)] → W p l e (headSpec (Cond.code yX4_noteWay cX4_noteWay 4 none :: qtbl) ({ frames := 1, cells := 0, slots := 0, locals := 60 })).room s m (([.ref (o + 116), .int a0] : List Value).toArray) below meth c H locs 0 0 (MQ below (va_Qv (fun u => qJU b u.1) (qB D vwCl (qT6 ca) o 132 (fun u : qZ => qG (GU ca o) u.1 u.2)) (qw_A o 132)) (([.ref (o + 116), .int a0] : List Value).toArray) s 0 0 (qw_A o 132)) (F0 m 4 ls []) := by
    intro n
    induction n with
    | zero => intro w1_3 w1_2 z1 y1 hb1 hv1_3 hv1_2 J1 v1_0; exfalso; omega
    | succ n1 ih1 =>
      intro w1_3 w1_2 z1 y1 hb1 hv1_3 hv1_2 J1 v1_0 H locs hP hS ls hl
      refine lv_iload_n hx hb dX4_noteWay_4 rfl (lv_at hl 0 rfl) ?_
      refine lv_bipush (v := 6) hx hb dX4_noteWay_5 (by decide) ?_
      refine lv_icmp_ge (tgt := 46) hx hb dX4_noteWay_7 (by decide) (fun c2 => ?_) (fun c2 => ?_)
      · have t2 : w1_3.toInt ≥ (6 : Int) := gl_le c2
        refine lv_aload_n hx hb dX4_noteWay_46 rfl (lv_at hl 2 rfl) ?_
        refine lv_dup hx hb dX4_noteWay_47 rfl ?_
        refine qf_get hx hb hts inX4 hown hK hP (q0 := 116) (by decide) (hgU_116 ca o) rfl 3 (by decide) wq_299 (v := .int (z1 116 3)) rfl dX4_noteWay_48 ?_
        refine lv_topi (fun x3 e3 => ?_)
        refine lv_iconst (v := 1) hx hb dX4_noteWay_51 (by decide) ?_
        refine lv_iadd hx hb dX4_noteWay_52 ?_
        refine lv_topi (fun x4 e4 => ?_)
        refine qf_put2 hx hb hts inX4 tyX4 tyX4_ok nmX4 hown hK hP hS qw_Ai (q0 := 116) (by decide) (hgU_116 ca o) rfl 3 (by decide) wq_299 rfl (x := x4) 3 rfl rfl rfl (Nat.le_of_ble_eq_true rfl) dX4_noteWay_53 (fun z5 H locs hz5 hP hS => ?_)
        have J5 := jU_116_3 J1 hz5
        exact W.vret hx hb hr (fun t ht hW => ⟨⟨(z5, y1), rfl, J5, by rw [ht]; exact hP, va_K.moved hW.alike hK⟩, hS.F ht⟩) hS.2.2 dX4_noteWay_56
      · have t2 : w1_3.toInt < (6 : Int) := gl_nle c2
        refine lv_aload_n hx hb dX4_noteWay_10 rfl (lv_at hl 2 rfl) ?_
        refine qf_get hx hb hts inX4 hown hK hP (q0 := 116) (by decide) (hgU_116 ca o) rfl 3 (by decide) wq_299 (v := .int (z1 116 3)) rfl dX4_noteWay_11 ?_
        refine lv_topi (fun x6 e6 => ?_)
        refine lv_if_ne (tgt := 46) hx hb dX4_noteWay_14 (by decide) (fun c7 => ?_) (fun c7 => ?_)
        · have t7 : x6.toInt ≠ (0 : Int) := gl_ne c7
          refine lv_aload_n hx hb dX4_noteWay_46 rfl (lv_at hl 2 rfl) ?_
          refine lv_dup hx hb dX4_noteWay_47 rfl ?_
          refine qf_get hx hb hts inX4 hown hK hP (q0 := 116) (by decide) (hgU_116 ca o) rfl 3 (by decide) wq_299 (v := .int (z1 116 3)) rfl dX4_noteWay_48 ?_
          refine lv_topi (fun x8 e8 => ?_)
          have ag8 : x8.toInt = x6.toInt := congrArg Int32.toInt (e8.trans e6.symm)
          refine lv_iconst (v := 1) hx hb dX4_noteWay_51 (by decide) ?_
          refine lv_iadd hx hb dX4_noteWay_52 ?_
          refine lv_topi (fun x9 e9 => ?_)
          refine qf_put2 hx hb hts inX4 tyX4 tyX4_ok nmX4 hown hK hP hS qw_Ai (q0 := 116) (by decide) (hgU_116 ca o) rfl 3 (by decide) wq_299 rfl (x := x9) 3 rfl rfl rfl (Nat.le_of_ble_eq_true rfl) dX4_noteWay_53 (fun z10 H locs hz10 hP hS => ?_)
          have J10 := jU_116_3 J1 hz10
          exact W.vret hx hb hr (fun t ht hW => ⟨⟨(z10, y1), rfl, J10, by rw [ht]; exact hP, va_K.moved hW.alike hK⟩, hS.F ht⟩) hS.2.2 dX4_noteWay_56
        · have t7 : x6.toInt = (0 : Int) := gl_eq c7
          refine lv_iload_n hx hb dX4_noteWay_17 rfl (lv_at hl 3 rfl) ?_
          refine lv_iload_n hx hb dX4_noteWay_18 rfl (lv_at hl 0 rfl) ?_
          refine lv_ishr hx hb dX4_noteWay_19 ?_
          refine lv_topi (fun x11 e11 => ?_)
          refine lv_iconst (v := 1) hx hb dX4_noteWay_20 (by decide) ?_
          refine lv_iand hx hb dX4_noteWay_21 ?_
          refine lv_topi (fun x12 e12 => ?_)
          have t12 : 0 ≤ x12.toInt ∧ x12.toInt ≤ (1 : Int) := ga_and e12 rfl (by omega)
          refine lv_if_eq (tgt := 40) hx hb dX4_noteWay_22 (by decide) (fun c13 => ?_) (fun c13 => ?_)
          · have t13 : x12.toInt = (0 : Int) := gl_eq c13
            obtain ⟨x14, e14⟩ : ∃ t : Int32, t = w1_3 + 1 := ⟨_, rfl⟩
            refine lv_iinc (v := x14) (lv' := [(3, .int x14), (2, .int w1_2), (0, .ref (o + 116)), (1, .int a0)]) hx hb dX4_noteWay_40 hl (k := 0) rfl (by rw [e14]; rfl) (by decide) rfl (fun ls hl => ?_)
            have t14 : x14.toInt = w1_3.toInt + (1 : Int) := ga_add e14 rfl rfl (by omega) (by omega)
            refine lv_goto (tgt := 4) hx hb dX4_noteWay_43 (by decide) ?_
            exact ih1 x14 w1_2 z1 y1 (show (6 - x14.toInt : Int) < (n1 : Int) from by omega) ⟨by omega, by omega⟩ ⟨by omega, by omega⟩ J1 (show w1_2.toInt ≤ x14.toInt from by omega) _ _ hP hS _ (lv_sub hl [0, 1, 2, 3] rfl)
          · have t13 : x12.toInt ≠ (0 : Int) := gl_ne c13
            refine lv_aload_n hx hb dX4_noteWay_25 rfl (lv_at hl 2 rfl) ?_
            refine qf_get hx hb hts inX4 hown hK hP (q0 := 116) (by decide) (hgU_116 ca o) rfl 2 (by decide) wq_297 (v := .ref (o + 119)) rfl dX4_noteWay_26 ?_
            refine lv_iload_n hx hb dX4_noteWay_29 rfl (lv_at hl 0 rfl) ?_
            refine lv_aload_n hx hb dX4_noteWay_30 rfl (lv_at hl 2 rfl) ?_
            refine qf_get hx hb hts inX4 hown hK hP (q0 := 116) (by decide) (hgU_116 ca o) rfl 0 (by decide) wq_295 (v := .ref (o + 117)) rfl dX4_noteWay_31 ?_
            refine lv_iload_n hx hb dX4_noteWay_34 rfl (lv_at hl 1 rfl) ?_
            refine qa_iald hx hb hK hP (q0 := 117) (by decide) 0 (N := 6) (hgU_117 ca o) rfl (gi_in (by omega) (by omega)) dX4_noteWay_35 ?_
            refine lv_topi (fun x15 e15 => ?_)
            have b15 := iU_117 J1 e15
            refine qa_iast2 hx hb hK hP hS qw_Ai (q0 := 119) (by decide) 0 (N := 6) (hgU_119 ca o) rfl (i := w1_3) (x := x15) (gi_in (by omega) (by omega)) dX4_noteWay_36 (fun z16 H locs hz16 hP hS => ?_)
            have J16 := jU_119 J1 hz16
            obtain ⟨x17, e17⟩ : ∃ t : Int32, t = w1_2 + 1 := ⟨_, rfl⟩
            refine lv_iinc (v := x17) (lv' := [(2, .int x17), (3, .int w1_3), (0, .ref (o + 116)), (1, .int a0)]) hx hb dX4_noteWay_37 hl (k := 1) rfl (by rw [e17]; rfl) (by decide) rfl (fun ls hl => ?_)
            have t17 : x17.toInt = w1_2.toInt + (1 : Int) := ga_add e17 rfl rfl (by omega) (by omega)
            obtain ⟨x18, e18⟩ : ∃ t : Int32, t = w1_3 + 1 := ⟨_, rfl⟩
            refine lv_iinc (v := x18) (lv' := [(3, .int x18), (2, .int x17), (0, .ref (o + 116)), (1, .int a0)]) hx hb dX4_noteWay_40 hl (k := 1) rfl (by rw [e18]; rfl) (by decide) rfl (fun ls hl => ?_)
            have t18 : x18.toInt = w1_3.toInt + (1 : Int) := ga_add e18 rfl rfl (by omega) (by omega)
            refine lv_goto (tgt := 4) hx hb dX4_noteWay_43 (by decide) ?_
            exact ih1 x18 x17 z16 y1 (show (6 - x18.toInt : Int) < (n1 : Int) from by omega) ⟨by omega, by omega⟩ ⟨by omega, by omega⟩ J16 (show x17.toInt ≤ x18.toInt from by omega) _ _ hP hS _ (lv_sub hl [0, 1, 2, 3] rfl)
  exact loop1 7 0 0 z y (show (6 - (0 : Int) : Int) < ((7 : Nat) : Int) from by omega) ⟨by decide, by decide⟩ ⟨by decide, by decide⟩ J0 (show (0 : Int) ≤ (0 : Int) from by omega) _ _ hP hS _ (lv_sub hl [0, 1, 2, 3] rfl)
set_option maxRecDepth 100000 in
set_option maxHeartbeats 8000000 in
theorem u_Giving_giveAll (l : Launch) (D : va_G) (ca : Nat → ClassId) (o : Nat) (b z : Nat → Nat → Int32) (y : Nat → Nat → Int64) (J0 : qJU b z) (a2 : Int32) (a3 : Int32)  : qM l yX4_giveAll cX4_giveAll 7 none 3 108 (qPre D vwCl (qT6 ca) o 132 (qG (GU ca o) z y) [.ref (o + 116), .ref (o + 1), .ref (o + 77), .int a2, .int a3]) (va_Qv (fun u => qJU b u.1) (qB D vwCl (qT6 ca) o 132 (fun u : qZ => qG (GU ca o) u.1 u.2)) (qw_A o 132)) (qw_A o 132) := by
  refine Met.ofW (cc := cX4_giveAll) (maxL := 7) (ret := none) (by decide) rfl ?_
  intro p e s m args below meth c s₁ B hml hv
  obtain ⟨rfl, hP, hK⟩ := hv
  have hx := B.exec
  have hb := B.bytes
  have hr := B.returns
  have hts0 := atoms_spec (ws := Cond.code yX4_giveAll cX4_giveAll 7 none :: qtbl) B.pre
  have hts : ∀ w ∈ qtbl, w.before _ s = true := fun w h => hts0 w (List.mem_cons_of_mem _ h)
  have hown : s.vm.findClass RX4 = some m.cls := findClass_of_methodNamed B.named
  have hlocks := B.notSynchronized
  have hS : va_S (qw_A o 132) s.heap s.heap [] := va_S.rf
  have hl := lv_entry ([.ref (o + 116), .ref (o + 1), .ref (o + 77), .int a2, .int a3]) (n := 7) (Nat.le_of_ble_eq_true rfl)
  rw [lg_entry_eq]
  generalize (lg_sl ([.ref (o + 116), .ref (o + 1), .ref (o + 77), .int a2, .int a3]) ++ List.replicate (7 - (lg_sl ([.ref (o + 116), .ref (o + 1), .ref (o + 77), .int a2, .int a3])).length) Slot.unset).toArray = ls at hl ⊢
  have hl : lv_has ls 7 [(0, .ref (o + 116)), (1, .ref (o + 1)), (2, .ref (o + 77)), (3, .int a2), (4, .int a3)] := hl
  refine lv_iload_n hx hb dX4_giveAll_0 rfl (lv_at hl 3 rfl) ?_
  refine qc_Sip (As := [.int a2]) (rest := []) (k0 := 1) (u_Integer_bitCount l D ca o b z y J0 a2) kc_yJ6_bitCount_0f7a4 ⟨hx, hb, hml, hown, hts⟩ wq_897 rfl rfl ⟨Nat.le_of_ble_eq_true rfl, Nat.le_of_ble_eq_true rfl⟩ wq_all hP hK hS qw_Ai rfl hl.1 rfl (Nat.le_of_ble_eq_true rfl) dX4_giveAll_1 ⟨Nat.zero_le _, Nat.zero_le _⟩ (fun r1 H locs h1 hP hS _ _ => ?_)
  have b1 : (0 : Int) ≤ r1.toInt ∧ r1.toInt ≤ 63 := h1
  refine lv_bipush (v := 6) hx hb dX4_giveAll_4 (by decide) ?_
  refine va_mmin hx hb (hml.trans hl.1.symm) hown (hts _ wq_898) (hts _ wq_444) (hts _ wq_14) (hts _ wq_445) (Nat.le_of_ble_eq_true rfl) (Nat.le_of_ble_eq_true rfl) (Nat.zero_le _) (Nat.zero_le _) dX4_giveAll_6 ?_
  refine lv_topi (fun x2 e2 => ?_)
  have t2 : x2.toInt = min r1.toInt (6 : Int) := ga_min e2
  refine lv_istore (lv' := [(5, .int x2), (0, .ref (o + 116)), (1, .ref (o + 1)), (2, .ref (o + 77)), (3, .int a2), (4, .int a3)]) hx hb dX4_giveAll_9 hl (by decide) rfl (fun ls hl => ?_)
  refine lv_aload_n hx hb dX4_giveAll_11 rfl (lv_at hl 1 rfl) ?_
  refine lv_iconst (v := 0) hx hb dX4_giveAll_12 (by decide) ?_
  refine qf_put2 hx hb hts inX4 tyX4 tyX4_ok nmX4 hown hK hP hS qw_Ai (q0 := 116) (by decide) (hgU_116 ca o) rfl 3 (by decide) wq_299 rfl (x := 0) 3 rfl rfl rfl (Nat.le_of_ble_eq_true rfl) dX4_giveAll_13 (fun z3 H locs hz3 hP hS => ?_)
  have J3 := jU_116_3 J0 hz3
  refine lv_iconst (v := 0) hx hb dX4_giveAll_16 (by decide) ?_
  refine lv_istore (lv' := [(6, .int 0), (5, .int x2), (0, .ref (o + 116)), (1, .ref (o + 1)), (2, .ref (o + 77)), (3, .int a2), (4, .int a3)]) hx hb dX4_giveAll_17 hl (by decide) rfl (fun ls hl => ?_)
  have loop4 : ∀ (n : Nat) (w4_6 : Int32) (z4 : Nat → Nat → Int32) (y4 : Nat → Nat → Int64), ((6 - w4_6.toInt : Int) < (n : Int)) → ((0 : Int) ≤ w4_6.toInt ∧ w4_6.toInt ≤ 6) → (qJU b z4) → ∀ (H : Heap) (locs : List Loc), qw_P D vwCl o 132 (qG (GU ca o) z4 y4) H → va_S (qw_A o 132) s.heap H locs → ∀ (ls : Array Slot), lv_has ls 7 [(6, .int w4_6), (5, .int x2), (0, .ref (o + 116)), (1, .ref (o + 1)), (2, .ref (o + 77)), (3, .int a2), (4, .int a3)] → W p l e (headSpec (Cond.code yX4_giveAll cX4_giveAll 7 none :: qtbl) ({ frames := 3, cells := 0, slots := 0, locals := 108 })).room s m (([.ref (o + 116), .ref (o + 1), .ref (o + 77), .int a2, .int a3] : List Value).toArray) below meth c H locs 0 0 (MQ below (va_Qv (fun u => qJU b u.1) (qB D vwCl (qT6 ca) o 132 (fun u : qZ => qG (GU ca o) u.1 u.2)) (qw_A o 132)) (([.ref (o + 116), .ref (o + 1), .ref (o + 77), .int a2, .int a3] : List Value).toArray) s 0 0 (qw_A o 132)) (F0 m 19 ls []) := by
    intro n
    induction n with
    | zero => intro w4_6 z4 y4 hb4 hv4_6 J4; exfalso; omega
    | succ n4 ih4 =>
      intro w4_6 z4 y4 hb4 hv4_6 J4 H locs hP hS ls hl
      refine lv_iload hx hb dX4_giveAll_19 (lv_at hl 0 rfl) ?_
      refine lv_bipush (v := 6) hx hb dX4_giveAll_21 (by decide) ?_
      refine lv_icmp_ge (tgt := 49) hx hb dX4_giveAll_23 (by decide) (fun c5 => ?_) (fun c5 => ?_)
      · have t5 : w4_6.toInt ≥ (6 : Int) := gl_le c5
        refine lv_iconst (v := 0) hx hb dX4_giveAll_49 (by decide) ?_
        refine lv_istore (lv' := [(6, .int 0), (5, .int x2), (0, .ref (o + 116)), (1, .ref (o + 1)), (2, .ref (o + 77)), (3, .int a2), (4, .int a3)]) hx hb dX4_giveAll_50 hl (by decide) rfl (fun ls hl => ?_)
        have loop6 : ∀ (n : Nat) (w6_6 : Int32) (z6 : Nat → Nat → Int32) (y6 : Nat → Nat → Int64), ((720 - w6_6.toInt : Int) < (n : Int)) → ((0 : Int) ≤ w6_6.toInt ∧ w6_6.toInt ≤ 720) → (qJU b z6) → ∀ (H : Heap) (locs : List Loc), qw_P D vwCl o 132 (qG (GU ca o) z6 y6) H → va_S (qw_A o 132) s.heap H locs → ∀ (ls : Array Slot), lv_has ls 7 [(6, .int w6_6), (5, .int x2), (0, .ref (o + 116)), (1, .ref (o + 1)), (2, .ref (o + 77)), (3, .int a2), (4, .int a3)] → W p l e (headSpec (Cond.code yX4_giveAll cX4_giveAll 7 none :: qtbl) ({ frames := 3, cells := 0, slots := 0, locals := 108 })).room s m (([.ref (o + 116), .ref (o + 1), .ref (o + 77), .int a2, .int a3] : List Value).toArray) below meth c H locs 0 0 (MQ below (va_Qv (fun u => qJU b u.1) (qB D vwCl (qT6 ca) o 132 (fun u : qZ => qG (GU ca o) u.1 u.2)) (qw_A o 132)) (([.ref (o + 116), .ref (o + 1), .ref (o + 77), .int a2, .int a3] : List Value).toArray) s 0 0 (qw_A o 132)) (F0 m 52 ls []) := by
          intro n
          induction n with
          | zero => intro w6_6 z6 y6 hb6 hv6_6 J6; exfalso; omega
          | succ n6 ih6 =>
            intro w6_6 z6 y6 hb6 hv6_6 J6 H locs hP hS ls hl
            refine lv_iload hx hb dX4_giveAll_52 (lv_at hl 0 rfl) ?_
            refine lv_sipush (v := 720) hx hb dX4_giveAll_54 (by decide) ?_
            refine lv_icmp_ge (tgt := 97) hx hb dX4_giveAll_57 (by decide) (fun c7 => ?_) (fun c7 => ?_)
            · have t7 : w6_6.toInt ≥ (720 : Int) := gl_le c7
              exact W.vret hx hb hr (fun t ht hW => ⟨⟨(z6, y6), rfl, J6, by rw [ht]; exact hP, va_K.moved hW.alike hK⟩, hS.F ht⟩) hS.2.2 dX4_giveAll_97
            · have t7 : w6_6.toInt < (720 : Int) := gl_nle c7
              refine lv_aload_n hx hb dX4_giveAll_60 rfl (lv_at hl 2 rfl) ?_
              refine lv_aload_n hx hb dX4_giveAll_61 rfl (lv_at hl 4 rfl) ?_
              refine lv_iload_n hx hb dX4_giveAll_62 rfl (lv_at hl 5 rfl) ?_
              refine qc_Vv2 (As := [.ref (o + 77), .int a2]) (rest := []) (k0 := 2) (u_Giving_give l D ca o b z6 y6 J6 a2) kc_yX4_give ⟨hx, hb, hml, hown, hts⟩ wq_899 rfl rfl ⟨Nat.le_of_ble_eq_true rfl, Nat.le_of_ble_eq_true rfl⟩ wq_all hP hK hS qw_Ai (q0 := 116) (by decide) (hgU_116 ca o _ _) rfl rfl hl.1 rfl (Nat.le_of_ble_eq_true rfl) dX4_giveAll_63 ⟨Nat.zero_le _, Nat.zero_le _⟩ (fun z8 y8 H locs h8 hP hS _ _ => ?_)
              have J8 : qJU b z8 := h8
              refine lv_aload_n hx hb dX4_giveAll_66 rfl (lv_at hl 2 rfl) ?_
              refine lv_aload_n hx hb dX4_giveAll_67 rfl (lv_at hl 3 rfl) ?_
              refine lv_iload hx hb dX4_giveAll_68 (lv_at hl 6 rfl) ?_
              refine qc_Vip (As := [.ref (o + 1), .int a3]) (rest := []) (k0 := 2) (u_Giving_allHold l D ca o b z8 y8 J8 a3) kc_yX4_allHold ⟨hx, hb, hml, hown, hts⟩ wq_903 rfl rfl ⟨Nat.le_of_ble_eq_true rfl, Nat.le_of_ble_eq_true rfl⟩ wq_all hP hK hS qw_Ai (q0 := 116) (by decide) (hgU_116 ca o _ _) rfl rfl hl.1 rfl (Nat.le_of_ble_eq_true rfl) dX4_giveAll_70 ⟨Nat.zero_le _, Nat.zero_le _⟩ (fun r9 H locs h9 hP hS _ _ => ?_)
              have b9 : (0 : Int) ≤ r9.toInt ∧ r9.toInt ≤ 1 := h9
              refine lv_if_eq (tgt := 81) hx hb dX4_giveAll_73 (by decide) (fun c10 => ?_) (fun c10 => ?_)
              · have t10 : r9.toInt = (0 : Int) := gl_eq c10
                refine lv_aload_n hx hb dX4_giveAll_81 rfl (lv_at hl 2 rfl) ?_
                refine lv_iload hx hb dX4_giveAll_82 (lv_at hl 1 rfl) ?_
                refine qc_Vi2 (As := [.int x2]) (rest := []) (k0 := 1) (u_Giving_nextOrder l D ca o b z8 y8 J8 x2 ⟨by omega, by omega⟩) kc_yX4_nextOrder ⟨hx, hb, hml, hown, hts⟩ wq_913 rfl rfl ⟨Nat.le_of_ble_eq_true rfl, Nat.le_of_ble_eq_true rfl⟩ wq_all hP hK hS qw_Ai (q0 := 116) (by decide) (hgU_116 ca o _ _) rfl rfl hl.1 rfl (Nat.le_of_ble_eq_true rfl) dX4_giveAll_84 ⟨Nat.zero_le _, Nat.zero_le _⟩ (fun r11 z11 y11 H locs h11 hP hS _ _ => ?_)
                have J11 : qJU b z11 := h11.2
                have b11 : (0 : Int) ≤ r11.toInt ∧ r11.toInt ≤ 1 := h11.1
                refine lv_if_ne (tgt := 91) hx hb dX4_giveAll_87 (by decide) (fun c12 => ?_) (fun c12 => ?_)
                · have t12 : r11.toInt ≠ (0 : Int) := gl_ne c12
                  obtain ⟨x13, e13⟩ : ∃ t : Int32, t = w6_6 + 1 := ⟨_, rfl⟩
                  refine lv_iinc (v := x13) (lv' := [(6, .int x13), (5, .int x2), (0, .ref (o + 116)), (1, .ref (o + 1)), (2, .ref (o + 77)), (3, .int a2), (4, .int a3)]) hx hb dX4_giveAll_91 hl (k := 0) rfl (by rw [e13]; rfl) (by decide) rfl (fun ls hl => ?_)
                  have t13 : x13.toInt = w6_6.toInt + (1 : Int) := ga_add e13 rfl rfl (by omega) (by omega)
                  refine lv_goto (tgt := 52) hx hb dX4_giveAll_94 (by decide) ?_
                  exact ih6 x13 z11 y11 (show (720 - x13.toInt : Int) < (n6 : Int) from by omega) ⟨by omega, by omega⟩ J11 _ _ hP hS _ (lv_sub hl [0, 1, 2, 3, 4, 5, 6] rfl)
                · have t12 : r11.toInt = (0 : Int) := gl_eq c12
                  exact W.vret hx hb hr (fun t ht hW => ⟨⟨(z11, y11), rfl, J11, by rw [ht]; exact hP, va_K.moved hW.alike hK⟩, hS.F ht⟩) hS.2.2 dX4_giveAll_90
              · have t10 : r9.toInt ≠ (0 : Int) := gl_ne c10
                refine lv_aload_n hx hb dX4_giveAll_76 rfl (lv_at hl 2 rfl) ?_
                refine lv_iload_n hx hb dX4_giveAll_77 rfl (lv_at hl 5 rfl) ?_
                refine qc_Vv2 (As := [.int a2]) (rest := []) (k0 := 1) (u_Giving_noteWay l D ca o b z8 y8 J8 a2) kc_yX4_noteWay ⟨hx, hb, hml, hown, hts⟩ wq_909 rfl rfl ⟨Nat.le_of_ble_eq_true rfl, Nat.le_of_ble_eq_true rfl⟩ wq_all hP hK hS qw_Ai (q0 := 116) (by decide) (hgU_116 ca o _ _) rfl rfl hl.1 rfl (Nat.le_of_ble_eq_true rfl) dX4_giveAll_78 ⟨Nat.zero_le _, Nat.zero_le _⟩ (fun z14 y14 H locs h14 hP hS _ _ => ?_)
                have J14 : qJU b z14 := h14
                refine lv_aload_n hx hb dX4_giveAll_81 rfl (lv_at hl 2 rfl) ?_
                refine lv_iload hx hb dX4_giveAll_82 (lv_at hl 1 rfl) ?_
                refine qc_Vi2 (As := [.int x2]) (rest := []) (k0 := 1) (u_Giving_nextOrder l D ca o b z14 y14 J14 x2 ⟨by omega, by omega⟩) kc_yX4_nextOrder ⟨hx, hb, hml, hown, hts⟩ wq_913 rfl rfl ⟨Nat.le_of_ble_eq_true rfl, Nat.le_of_ble_eq_true rfl⟩ wq_all hP hK hS qw_Ai (q0 := 116) (by decide) (hgU_116 ca o _ _) rfl rfl hl.1 rfl (Nat.le_of_ble_eq_true rfl) dX4_giveAll_84 ⟨Nat.zero_le _, Nat.zero_le _⟩ (fun r15 z15 y15 H locs h15 hP hS _ _ => ?_)
                have J15 : qJU b z15 := h15.2
                have b15 : (0 : Int) ≤ r15.toInt ∧ r15.toInt ≤ 1 := h15.1
                refine lv_if_ne (tgt := 91) hx hb dX4_giveAll_87 (by decide) (fun c16 => ?_) (fun c16 => ?_)
                · have t16 : r15.toInt ≠ (0 : Int) := gl_ne c16
                  obtain ⟨x17, e17⟩ : ∃ t : Int32, t = w6_6 + 1 := ⟨_, rfl⟩
                  refine lv_iinc (v := x17) (lv' := [(6, .int x17), (5, .int x2), (0, .ref (o + 116)), (1, .ref (o + 1)), (2, .ref (o + 77)), (3, .int a2), (4, .int a3)]) hx hb dX4_giveAll_91 hl (k := 0) rfl (by rw [e17]; rfl) (by decide) rfl (fun ls hl => ?_)
                  have t17 : x17.toInt = w6_6.toInt + (1 : Int) := ga_add e17 rfl rfl (by omega) (by omega)
                  refine lv_goto (tgt := 52) hx hb dX4_giveAll_94 (by decide) ?_
                  exact ih6 x17 z15 y15 (show (720 - x17.toInt : Int) < (n6 : Int) from by omega) ⟨by omega, by omega⟩ J15 _ _ hP hS _ (lv_sub hl [0, 1, 2, 3, 4, 5, 6] rfl)
                · have t16 : r15.toInt = (0 : Int) := gl_eq c16
                  exact W.vret hx hb hr (fun t ht hW => ⟨⟨(z15, y15), rfl, J15, by rw [ht]; exact hP, va_K.moved hW.alike hK⟩, hS.F ht⟩) hS.2.2 dX4_giveAll_90
        exact loop6 721 0 z4 y4 (show (720 - (0 : Int) : Int) < ((721 : Nat) : Int) from by omega) ⟨by decide, by decide⟩ J4 _ _ hP hS _ (lv_sub hl [0, 1, 2, 3, 4, 5, 6] rfl)
      · have t5 : w4_6.toInt < (6 : Int) := gl_nle c5
        refine lv_aload_n hx hb dX4_giveAll_26 rfl (lv_at hl 2 rfl) ?_
        refine qf_get hx hb hts inX4 hown hK hP (q0 := 116) (by decide) (hgU_116 ca o) rfl 0 (by decide) wq_295 (v := .ref (o + 117)) rfl dX4_giveAll_27 ?_
        refine lv_iload hx hb dX4_giveAll_30 (lv_at hl 0 rfl) ?_
        refine lv_iload hx hb dX4_giveAll_32 (lv_at hl 0 rfl) ?_
        refine qa_iast2 hx hb hK hP hS qw_Ai (q0 := 117) (by decide) 0 (N := 6) (hgU_117 ca o) rfl (i := w4_6) (x := w4_6) (gi_in (by omega) (by omega)) dX4_giveAll_34 (fun z18 H locs hz18 hP hS => ?_)
        have J18 := jU_117 J4 hz18 ⟨by omega, by omega⟩
        refine lv_aload_n hx hb dX4_giveAll_35 rfl (lv_at hl 2 rfl) ?_
        refine qf_get hx hb hts inX4 hown hK hP (q0 := 116) (by decide) (hgU_116 ca o) rfl 1 (by decide) wq_296 (v := .ref (o + 118)) rfl dX4_giveAll_36 ?_
        refine lv_iload hx hb dX4_giveAll_39 (lv_at hl 0 rfl) ?_
        refine lv_iconst (v := 0) hx hb dX4_giveAll_41 (by decide) ?_
        refine qa_iast2 hx hb hK hP hS qw_Ai (q0 := 118) (by decide) 0 (N := 6) (hgU_118 ca o) rfl (i := w4_6) (x := 0) (gi_in (by omega) (by omega)) dX4_giveAll_42 (fun z19 H locs hz19 hP hS => ?_)
        have J19 := jU_118 J18 hz19
        obtain ⟨x20, e20⟩ : ∃ t : Int32, t = w4_6 + 1 := ⟨_, rfl⟩
        refine lv_iinc (v := x20) (lv' := [(6, .int x20), (5, .int x2), (0, .ref (o + 116)), (1, .ref (o + 1)), (2, .ref (o + 77)), (3, .int a2), (4, .int a3)]) hx hb dX4_giveAll_43 hl (k := 0) rfl (by rw [e20]; rfl) (by decide) rfl (fun ls hl => ?_)
        have t20 : x20.toInt = w4_6.toInt + (1 : Int) := ga_add e20 rfl rfl (by omega) (by omega)
        refine lv_goto (tgt := 19) hx hb dX4_giveAll_46 (by decide) ?_
        exact ih4 x20 z19 y4 (show (6 - x20.toInt : Int) < (n4 : Int) from by omega) ⟨by omega, by omega⟩ J19 _ _ hP hS _ (lv_sub hl [0, 1, 2, 3, 4, 5, 6] rfl)
  exact loop4 7 0 z3 y (show (6 - (0 : Int) : Int) < ((7 : Nat) : Int) from by omega) ⟨by decide, by decide⟩ J3 _ _ hP hS _ (lv_sub hl [0, 1, 2, 3, 4, 5, 6] rfl)
