set_option maxRecDepth 100000 in
set_option maxHeartbeats 8000000 in
theorem m_butts (l : Launch) (D : va_G) (ca : Nat → ClassId) (o : Nat) (b z : Nat → Nat → Int32) (y : Nat → Nat → Int64) (J0 : qJM b z) (a0 : Int32)  : qM l yX11_butts cX11_butts 6 (some .int) 3 106 (qPre D vwCl (qT6 ca) o 41 (qG (GM ca o) z y) [.ref (o + 0), .int a0]) (va_Qi (fun r u => True ∧ qJM b u.1) (qB D vwCl (qT6 ca) o 41 (fun u : qZ => qG (GM ca o) u.1 u.2)) (qw_A o 41)) (qw_A o 41) := by
  refine Met.ofW (cc := cX11_butts) (maxL := 6) (ret := (some .int)) (by decide) rfl ?_
  intro p e s m args below meth c s₁ B hml hv
  obtain ⟨rfl, hP, hK⟩ := hv
  have hx := B.exec
  have hb := B.bytes
  have hr := B.returns
  have hts0 := atoms_spec (ws := Cond.code yX11_butts cX11_butts 6 (some .int) :: qtbl) B.pre
  have hts : ∀ w ∈ qtbl, w.before _ s = true := fun w h => hts0 w (List.mem_cons_of_mem _ h)
  have hown : s.vm.findClass RX11 = some m.cls := findClass_of_methodNamed B.named
  have hlocks := B.notSynchronized
  have hS : va_S (qw_A o 41) s.heap s.heap [] := va_S.rf
  have hl := lv_entry ([.ref (o + 0), .int a0]) (n := 6) (Nat.le_of_ble_eq_true rfl)
  rw [lg_entry_eq]
  generalize (lg_sl ([.ref (o + 0), .int a0]) ++ List.replicate (6 - (lg_sl ([.ref (o + 0), .int a0])).length) Slot.unset).toArray = ls at hl ⊢
  have hl : lv_has ls 6 [(0, .ref (o + 0)), (1, .int a0)] := hl
  refine lv_iload_n hx hb dX11_butts_0 rfl (lv_at hl 1 rfl) ?_
  refine lv_iconst (v := 0) hx hb dX11_butts_1 (by decide) ?_
  refine lv_bipush (v := 20) hx hb dX11_butts_2 (by decide) ?_
  refine qc_Sip (As := [.int a0, .int 0, .int 20]) (rest := []) (k0 := 3) (m_in l D ca o b z y J0 a0 0 20) kc_yX11_in ⟨hx, hb, hml, hown, hts⟩ wq_1187 rfl rfl ⟨Nat.le_of_ble_eq_true rfl, Nat.le_of_ble_eq_true rfl⟩ wq_all hP hK hS qw_Ai rfl hl.1 rfl (Nat.le_of_ble_eq_true rfl) dX11_butts_4 ⟨Nat.zero_le _, Nat.zero_le _⟩ (fun r1 H locs h1 hP hS _ _ => ?_)
  rcases h1 with ⟨hr1, hf1_0⟩ | ⟨hr1, hf1_0⟩
  · subst hr1
    have hg1_0 : (0 : Int) ≤ a0.toInt ∧ a0.toInt ≤ (20 : Int) := hf1_0
    refine lv_if_eq (tgt := 19) hx hb dX11_butts_7 (by decide) (fun q => absurd q (by decide)) (fun _ => ?_)
    refine lv_aload_n hx hb dX11_butts_10 rfl (lv_at hl 0 rfl) ?_
    refine qf_get hx hb hts inX11 hown hK hP (q0 := 0) (by decide) (hgM_0 ca o) rfl 15 (by decide) wq_1008 (v := .int (z 0 15)) rfl dX11_butts_11 ?_
    refine lv_topi (fun x2 e2 => ?_)
    have b2 := iM_0_15 J0 e2
    refine lv_bipush (v := 6) hx hb dX11_butts_14 (by decide) ?_
    refine lv_icmp_ge (tgt := 21) hx hb dX11_butts_16 (by decide) (fun c3 => ?_) (fun c3 => ?_)
    · have t3 : x2.toInt ≥ (6 : Int) := gl_le c3
      refine lv_aload_n hx hb dX11_butts_21 rfl (lv_at hl 0 rfl) ?_
      refine lv_iconst (v := 0) hx hb dX11_butts_22 (by decide) ?_
      refine qf_put2 hx hb hts inX11 tyX11 tyX11_ok nmX11 hown hK hP hS qw_Ai (q0 := 0) (by decide) (hgM_0 ca o) rfl 15 (by decide) wq_1008 rfl (x := 0) 15 rfl rfl rfl (Nat.le_of_ble_eq_true rfl) dX11_butts_23 (fun z4 H locs hz4 hP hS => ?_)
      have J4 := jM_0_15 J0 hz4 ⟨by decide, by decide⟩
      have k4_0 : (z4 0 58).toInt = (z 0 58).toInt := congrArg Int32.toInt (qt_off hz4 (by decide))
      refine lv_iconst (v := 0) hx hb dX11_butts_26 (by decide) ?_
      refine lv_istore_n (lv' := [(2, .int 0), (0, .ref (o + 0)), (1, .int a0)]) hx hb dX11_butts_27 rfl hl (by decide) rfl (fun ls hl => ?_)
      have loop5 : ∀ (n : Nat) (w5_2 : Int32) (z5 : Nat → Nat → Int32) (y5 : Nat → Nat → Int64), ((3 - w5_2.toInt : Int) < (n : Int)) → ((0 : Int) ≤ w5_2.toInt ∧ w5_2.toInt ≤ 3) → (qJM b z5) → (szI z5 w5_2) → ((z5 0 58).toInt = (z4 0 58).toInt) → ∀ (H : Heap) (locs : List Loc), qw_P D vwCl o 41 (qG (GM ca o) z5 y5) H → va_S (qw_A o 41) s.heap H locs → ∀ (ls : Array Slot), lv_has ls 6 [(2, .int w5_2), (0, .ref (o + 0)), (1, .int a0)] → W p l e (headSpec (Cond.code yX11_butts cX11_butts 6 (some .int) :: qtbl) ({ frames := 3, cells := 0, slots := 0, locals := 106 })).room s m (([.ref (o + 0), .int a0] : List Value).toArray) below meth c H locs 0 0 (MQ below (va_Qi (fun r u => True ∧ qJM b u.1) (qB D vwCl (qT6 ca) o 41 (fun u : qZ => qG (GM ca o) u.1 u.2)) (qw_A o 41)) (([.ref (o + 0), .int a0] : List Value).toArray) s 0 0 (qw_A o 41)) (F0 m 28 ls []) := by
        intro n
        induction n with
        | zero => intro w5_2 z5 y5 hb5 hv5_2 J5 v5_0 v5_1; exfalso; omega
        | succ n5 ih5 =>
          intro w5_2 z5 y5 hb5 hv5_2 J5 v5_0 v5_1 H locs hP hS ls hl
          refine lv_iload_n hx hb dX11_butts_28 rfl (lv_at hl 0 rfl) ?_
          refine lv_iconst (v := 3) hx hb dX11_butts_29 (by decide) ?_
          refine lv_icmp_ge (tgt := 80) hx hb dX11_butts_30 (by decide) (fun c6 => ?_) (fun c6 => ?_)
          · have t6 : w5_2.toInt ≥ (3 : Int) := gl_le c6
            refine lv_iconst (v := 0) hx hb dX11_butts_80 (by decide) ?_
            refine lv_istore_n (lv' := [(2, .int 0), (0, .ref (o + 0)), (1, .int a0)]) hx hb dX11_butts_81 rfl hl (by decide) rfl (fun ls hl => ?_)
            have loop7 : ∀ (n : Nat) (w7_2 : Int32) (z7 : Nat → Nat → Int32) (y7 : Nat → Nat → Int64), ((9261 - w7_2.toInt : Int) < (n : Int)) → ((0 : Int) ≤ w7_2.toInt ∧ w7_2.toInt ≤ 9261) → (qJM b z7) → (m1I z7 w7_2) → (szI z7 w5_2) → ((z7 0 58).toInt = (z5 0 58).toInt) → ∀ (H : Heap) (locs : List Loc), qw_P D vwCl o 41 (qG (GM ca o) z7 y7) H → va_S (qw_A o 41) s.heap H locs → ∀ (ls : Array Slot), lv_has ls 6 [(2, .int w7_2), (0, .ref (o + 0)), (1, .int a0)] → W p l e (headSpec (Cond.code yX11_butts cX11_butts 6 (some .int) :: qtbl) ({ frames := 3, cells := 0, slots := 0, locals := 106 })).room s m (([.ref (o + 0), .int a0] : List Value).toArray) below meth c H locs 0 0 (MQ below (va_Qi (fun r u => True ∧ qJM b u.1) (qB D vwCl (qT6 ca) o 41 (fun u : qZ => qG (GM ca o) u.1 u.2)) (qw_A o 41)) (([.ref (o + 0), .int a0] : List Value).toArray) s 0 0 (qw_A o 41)) (F0 m 82 ls []) := by
              intro n
              induction n with
              | zero => intro w7_2 z7 y7 hb7 hv7_2 J7 v7_0 v7_1 v7_2; exfalso; omega
              | succ n7 ih7 =>
                intro w7_2 z7 y7 hb7 hv7_2 J7 v7_0 v7_1 v7_2 H locs hP hS ls hl
                refine lv_iload_n hx hb dX11_butts_82 rfl (lv_at hl 0 rfl) ?_
                refine lv_sipush (v := 9261) hx hb dX11_butts_83 (by decide) ?_
                refine lv_icmp_ge (tgt := 102) hx hb dX11_butts_86 (by decide) (fun c8 => ?_) (fun c8 => ?_)
                · have t8 : w7_2.toInt ≥ (9261 : Int) := gl_le c8
                  refine lv_aload_n hx hb dX11_butts_102 rfl (lv_at hl 1 rfl) ?_
                  refine lv_iconst (v := 0) hx hb dX11_butts_103 (by decide) ?_
                  refine qf_put2 hx hb hts inX11 tyX11 tyX11_ok nmX11 hown hK hP hS qw_Ai (q0 := 0) (by decide) (hgM_0 ca o) rfl 58 (by decide) wq_1050 rfl (x := 0) 58 rfl rfl rfl (Nat.le_of_ble_eq_true rfl) dX11_butts_104 (fun z9 H locs hz9 hP hS => ?_)
                  have J9 := jM_0_58 J7 hz9 ⟨by decide, by decide⟩
                  have k9_0 : (z9 0 58).toInt = (0 : Int) := congrArg Int32.toInt (qt_at hz9)
                  have sv9 := sz_up v7_1 hz9 ⟨by decide, by decide⟩
                  have mv9 := m1_up v7_0 hz9 (by decide)
                  refine lv_aload_n hx hb dX11_butts_107 rfl (lv_at hl 1 rfl) ?_
                  refine lv_aload_n hx hb dX11_butts_108 rfl (lv_at hl 1 rfl) ?_
                  refine lv_iconst (v := 3) hx hb dX11_butts_109 (by decide) ?_
                  refine qc_Vip (As := [.int 3]) (rest := [.ref (o + 0)]) (k0 := 1) (m_octet l D ca o b z9 y7 J9 3 ⟨by decide, by decide⟩) kc_yX11_octet ⟨hx, hb, hml, hown, hts⟩ wq_1237 rfl rfl ⟨Nat.le_of_ble_eq_true rfl, Nat.le_of_ble_eq_true rfl⟩ wq_all hP hK hS qw_Ai (q0 := 0) (by decide) (hgM_0 ca o _ _) rfl rfl hl.1 rfl (Nat.le_of_ble_eq_true rfl) dX11_butts_110 ⟨Nat.zero_le _, Nat.zero_le _⟩ (fun r10 H locs h10 hP hS _ _ => ?_)
                  have p10_1 : r10 = z9 12 (3 : Int32).toNatClampNeg &&& 255 := h10.2
                  have sg10 := sz_get 0 (by decide) sv9 (by omega) (i := 3) (by decide) p10_1
                  have b10 : (0 : Int) ≤ r10.toInt ∧ r10.toInt ≤ 255 := h10.1
                  refine lv_aload_n hx hb dX11_butts_113 rfl (lv_at hl 1 rfl) ?_
                  refine lv_iconst (v := 4) hx hb dX11_butts_114 (by decide) ?_
                  refine qc_Vip (As := [.int 4]) (rest := [.int r10, .ref (o + 0)]) (k0 := 1) (m_octet l D ca o b z9 y7 J9 4 ⟨by decide, by decide⟩) kc_yX11_octet ⟨hx, hb, hml, hown, hts⟩ wq_1237 rfl rfl ⟨Nat.le_of_ble_eq_true rfl, Nat.le_of_ble_eq_true rfl⟩ wq_all hP hK hS qw_Ai (q0 := 0) (by decide) (hgM_0 ca o _ _) rfl rfl hl.1 rfl (Nat.le_of_ble_eq_true rfl) dX11_butts_115 ⟨Nat.zero_le _, Nat.zero_le _⟩ (fun r11 H locs h11 hP hS _ _ => ?_)
                  have p11_1 : r11 = z9 12 (4 : Int32).toNatClampNeg &&& 255 := h11.2
                  have sg11 := sz_get 1 (by decide) sv9 (by omega) (i := 4) (by decide) p11_1
                  have b11 : (0 : Int) ≤ r11.toInt ∧ r11.toInt ≤ 255 := h11.1
                  refine lv_aload_n hx hb dX11_butts_118 rfl (lv_at hl 1 rfl) ?_
                  refine lv_iconst (v := 5) hx hb dX11_butts_119 (by decide) ?_
                  refine qc_Vip (As := [.int 5]) (rest := [.int r11, .int r10, .ref (o + 0)]) (k0 := 1) (m_octet l D ca o b z9 y7 J9 5 ⟨by decide, by decide⟩) kc_yX11_octet ⟨hx, hb, hml, hown, hts⟩ wq_1237 rfl rfl ⟨Nat.le_of_ble_eq_true rfl, Nat.le_of_ble_eq_true rfl⟩ wq_all hP hK hS qw_Ai (q0 := 0) (by decide) (hgM_0 ca o _ _) rfl rfl hl.1 rfl (Nat.le_of_ble_eq_true rfl) dX11_butts_120 ⟨Nat.zero_le _, Nat.zero_le _⟩ (fun r12 H locs h12 hP hS _ _ => ?_)
                  have p12_1 : r12 = z9 12 (5 : Int32).toNatClampNeg &&& 255 := h12.2
                  have sg12 := sz_get 2 (by decide) sv9 (by omega) (i := 5) (by decide) p12_1
                  have b12 : (0 : Int) ≤ r12.toInt ∧ r12.toInt ≤ 255 := h12.1
                  refine qc_Sip (As := [.int r10, .int r11, .int r12]) (rest := [.ref (o + 0)]) (k0 := 3) (m_stateOf l D ca o b z9 y7 J9 r10 r11 r12 ⟨by omega, by omega⟩ ⟨by omega, by omega⟩ ⟨by omega, by omega⟩) kc_yX11_stateOf ⟨hx, hb, hml, hown, hts⟩ wq_1567 rfl rfl ⟨Nat.le_of_ble_eq_true rfl, Nat.le_of_ble_eq_true rfl⟩ wq_all hP hK hS qw_Ai rfl hl.1 rfl (Nat.le_of_ble_eq_true rfl) dX11_butts_123 ⟨Nat.zero_le _, Nat.zero_le _⟩ (fun r13 H locs h13 hP hS _ _ => ?_)
                  have p13_1 : r13.toInt = r10.toInt + 21 * r11.toInt + 441 * r12.toInt := h13.2
                  have b13 : (0 : Int) ≤ r13.toInt ∧ r13.toInt ≤ 9260 := h13.1
                  refine lv_iconst (v := 0) hx hb dX11_butts_126 (by decide) ?_
                  refine qc_Vv2 (As := [.int r13, .int 0]) (rest := []) (k0 := 2) (m_reaches l D ca o b z9 y7 J9 r13 0 ⟨by omega, by omega⟩ ((okS_of p13_1 (by omega) (by omega) (by omega) (by omega) (by omega) (by omega) (by omega) (by omega))) ((bt_0 mv9 (by omega) (by omega))) (by have ql1 : Int32.toInt 0 = 0 := (by decide); omega)) kc_yX11_reaches ⟨hx, hb, hml, hown, hts⟩ wq_1570 rfl rfl ⟨Nat.le_of_ble_eq_true rfl, Nat.le_of_ble_eq_true rfl⟩ wq_all hP hK hS qw_Ai (q0 := 0) (by decide) (hgM_0 ca o _ _) rfl rfl hl.1 rfl (Nat.le_of_ble_eq_true rfl) dX11_butts_127 ⟨Nat.zero_le _, Nat.zero_le _⟩ (fun z14 y14 H locs h14 hP hS _ _ => ?_)
                  have J14 : qJM b z14 := h14.1
                  have p14_2 : btI z14 := h14.2.2
                  refine lv_iconst (v := 0) hx hb dX11_butts_130 (by decide) ?_
                  refine lv_istore_n (lv' := [(2, .int 0), (0, .ref (o + 0)), (1, .int a0)]) hx hb dX11_butts_131 rfl hl (by decide) rfl (fun ls hl => ?_)
                  have loop15 : ∀ (n : Nat) (w15_2 : Int32) (z15 : Nat → Nat → Int32) (y15 : Nat → Nat → Int64), ((9261 - w15_2.toInt : Int) < (n : Int)) → ((0 : Int) ≤ w15_2.toInt ∧ w15_2.toInt ≤ 9261) → (qJM b z15) → (btI z15 ∧ ((z15 35 0).toInt ≤ 20 ∧ (z15 35 1).toInt ≤ 20 ∧ (z15 35 2).toInt ≤ 20)) → ∀ (H : Heap) (locs : List Loc), qw_P D vwCl o 41 (qG (GM ca o) z15 y15) H → va_S (qw_A o 41) s.heap H locs → ∀ (ls : Array Slot), lv_has ls 6 [(2, .int w15_2), (0, .ref (o + 0)), (1, .int a0)] → W p l e (headSpec (Cond.code yX11_butts cX11_butts 6 (some .int) :: qtbl) ({ frames := 3, cells := 0, slots := 0, locals := 106 })).room s m (([.ref (o + 0), .int a0] : List Value).toArray) below meth c H locs 0 0 (MQ below (va_Qi (fun r u => True ∧ qJM b u.1) (qB D vwCl (qT6 ca) o 41 (fun u : qZ => qG (GM ca o) u.1 u.2)) (qw_A o 41)) (([.ref (o + 0), .int a0] : List Value).toArray) s 0 0 (qw_A o 41)) (F0 m 132 ls []) := by
                    intro n
                    induction n with
                    | zero => intro w15_2 z15 y15 hb15 hv15_2 J15 v15_0; exfalso; omega
                    | succ n15 ih15 =>
                      intro w15_2 z15 y15 hb15 hv15_2 J15 v15_0 H locs hP hS ls hl
                      refine lv_iload_n hx hb dX11_butts_132 rfl (lv_at hl 0 rfl) ?_
                      refine lv_aload_n hx hb dX11_butts_133 rfl (lv_at hl 1 rfl) ?_
                      refine qf_get hx hb hts inX11 hown hK hP (q0 := 0) (by decide) (hgM_0 ca o) rfl 58 (by decide) wq_1050 (v := .int (z15 0 58)) rfl dX11_butts_134 ?_
                      refine lv_topi (fun x16 e16 => ?_)
                      have b16 := iM_0_58 J15 e16
                      have k16 : x16.toInt = (z15 0 58).toInt := congrArg Int32.toInt e16
                      refine lv_icmp_ge (tgt := 234) hx hb dX11_butts_137 (by decide) (fun c17 => ?_) (fun c17 => ?_)
                      · have t17 : w15_2.toInt ≥ x16.toInt := gl_le c17
                        refine lv_bipush (v := (-2)) hx hb dX11_butts_234 (by decide) ?_
                        exact W.iret (v := (-2)) hx hb hr (fun t ht hW => ⟨⟨(-2), (z15, y15), rfl, ⟨trivial, J15⟩, by rw [ht]; exact hP, va_K.moved hW.alike hK⟩, hS.F ht⟩) hS.2.2 dX11_butts_236
                      · have t17 : w15_2.toInt < x16.toInt := gl_nle c17
                        refine lv_aload_n hx hb dX11_butts_140 rfl (lv_at hl 1 rfl) ?_
                        refine qf_get hx hb hts inX11 hown hK hP (q0 := 0) (by decide) (hgM_0 ca o) rfl 56 (by decide) wq_1048 (v := .ref (o + 37)) rfl dX11_butts_141 ?_
                        refine lv_iload_n hx hb dX11_butts_144 rfl (lv_at hl 0 rfl) ?_
                        refine qa_iald hx hb hK hP (q0 := 37) (by decide) 0 (N := 9261) (hgM_37 ca o) rfl (gi_in (by omega) (by omega)) dX11_butts_145 ?_
                        refine lv_topi (fun x18 e18 => ?_)
                        have b18 := iM_37 J15 e18
                        refine lv_istore_n (lv' := [(3, .int x18), (2, .int w15_2), (0, .ref (o + 0)), (1, .int a0)]) hx hb dX11_butts_146 rfl hl (by decide) rfl (fun ls hl => ?_)
                        refine lv_iload_n hx hb dX11_butts_147 rfl (lv_at hl 0 rfl) ?_
                        refine lv_bipush (v := 21) hx hb dX11_butts_148 (by decide) ?_
                        refine lv_irem hx hb dX11_butts_150 (by decide) ?_
                        refine lv_topi (fun x19 e19 => ?_)
                        have t19 : x19.toInt = x18.toInt % 21 := ga_rem e19 rfl (by omega) (by decide)
                        refine lv_iload_n hx hb dX11_butts_151 rfl (lv_at hl 3 rfl) ?_
                        refine lv_icmp_eq (tgt := 175) hx hb dX11_butts_152 (by decide) (fun c20 => ?_) (fun c20 => ?_)
                        · have t20 : x19.toInt = a0.toInt := gl_eq c20
                          refine lv_aload_n hx hb dX11_butts_175 rfl (lv_at hl 2 rfl) ?_
                          refine qf_get hx hb hts inX11 hown hK hP (q0 := 0) (by decide) (hgM_0 ca o) rfl 57 (by decide) wq_1049 (v := .ref (o + 38)) rfl dX11_butts_176 ?_
                          refine lv_iload_n hx hb dX11_butts_179 rfl (lv_at hl 0 rfl) ?_
                          refine qa_iald hx hb hK hP (q0 := 38) (by decide) 0 (N := 9261) (hgM_38 ca o) rfl (gi_in (by omega) (by omega)) dX11_butts_180 ?_
                          refine lv_topi (fun x21 e21 => ?_)
                          exact W.iret (v := x21) hx hb hr (fun t ht hW => ⟨⟨x21, (z15, y15), rfl, ⟨trivial, J15⟩, by rw [ht]; exact hP, va_K.moved hW.alike hK⟩, hS.F ht⟩) hS.2.2 dX11_butts_181
                        · have t20 : x19.toInt ≠ a0.toInt := gl_ne c20
                          refine lv_iload_n hx hb dX11_butts_155 rfl (lv_at hl 0 rfl) ?_
                          refine lv_bipush (v := 21) hx hb dX11_butts_156 (by decide) ?_
                          refine lv_idiv hx hb dX11_butts_158 (by decide) ?_
                          refine lv_topi (fun x22 e22 => ?_)
                          have t22 : x22.toInt = x18.toInt / 21 := ga_div e22 rfl (by omega) (by decide)
                          refine lv_bipush (v := 21) hx hb dX11_butts_159 (by decide) ?_
                          refine lv_irem hx hb dX11_butts_161 (by decide) ?_
                          refine lv_topi (fun x23 e23 => ?_)
                          have t23 : x23.toInt = x22.toInt % 21 := ga_rem e23 rfl (by omega) (by decide)
                          refine lv_iload_n hx hb dX11_butts_162 rfl (lv_at hl 3 rfl) ?_
                          refine lv_icmp_eq (tgt := 175) hx hb dX11_butts_163 (by decide) (fun c24 => ?_) (fun c24 => ?_)
                          · have t24 : x23.toInt = a0.toInt := gl_eq c24
                            refine lv_aload_n hx hb dX11_butts_175 rfl (lv_at hl 2 rfl) ?_
                            refine qf_get hx hb hts inX11 hown hK hP (q0 := 0) (by decide) (hgM_0 ca o) rfl 57 (by decide) wq_1049 (v := .ref (o + 38)) rfl dX11_butts_176 ?_
                            refine lv_iload_n hx hb dX11_butts_179 rfl (lv_at hl 0 rfl) ?_
                            refine qa_iald hx hb hK hP (q0 := 38) (by decide) 0 (N := 9261) (hgM_38 ca o) rfl (gi_in (by omega) (by omega)) dX11_butts_180 ?_
                            refine lv_topi (fun x25 e25 => ?_)
                            exact W.iret (v := x25) hx hb hr (fun t ht hW => ⟨⟨x25, (z15, y15), rfl, ⟨trivial, J15⟩, by rw [ht]; exact hP, va_K.moved hW.alike hK⟩, hS.F ht⟩) hS.2.2 dX11_butts_181
                          · have t24 : x23.toInt ≠ a0.toInt := gl_ne c24
                            refine lv_iload_n hx hb dX11_butts_166 rfl (lv_at hl 0 rfl) ?_
                            refine lv_sipush (v := 441) hx hb dX11_butts_167 (by decide) ?_
                            refine lv_idiv hx hb dX11_butts_170 (by decide) ?_
                            refine lv_topi (fun x26 e26 => ?_)
                            have t26 : x26.toInt = x18.toInt / 441 := ga_div e26 rfl (by omega) (by decide)
                            refine lv_iload_n hx hb dX11_butts_171 rfl (lv_at hl 3 rfl) ?_
                            refine lv_icmp_ne (tgt := 182) hx hb dX11_butts_172 (by decide) (fun c27 => ?_) (fun c27 => ?_)
                            · have t27 : x26.toInt ≠ a0.toInt := gl_ne c27
                              refine lv_iconst (v := 0) hx hb dX11_butts_182 (by decide) ?_
                              refine lv_istore (lv' := [(4, .int 0), (3, .int x18), (2, .int w15_2), (0, .ref (o + 0)), (1, .int a0)]) hx hb dX11_butts_183 hl (by decide) rfl (fun ls hl => ?_)
                              have loop28 : ∀ (n : Nat) (w28_4 : Int32) (z28 : Nat → Nat → Int32) (y28 : Nat → Nat → Int64), ((3 - w28_4.toInt : Int) < (n : Int)) → ((0 : Int) ≤ w28_4.toInt ∧ w28_4.toInt ≤ 3) → (qJM b z28) → (btI z28 ∧ ((z28 35 0).toInt ≤ 20 ∧ (z28 35 1).toInt ≤ 20 ∧ (z28 35 2).toInt ≤ 20) ∧ okS z28 x18) → ∀ (H : Heap) (locs : List Loc), qw_P D vwCl o 41 (qG (GM ca o) z28 y28) H → va_S (qw_A o 41) s.heap H locs → ∀ (ls : Array Slot), lv_has ls 6 [(4, .int w28_4), (3, .int x18), (2, .int w15_2), (0, .ref (o + 0)), (1, .int a0)] → W p l e (headSpec (Cond.code yX11_butts cX11_butts 6 (some .int) :: qtbl) ({ frames := 3, cells := 0, slots := 0, locals := 106 })).room s m (([.ref (o + 0), .int a0] : List Value).toArray) below meth c H locs 0 0 (MQ below (va_Qi (fun r u => True ∧ qJM b u.1) (qB D vwCl (qT6 ca) o 41 (fun u : qZ => qG (GM ca o) u.1 u.2)) (qw_A o 41)) (([.ref (o + 0), .int a0] : List Value).toArray) s 0 0 (qw_A o 41)) (F0 m 185 ls []) := by
                                intro n
                                induction n with
                                | zero => intro w28_4 z28 y28 hb28 hv28_4 J28 v28_0; exfalso; omega
                                | succ n28 ih28 =>
                                  intro w28_4 z28 y28 hb28 hv28_4 J28 v28_0 H locs hP hS ls hl
                                  refine lv_iload hx hb dX11_butts_185 (lv_at hl 0 rfl) ?_
                                  refine lv_iconst (v := 3) hx hb dX11_butts_187 (by decide) ?_
                                  refine lv_icmp_ge (tgt := 228) hx hb dX11_butts_188 (by decide) (fun c29 => ?_) (fun c29 => ?_)
                                  · have t29 : w28_4.toInt ≥ (3 : Int) := gl_le c29
                                    obtain ⟨x30, e30⟩ : ∃ t : Int32, t = w15_2 + 1 := ⟨_, rfl⟩
                                    refine lv_iinc (v := x30) (lv' := [(2, .int x30), (4, .int w28_4), (3, .int x18), (0, .ref (o + 0)), (1, .int a0)]) hx hb dX11_butts_228 hl (k := 2) rfl (by rw [e30]; rfl) (by decide) rfl (fun ls hl => ?_)
                                    have t30 : x30.toInt = w15_2.toInt + (1 : Int) := ga_add e30 rfl rfl (by omega) (by omega)
                                    refine lv_goto (tgt := 132) hx hb dX11_butts_231 (by decide) ?_
                                    exact ih15 x30 z28 y28 (show (9261 - x30.toInt : Int) < (n15 : Int) from by omega) ⟨by omega, by omega⟩ J28 (⟨v28_0.1, v28_0.2.1⟩) _ _ hP hS _ (lv_sub hl [0, 3, 4] rfl)
                                  · have t29 : w28_4.toInt < (3 : Int) := gl_nle c29
                                    refine lv_iconst (v := 0) hx hb dX11_butts_191 (by decide) ?_
                                    refine lv_istore (lv' := [(5, .int 0), (4, .int w28_4), (3, .int x18), (2, .int w15_2), (0, .ref (o + 0)), (1, .int a0)]) hx hb dX11_butts_192 hl (by decide) rfl (fun ls hl => ?_)
                                    have loop31 : ∀ (n : Nat) (w31_5 : Int32) (z31 : Nat → Nat → Int32) (y31 : Nat → Nat → Int64), ((3 - w31_5.toInt : Int) < (n : Int)) → ((0 : Int) ≤ w31_5.toInt ∧ w31_5.toInt ≤ 3) → (qJM b z31) → (btI z31 ∧ ((z31 35 0).toInt ≤ 20 ∧ (z31 35 1).toInt ≤ 20 ∧ (z31 35 2).toInt ≤ 20) ∧ okS z31 x18) → ∀ (H : Heap) (locs : List Loc), qw_P D vwCl o 41 (qG (GM ca o) z31 y31) H → va_S (qw_A o 41) s.heap H locs → ∀ (ls : Array Slot), lv_has ls 6 [(5, .int w31_5), (4, .int w28_4), (3, .int x18), (2, .int w15_2), (0, .ref (o + 0)), (1, .int a0)] → W p l e (headSpec (Cond.code yX11_butts cX11_butts 6 (some .int) :: qtbl) ({ frames := 3, cells := 0, slots := 0, locals := 106 })).room s m (([.ref (o + 0), .int a0] : List Value).toArray) below meth c H locs 0 0 (MQ below (va_Qi (fun r u => True ∧ qJM b u.1) (qB D vwCl (qT6 ca) o 41 (fun u : qZ => qG (GM ca o) u.1 u.2)) (qw_A o 41)) (([.ref (o + 0), .int a0] : List Value).toArray) s 0 0 (qw_A o 41)) (F0 m 194 ls []) := by
                                      intro n
                                      induction n with
                                      | zero => intro w31_5 z31 y31 hb31 hv31_5 J31 v31_0; exfalso; omega
                                      | succ n31 ih31 =>
                                        intro w31_5 z31 y31 hb31 hv31_5 J31 v31_0 H locs hP hS ls hl
                                        refine lv_iload hx hb dX11_butts_194 (lv_at hl 0 rfl) ?_
                                        refine lv_iconst (v := 3) hx hb dX11_butts_196 (by decide) ?_
                                        refine lv_icmp_ge (tgt := 222) hx hb dX11_butts_197 (by decide) (fun c32 => ?_) (fun c32 => ?_)
                                        · have t32 : w31_5.toInt ≥ (3 : Int) := gl_le c32
                                          obtain ⟨x33, e33⟩ : ∃ t : Int32, t = w28_4 + 1 := ⟨_, rfl⟩
                                          refine lv_iinc (v := x33) (lv' := [(4, .int x33), (5, .int w31_5), (3, .int x18), (2, .int w15_2), (0, .ref (o + 0)), (1, .int a0)]) hx hb dX11_butts_222 hl (k := 1) rfl (by rw [e33]; rfl) (by decide) rfl (fun ls hl => ?_)
                                          have t33 : x33.toInt = w28_4.toInt + (1 : Int) := ga_add e33 rfl rfl (by omega) (by omega)
                                          refine lv_goto (tgt := 185) hx hb dX11_butts_225 (by decide) ?_
                                          exact ih28 x33 z31 y31 (show (3 - x33.toInt : Int) < (n28 : Int) from by omega) ⟨by omega, by omega⟩ J31 (v31_0) _ _ hP hS _ (lv_sub hl [0, 2, 3, 4, 5] rfl)
                                        · have t32 : w31_5.toInt < (3 : Int) := gl_nle c32
                                          refine lv_iload hx hb dX11_butts_200 (lv_at hl 1 rfl) ?_
                                          refine lv_iload hx hb dX11_butts_202 (lv_at hl 0 rfl) ?_
                                          refine lv_icmp_eq (tgt := 216) hx hb dX11_butts_204 (by decide) (fun c34 => ?_) (fun c34 => ?_)
                                          · have t34 : w28_4.toInt = w31_5.toInt := gl_eq c34
                                            obtain ⟨x35, e35⟩ : ∃ t : Int32, t = w31_5 + 1 := ⟨_, rfl⟩
                                            refine lv_iinc (v := x35) (lv' := [(5, .int x35), (4, .int w28_4), (3, .int x18), (2, .int w15_2), (0, .ref (o + 0)), (1, .int a0)]) hx hb dX11_butts_216 hl (k := 0) rfl (by rw [e35]; rfl) (by decide) rfl (fun ls hl => ?_)
                                            have t35 : x35.toInt = w31_5.toInt + (1 : Int) := ga_add e35 rfl rfl (by omega) (by omega)
                                            refine lv_goto (tgt := 194) hx hb dX11_butts_219 (by decide) ?_
                                            exact ih31 x35 z31 y31 (show (3 - x35.toInt : Int) < (n31 : Int) from by omega) ⟨by omega, by omega⟩ J31 (v31_0) _ _ hP hS _ (lv_sub hl [0, 1, 2, 3, 4, 5] rfl)
                                          · have t34 : w28_4.toInt ≠ w31_5.toInt := gl_ne c34
                                            refine lv_aload_n hx hb dX11_butts_207 rfl (lv_at hl 4 rfl) ?_
                                            refine lv_iload_n hx hb dX11_butts_208 rfl (lv_at hl 2 rfl) ?_
                                            refine lv_iload hx hb dX11_butts_209 (lv_at hl 1 rfl) ?_
                                            refine lv_iload hx hb dX11_butts_211 (lv_at hl 0 rfl) ?_
                                            refine qc_Vv2 (As := [.int x18, .int w28_4, .int w31_5]) (rest := []) (k0 := 3) (m_pours l D ca o b z31 y31 J31 x18 w28_4 w31_5 ⟨by omega, by omega⟩ ⟨by omega, by omega⟩ ⟨by omega, by omega⟩ (v31_0.2.2) (v31_0.1) (by omega) (v31_0.2.1)) kc_yX11_pours ⟨hx, hb, hml, hown, hts⟩ wq_1574 rfl rfl ⟨Nat.le_of_ble_eq_true rfl, Nat.le_of_ble_eq_true rfl⟩ wq_all hP hK hS qw_Ai (q0 := 0) (by decide) (hgM_0 ca o _ _) rfl rfl hl.1 rfl (Nat.le_of_ble_eq_true rfl) dX11_butts_213 ⟨Nat.zero_le _, Nat.zero_le _⟩ (fun z36 y36 H locs h36 hP hS _ _ => ?_)
                                            have J36 : qJM b z36 := h36.1
                                            have p36_2 : btI z36 := h36.2.2
                                            obtain ⟨x37, e37⟩ : ∃ t : Int32, t = w31_5 + 1 := ⟨_, rfl⟩
                                            refine lv_iinc (v := x37) (lv' := [(5, .int x37), (4, .int w28_4), (3, .int x18), (2, .int w15_2), (0, .ref (o + 0)), (1, .int a0)]) hx hb dX11_butts_216 hl (k := 0) rfl (by rw [e37]; rfl) (by decide) rfl (fun ls hl => ?_)
                                            have t37 : x37.toInt = w31_5.toInt + (1 : Int) := ga_add e37 rfl rfl (by omega) (by omega)
                                            refine lv_goto (tgt := 194) hx hb dX11_butts_219 (by decide) ?_
                                            exact ih31 x37 z36 y36 (show (3 - x37.toInt : Int) < (n31 : Int) from by omega) ⟨by omega, by omega⟩ J36 (⟨p36_2, by rw [show z36 35 = z31 35 from h36.2.1]; exact v31_0.2.1, okS_eq (show z36 35 = z31 35 from h36.2.1) v31_0.2.2⟩) _ _ hP hS _ (lv_sub hl [0, 1, 2, 3, 4, 5] rfl)
                                    exact loop31 4 0 z28 y28 (show (3 - (0 : Int) : Int) < ((4 : Nat) : Int) from by omega) ⟨by decide, by decide⟩ J28 (v28_0) _ _ hP hS _ (lv_sub hl [0, 1, 2, 3, 4, 5] rfl)
                              exact loop28 4 0 z15 y15 (show (3 - (0 : Int) : Int) < ((4 : Nat) : Int) from by omega) ⟨by decide, by decide⟩ J15 (⟨v15_0.1, v15_0.2, (by rw [e18]; exact v15_0.1.2.2 _ (by have := gn_cast (x := w15_2) (by omega); omega))⟩) _ _ hP hS _ (lv_sub hl [0, 1, 2, 3, 4] rfl)
                            · have t27 : x26.toInt = a0.toInt := gl_eq c27
                              refine lv_aload_n hx hb dX11_butts_175 rfl (lv_at hl 2 rfl) ?_
                              refine qf_get hx hb hts inX11 hown hK hP (q0 := 0) (by decide) (hgM_0 ca o) rfl 57 (by decide) wq_1049 (v := .ref (o + 38)) rfl dX11_butts_176 ?_
                              refine lv_iload_n hx hb dX11_butts_179 rfl (lv_at hl 0 rfl) ?_
                              refine qa_iald hx hb hK hP (q0 := 38) (by decide) 0 (N := 9261) (hgM_38 ca o) rfl (gi_in (by omega) (by omega)) dX11_butts_180 ?_
                              refine lv_topi (fun x38 e38 => ?_)
                              exact W.iret (v := x38) hx hb hr (fun t ht hW => ⟨⟨x38, (z15, y15), rfl, ⟨trivial, J15⟩, by rw [ht]; exact hP, va_K.moved hW.alike hK⟩, hS.F ht⟩) hS.2.2 dX11_butts_181
                  exact loop15 9262 0 z14 y14 (show (9261 - (0 : Int) : Int) < ((9262 : Nat) : Int) from by omega) ⟨by decide, by decide⟩ J14 (⟨p14_2, by rw [show z14 35 = z9 35 from h14.2.1]; exact ⟨by omega, by omega, by omega⟩⟩) _ _ hP hS _ (lv_sub hl [0, 1, 2] rfl)
                · have t8 : w7_2.toInt < (9261 : Int) := gl_nle c8
                  refine lv_aload_n hx hb dX11_butts_89 rfl (lv_at hl 1 rfl) ?_
                  refine qf_get hx hb hts inX11 hown hK hP (q0 := 0) (by decide) (hgM_0 ca o) rfl 57 (by decide) wq_1049 (v := .ref (o + 38)) rfl dX11_butts_90 ?_
                  refine lv_iload_n hx hb dX11_butts_93 rfl (lv_at hl 0 rfl) ?_
                  refine lv_iconst (v := (-1)) hx hb dX11_butts_94 (by decide) ?_
                  refine qa_iast2 hx hb hK hP hS qw_Ai (q0 := 38) (by decide) 0 (N := 9261) (hgM_38 ca o) rfl (i := w7_2) (x := (-1)) (gi_in (by omega) (by omega)) dX11_butts_95 (fun z39 H locs hz39 hP hS => ?_)
                  have J39 := jM_38 J7 hz39
                  have k39_0 : (z39 0 58).toInt = (z7 0 58).toInt := congrArg Int32.toInt (qt_ne hz39 58 (by decide))
                  obtain ⟨x40, e40⟩ : ∃ t : Int32, t = w7_2 + 1 := ⟨_, rfl⟩
                  refine lv_iinc (v := x40) (lv' := [(2, .int x40), (0, .ref (o + 0)), (1, .int a0)]) hx hb dX11_butts_96 hl (k := 0) rfl (by rw [e40]; rfl) (by decide) rfl (fun ls hl => ?_)
                  have t40 : x40.toInt = w7_2.toInt + (1 : Int) := ga_add e40 rfl rfl (by omega) (by omega)
                  refine lv_goto (tgt := 82) hx hb dX11_butts_99 (by decide) ?_
                  exact ih7 x40 z39 y7 (show (9261 - x40.toInt : Int) < (n7 : Int) from by omega) ⟨by omega, by omega⟩ J39 (m1_step (by omega) (by omega) v7_0 hz39) (sz_up v7_1 hz39 ⟨by decide, by decide⟩) (show (z39 0 58).toInt = (z5 0 58).toInt from by omega) _ _ hP hS _ (lv_sub hl [0, 1, 2] rfl)
            exact loop7 9262 0 z5 y5 (show (9261 - (0 : Int) : Int) < ((9262 : Nat) : Int) from by omega) ⟨by decide, by decide⟩ J5 (m1_0 _) (v5_0) (show (z5 0 58).toInt = (z5 0 58).toInt from by omega) _ _ hP hS _ (lv_sub hl [0, 1, 2] rfl)
          · have t6 : w5_2.toInt < (3 : Int) := gl_nle c6
            refine lv_aload_n hx hb dX11_butts_33 rfl (lv_at hl 1 rfl) ?_
            refine qf_get hx hb hts inX11 hown hK hP (q0 := 0) (by decide) (hgM_0 ca o) rfl 54 (by decide) wq_1046 (v := .ref (o + 35)) rfl dX11_butts_34 ?_
            refine lv_iload_n hx hb dX11_butts_37 rfl (lv_at hl 0 rfl) ?_
            refine lv_aload_n hx hb dX11_butts_38 rfl (lv_at hl 1 rfl) ?_
            refine lv_iload_n hx hb dX11_butts_39 rfl (lv_at hl 0 rfl) ?_
            refine qc_Vip (As := [.int w5_2]) (rest := [.int w5_2, .ref (o + 35)]) (k0 := 1) (m_octet l D ca o b z5 y5 J5 w5_2 ⟨by omega, by omega⟩) kc_yX11_octet ⟨hx, hb, hml, hown, hts⟩ wq_1237 rfl rfl ⟨Nat.le_of_ble_eq_true rfl, Nat.le_of_ble_eq_true rfl⟩ wq_all hP hK hS qw_Ai (q0 := 0) (by decide) (hgM_0 ca o _ _) rfl rfl hl.1 rfl (Nat.le_of_ble_eq_true rfl) dX11_butts_40 ⟨Nat.zero_le _, Nat.zero_le _⟩ (fun r41 H locs h41 hP hS _ _ => ?_)
            have p41_1 : r41 = z5 12 w5_2.toNatClampNeg &&& 255 := h41.2
            have b41 : (0 : Int) ≤ r41.toInt ∧ r41.toInt ≤ 255 := h41.1
            refine qa_iast2 hx hb hK hP hS qw_Ai (q0 := 35) (by decide) 0 (N := 3) (hgM_35 ca o) rfl (i := w5_2) (x := r41) (gi_in (by omega) (by omega)) dX11_butts_43 (fun z42 H locs hz42 hP hS => ?_)
            have J42 := jM_35 J5 hz42
            have k42_0 : (z42 0 58).toInt = (z5 0 58).toInt := congrArg Int32.toInt (qt_ne hz42 58 (by decide))
            refine lv_aload_n hx hb dX11_butts_44 rfl (lv_at hl 1 rfl) ?_
            refine qf_get hx hb hts inX11 hown hK hP (q0 := 0) (by decide) (hgM_0 ca o) rfl 54 (by decide) wq_1046 (v := .ref (o + 35)) rfl dX11_butts_45 ?_
            refine lv_iload_n hx hb dX11_butts_48 rfl (lv_at hl 0 rfl) ?_
            refine qa_iald hx hb hK hP (q0 := 35) (by decide) 0 (N := 3) (hgM_35 ca o) rfl (gi_in (by omega) (by omega)) dX11_butts_49 ?_
            refine lv_topi (fun x43 e43 => ?_)
            refine lv_bipush (v := 20) hx hb dX11_butts_50 (by decide) ?_
            refine lv_icmp_gt (tgt := 71) hx hb dX11_butts_52 (by decide) (fun c44 => ?_) (fun c44 => ?_)
            · have t44 : x43.toInt > (20 : Int) := gl_lt c44
              refine lv_bipush (v := (-3)) hx hb dX11_butts_71 (by decide) ?_
              exact W.iret (v := (-3)) hx hb hr (fun t ht hW => ⟨⟨(-3), (z42, y5), rfl, ⟨trivial, J42⟩, by rw [ht]; exact hP, va_K.moved hW.alike hK⟩, hS.F ht⟩) hS.2.2 dX11_butts_73
            · have t44 : x43.toInt ≤ (20 : Int) := gl_nlt c44
              refine lv_aload_n hx hb dX11_butts_55 rfl (lv_at hl 1 rfl) ?_
              refine lv_iconst (v := 3) hx hb dX11_butts_56 (by decide) ?_
              refine lv_iload_n hx hb dX11_butts_57 rfl (lv_at hl 0 rfl) ?_
              refine lv_iadd hx hb dX11_butts_58 ?_
              refine lv_topi (fun x45 e45 => ?_)
              have t45 : x45.toInt = (3 : Int) + w5_2.toInt := ga_add e45 rfl rfl (by omega) (by omega)
              refine qc_Vip (As := [.int x45]) (rest := []) (k0 := 1) (m_octet l D ca o b z42 y5 J42 x45 ⟨by omega, by omega⟩) kc_yX11_octet ⟨hx, hb, hml, hown, hts⟩ wq_1237 rfl rfl ⟨Nat.le_of_ble_eq_true rfl, Nat.le_of_ble_eq_true rfl⟩ wq_all hP hK hS qw_Ai (q0 := 0) (by decide) (hgM_0 ca o _ _) rfl rfl hl.1 rfl (Nat.le_of_ble_eq_true rfl) dX11_butts_59 ⟨Nat.zero_le _, Nat.zero_le _⟩ (fun r46 H locs h46 hP hS _ _ => ?_)
              have p46_1 : r46 = z42 12 x45.toNatClampNeg &&& 255 := h46.2
              have b46 : (0 : Int) ≤ r46.toInt ∧ r46.toInt ≤ 255 := h46.1
              refine lv_aload_n hx hb dX11_butts_62 rfl (lv_at hl 1 rfl) ?_
              refine qf_get hx hb hts inX11 hown hK hP (q0 := 0) (by decide) (hgM_0 ca o) rfl 54 (by decide) wq_1046 (v := .ref (o + 35)) rfl dX11_butts_63 ?_
              refine lv_iload_n hx hb dX11_butts_66 rfl (lv_at hl 0 rfl) ?_
              refine qa_iald hx hb hK hP (q0 := 35) (by decide) 0 (N := 3) (hgM_35 ca o) rfl (gi_in (by omega) (by omega)) dX11_butts_67 ?_
              refine lv_topi (fun x47 e47 => ?_)
              have ag47 : x47.toInt = x43.toInt := congrArg Int32.toInt (e47.trans e43.symm)
              refine lv_icmp_le (tgt := 74) hx hb dX11_butts_68 (by decide) (fun c48 => ?_) (fun c48 => ?_)
              · have t48 : r46.toInt ≤ x47.toInt := gl_le c48
                obtain ⟨x49, e49⟩ : ∃ t : Int32, t = w5_2 + 1 := ⟨_, rfl⟩
                refine lv_iinc (v := x49) (lv' := [(2, .int x49), (0, .ref (o + 0)), (1, .int a0)]) hx hb dX11_butts_74 hl (k := 0) rfl (by rw [e49]; rfl) (by decide) rfl (fun ls hl => ?_)
                have t49 : x49.toInt = w5_2.toInt + (1 : Int) := ga_add e49 rfl rfl (by omega) (by omega)
                refine lv_goto (tgt := 28) hx hb dX11_butts_77 (by decide) ?_
                exact ih5 x49 z42 y5 (show (3 - x49.toInt : Int) < (n5 : Int) from by omega) ⟨by omega, by omega⟩ J42 (sz_step (by omega) (by omega) v5_0 hz42 e43 (by omega) (show x45.toInt = 3 + w5_2.toInt from by omega) p46_1 e47 (by omega)) (show (z42 0 58).toInt = (z4 0 58).toInt from by omega) _ _ hP hS _ (lv_sub hl [0, 1, 2] rfl)
              · have t48 : r46.toInt > x47.toInt := gl_nle c48
                refine lv_bipush (v := (-3)) hx hb dX11_butts_71 (by decide) ?_
                exact W.iret (v := (-3)) hx hb hr (fun t ht hW => ⟨⟨(-3), (z42, y5), rfl, ⟨trivial, J42⟩, by rw [ht]; exact hP, va_K.moved hW.alike hK⟩, hS.F ht⟩) hS.2.2 dX11_butts_73
      exact loop5 4 0 z4 y (show (3 - (0 : Int) : Int) < ((4 : Nat) : Int) from by omega) ⟨by decide, by decide⟩ J4 (sz_0 _) (show (z4 0 58).toInt = (z4 0 58).toInt from by omega) _ _ hP hS _ (lv_sub hl [0, 1, 2] rfl)
    · have t3 : x2.toInt < (6 : Int) := gl_nle c3
      refine lv_iconst (v := (-1)) hx hb dX11_butts_19 (by decide) ?_
      exact W.iret (v := (-1)) hx hb hr (fun t ht hW => ⟨⟨(-1), (z, y), rfl, ⟨trivial, J0⟩, by rw [ht]; exact hP, va_K.moved hW.alike hK⟩, hS.F ht⟩) hS.2.2 dX11_butts_20
  · subst hr1
    have hg1_0 : ¬ ((0 : Int) ≤ a0.toInt ∧ a0.toInt ≤ (20 : Int)) := hf1_0
    refine lv_if_eq (tgt := 19) hx hb dX11_butts_7 (by decide) (fun _ => ?_) (fun q => absurd (by decide) q)
    refine lv_iconst (v := (-1)) hx hb dX11_butts_19 (by decide) ?_
    exact W.iret (v := (-1)) hx hb hr (fun t ht hW => ⟨⟨(-1), (z, y), rfl, ⟨trivial, J0⟩, by rw [ht]; exact hP, va_K.moved hW.alike hK⟩, hS.F ht⟩) hS.2.2 dX11_butts_20
set_option maxRecDepth 100000 in
set_option maxHeartbeats 8000000 in
theorem m_plain (l : Launch) (D : va_G) (ca : Nat → ClassId) (o : Nat) (b z : Nat → Nat → Int32) (y : Nat → Nat → Int64) (J0 : qJM b z) (a0 : Int32) (a1 : Int32)  : qM l yX11_plain cX11_plain 3 (some .int) 2 82 (qPre D vwCl (qT6 ca) o 41 (qG (GM ca o) z y) [.ref (o + 0), .int a0, .int a1]) (va_Qi (fun r (_ : Unit) => True) (qB D vwCl (qT6 ca) o 41 (fun _ : Unit => qG (GM ca o) z y)) (qw_A o 41)) (qw_A o 41) := by
  refine Met.ofW (cc := cX11_plain) (maxL := 3) (ret := (some .int)) (by decide) rfl ?_
  intro p e s m args below meth c s₁ B hml hv
  obtain ⟨rfl, hP, hK⟩ := hv
  have hx := B.exec
  have hb := B.bytes
  have hr := B.returns
  have hts0 := atoms_spec (ws := Cond.code yX11_plain cX11_plain 3 (some .int) :: qtbl) B.pre
  have hts : ∀ w ∈ qtbl, w.before _ s = true := fun w h => hts0 w (List.mem_cons_of_mem _ h)
  have hown : s.vm.findClass RX11 = some m.cls := findClass_of_methodNamed B.named
  have hlocks := B.notSynchronized
  have hS : va_S (qw_A o 41) s.heap s.heap [] := va_S.rf
  have hl := lv_entry ([.ref (o + 0), .int a0, .int a1]) (n := 3) (Nat.le_of_ble_eq_true rfl)
  rw [lg_entry_eq]
  generalize (lg_sl ([.ref (o + 0), .int a0, .int a1]) ++ List.replicate (3 - (lg_sl ([.ref (o + 0), .int a0, .int a1])).length) Slot.unset).toArray = ls at hl ⊢
  have hl : lv_has ls 3 [(0, .ref (o + 0)), (1, .int a0), (2, .int a1)] := hl
  refine lv_iload_n hx hb dX11_plain_0 rfl (lv_at hl 1 rfl) ?_
  refine lv_iconst (v := 0) hx hb dX11_plain_1 (by decide) ?_
  refine lv_bipush (v := 15) hx hb dX11_plain_2 (by decide) ?_
  refine qc_Sip (As := [.int a0, .int 0, .int 15]) (rest := []) (k0 := 3) (m_in l D ca o b z y J0 a0 0 15) kc_yX11_in ⟨hx, hb, hml, hown, hts⟩ wq_1187 rfl rfl ⟨Nat.le_of_ble_eq_true rfl, Nat.le_of_ble_eq_true rfl⟩ wq_all hP hK hS qw_Ai rfl hl.1 rfl (Nat.le_of_ble_eq_true rfl) dX11_plain_4 ⟨Nat.zero_le _, Nat.zero_le _⟩ (fun r1 H locs h1 hP hS _ _ => ?_)
  rcases h1 with ⟨hr1, hf1_0⟩ | ⟨hr1, hf1_0⟩
  · subst hr1
    have hg1_0 : (0 : Int) ≤ a0.toInt ∧ a0.toInt ≤ (15 : Int) := hf1_0
    refine lv_if_eq (tgt := 31) hx hb dX11_plain_7 (by decide) (fun q => absurd q (by decide)) (fun _ => ?_)
    refine lv_aload_n hx hb dX11_plain_10 rfl (lv_at hl 0 rfl) ?_
    refine qf_get hx hb hts inX11 hown hK hP (q0 := 0) (by decide) (hgM_0 ca o) rfl 6 (by decide) wq_999 (v := .int (z 0 6)) rfl dX11_plain_11 ?_
    refine lv_topi (fun x2 e2 => ?_)
    refine lv_iload_n hx hb dX11_plain_14 rfl (lv_at hl 1 rfl) ?_
    refine qc_Sip (As := [.int x2, .int a0]) (rest := []) (k0 := 2) (m_has l D ca o b z y J0 x2 a0) kc_yX11_has ⟨hx, hb, hml, hown, hts⟩ wq_1198 rfl rfl ⟨Nat.le_of_ble_eq_true rfl, Nat.le_of_ble_eq_true rfl⟩ wq_all hP hK hS qw_Ai rfl hl.1 rfl (Nat.le_of_ble_eq_true rfl) dX11_plain_15 ⟨Nat.zero_le _, Nat.zero_le _⟩ (fun r3 H locs h3 hP hS _ _ => ?_)
    rcases h3 with ⟨hr3, hf3_0⟩ | ⟨hr3, hf3_0⟩
    · subst hr3
      have hg3_0 : bitAt x2 a0 ≠ 0 := hf3_0
      refine lv_if_eq (tgt := 31) hx hb dX11_plain_18 (by decide) (fun q => absurd q (by decide)) (fun _ => ?_)
      refine lv_iload_n hx hb dX11_plain_21 rfl (lv_at hl 2 rfl) ?_
      refine lv_iconst (v := 0) hx hb dX11_plain_22 (by decide) ?_
      refine lv_bipush (v := 6) hx hb dX11_plain_23 (by decide) ?_
      refine qc_Sip (As := [.int a1, .int 0, .int 6]) (rest := []) (k0 := 3) (m_in l D ca o b z y J0 a1 0 6) kc_yX11_in ⟨hx, hb, hml, hown, hts⟩ wq_1187 rfl rfl ⟨Nat.le_of_ble_eq_true rfl, Nat.le_of_ble_eq_true rfl⟩ wq_all hP hK hS qw_Ai rfl hl.1 rfl (Nat.le_of_ble_eq_true rfl) dX11_plain_25 ⟨Nat.zero_le _, Nat.zero_le _⟩ (fun r4 H locs h4 hP hS _ _ => ?_)
      rcases h4 with ⟨hr4, hf4_0⟩ | ⟨hr4, hf4_0⟩
      · subst hr4
        have hg4_0 : (0 : Int) ≤ a1.toInt ∧ a1.toInt ≤ (6 : Int) := hf4_0
        refine lv_if_ne (tgt := 33) hx hb dX11_plain_28 (by decide) (fun _ => ?_) (fun q => absurd q (by decide))
        refine lv_iload_n hx hb dX11_plain_33 rfl (lv_at hl 2 rfl) ?_
        refine lv_bipush (v := 6) hx hb dX11_plain_34 (by decide) ?_
        refine lv_icmp_ne (tgt := 48) hx hb dX11_plain_36 (by decide) (fun c5 => ?_) (fun c5 => ?_)
        · have t5 : a1.toInt ≠ (6 : Int) := gl_ne c5
          refine lv_aload_n hx hb dX11_plain_48 rfl (lv_at hl 0 rfl) ?_
          refine qf_get hx hb hts inX11 hown hK hP (q0 := 0) (by decide) (hgM_0 ca o) rfl 7 (by decide) wq_1000 (v := .ref (o + 5)) rfl dX11_plain_49 ?_
          refine lv_bipush (v := 6) hx hb dX11_plain_52 (by decide) ?_
          refine lv_iload_n hx hb dX11_plain_54 rfl (lv_at hl 1 rfl) ?_
          refine lv_imul hx hb dX11_plain_55 ?_
          refine lv_topi (fun x6 e6 => ?_)
          have t6 : x6.toInt = (6 : Int) * a0.toInt := ga_mul e6 rfl rfl (by omega) (by omega)
          refine lv_iload_n hx hb dX11_plain_56 rfl (lv_at hl 2 rfl) ?_
          refine lv_iadd hx hb dX11_plain_57 ?_
          refine lv_topi (fun x7 e7 => ?_)
          have t7 : x7.toInt = x6.toInt + a1.toInt := ga_add e7 rfl rfl (by omega) (by omega)
          refine qa_iald hx hb hK hP (q0 := 5) (by decide) 0 (N := 96) (hgM_5 ca o) rfl (gi_in (by omega) (by omega)) dX11_plain_58 ?_
          refine lv_topi (fun x8 e8 => ?_)
          exact W.iret (v := x8) hx hb hr (fun t ht hW => ⟨⟨x8, (), rfl, trivial, by rw [ht]; exact hP, va_K.moved hW.alike hK⟩, hS.F ht⟩) hS.2.2 dX11_plain_59
        · have t5 : a1.toInt = (6 : Int) := gl_eq c5
          refine lv_aload_n hx hb dX11_plain_39 rfl (lv_at hl 0 rfl) ?_
          refine qf_get hx hb hts inX11 hown hK hP (q0 := 0) (by decide) (hgM_0 ca o) rfl 9 (by decide) wq_1002 (v := .ref (o + 7)) rfl dX11_plain_40 ?_
          refine lv_iload_n hx hb dX11_plain_43 rfl (lv_at hl 1 rfl) ?_
          refine qa_iald hx hb hK hP (q0 := 7) (by decide) 0 (N := 16) (hgM_7 ca o) rfl (gi_in (by omega) (by omega)) dX11_plain_44 ?_
          refine lv_topi (fun x9 e9 => ?_)
          refine lv_goto (tgt := 59) hx hb dX11_plain_45 (by decide) ?_
          exact W.iret (v := x9) hx hb hr (fun t ht hW => ⟨⟨x9, (), rfl, trivial, by rw [ht]; exact hP, va_K.moved hW.alike hK⟩, hS.F ht⟩) hS.2.2 dX11_plain_59
      · subst hr4
        have hg4_0 : ¬ ((0 : Int) ≤ a1.toInt ∧ a1.toInt ≤ (6 : Int)) := hf4_0
        refine lv_if_ne (tgt := 33) hx hb dX11_plain_28 (by decide) (fun q => absurd q (by decide)) (fun _ => ?_)
        refine lv_iconst (v := 0) hx hb dX11_plain_31 (by decide) ?_
        exact W.iret (v := 0) hx hb hr (fun t ht hW => ⟨⟨0, (), rfl, trivial, by rw [ht]; exact hP, va_K.moved hW.alike hK⟩, hS.F ht⟩) hS.2.2 dX11_plain_32
    · subst hr3
      have hg3_0 : bitAt x2 a0 = 0 := hf3_0
      refine lv_if_eq (tgt := 31) hx hb dX11_plain_18 (by decide) (fun _ => ?_) (fun q => absurd (by decide) q)
      refine lv_iconst (v := 0) hx hb dX11_plain_31 (by decide) ?_
      exact W.iret (v := 0) hx hb hr (fun t ht hW => ⟨⟨0, (), rfl, trivial, by rw [ht]; exact hP, va_K.moved hW.alike hK⟩, hS.F ht⟩) hS.2.2 dX11_plain_32
  · subst hr1
    have hg1_0 : ¬ ((0 : Int) ≤ a0.toInt ∧ a0.toInt ≤ (15 : Int)) := hf1_0
    refine lv_if_eq (tgt := 31) hx hb dX11_plain_7 (by decide) (fun _ => ?_) (fun q => absurd (by decide) q)
    refine lv_iconst (v := 0) hx hb dX11_plain_31 (by decide) ?_
    exact W.iret (v := 0) hx hb hr (fun t ht hW => ⟨⟨0, (), rfl, trivial, by rw [ht]; exact hP, va_K.moved hW.alike hK⟩, hS.F ht⟩) hS.2.2 dX11_plain_32
set_option maxRecDepth 100000 in
set_option maxHeartbeats 8000000 in
theorem m_remarkIs (l : Launch) (D : va_G) (ca : Nat → ClassId) (o : Nat) (b z : Nat → Nat → Int32) (y : Nat → Nat → Int64) (J0 : qJM b z) (a0 : Int32) (a1 : Int32)  : qM l yX11_remarkIs cX11_remarkIs 3 (some .int) 2 82 (qPre D vwCl (qT6 ca) o 41 (qG (GM ca o) z y) [.ref (o + 0), .int a0, .int a1]) (va_Qi (fun r (_ : Unit) => True) (qB D vwCl (qT6 ca) o 41 (fun _ : Unit => qG (GM ca o) z y)) (qw_A o 41)) (qw_A o 41) := by
  refine Met.ofW (cc := cX11_remarkIs) (maxL := 3) (ret := (some .int)) (by decide) rfl ?_
  intro p e s m args below meth c s₁ B hml hv
  obtain ⟨rfl, hP, hK⟩ := hv
  have hx := B.exec
  have hb := B.bytes
  have hr := B.returns
  have hts0 := atoms_spec (ws := Cond.code yX11_remarkIs cX11_remarkIs 3 (some .int) :: qtbl) B.pre
  have hts : ∀ w ∈ qtbl, w.before _ s = true := fun w h => hts0 w (List.mem_cons_of_mem _ h)
  have hown : s.vm.findClass RX11 = some m.cls := findClass_of_methodNamed B.named
  have hlocks := B.notSynchronized
  have hS : va_S (qw_A o 41) s.heap s.heap [] := va_S.rf
  have hl := lv_entry ([.ref (o + 0), .int a0, .int a1]) (n := 3) (Nat.le_of_ble_eq_true rfl)
  rw [lg_entry_eq]
  generalize (lg_sl ([.ref (o + 0), .int a0, .int a1]) ++ List.replicate (3 - (lg_sl ([.ref (o + 0), .int a0, .int a1])).length) Slot.unset).toArray = ls at hl ⊢
  have hl : lv_has ls 3 [(0, .ref (o + 0)), (1, .int a0), (2, .int a1)] := hl
  refine lv_iload_n hx hb dX11_remarkIs_0 rfl (lv_at hl 1 rfl) ?_
  refine lv_iconst (v := 0) hx hb dX11_remarkIs_1 (by decide) ?_
  refine lv_bipush (v := 15) hx hb dX11_remarkIs_2 (by decide) ?_
  refine qc_Sip (As := [.int a0, .int 0, .int 15]) (rest := []) (k0 := 3) (m_in l D ca o b z y J0 a0 0 15) kc_yX11_in ⟨hx, hb, hml, hown, hts⟩ wq_1187 rfl rfl ⟨Nat.le_of_ble_eq_true rfl, Nat.le_of_ble_eq_true rfl⟩ wq_all hP hK hS qw_Ai rfl hl.1 rfl (Nat.le_of_ble_eq_true rfl) dX11_remarkIs_4 ⟨Nat.zero_le _, Nat.zero_le _⟩ (fun r1 H locs h1 hP hS _ _ => ?_)
  rcases h1 with ⟨hr1, hf1_0⟩ | ⟨hr1, hf1_0⟩
  · subst hr1
    have hg1_0 : (0 : Int) ≤ a0.toInt ∧ a0.toInt ≤ (15 : Int) := hf1_0
    refine lv_if_eq (tgt := 40) hx hb dX11_remarkIs_7 (by decide) (fun q => absurd q (by decide)) (fun _ => ?_)
    refine lv_aload_n hx hb dX11_remarkIs_10 rfl (lv_at hl 0 rfl) ?_
    refine qf_get hx hb hts inX11 hown hK hP (q0 := 0) (by decide) (hgM_0 ca o) rfl 6 (by decide) wq_999 (v := .int (z 0 6)) rfl dX11_remarkIs_11 ?_
    refine lv_topi (fun x2 e2 => ?_)
    refine lv_iload_n hx hb dX11_remarkIs_14 rfl (lv_at hl 1 rfl) ?_
    refine qc_Sip (As := [.int x2, .int a0]) (rest := []) (k0 := 2) (m_has l D ca o b z y J0 x2 a0) kc_yX11_has ⟨hx, hb, hml, hown, hts⟩ wq_1198 rfl rfl ⟨Nat.le_of_ble_eq_true rfl, Nat.le_of_ble_eq_true rfl⟩ wq_all hP hK hS qw_Ai rfl hl.1 rfl (Nat.le_of_ble_eq_true rfl) dX11_remarkIs_15 ⟨Nat.zero_le _, Nat.zero_le _⟩ (fun r3 H locs h3 hP hS _ _ => ?_)
    rcases h3 with ⟨hr3, hf3_0⟩ | ⟨hr3, hf3_0⟩
    · subst hr3
      have hg3_0 : bitAt x2 a0 ≠ 0 := hf3_0
      refine lv_if_eq (tgt := 40) hx hb dX11_remarkIs_18 (by decide) (fun q => absurd q (by decide)) (fun _ => ?_)
      refine lv_iload_n hx hb dX11_remarkIs_21 rfl (lv_at hl 2 rfl) ?_
      refine lv_iload_n hx hb dX11_remarkIs_22 rfl (lv_at hl 1 rfl) ?_
      refine lv_bipush (v := 9) hx hb dX11_remarkIs_23 (by decide) ?_
      refine lv_icmp_le (tgt := 32) hx hb dX11_remarkIs_25 (by decide) (fun c4 => ?_) (fun c4 => ?_)
      · have t4 : a0.toInt ≤ (9 : Int) := gl_le c4
        refine lv_iconst (v := 0) hx hb dX11_remarkIs_32 (by decide) ?_
        refine lv_iconst (v := 3) hx hb dX11_remarkIs_33 (by decide) ?_
        refine qc_Sip (As := [.int a1, .int 0, .int 3]) (rest := []) (k0 := 3) (m_in l D ca o b z y J0 a1 0 3) kc_yX11_in ⟨hx, hb, hml, hown, hts⟩ wq_1187 rfl rfl ⟨Nat.le_of_ble_eq_true rfl, Nat.le_of_ble_eq_true rfl⟩ wq_all hP hK hS qw_Ai rfl hl.1 rfl (Nat.le_of_ble_eq_true rfl) dX11_remarkIs_34 ⟨Nat.zero_le _, Nat.zero_le _⟩ (fun r5 H locs h5 hP hS _ _ => ?_)
        rcases h5 with ⟨hr5, hf5_0⟩ | ⟨hr5, hf5_0⟩
        · subst hr5
          have hg5_0 : (0 : Int) ≤ a1.toInt ∧ a1.toInt ≤ (3 : Int) := hf5_0
          refine lv_if_ne (tgt := 42) hx hb dX11_remarkIs_37 (by decide) (fun _ => ?_) (fun q => absurd q (by decide))
          refine lv_iload_n hx hb dX11_remarkIs_42 rfl (lv_at hl 2 rfl) ?_
          refine lv_if_ne (tgt := 55) hx hb dX11_remarkIs_43 (by decide) (fun c6 => ?_) (fun c6 => ?_)
          · have t6 : a1.toInt ≠ (0 : Int) := gl_ne c6
            refine lv_iload_n hx hb dX11_remarkIs_55 rfl (lv_at hl 2 rfl) ?_
            refine lv_iconst (v := 1) hx hb dX11_remarkIs_56 (by decide) ?_
            refine lv_icmp_ne (tgt := 69) hx hb dX11_remarkIs_57 (by decide) (fun c7 => ?_) (fun c7 => ?_)
            · have t7 : a1.toInt ≠ (1 : Int) := gl_ne c7
              refine lv_iload_n hx hb dX11_remarkIs_69 rfl (lv_at hl 2 rfl) ?_
              refine lv_iconst (v := 2) hx hb dX11_remarkIs_70 (by decide) ?_
              refine lv_icmp_ne (tgt := 83) hx hb dX11_remarkIs_71 (by decide) (fun c8 => ?_) (fun c8 => ?_)
              · have t8 : a1.toInt ≠ (2 : Int) := gl_ne c8
                refine lv_aload_n hx hb dX11_remarkIs_83 rfl (lv_at hl 0 rfl) ?_
                refine qf_get hx hb hts inX11 hown hK hP (q0 := 0) (by decide) (hgM_0 ca o) rfl 13 (by decide) wq_1006 (v := .ref (o + 11)) rfl dX11_remarkIs_84 ?_
                refine lv_iload_n hx hb dX11_remarkIs_87 rfl (lv_at hl 1 rfl) ?_
                refine qa_iald hx hb hK hP (q0 := 11) (by decide) 0 (N := 16) (hgM_11 ca o) rfl (gi_in (by omega) (by omega)) dX11_remarkIs_88 ?_
                refine lv_topi (fun x9 e9 => ?_)
                exact W.iret (v := x9) hx hb hr (fun t ht hW => ⟨⟨x9, (), rfl, trivial, by rw [ht]; exact hP, va_K.moved hW.alike hK⟩, hS.F ht⟩) hS.2.2 dX11_remarkIs_89
              · have t8 : a1.toInt = (2 : Int) := gl_eq c8
                refine lv_aload_n hx hb dX11_remarkIs_74 rfl (lv_at hl 0 rfl) ?_
                refine qf_get hx hb hts inX11 hown hK hP (q0 := 0) (by decide) (hgM_0 ca o) rfl 12 (by decide) wq_1005 (v := .ref (o + 10)) rfl dX11_remarkIs_75 ?_
                refine lv_iload_n hx hb dX11_remarkIs_78 rfl (lv_at hl 1 rfl) ?_
                refine qa_iald hx hb hK hP (q0 := 10) (by decide) 0 (N := 16) (hgM_10 ca o) rfl (gi_in (by omega) (by omega)) dX11_remarkIs_79 ?_
                refine lv_topi (fun x10 e10 => ?_)
                refine lv_goto (tgt := 89) hx hb dX11_remarkIs_80 (by decide) ?_
                exact W.iret (v := x10) hx hb hr (fun t ht hW => ⟨⟨x10, (), rfl, trivial, by rw [ht]; exact hP, va_K.moved hW.alike hK⟩, hS.F ht⟩) hS.2.2 dX11_remarkIs_89
            · have t7 : a1.toInt = (1 : Int) := gl_eq c7
              refine lv_aload_n hx hb dX11_remarkIs_60 rfl (lv_at hl 0 rfl) ?_
              refine qf_get hx hb hts inX11 hown hK hP (q0 := 0) (by decide) (hgM_0 ca o) rfl 11 (by decide) wq_1004 (v := .ref (o + 9)) rfl dX11_remarkIs_61 ?_
              refine lv_iload_n hx hb dX11_remarkIs_64 rfl (lv_at hl 1 rfl) ?_
              refine qa_iald hx hb hK hP (q0 := 9) (by decide) 0 (N := 16) (hgM_9 ca o) rfl (gi_in (by omega) (by omega)) dX11_remarkIs_65 ?_
              refine lv_topi (fun x11 e11 => ?_)
              refine lv_goto (tgt := 89) hx hb dX11_remarkIs_66 (by decide) ?_
              exact W.iret (v := x11) hx hb hr (fun t ht hW => ⟨⟨x11, (), rfl, trivial, by rw [ht]; exact hP, va_K.moved hW.alike hK⟩, hS.F ht⟩) hS.2.2 dX11_remarkIs_89
          · have t6 : a1.toInt = (0 : Int) := gl_eq c6
            refine lv_aload_n hx hb dX11_remarkIs_46 rfl (lv_at hl 0 rfl) ?_
            refine qf_get hx hb hts inX11 hown hK hP (q0 := 0) (by decide) (hgM_0 ca o) rfl 10 (by decide) wq_1003 (v := .ref (o + 8)) rfl dX11_remarkIs_47 ?_
            refine lv_iload_n hx hb dX11_remarkIs_50 rfl (lv_at hl 1 rfl) ?_
            refine qa_iald hx hb hK hP (q0 := 8) (by decide) 0 (N := 16) (hgM_8 ca o) rfl (gi_in (by omega) (by omega)) dX11_remarkIs_51 ?_
            refine lv_topi (fun x12 e12 => ?_)
            have b12 := iM_8 J0 e12
            refine lv_goto (tgt := 89) hx hb dX11_remarkIs_52 (by decide) ?_
            exact W.iret (v := x12) hx hb hr (fun t ht hW => ⟨⟨x12, (), rfl, trivial, by rw [ht]; exact hP, va_K.moved hW.alike hK⟩, hS.F ht⟩) hS.2.2 dX11_remarkIs_89
        · subst hr5
          have hg5_0 : ¬ ((0 : Int) ≤ a1.toInt ∧ a1.toInt ≤ (3 : Int)) := hf5_0
          refine lv_if_ne (tgt := 42) hx hb dX11_remarkIs_37 (by decide) (fun q => absurd q (by decide)) (fun _ => ?_)
          refine lv_iconst (v := (-1)) hx hb dX11_remarkIs_40 (by decide) ?_
          exact W.iret (v := (-1)) hx hb hr (fun t ht hW => ⟨⟨(-1), (), rfl, trivial, by rw [ht]; exact hP, va_K.moved hW.alike hK⟩, hS.F ht⟩) hS.2.2 dX11_remarkIs_41
      · have t4 : a0.toInt > (9 : Int) := gl_nle c4
        refine lv_iconst (v := 2) hx hb dX11_remarkIs_28 (by decide) ?_
        refine lv_goto (tgt := 33) hx hb dX11_remarkIs_29 (by decide) ?_
        refine lv_iconst (v := 3) hx hb dX11_remarkIs_33 (by decide) ?_
        refine qc_Sip (As := [.int a1, .int 2, .int 3]) (rest := []) (k0 := 3) (m_in l D ca o b z y J0 a1 2 3) kc_yX11_in ⟨hx, hb, hml, hown, hts⟩ wq_1187 rfl rfl ⟨Nat.le_of_ble_eq_true rfl, Nat.le_of_ble_eq_true rfl⟩ wq_all hP hK hS qw_Ai rfl hl.1 rfl (Nat.le_of_ble_eq_true rfl) dX11_remarkIs_34 ⟨Nat.zero_le _, Nat.zero_le _⟩ (fun r13 H locs h13 hP hS _ _ => ?_)
        rcases h13 with ⟨hr13, hf13_0⟩ | ⟨hr13, hf13_0⟩
        · subst hr13
          have hg13_0 : (2 : Int) ≤ a1.toInt ∧ a1.toInt ≤ (3 : Int) := hf13_0
          refine lv_if_ne (tgt := 42) hx hb dX11_remarkIs_37 (by decide) (fun _ => ?_) (fun q => absurd q (by decide))
          refine lv_iload_n hx hb dX11_remarkIs_42 rfl (lv_at hl 2 rfl) ?_
          refine lv_if_ne (tgt := 55) hx hb dX11_remarkIs_43 (by decide) (fun c14 => ?_) (fun c14 => ?_)
          · have t14 : a1.toInt ≠ (0 : Int) := gl_ne c14
            refine lv_iload_n hx hb dX11_remarkIs_55 rfl (lv_at hl 2 rfl) ?_
            refine lv_iconst (v := 1) hx hb dX11_remarkIs_56 (by decide) ?_
            refine lv_icmp_ne (tgt := 69) hx hb dX11_remarkIs_57 (by decide) (fun c15 => ?_) (fun c15 => ?_)
            · have t15 : a1.toInt ≠ (1 : Int) := gl_ne c15
              refine lv_iload_n hx hb dX11_remarkIs_69 rfl (lv_at hl 2 rfl) ?_
              refine lv_iconst (v := 2) hx hb dX11_remarkIs_70 (by decide) ?_
              refine lv_icmp_ne (tgt := 83) hx hb dX11_remarkIs_71 (by decide) (fun c16 => ?_) (fun c16 => ?_)
              · have t16 : a1.toInt ≠ (2 : Int) := gl_ne c16
                refine lv_aload_n hx hb dX11_remarkIs_83 rfl (lv_at hl 0 rfl) ?_
                refine qf_get hx hb hts inX11 hown hK hP (q0 := 0) (by decide) (hgM_0 ca o) rfl 13 (by decide) wq_1006 (v := .ref (o + 11)) rfl dX11_remarkIs_84 ?_
                refine lv_iload_n hx hb dX11_remarkIs_87 rfl (lv_at hl 1 rfl) ?_
                refine qa_iald hx hb hK hP (q0 := 11) (by decide) 0 (N := 16) (hgM_11 ca o) rfl (gi_in (by omega) (by omega)) dX11_remarkIs_88 ?_
                refine lv_topi (fun x17 e17 => ?_)
                exact W.iret (v := x17) hx hb hr (fun t ht hW => ⟨⟨x17, (), rfl, trivial, by rw [ht]; exact hP, va_K.moved hW.alike hK⟩, hS.F ht⟩) hS.2.2 dX11_remarkIs_89
              · have t16 : a1.toInt = (2 : Int) := gl_eq c16
                refine lv_aload_n hx hb dX11_remarkIs_74 rfl (lv_at hl 0 rfl) ?_
                refine qf_get hx hb hts inX11 hown hK hP (q0 := 0) (by decide) (hgM_0 ca o) rfl 12 (by decide) wq_1005 (v := .ref (o + 10)) rfl dX11_remarkIs_75 ?_
                refine lv_iload_n hx hb dX11_remarkIs_78 rfl (lv_at hl 1 rfl) ?_
                refine qa_iald hx hb hK hP (q0 := 10) (by decide) 0 (N := 16) (hgM_10 ca o) rfl (gi_in (by omega) (by omega)) dX11_remarkIs_79 ?_
                refine lv_topi (fun x18 e18 => ?_)
                refine lv_goto (tgt := 89) hx hb dX11_remarkIs_80 (by decide) ?_
                exact W.iret (v := x18) hx hb hr (fun t ht hW => ⟨⟨x18, (), rfl, trivial, by rw [ht]; exact hP, va_K.moved hW.alike hK⟩, hS.F ht⟩) hS.2.2 dX11_remarkIs_89
            · have t15 : a1.toInt = (1 : Int) := gl_eq c15
              exfalso; omega
          · have t14 : a1.toInt = (0 : Int) := gl_eq c14
            exfalso; omega
        · subst hr13
          have hg13_0 : ¬ ((2 : Int) ≤ a1.toInt ∧ a1.toInt ≤ (3 : Int)) := hf13_0
          refine lv_if_ne (tgt := 42) hx hb dX11_remarkIs_37 (by decide) (fun q => absurd q (by decide)) (fun _ => ?_)
          refine lv_iconst (v := (-1)) hx hb dX11_remarkIs_40 (by decide) ?_
          exact W.iret (v := (-1)) hx hb hr (fun t ht hW => ⟨⟨(-1), (), rfl, trivial, by rw [ht]; exact hP, va_K.moved hW.alike hK⟩, hS.F ht⟩) hS.2.2 dX11_remarkIs_41
    · subst hr3
      have hg3_0 : bitAt x2 a0 = 0 := hf3_0
      refine lv_if_eq (tgt := 40) hx hb dX11_remarkIs_18 (by decide) (fun _ => ?_) (fun q => absurd (by decide) q)
      refine lv_iconst (v := (-1)) hx hb dX11_remarkIs_40 (by decide) ?_
      exact W.iret (v := (-1)) hx hb hr (fun t ht hW => ⟨⟨(-1), (), rfl, trivial, by rw [ht]; exact hP, va_K.moved hW.alike hK⟩, hS.F ht⟩) hS.2.2 dX11_remarkIs_41
  · subst hr1
    have hg1_0 : ¬ ((0 : Int) ≤ a0.toInt ∧ a0.toInt ≤ (15 : Int)) := hf1_0
    refine lv_if_eq (tgt := 40) hx hb dX11_remarkIs_7 (by decide) (fun _ => ?_) (fun q => absurd (by decide) q)
    refine lv_iconst (v := (-1)) hx hb dX11_remarkIs_40 (by decide) ?_
    exact W.iret (v := (-1)) hx hb hr (fun t ht hW => ⟨⟨(-1), (), rfl, trivial, by rw [ht]; exact hP, va_K.moved hW.alike hK⟩, hS.F ht⟩) hS.2.2 dX11_remarkIs_41
set_option maxRecDepth 100000 in
set_option maxHeartbeats 8000000 in
theorem m_worth (l : Launch) (D : va_G) (ca : Nat → ClassId) (o : Nat) (b z : Nat → Nat → Int32) (y : Nat → Nat → Int64) (J0 : qJM b z) (a0 : Int32) (a1 : Int32)  : qM l yX11_worth cX11_worth 3 (some .int) 5 146 (qPre D vwCl (qT6 ca) o 41 (qG (GM ca o) z y) [.ref (o + 0), .int a0, .int a1]) (va_Qi (fun r u => True ∧ qJM b u.1) (qB D vwCl (qT6 ca) o 41 (fun u : qZ => qG (GM ca o) u.1 u.2)) (qw_A o 41)) (qw_A o 41) := by
  refine Met.ofW (cc := cX11_worth) (maxL := 3) (ret := (some .int)) (by decide) rfl ?_
  intro p e s m args below meth c s₁ B hml hv
  obtain ⟨rfl, hP, hK⟩ := hv
  have hx := B.exec
  have hb := B.bytes
  have hr := B.returns
  have hts0 := atoms_spec (ws := Cond.code yX11_worth cX11_worth 3 (some .int) :: qtbl) B.pre
  have hts : ∀ w ∈ qtbl, w.before _ s = true := fun w h => hts0 w (List.mem_cons_of_mem _ h)
  have hown : s.vm.findClass RX11 = some m.cls := findClass_of_methodNamed B.named
  have hlocks := B.notSynchronized
  have hS : va_S (qw_A o 41) s.heap s.heap [] := va_S.rf
  have hl := lv_entry ([.ref (o + 0), .int a0, .int a1]) (n := 3) (Nat.le_of_ble_eq_true rfl)
  rw [lg_entry_eq]
  generalize (lg_sl ([.ref (o + 0), .int a0, .int a1]) ++ List.replicate (3 - (lg_sl ([.ref (o + 0), .int a0, .int a1])).length) Slot.unset).toArray = ls at hl ⊢
  have hl : lv_has ls 3 [(0, .ref (o + 0)), (1, .int a0), (2, .int a1)] := hl
  refine lv_aload_n hx hb dX11_worth_0 rfl (lv_at hl 0 rfl) ?_
  refine lv_iload_n hx hb dX11_worth_1 rfl (lv_at hl 1 rfl) ?_
  refine qc_Vip (As := [.int a0]) (rest := []) (k0 := 1) (m_areRemarks l D ca o b z y J0 a0) kc_yX11_areRemarks ⟨hx, hb, hml, hown, hts⟩ wq_1324 rfl rfl ⟨Nat.le_of_ble_eq_true rfl, Nat.le_of_ble_eq_true rfl⟩ wq_all hP hK hS qw_Ai (q0 := 0) (by decide) (hgM_0 ca o _ _) rfl rfl hl.1 rfl (Nat.le_of_ble_eq_true rfl) dX11_worth_2 ⟨Nat.zero_le _, Nat.zero_le _⟩ (fun r1 H locs h1 hP hS _ _ => ?_)
  have b1 : (0 : Int) ≤ r1.toInt ∧ r1.toInt ≤ 1 := h1
  refine lv_if_eq (tgt := 26) hx hb dX11_worth_5 (by decide) (fun c2 => ?_) (fun c2 => ?_)
  · have t2 : r1.toInt = (0 : Int) := gl_eq c2
    refine lv_iconst (v := 0) hx hb dX11_worth_26 (by decide) ?_
    exact W.iret (v := 0) hx hb hr (fun t ht hW => ⟨⟨0, (z, y), rfl, ⟨trivial, J0⟩, by rw [ht]; exact hP, va_K.moved hW.alike hK⟩, hS.F ht⟩) hS.2.2 dX11_worth_27
  · have t2 : r1.toInt ≠ (0 : Int) := gl_ne c2
    refine lv_aload_n hx hb dX11_worth_8 rfl (lv_at hl 0 rfl) ?_
    refine lv_iload_n hx hb dX11_worth_9 rfl (lv_at hl 2 rfl) ?_
    refine qc_Vip (As := [.int a1]) (rest := []) (k0 := 1) (m_isForm l D ca o b z y J0 a1) kc_yX11_isForm ⟨hx, hb, hml, hown, hts⟩ wq_1433 rfl rfl ⟨Nat.le_of_ble_eq_true rfl, Nat.le_of_ble_eq_true rfl⟩ wq_all hP hK hS qw_Ai (q0 := 0) (by decide) (hgM_0 ca o _ _) rfl rfl hl.1 rfl (Nat.le_of_ble_eq_true rfl) dX11_worth_10 ⟨Nat.zero_le _, Nat.zero_le _⟩ (fun r3 H locs h3 hP hS _ _ => ?_)
    rcases h3 with ⟨hr3, hf3_0⟩ | hr3
    · subst hr3
      have hg3_0 : 0 ≤ a1.toInt ∧ a1.toInt ≤ 5 := hf3_0
      refine lv_if_eq (tgt := 26) hx hb dX11_worth_13 (by decide) (fun q => absurd q (by decide)) (fun _ => ?_)
      refine lv_aload_n hx hb dX11_worth_16 rfl (lv_at hl 0 rfl) ?_
      refine qc_Vip (As := []) (rest := []) (k0 := 0) (m_rowMany l D ca o b z y J0) kc_yX11_rowMany ⟨hx, hb, hml, hown, hts⟩ wq_1315 rfl rfl ⟨Nat.le_of_ble_eq_true rfl, Nat.le_of_ble_eq_true rfl⟩ wq_all hP hK hS qw_Ai (q0 := 0) (by decide) (hgM_0 ca o _ _) rfl rfl hl.1 rfl (Nat.le_of_ble_eq_true rfl) dX11_worth_17 ⟨Nat.zero_le _, Nat.zero_le _⟩ (fun r4 H locs h4 hP hS _ _ => ?_)
      have p4_1 : rmI z 6 r4 := h4.2
      refine lv_ldcw (v := 200000) hx hb hown (hts _ wq_1319) dX11_worth_20 ?_
      refine lv_icmp_le (tgt := 28) hx hb dX11_worth_23 (by decide) (fun c5 => ?_) (fun c5 => ?_)
      · have t5 : r4.toInt ≤ (200000 : Int) := gl_le c5
        refine lv_aload_n hx hb dX11_worth_28 rfl (lv_at hl 0 rfl) ?_
        refine lv_iload_n hx hb dX11_worth_29 rfl (lv_at hl 1 rfl) ?_
        refine qc_Vi2 (As := [.int a0]) (rest := []) (k0 := 1) (m_findsRow l D ca o b z y J0 a0) kc_yX11_findsRow ⟨hx, hb, hml, hown, hts⟩ wq_1332 rfl rfl ⟨Nat.le_of_ble_eq_true rfl, Nat.le_of_ble_eq_true rfl⟩ wq_all hP hK hS qw_Ai (q0 := 0) (by decide) (hgM_0 ca o _ _) rfl rfl hl.1 rfl (Nat.le_of_ble_eq_true rfl) dX11_worth_30 ⟨Nat.zero_le _, Nat.zero_le _⟩ (fun r6 z6 y6 H locs h6 hP hS _ _ => ?_)
        have J6 : qJM b z6 := h6.2
        have b6 : (0 : Int) ≤ r6.toInt ∧ r6.toInt ≤ 1 := h6.1
        refine lv_if_eq (tgt := 47) hx hb dX11_worth_33 (by decide) (fun c7 => ?_) (fun c7 => ?_)
        · have t7 : r6.toInt = (0 : Int) := gl_eq c7
          refine lv_iconst (v := 0) hx hb dX11_worth_47 (by decide) ?_
          exact W.iret (v := 0) hx hb hr (fun t ht hW => ⟨⟨0, (z6, y6), rfl, ⟨trivial, J6⟩, by rw [ht]; exact hP, va_K.moved hW.alike hK⟩, hS.F ht⟩) hS.2.2 dX11_worth_48
        · have t7 : r6.toInt ≠ (0 : Int) := gl_ne c7
          refine lv_aload_n hx hb dX11_worth_36 rfl (lv_at hl 0 rfl) ?_
          refine lv_bipush (v := 10) hx hb dX11_worth_37 (by decide) ?_
          refine lv_iload_n hx hb dX11_worth_39 rfl (lv_at hl 2 rfl) ?_
          refine lv_iadd hx hb dX11_worth_40 ?_
          refine lv_topi (fun x8 e8 => ?_)
          have t8 : x8.toInt = (10 : Int) + a1.toInt := ga_add e8 rfl rfl (by omega) (by omega)
          refine qc_Vip (As := [.int x8]) (rest := []) (k0 := 1) (m_valueOf l D ca o b z6 y6 J6 x8 ⟨by omega, by omega⟩) kc_yX11_valueOf ⟨hx, hb, hml, hown, hts⟩ wq_1344 rfl rfl ⟨Nat.le_of_ble_eq_true rfl, Nat.le_of_ble_eq_true rfl⟩ wq_all hP hK hS qw_Ai (q0 := 0) (by decide) (hgM_0 ca o _ _) rfl rfl hl.1 rfl (Nat.le_of_ble_eq_true rfl) dX11_worth_41 ⟨Nat.zero_le _, Nat.zero_le _⟩ (fun r9 H locs h9 hP hS _ _ => ?_)
          refine lv_goto (tgt := 48) hx hb dX11_worth_44 (by decide) ?_
          exact W.iret (v := r9) hx hb hr (fun t ht hW => ⟨⟨r9, (z6, y6), rfl, ⟨trivial, J6⟩, by rw [ht]; exact hP, va_K.moved hW.alike hK⟩, hS.F ht⟩) hS.2.2 dX11_worth_48
      · have t5 : r4.toInt > (200000 : Int) := gl_nle c5
        refine lv_iconst (v := 0) hx hb dX11_worth_26 (by decide) ?_
        exact W.iret (v := 0) hx hb hr (fun t ht hW => ⟨⟨0, (z, y), rfl, ⟨trivial, J0⟩, by rw [ht]; exact hP, va_K.moved hW.alike hK⟩, hS.F ht⟩) hS.2.2 dX11_worth_27
    · subst hr3
      refine lv_if_eq (tgt := 26) hx hb dX11_worth_13 (by decide) (fun _ => ?_) (fun q => absurd (by decide) q)
      refine lv_iconst (v := 0) hx hb dX11_worth_26 (by decide) ?_
      exact W.iret (v := 0) hx hb hr (fun t ht hW => ⟨⟨0, (z, y), rfl, ⟨trivial, J0⟩, by rw [ht]; exact hP, va_K.moved hW.alike hK⟩, hS.F ht⟩) hS.2.2 dX11_worth_27
set_option maxRecDepth 100000 in
set_option maxHeartbeats 8000000 in
theorem m_between (l : Launch) (D : va_G) (ca : Nat → ClassId) (o : Nat) (b z : Nat → Nat → Int32) (y : Nat → Nat → Int64) (J0 : qJM b z) (a0 : Int32) (a1 : Int32) (a2 : Int32)  : qM l yX11_between cX11_between 8 (some .int) 4 125 (qPre D vwCl (qT6 ca) o 41 (qG (GM ca o) z y) [.ref (o + 0), .int a0, .int a1, .int a2]) (va_Qi (fun r u => True ∧ qJM b u.1) (qB D vwCl (qT6 ca) o 41 (fun u : qZ => qG (GM ca o) u.1 u.2)) (qw_A o 41)) (qw_A o 41) := by
  refine Met.ofW (cc := cX11_between) (maxL := 8) (ret := (some .int)) (by decide) rfl ?_
  intro p e s m args below meth c s₁ B hml hv
  obtain ⟨rfl, hP, hK⟩ := hv
  have hx := B.exec
  have hb := B.bytes
  have hr := B.returns
  have hts0 := atoms_spec (ws := Cond.code yX11_between cX11_between 8 (some .int) :: qtbl) B.pre
  have hts : ∀ w ∈ qtbl, w.before _ s = true := fun w h => hts0 w (List.mem_cons_of_mem _ h)
  have hown : s.vm.findClass RX11 = some m.cls := findClass_of_methodNamed B.named
  have hlocks := B.notSynchronized
  have hS : va_S (qw_A o 41) s.heap s.heap [] := va_S.rf
  have hl := lv_entry ([.ref (o + 0), .int a0, .int a1, .int a2]) (n := 8) (Nat.le_of_ble_eq_true rfl)
  rw [lg_entry_eq]
  generalize (lg_sl ([.ref (o + 0), .int a0, .int a1, .int a2]) ++ List.replicate (8 - (lg_sl ([.ref (o + 0), .int a0, .int a1, .int a2])).length) Slot.unset).toArray = ls at hl ⊢
  have hl : lv_has ls 8 [(0, .ref (o + 0)), (1, .int a0), (2, .int a1), (3, .int a2)] := hl
  refine lv_aload_n hx hb dX11_between_0 rfl (lv_at hl 0 rfl) ?_
  refine lv_iload_n hx hb dX11_between_1 rfl (lv_at hl 1 rfl) ?_
  refine qc_Vip (As := [.int a0]) (rest := []) (k0 := 1) (m_areRemarks l D ca o b z y J0 a0) kc_yX11_areRemarks ⟨hx, hb, hml, hown, hts⟩ wq_1324 rfl rfl ⟨Nat.le_of_ble_eq_true rfl, Nat.le_of_ble_eq_true rfl⟩ wq_all hP hK hS qw_Ai (q0 := 0) (by decide) (hgM_0 ca o _ _) rfl rfl hl.1 rfl (Nat.le_of_ble_eq_true rfl) dX11_between_2 ⟨Nat.zero_le _, Nat.zero_le _⟩ (fun r1 H locs h1 hP hS _ _ => ?_)
  have b1 : (0 : Int) ≤ r1.toInt ∧ r1.toInt ≤ 1 := h1
  refine lv_if_eq (tgt := 35) hx hb dX11_between_5 (by decide) (fun c2 => ?_) (fun c2 => ?_)
  · have t2 : r1.toInt = (0 : Int) := gl_eq c2
    refine lv_iconst (v := 0) hx hb dX11_between_35 (by decide) ?_
    exact W.iret (v := 0) hx hb hr (fun t ht hW => ⟨⟨0, (z, y), rfl, ⟨trivial, J0⟩, by rw [ht]; exact hP, va_K.moved hW.alike hK⟩, hS.F ht⟩) hS.2.2 dX11_between_36
  · have t2 : r1.toInt ≠ (0 : Int) := gl_ne c2
    refine lv_aload_n hx hb dX11_between_8 rfl (lv_at hl 0 rfl) ?_
    refine lv_iload_n hx hb dX11_between_9 rfl (lv_at hl 2 rfl) ?_
    refine qc_Vip (As := [.int a1]) (rest := []) (k0 := 1) (m_isForm l D ca o b z y J0 a1) kc_yX11_isForm ⟨hx, hb, hml, hown, hts⟩ wq_1433 rfl rfl ⟨Nat.le_of_ble_eq_true rfl, Nat.le_of_ble_eq_true rfl⟩ wq_all hP hK hS qw_Ai (q0 := 0) (by decide) (hgM_0 ca o _ _) rfl rfl hl.1 rfl (Nat.le_of_ble_eq_true rfl) dX11_between_10 ⟨Nat.zero_le _, Nat.zero_le _⟩ (fun r3 H locs h3 hP hS _ _ => ?_)
    rcases h3 with ⟨hr3, hf3_0⟩ | hr3
    · subst hr3
      have hg3_0 : 0 ≤ a1.toInt ∧ a1.toInt ≤ 5 := hf3_0
      refine lv_if_eq (tgt := 35) hx hb dX11_between_13 (by decide) (fun q => absurd q (by decide)) (fun _ => ?_)
      refine lv_iload_n hx hb dX11_between_16 rfl (lv_at hl 3 rfl) ?_
      refine lv_iconst (v := 0) hx hb dX11_between_17 (by decide) ?_
      refine lv_iconst (v := 1) hx hb dX11_between_18 (by decide) ?_
      refine qc_Sip (As := [.int a2, .int 0, .int 1]) (rest := []) (k0 := 3) (m_in l D ca o b z y J0 a2 0 1) kc_yX11_in ⟨hx, hb, hml, hown, hts⟩ wq_1187 rfl rfl ⟨Nat.le_of_ble_eq_true rfl, Nat.le_of_ble_eq_true rfl⟩ wq_all hP hK hS qw_Ai rfl hl.1 rfl (Nat.le_of_ble_eq_true rfl) dX11_between_19 ⟨Nat.zero_le _, Nat.zero_le _⟩ (fun r4 H locs h4 hP hS _ _ => ?_)
      rcases h4 with ⟨hr4, hf4_0⟩ | ⟨hr4, hf4_0⟩
      · subst hr4
        have hg4_0 : (0 : Int) ≤ a2.toInt ∧ a2.toInt ≤ (1 : Int) := hf4_0
        refine lv_if_eq (tgt := 35) hx hb dX11_between_22 (by decide) (fun q => absurd q (by decide)) (fun _ => ?_)
        refine lv_aload_n hx hb dX11_between_25 rfl (lv_at hl 0 rfl) ?_
        refine qc_Vip (As := []) (rest := []) (k0 := 0) (m_rowMany l D ca o b z y J0) kc_yX11_rowMany ⟨hx, hb, hml, hown, hts⟩ wq_1315 rfl rfl ⟨Nat.le_of_ble_eq_true rfl, Nat.le_of_ble_eq_true rfl⟩ wq_all hP hK hS qw_Ai (q0 := 0) (by decide) (hgM_0 ca o _ _) rfl rfl hl.1 rfl (Nat.le_of_ble_eq_true rfl) dX11_between_26 ⟨Nat.zero_le _, Nat.zero_le _⟩ (fun r5 H locs h5 hP hS _ _ => ?_)
        have p5_1 : rmI z 6 r5 := h5.2
        refine lv_ldcw (v := 200000) hx hb hown (hts _ wq_1319) dX11_between_29 ?_
        refine lv_icmp_le (tgt := 37) hx hb dX11_between_32 (by decide) (fun c6 => ?_) (fun c6 => ?_)
        · have t6 : r5.toInt ≤ (200000 : Int) := gl_le c6
          refine lv_iconst (v := 0) hx hb dX11_between_37 (by decide) ?_
          refine lv_istore (lv' := [(4, .int 0), (0, .ref (o + 0)), (1, .int a0), (2, .int a1), (3, .int a2)]) hx hb dX11_between_38 hl (by decide) rfl (fun ls hl => ?_)
          refine lv_iconst (v := 0) hx hb dX11_between_40 (by decide) ?_
          refine lv_istore (lv' := [(5, .int 0), (4, .int 0), (0, .ref (o + 0)), (1, .int a0), (2, .int a1), (3, .int a2)]) hx hb dX11_between_41 hl (by decide) rfl (fun ls hl => ?_)
          refine lv_aload_n hx hb dX11_between_43 rfl (lv_at hl 2 rfl) ?_
          refine qc_Vv2 (As := []) (rest := []) (k0 := 0) (m_firstRow l D ca o b z y J0) kc_yX11_firstRow ⟨hx, hb, hml, hown, hts⟩ wq_1336 rfl rfl ⟨Nat.le_of_ble_eq_true rfl, Nat.le_of_ble_eq_true rfl⟩ wq_all hP hK hS qw_Ai (q0 := 0) (by decide) (hgM_0 ca o _ _) rfl rfl hl.1 rfl (Nat.le_of_ble_eq_true rfl) dX11_between_44 ⟨Nat.zero_le _, Nat.zero_le _⟩ (fun z7 y7 H locs h7 hP hS _ _ => ?_)
          have J7 : qJM b z7 := h7.1
          have p7_3 : rl z7 + 1 = rwp z 6 := h7.2.2.2
          refine lv_iconst (v := 1) hx hb dX11_between_47 (by decide) ?_
          refine lv_istore (lv' := [(6, .int 1), (5, .int 0), (4, .int 0), (0, .ref (o + 0)), (1, .int a0), (2, .int a1), (3, .int a2)]) hx hb dX11_between_48 hl (by decide) rfl (fun ls hl => ?_)
          have loop8 : ∀ (n : Nat) (w8_6 : Int32) (w8_5 : Int32) (w8_4 : Int32) (z8 : Nat → Nat → Int32) (y8 : Nat → Nat → Int64), (((rl z8 : Int) : Int) < (n : Int)) → ((1 : Int) ≤ w8_6.toInt ∧ w8_6.toInt ≤ 1) → ((0 : Int) ≤ w8_5.toInt ∧ w8_5.toInt ≤ 1) → (qJM b z8) → ∀ (H : Heap) (locs : List Loc), qw_P D vwCl o 41 (qG (GM ca o) z8 y8) H → va_S (qw_A o 41) s.heap H locs → ∀ (ls : Array Slot), lv_has ls 8 [(6, .int w8_6), (5, .int w8_5), (4, .int w8_4), (0, .ref (o + 0)), (1, .int a0), (2, .int a1), (3, .int a2)] → W p l e (headSpec (Cond.code yX11_between cX11_between 8 (some .int) :: qtbl) ({ frames := 4, cells := 0, slots := 0, locals := 125 })).room s m (([.ref (o + 0), .int a0, .int a1, .int a2] : List Value).toArray) below meth c H locs 0 0 (MQ below (va_Qi (fun r u => True ∧ qJM b u.1) (qB D vwCl (qT6 ca) o 41 (fun u : qZ => qG (GM ca o) u.1 u.2)) (qw_A o 41)) (([.ref (o + 0), .int a0, .int a1, .int a2] : List Value).toArray) s 0 0 (qw_A o 41)) (F0 m 50 ls []) := by
            intro n
            induction n with
            | zero => intro w8_6 w8_5 w8_4 z8 y8 hb8 hv8_6 hv8_5 J8; exfalso; omega
            | succ n8 ih8 =>
              intro w8_6 w8_5 w8_4 z8 y8 hb8 hv8_6 hv8_5 J8 H locs hP hS ls hl
              refine lv_iload hx hb dX11_between_50 (lv_at hl 0 rfl) ?_
              refine lv_if_eq (tgt := 115) hx hb dX11_between_52 (by decide) (fun c9 => ?_) (fun c9 => ?_)
              · have t9 : w8_6.toInt = (0 : Int) := gl_eq c9
                exfalso; omega
              · have t9 : w8_6.toInt ≠ (0 : Int) := gl_ne c9
                refine lv_aload_n hx hb dX11_between_55 rfl (lv_at hl 3 rfl) ?_
                refine lv_iload_n hx hb dX11_between_56 rfl (lv_at hl 4 rfl) ?_
                refine qc_Vip (As := [.int a0]) (rest := []) (k0 := 1) (m_fitsAll l D ca o b z8 y8 J8 a0) kc_yX11_fitsAll ⟨hx, hb, hml, hown, hts⟩ wq_1340 rfl rfl ⟨Nat.le_of_ble_eq_true rfl, Nat.le_of_ble_eq_true rfl⟩ wq_all hP hK hS qw_Ai (q0 := 0) (by decide) (hgM_0 ca o _ _) rfl rfl hl.1 rfl (Nat.le_of_ble_eq_true rfl) dX11_between_57 ⟨Nat.zero_le _, Nat.zero_le _⟩ (fun r10 H locs h10 hP hS _ _ => ?_)
                have b10 : (0 : Int) ≤ r10.toInt ∧ r10.toInt ≤ 1 := h10
                refine lv_if_eq (tgt := 106) hx hb dX11_between_60 (by decide) (fun c11 => ?_) (fun c11 => ?_)
                · have t11 : r10.toInt = (0 : Int) := gl_eq c11
                  refine lv_aload_n hx hb dX11_between_106 rfl (lv_at hl 3 rfl) ?_
                  refine qc_Vi2 (As := []) (rest := []) (k0 := 0) (m_nextRow l D ca o b z8 y8 J8) kc_yX11_nextRow ⟨hx, hb, hml, hown, hts⟩ wq_1352 rfl rfl ⟨Nat.le_of_ble_eq_true rfl, Nat.le_of_ble_eq_true rfl⟩ wq_all hP hK hS qw_Ai (q0 := 0) (by decide) (hgM_0 ca o _ _) rfl rfl hl.1 rfl (Nat.le_of_ble_eq_true rfl) dX11_between_107 ⟨Nat.zero_le _, Nat.zero_le _⟩ (fun r12 z12 y12 H locs h12 hP hS _ _ => ?_)
                  have J12 : qJM b z12 := h12.2.1
                  have p12_4 : (z12 0 41).toInt = (z8 0 41).toInt := h12.2.2.2.2
                  rcases h12.1 with ⟨hr12, hf12_0⟩ | hr12
                  · subst hr12
                    have hg12_0 : rl z12 + 1 ≤ rl z8 := hf12_0
                    refine lv_istore (lv' := [(6, .int 1), (5, .int w8_5), (4, .int w8_4), (0, .ref (o + 0)), (1, .int a0), (2, .int a1), (3, .int a2)]) hx hb dX11_between_110 hl (by decide) rfl (fun ls hl => ?_)
                    refine lv_goto (tgt := 50) hx hb dX11_between_112 (by decide) ?_
                    exact ih8 1 w8_5 w8_4 z12 y12 (show ((rl z12 : Int) : Int) < (n8 : Int) from by omega) ⟨by decide, by decide⟩ ⟨by omega, by omega⟩ J12 _ _ hP hS _ (lv_sub hl [0, 1, 2, 3, 4, 5, 6] rfl)
                  · subst hr12
                    refine lv_istore (lv' := [(6, .int 0), (5, .int w8_5), (4, .int w8_4), (0, .ref (o + 0)), (1, .int a0), (2, .int a1), (3, .int a2)]) hx hb dX11_between_110 hl (by decide) rfl (fun ls hl => ?_)
                    refine lv_goto (tgt := 50) hx hb dX11_between_112 (by decide) ?_
                    refine lv_iload hx hb dX11_between_50 (lv_at hl 0 rfl) ?_
                    refine lv_if_eq (tgt := 115) hx hb dX11_between_52 (by decide) (fun _ => ?_) (fun q => absurd (by decide) q)
                    refine lv_iload hx hb dX11_between_115 (lv_at hl 2 rfl) ?_
                    exact W.iret (v := w8_4) hx hb hr (fun t ht hW => ⟨⟨w8_4, (z12, y12), rfl, ⟨trivial, J12⟩, by rw [ht]; exact hP, va_K.moved hW.alike hK⟩, hS.F ht⟩) hS.2.2 dX11_between_117
                · have t11 : r10.toInt ≠ (0 : Int) := gl_ne c11
                  refine lv_aload_n hx hb dX11_between_63 rfl (lv_at hl 3 rfl) ?_
                  refine lv_bipush (v := 10) hx hb dX11_between_64 (by decide) ?_
                  refine lv_iload_n hx hb dX11_between_66 rfl (lv_at hl 5 rfl) ?_
                  refine lv_iadd hx hb dX11_between_67 ?_
                  refine lv_topi (fun x13 e13 => ?_)
                  have t13 : x13.toInt = (10 : Int) + a1.toInt := ga_add e13 rfl rfl (by omega) (by omega)
                  refine qc_Vip (As := [.int x13]) (rest := []) (k0 := 1) (m_valueOf l D ca o b z8 y8 J8 x13 ⟨by omega, by omega⟩) kc_yX11_valueOf ⟨hx, hb, hml, hown, hts⟩ wq_1344 rfl rfl ⟨Nat.le_of_ble_eq_true rfl, Nat.le_of_ble_eq_true rfl⟩ wq_all hP hK hS qw_Ai (q0 := 0) (by decide) (hgM_0 ca o _ _) rfl rfl hl.1 rfl (Nat.le_of_ble_eq_true rfl) dX11_between_68 ⟨Nat.zero_le _, Nat.zero_le _⟩ (fun r14 H locs h14 hP hS _ _ => ?_)
                  refine lv_istore (lv' := [(7, .int r14), (6, .int w8_6), (5, .int w8_5), (4, .int w8_4), (0, .ref (o + 0)), (1, .int a0), (2, .int a1), (3, .int a2)]) hx hb dX11_between_71 hl (by decide) rfl (fun ls hl => ?_)
                  refine lv_iload hx hb dX11_between_73 (lv_at hl 2 rfl) ?_
                  refine lv_if_eq (tgt := 99) hx hb dX11_between_75 (by decide) (fun c15 => ?_) (fun c15 => ?_)
                  · have t15 : w8_5.toInt = (0 : Int) := gl_eq c15
                    refine lv_iload hx hb dX11_between_99 (lv_at hl 0 rfl) ?_
                    refine lv_istore (lv' := [(4, .int r14), (7, .int r14), (6, .int w8_6), (5, .int w8_5), (0, .ref (o + 0)), (1, .int a0), (2, .int a1), (3, .int a2)]) hx hb dX11_between_101 hl (by decide) rfl (fun ls hl => ?_)
                    refine lv_iconst (v := 1) hx hb dX11_between_103 (by decide) ?_
                    refine lv_istore (lv' := [(5, .int 1), (4, .int r14), (7, .int r14), (6, .int w8_6), (0, .ref (o + 0)), (1, .int a0), (2, .int a1), (3, .int a2)]) hx hb dX11_between_104 hl (by decide) rfl (fun ls hl => ?_)
                    refine lv_aload_n hx hb dX11_between_106 rfl (lv_at hl 4 rfl) ?_
                    refine qc_Vi2 (As := []) (rest := []) (k0 := 0) (m_nextRow l D ca o b z8 y8 J8) kc_yX11_nextRow ⟨hx, hb, hml, hown, hts⟩ wq_1352 rfl rfl ⟨Nat.le_of_ble_eq_true rfl, Nat.le_of_ble_eq_true rfl⟩ wq_all hP hK hS qw_Ai (q0 := 0) (by decide) (hgM_0 ca o _ _) rfl rfl hl.1 rfl (Nat.le_of_ble_eq_true rfl) dX11_between_107 ⟨Nat.zero_le _, Nat.zero_le _⟩ (fun r16 z16 y16 H locs h16 hP hS _ _ => ?_)
                    have J16 : qJM b z16 := h16.2.1
                    have p16_4 : (z16 0 41).toInt = (z8 0 41).toInt := h16.2.2.2.2
                    rcases h16.1 with ⟨hr16, hf16_0⟩ | hr16
                    · subst hr16
                      have hg16_0 : rl z16 + 1 ≤ rl z8 := hf16_0
                      refine lv_istore (lv' := [(6, .int 1), (5, .int 1), (4, .int r14), (7, .int r14), (0, .ref (o + 0)), (1, .int a0), (2, .int a1), (3, .int a2)]) hx hb dX11_between_110 hl (by decide) rfl (fun ls hl => ?_)
                      refine lv_goto (tgt := 50) hx hb dX11_between_112 (by decide) ?_
                      exact ih8 1 1 r14 z16 y16 (show ((rl z16 : Int) : Int) < (n8 : Int) from by omega) ⟨by decide, by decide⟩ ⟨by decide, by decide⟩ J16 _ _ hP hS _ (lv_sub hl [0, 1, 2, 4, 5, 6, 7] rfl)
                    · subst hr16
                      refine lv_istore (lv' := [(6, .int 0), (5, .int 1), (4, .int r14), (7, .int r14), (0, .ref (o + 0)), (1, .int a0), (2, .int a1), (3, .int a2)]) hx hb dX11_between_110 hl (by decide) rfl (fun ls hl => ?_)
                      refine lv_goto (tgt := 50) hx hb dX11_between_112 (by decide) ?_
                      refine lv_iload hx hb dX11_between_50 (lv_at hl 0 rfl) ?_
                      refine lv_if_eq (tgt := 115) hx hb dX11_between_52 (by decide) (fun _ => ?_) (fun q => absurd (by decide) q)
                      refine lv_iload hx hb dX11_between_115 (lv_at hl 2 rfl) ?_
                      exact W.iret (v := r14) hx hb hr (fun t ht hW => ⟨⟨r14, (z16, y16), rfl, ⟨trivial, J16⟩, by rw [ht]; exact hP, va_K.moved hW.alike hK⟩, hS.F ht⟩) hS.2.2 dX11_between_117
                  · have t15 : w8_5.toInt ≠ (0 : Int) := gl_ne c15
                    refine lv_iload_n hx hb dX11_between_78 rfl (lv_at hl 7 rfl) ?_
                    refine lv_if_ne (tgt := 92) hx hb dX11_between_79 (by decide) (fun c17 => ?_) (fun c17 => ?_)
                    · have t17 : a2.toInt ≠ (0 : Int) := gl_ne c17
                      refine lv_iload hx hb dX11_between_92 (lv_at hl 0 rfl) ?_
                      refine lv_iload hx hb dX11_between_94 (lv_at hl 3 rfl) ?_
                      refine lv_icmp_le (tgt := 103) hx hb dX11_between_96 (by decide) (fun c18 => ?_) (fun c18 => ?_)
                      · have t18 : r14.toInt ≤ w8_4.toInt := gl_le c18
                        refine lv_iconst (v := 1) hx hb dX11_between_103 (by decide) ?_
                        refine lv_istore (lv' := [(5, .int 1), (7, .int r14), (6, .int w8_6), (4, .int w8_4), (0, .ref (o + 0)), (1, .int a0), (2, .int a1), (3, .int a2)]) hx hb dX11_between_104 hl (by decide) rfl (fun ls hl => ?_)
                        refine lv_aload_n hx hb dX11_between_106 rfl (lv_at hl 4 rfl) ?_
                        refine qc_Vi2 (As := []) (rest := []) (k0 := 0) (m_nextRow l D ca o b z8 y8 J8) kc_yX11_nextRow ⟨hx, hb, hml, hown, hts⟩ wq_1352 rfl rfl ⟨Nat.le_of_ble_eq_true rfl, Nat.le_of_ble_eq_true rfl⟩ wq_all hP hK hS qw_Ai (q0 := 0) (by decide) (hgM_0 ca o _ _) rfl rfl hl.1 rfl (Nat.le_of_ble_eq_true rfl) dX11_between_107 ⟨Nat.zero_le _, Nat.zero_le _⟩ (fun r19 z19 y19 H locs h19 hP hS _ _ => ?_)
                        have J19 : qJM b z19 := h19.2.1
                        have p19_4 : (z19 0 41).toInt = (z8 0 41).toInt := h19.2.2.2.2
                        rcases h19.1 with ⟨hr19, hf19_0⟩ | hr19
                        · subst hr19
                          have hg19_0 : rl z19 + 1 ≤ rl z8 := hf19_0
                          refine lv_istore (lv' := [(6, .int 1), (5, .int 1), (7, .int r14), (4, .int w8_4), (0, .ref (o + 0)), (1, .int a0), (2, .int a1), (3, .int a2)]) hx hb dX11_between_110 hl (by decide) rfl (fun ls hl => ?_)
                          refine lv_goto (tgt := 50) hx hb dX11_between_112 (by decide) ?_
                          exact ih8 1 1 w8_4 z19 y19 (show ((rl z19 : Int) : Int) < (n8 : Int) from by omega) ⟨by decide, by decide⟩ ⟨by decide, by decide⟩ J19 _ _ hP hS _ (lv_sub hl [0, 1, 3, 4, 5, 6, 7] rfl)
                        · subst hr19
                          refine lv_istore (lv' := [(6, .int 0), (5, .int 1), (7, .int r14), (4, .int w8_4), (0, .ref (o + 0)), (1, .int a0), (2, .int a1), (3, .int a2)]) hx hb dX11_between_110 hl (by decide) rfl (fun ls hl => ?_)
                          refine lv_goto (tgt := 50) hx hb dX11_between_112 (by decide) ?_
                          refine lv_iload hx hb dX11_between_50 (lv_at hl 0 rfl) ?_
                          refine lv_if_eq (tgt := 115) hx hb dX11_between_52 (by decide) (fun _ => ?_) (fun q => absurd (by decide) q)
                          refine lv_iload hx hb dX11_between_115 (lv_at hl 3 rfl) ?_
                          exact W.iret (v := w8_4) hx hb hr (fun t ht hW => ⟨⟨w8_4, (z19, y19), rfl, ⟨trivial, J19⟩, by rw [ht]; exact hP, va_K.moved hW.alike hK⟩, hS.F ht⟩) hS.2.2 dX11_between_117
                      · have t18 : r14.toInt > w8_4.toInt := gl_nle c18
                        refine lv_iload hx hb dX11_between_99 (lv_at hl 0 rfl) ?_
                        refine lv_istore (lv' := [(4, .int r14), (7, .int r14), (6, .int w8_6), (5, .int w8_5), (0, .ref (o + 0)), (1, .int a0), (2, .int a1), (3, .int a2)]) hx hb dX11_between_101 hl (by decide) rfl (fun ls hl => ?_)
                        refine lv_iconst (v := 1) hx hb dX11_between_103 (by decide) ?_
                        refine lv_istore (lv' := [(5, .int 1), (4, .int r14), (7, .int r14), (6, .int w8_6), (0, .ref (o + 0)), (1, .int a0), (2, .int a1), (3, .int a2)]) hx hb dX11_between_104 hl (by decide) rfl (fun ls hl => ?_)
                        refine lv_aload_n hx hb dX11_between_106 rfl (lv_at hl 4 rfl) ?_
                        refine qc_Vi2 (As := []) (rest := []) (k0 := 0) (m_nextRow l D ca o b z8 y8 J8) kc_yX11_nextRow ⟨hx, hb, hml, hown, hts⟩ wq_1352 rfl rfl ⟨Nat.le_of_ble_eq_true rfl, Nat.le_of_ble_eq_true rfl⟩ wq_all hP hK hS qw_Ai (q0 := 0) (by decide) (hgM_0 ca o _ _) rfl rfl hl.1 rfl (Nat.le_of_ble_eq_true rfl) dX11_between_107 ⟨Nat.zero_le _, Nat.zero_le _⟩ (fun r20 z20 y20 H locs h20 hP hS _ _ => ?_)
                        have J20 : qJM b z20 := h20.2.1
                        have p20_4 : (z20 0 41).toInt = (z8 0 41).toInt := h20.2.2.2.2
                        rcases h20.1 with ⟨hr20, hf20_0⟩ | hr20
                        · subst hr20
                          have hg20_0 : rl z20 + 1 ≤ rl z8 := hf20_0
                          refine lv_istore (lv' := [(6, .int 1), (5, .int 1), (4, .int r14), (7, .int r14), (0, .ref (o + 0)), (1, .int a0), (2, .int a1), (3, .int a2)]) hx hb dX11_between_110 hl (by decide) rfl (fun ls hl => ?_)
                          refine lv_goto (tgt := 50) hx hb dX11_between_112 (by decide) ?_
                          exact ih8 1 1 r14 z20 y20 (show ((rl z20 : Int) : Int) < (n8 : Int) from by omega) ⟨by decide, by decide⟩ ⟨by decide, by decide⟩ J20 _ _ hP hS _ (lv_sub hl [0, 1, 2, 4, 5, 6, 7] rfl)
                        · subst hr20
                          refine lv_istore (lv' := [(6, .int 0), (5, .int 1), (4, .int r14), (7, .int r14), (0, .ref (o + 0)), (1, .int a0), (2, .int a1), (3, .int a2)]) hx hb dX11_between_110 hl (by decide) rfl (fun ls hl => ?_)
                          refine lv_goto (tgt := 50) hx hb dX11_between_112 (by decide) ?_
                          refine lv_iload hx hb dX11_between_50 (lv_at hl 0 rfl) ?_
                          refine lv_if_eq (tgt := 115) hx hb dX11_between_52 (by decide) (fun _ => ?_) (fun q => absurd (by decide) q)
                          refine lv_iload hx hb dX11_between_115 (lv_at hl 2 rfl) ?_
                          exact W.iret (v := r14) hx hb hr (fun t ht hW => ⟨⟨r14, (z20, y20), rfl, ⟨trivial, J20⟩, by rw [ht]; exact hP, va_K.moved hW.alike hK⟩, hS.F ht⟩) hS.2.2 dX11_between_117
                    · have t17 : a2.toInt = (0 : Int) := gl_eq c17
                      refine lv_iload hx hb dX11_between_82 (lv_at hl 0 rfl) ?_
                      refine lv_iload hx hb dX11_between_84 (lv_at hl 3 rfl) ?_
                      refine lv_icmp_ge (tgt := 103) hx hb dX11_between_86 (by decide) (fun c21 => ?_) (fun c21 => ?_)
                      · have t21 : r14.toInt ≥ w8_4.toInt := gl_le c21
                        refine lv_iconst (v := 1) hx hb dX11_between_103 (by decide) ?_
                        refine lv_istore (lv' := [(5, .int 1), (7, .int r14), (6, .int w8_6), (4, .int w8_4), (0, .ref (o + 0)), (1, .int a0), (2, .int a1), (3, .int a2)]) hx hb dX11_between_104 hl (by decide) rfl (fun ls hl => ?_)
                        refine lv_aload_n hx hb dX11_between_106 rfl (lv_at hl 4 rfl) ?_
                        refine qc_Vi2 (As := []) (rest := []) (k0 := 0) (m_nextRow l D ca o b z8 y8 J8) kc_yX11_nextRow ⟨hx, hb, hml, hown, hts⟩ wq_1352 rfl rfl ⟨Nat.le_of_ble_eq_true rfl, Nat.le_of_ble_eq_true rfl⟩ wq_all hP hK hS qw_Ai (q0 := 0) (by decide) (hgM_0 ca o _ _) rfl rfl hl.1 rfl (Nat.le_of_ble_eq_true rfl) dX11_between_107 ⟨Nat.zero_le _, Nat.zero_le _⟩ (fun r22 z22 y22 H locs h22 hP hS _ _ => ?_)
                        have J22 : qJM b z22 := h22.2.1
                        have p22_4 : (z22 0 41).toInt = (z8 0 41).toInt := h22.2.2.2.2
                        rcases h22.1 with ⟨hr22, hf22_0⟩ | hr22
                        · subst hr22
                          have hg22_0 : rl z22 + 1 ≤ rl z8 := hf22_0
                          refine lv_istore (lv' := [(6, .int 1), (5, .int 1), (7, .int r14), (4, .int w8_4), (0, .ref (o + 0)), (1, .int a0), (2, .int a1), (3, .int a2)]) hx hb dX11_between_110 hl (by decide) rfl (fun ls hl => ?_)
                          refine lv_goto (tgt := 50) hx hb dX11_between_112 (by decide) ?_
                          exact ih8 1 1 w8_4 z22 y22 (show ((rl z22 : Int) : Int) < (n8 : Int) from by omega) ⟨by decide, by decide⟩ ⟨by decide, by decide⟩ J22 _ _ hP hS _ (lv_sub hl [0, 1, 3, 4, 5, 6, 7] rfl)
                        · subst hr22
                          refine lv_istore (lv' := [(6, .int 0), (5, .int 1), (7, .int r14), (4, .int w8_4), (0, .ref (o + 0)), (1, .int a0), (2, .int a1), (3, .int a2)]) hx hb dX11_between_110 hl (by decide) rfl (fun ls hl => ?_)
                          refine lv_goto (tgt := 50) hx hb dX11_between_112 (by decide) ?_
                          refine lv_iload hx hb dX11_between_50 (lv_at hl 0 rfl) ?_
                          refine lv_if_eq (tgt := 115) hx hb dX11_between_52 (by decide) (fun _ => ?_) (fun q => absurd (by decide) q)
                          refine lv_iload hx hb dX11_between_115 (lv_at hl 3 rfl) ?_
                          exact W.iret (v := w8_4) hx hb hr (fun t ht hW => ⟨⟨w8_4, (z22, y22), rfl, ⟨trivial, J22⟩, by rw [ht]; exact hP, va_K.moved hW.alike hK⟩, hS.F ht⟩) hS.2.2 dX11_between_117
                      · have t21 : r14.toInt < w8_4.toInt := gl_nle c21
                        refine lv_goto (tgt := 99) hx hb dX11_between_89 (by decide) ?_
                        refine lv_iload hx hb dX11_between_99 (lv_at hl 0 rfl) ?_
                        refine lv_istore (lv' := [(4, .int r14), (7, .int r14), (6, .int w8_6), (5, .int w8_5), (0, .ref (o + 0)), (1, .int a0), (2, .int a1), (3, .int a2)]) hx hb dX11_between_101 hl (by decide) rfl (fun ls hl => ?_)
                        refine lv_iconst (v := 1) hx hb dX11_between_103 (by decide) ?_
                        refine lv_istore (lv' := [(5, .int 1), (4, .int r14), (7, .int r14), (6, .int w8_6), (0, .ref (o + 0)), (1, .int a0), (2, .int a1), (3, .int a2)]) hx hb dX11_between_104 hl (by decide) rfl (fun ls hl => ?_)
                        refine lv_aload_n hx hb dX11_between_106 rfl (lv_at hl 4 rfl) ?_
                        refine qc_Vi2 (As := []) (rest := []) (k0 := 0) (m_nextRow l D ca o b z8 y8 J8) kc_yX11_nextRow ⟨hx, hb, hml, hown, hts⟩ wq_1352 rfl rfl ⟨Nat.le_of_ble_eq_true rfl, Nat.le_of_ble_eq_true rfl⟩ wq_all hP hK hS qw_Ai (q0 := 0) (by decide) (hgM_0 ca o _ _) rfl rfl hl.1 rfl (Nat.le_of_ble_eq_true rfl) dX11_between_107 ⟨Nat.zero_le _, Nat.zero_le _⟩ (fun r23 z23 y23 H locs h23 hP hS _ _ => ?_)
                        have J23 : qJM b z23 := h23.2.1
                        have p23_4 : (z23 0 41).toInt = (z8 0 41).toInt := h23.2.2.2.2
                        rcases h23.1 with ⟨hr23, hf23_0⟩ | hr23
                        · subst hr23
                          have hg23_0 : rl z23 + 1 ≤ rl z8 := hf23_0
                          refine lv_istore (lv' := [(6, .int 1), (5, .int 1), (4, .int r14), (7, .int r14), (0, .ref (o + 0)), (1, .int a0), (2, .int a1), (3, .int a2)]) hx hb dX11_between_110 hl (by decide) rfl (fun ls hl => ?_)
                          refine lv_goto (tgt := 50) hx hb dX11_between_112 (by decide) ?_
                          exact ih8 1 1 r14 z23 y23 (show ((rl z23 : Int) : Int) < (n8 : Int) from by omega) ⟨by decide, by decide⟩ ⟨by decide, by decide⟩ J23 _ _ hP hS _ (lv_sub hl [0, 1, 2, 4, 5, 6, 7] rfl)
                        · subst hr23
                          refine lv_istore (lv' := [(6, .int 0), (5, .int 1), (4, .int r14), (7, .int r14), (0, .ref (o + 0)), (1, .int a0), (2, .int a1), (3, .int a2)]) hx hb dX11_between_110 hl (by decide) rfl (fun ls hl => ?_)
                          refine lv_goto (tgt := 50) hx hb dX11_between_112 (by decide) ?_
                          refine lv_iload hx hb dX11_between_50 (lv_at hl 0 rfl) ?_
                          refine lv_if_eq (tgt := 115) hx hb dX11_between_52 (by decide) (fun _ => ?_) (fun q => absurd (by decide) q)
                          refine lv_iload hx hb dX11_between_115 (lv_at hl 2 rfl) ?_
                          exact W.iret (v := r14) hx hb hr (fun t ht hW => ⟨⟨r14, (z23, y23), rfl, ⟨trivial, J23⟩, by rw [ht]; exact hP, va_K.moved hW.alike hK⟩, hS.F ht⟩) hS.2.2 dX11_between_117
          exact loop8 (rl z7 + 1) 1 0 0 z7 y7 (show ((rl z7 : Int) : Int) < (((rl z7 + 1) : Nat) : Int) from by omega) ⟨by decide, by decide⟩ ⟨by decide, by decide⟩ J7 _ _ hP hS _ (lv_sub hl [0, 1, 2, 3, 4, 5, 6] rfl)
        · have t6 : r5.toInt > (200000 : Int) := gl_nle c6
          refine lv_iconst (v := 0) hx hb dX11_between_35 (by decide) ?_
          exact W.iret (v := 0) hx hb hr (fun t ht hW => ⟨⟨0, (z, y), rfl, ⟨trivial, J0⟩, by rw [ht]; exact hP, va_K.moved hW.alike hK⟩, hS.F ht⟩) hS.2.2 dX11_between_36
      · subst hr4
        have hg4_0 : ¬ ((0 : Int) ≤ a2.toInt ∧ a2.toInt ≤ (1 : Int)) := hf4_0
        refine lv_if_eq (tgt := 35) hx hb dX11_between_22 (by decide) (fun _ => ?_) (fun q => absurd (by decide) q)
        refine lv_iconst (v := 0) hx hb dX11_between_35 (by decide) ?_
        exact W.iret (v := 0) hx hb hr (fun t ht hW => ⟨⟨0, (z, y), rfl, ⟨trivial, J0⟩, by rw [ht]; exact hP, va_K.moved hW.alike hK⟩, hS.F ht⟩) hS.2.2 dX11_between_36
    · subst hr3
      refine lv_if_eq (tgt := 35) hx hb dX11_between_13 (by decide) (fun _ => ?_) (fun q => absurd (by decide) q)
      refine lv_iconst (v := 0) hx hb dX11_between_35 (by decide) ?_
      exact W.iret (v := 0) hx hb hr (fun t ht hW => ⟨⟨0, (z, y), rfl, ⟨trivial, J0⟩, by rw [ht]; exact hP, va_K.moved hW.alike hK⟩, hS.F ht⟩) hS.2.2 dX11_between_36
set_option maxRecDepth 100000 in
set_option maxHeartbeats 8000000 in
theorem m_moved (l : Launch) (D : va_G) (ca : Nat → ClassId) (o : Nat) (z : Nat → Nat → Int32) (y : Nat → Nat → Int64) (a0 : Int32) (hp0 : 0 ≤ (z 0 62).toInt ∧ (z 0 62).toInt ≤ 248) : qM l yX11_moved cX11_moved 4 (some .int) 1 60 (qPre D vwCl (qT6 ca) o 41 (qG (GM ca o) z y) [.ref (o + 0), .int a0, .int 0]) (va_Qi (fun r u => True ∧ (r = a0 ∧ u.1 = qu (qu z 0 62 (z 0 62 + 1)) 40 (z 0 62).toNatClampNeg a0)) (qB D vwCl (qT6 ca) o 41 (fun u : qZ => qG (GM ca o) u.1 u.2)) (qw_A o 41)) (qw_A o 41) := by
  refine Met.ofW (cc := cX11_moved) (maxL := 4) (ret := (some .int)) (by decide) rfl ?_
  intro p e s m args below meth c s₁ B hml hv
  obtain ⟨rfl, hP, hK⟩ := hv
  have hx := B.exec
  have hb := B.bytes
  have hr := B.returns
  have hts0 := atoms_spec (ws := Cond.code yX11_moved cX11_moved 4 (some .int) :: qtbl) B.pre
  have hts : ∀ w ∈ qtbl, w.before _ s = true := fun w h => hts0 w (List.mem_cons_of_mem _ h)
  have hown : s.vm.findClass RX11 = some m.cls := findClass_of_methodNamed B.named
  have hlocks := B.notSynchronized
  have hS : va_S (qw_A o 41) s.heap s.heap [] := va_S.rf
  have hl := lv_entry ([.ref (o + 0), .int a0, .int 0]) (n := 4) (Nat.le_of_ble_eq_true rfl)
  rw [lg_entry_eq]
  generalize (lg_sl ([.ref (o + 0), .int a0, .int 0]) ++ List.replicate (4 - (lg_sl ([.ref (o + 0), .int a0, .int 0])).length) Slot.unset).toArray = ls at hl ⊢
  have hl : lv_has ls 4 [(0, .ref (o + 0)), (1, .int a0), (2, .int 0)] := hl
  refine lv_aload_n hx hb dX11_moved_0 rfl (lv_at hl 0 rfl) ?_
  refine qf_get hx hb hts inX11 hown hK hP (q0 := 0) (by decide) (hgM_0 ca o) rfl 62 (by decide) wq_1054 (v := .int (z 0 62)) rfl dX11_moved_1 ?_
  refine lv_topi (fun x1 e1 => ?_)
  have k1 : x1.toInt = (z 0 62).toInt := congrArg Int32.toInt e1
  refine lv_istore_n (lv' := [(3, .int x1), (0, .ref (o + 0)), (1, .int a0), (2, .int 0)]) hx hb dX11_moved_4 rfl hl (by decide) rfl (fun ls hl => ?_)
  refine lv_aload_n hx hb dX11_moved_5 rfl (lv_at hl 1 rfl) ?_
  refine lv_aload_n hx hb dX11_moved_6 rfl (lv_at hl 1 rfl) ?_
  refine qf_get hx hb hts inX11 hown hK hP (q0 := 0) (by decide) (hgM_0 ca o) rfl 62 (by decide) wq_1054 (v := .int (z 0 62)) rfl dX11_moved_7 ?_
  refine lv_topi (fun x2 e2 => ?_)
  have k2 : x2.toInt = (z 0 62).toInt := congrArg Int32.toInt e2
  have ag2 : x2.toInt = x1.toInt := congrArg Int32.toInt (e2.trans e1.symm)
  refine lv_iconst (v := 1) hx hb dX11_moved_10 (by decide) ?_
  refine lv_iadd hx hb dX11_moved_11 ?_
  refine lv_topi (fun x3 e3 => ?_)
  refine qf_put2 hx hb hts inX11 tyX11 tyX11_ok nmX11 hown hK hP hS qw_Ai (q0 := 0) (by decide) (hgM_0 ca o) rfl 62 (by decide) wq_1054 rfl (x := x3) 62 rfl rfl rfl (Nat.le_of_ble_eq_true rfl) dX11_moved_12 (fun z4 H locs hz4 hP hS => ?_)
  have k4_0 : (z4 0 62).toInt = x3.toInt := congrArg Int32.toInt (qt_at hz4)
  refine lv_iload_n hx hb dX11_moved_15 rfl (lv_at hl 3 rfl) ?_
  refine lv_if_ne (tgt := 26) hx hb dX11_moved_16 (by decide) (fun q => absurd q (by decide)) (fun _ => ?_)
  refine lv_aload_n hx hb dX11_moved_19 rfl (lv_at hl 1 rfl) ?_
  refine qf_get hx hb hts inX11 hown hK hP (q0 := 0) (by decide) (hgM_0 ca o) rfl 60 (by decide) wq_1052 (v := .ref (o + 40)) rfl dX11_moved_20 ?_
  refine lv_iload_n hx hb dX11_moved_23 rfl (lv_at hl 0 rfl) ?_
  refine lv_iload_n hx hb dX11_moved_24 rfl (lv_at hl 2 rfl) ?_
  refine qa_iast2 hx hb hK hP hS qw_Ai (q0 := 40) (by decide) 0 (N := 249) (hgM_40 ca o) rfl (i := x1) (x := a0) (gi_in (by omega) (by omega)) dX11_moved_25 (fun z5 H locs hz5 hP hS => ?_)
  have k5_0 : (z5 0 62).toInt = (z4 0 62).toInt := congrArg Int32.toInt (qt_ne hz5 62 (by decide))
  refine lv_aload_n hx hb dX11_moved_26 rfl (lv_at hl 1 rfl) ?_
  refine qf_get hx hb hts inX11 hown hK hP (q0 := 0) (by decide) (hgM_0 ca o) rfl 60 (by decide) wq_1052 (v := .ref (o + 40)) rfl dX11_moved_27 ?_
  refine lv_iload_n hx hb dX11_moved_30 rfl (lv_at hl 0 rfl) ?_
  refine qa_iald hx hb hK hP (q0 := 40) (by decide) 0 (N := 249) (hgM_40 ca o) rfl (gi_in (by omega) (by omega)) dX11_moved_31 ?_
  refine lv_topi (fun x6 e6 => ?_)
  exact W.iret (v := x6) hx hb hr (fun t ht hW => ⟨⟨x6, (z5, y), rfl, ⟨trivial, ⟨e6.trans (by rw [show x1.toNatClampNeg = _ from rfl, qt_at hz5]), by rw [hz5, hz4, e3, e2, e1]⟩⟩, by rw [ht]; exact hP, va_K.moved hW.alike hK⟩, hS.F ht⟩) hS.2.2 dX11_moved_32
set_option maxRecDepth 100000 in
set_option maxHeartbeats 8000000 in
theorem m_movesAll (l : Launch) (D : va_G) (ca : Nat → ClassId) (o : Nat) (z : Nat → Nat → Int32) (y : Nat → Nat → Int64)  (hp0 : 0 ≤ (z 0 62).toInt ∧ (z 0 62).toInt ≤ 243) : qM l yX11_movesAll cX11_movesAll 4 none 2 83 (qPre D vwCl (qT6 ca) o 41 (qG (GM ca o) z y) [.ref (o + 0), .ref (o + 1), .int 0]) (va_Qv (fun u => (u.1 = mv0 z 1 (z 0 62).toNatClampNeg 6)) (qB D vwCl (qT6 ca) o 41 (fun u : qZ => qG (GM ca o) u.1 u.2)) (qw_A o 41)) (qw_A o 41) := by
  refine Met.ofW (cc := cX11_movesAll) (maxL := 4) (ret := none) (by decide) rfl ?_
  intro p e s m args below meth c s₁ B hml hv
  obtain ⟨rfl, hP, hK⟩ := hv
  have hx := B.exec
  have hb := B.bytes
  have hr := B.returns
  have hts0 := atoms_spec (ws := Cond.code yX11_movesAll cX11_movesAll 4 none :: qtbl) B.pre
  have hts : ∀ w ∈ qtbl, w.before _ s = true := fun w h => hts0 w (List.mem_cons_of_mem _ h)
  have hown : s.vm.findClass RX11 = some m.cls := findClass_of_methodNamed B.named
  have hlocks := B.notSynchronized
  have hS : va_S (qw_A o 41) s.heap s.heap [] := va_S.rf
  have hl := lv_entry ([.ref (o + 0), .ref (o + 1), .int 0]) (n := 4) (Nat.le_of_ble_eq_true rfl)
  rw [lg_entry_eq]
  generalize (lg_sl ([.ref (o + 0), .ref (o + 1), .int 0]) ++ List.replicate (4 - (lg_sl ([.ref (o + 0), .ref (o + 1), .int 0])).length) Slot.unset).toArray = ls at hl ⊢
  have hl : lv_has ls 4 [(0, .ref (o + 0)), (1, .ref (o + 1)), (2, .int 0)] := hl
  refine lv_iconst (v := 0) hx hb dX11_movesAll_0 (by decide) ?_
  refine lv_istore_n (lv' := [(3, .int 0), (0, .ref (o + 0)), (1, .ref (o + 1)), (2, .int 0)]) hx hb dX11_movesAll_1 rfl hl (by decide) rfl (fun ls hl => ?_)
  have loop1 : ∀ (n : Nat) (w1_3 : Int32) (z1 : Nat → Nat → Int32) (y1 : Nat → Nat → Int64), ((6 - w1_3.toInt : Int) < (n : Int)) → ((0 : Int) ≤ w1_3.toInt ∧ w1_3.toInt ≤ 6) → (z1 = mv0 z 1 (z 0 62).toNatClampNeg w1_3.toNatClampNeg) → ∀ (H : Heap) (locs : List Loc), qw_P D vwCl o 41 (qG (GM ca o) z1 y1) H → va_S (qw_A o 41) s.heap H locs → ∀ (ls : Array Slot), lv_has ls 4 [(3, .int w1_3), (0, .ref (o + 0)), (1, .ref (o + 1)), (2, .int 0)] → W p l e (headSpec (Cond.code yX11_movesAll cX11_movesAll 4 none :: qtbl) ({ frames := 2, cells := 0, slots := 0, locals := 83 })).room s m (([.ref (o + 0), .ref (o + 1), .int 0] : List Value).toArray) below meth c H locs 0 0 (MQ below (va_Qv (fun u => (u.1 = mv0 z 1 (z 0 62).toNatClampNeg 6)) (qB D vwCl (qT6 ca) o 41 (fun u : qZ => qG (GM ca o) u.1 u.2)) (qw_A o 41)) (([.ref (o + 0), .ref (o + 1), .int 0] : List Value).toArray) s 0 0 (qw_A o 41)) (F0 m 2 ls []) := by
    intro n
    induction n with
    | zero => intro w1_3 z1 y1 hb1 hv1_3 v1_0; exfalso; omega
    | succ n1 ih1 =>
      intro w1_3 z1 y1 hb1 hv1_3 v1_0 H locs hP hS ls hl
      have kk1 : (z1 0 62).toInt = (z 0 62).toInt + w1_3.toInt := mv0_at (by decide) (by omega) (by omega) (by omega) v1_0
      refine lv_iload_n hx hb dX11_movesAll_2 rfl (lv_at hl 0 rfl) ?_
      refine lv_aload_n hx hb dX11_movesAll_3 rfl (lv_at hl 2 rfl) ?_
      refine qa_len hx hb hK hP (q0 := 1) (by decide) 0 (hgM_1 ca o) rfl (v := 6) rfl dX11_movesAll_4 ?_
      refine lv_icmp_ge (tgt := 25) hx hb dX11_movesAll_5 (by decide) (fun c2 => ?_) (fun c2 => ?_)
      · have t2 : w1_3.toInt ≥ (6 : Int) := gl_le c2
        exact W.vret hx hb hr (fun t ht hW => ⟨⟨(z1, y1), rfl, (by have h := v1_0; rw [gr_eq (y := 6) (show w1_3.toInt = (6 : Int) from by omega)] at h; exact h), by rw [ht]; exact hP, va_K.moved hW.alike hK⟩, hS.F ht⟩) hS.2.2 dX11_movesAll_25
      · have t2 : w1_3.toInt < (6 : Int) := gl_nle c2
        refine lv_aload_n hx hb dX11_movesAll_8 rfl (lv_at hl 2 rfl) ?_
        refine lv_iload_n hx hb dX11_movesAll_9 rfl (lv_at hl 0 rfl) ?_
        refine lv_aload_n hx hb dX11_movesAll_10 rfl (lv_at hl 1 rfl) ?_
        refine lv_aload_n hx hb dX11_movesAll_11 rfl (lv_at hl 2 rfl) ?_
        refine lv_iload_n hx hb dX11_movesAll_12 rfl (lv_at hl 0 rfl) ?_
        refine qa_iald hx hb hK hP (q0 := 1) (by decide) 0 (N := 6) (hgM_1 ca o) rfl (gi_in (by omega) (by omega)) dX11_movesAll_13 ?_
        refine lv_topi (fun x3 e3 => ?_)
        refine lv_iload_n hx hb dX11_movesAll_14 rfl (lv_at hl 3 rfl) ?_
        refine qc_Vi2 (As := [.int x3, .int 0]) (rest := [.int w1_3, .ref (o + 1)]) (k0 := 2) (m_moved l D ca o z1 y1 x3 (by have ql1 : Int32.toInt 0 = 0 := (by decide); omega)) kc_yX11_moved ⟨hx, hb, hml, hown, hts⟩ wq_1599 rfl rfl ⟨Nat.le_of_ble_eq_true rfl, Nat.le_of_ble_eq_true rfl⟩ wq_all hP hK hS qw_Ai (q0 := 0) (by decide) (hgM_0 ca o _ _) rfl rfl hl.1 rfl (Nat.le_of_ble_eq_true rfl) dX11_movesAll_15 ⟨Nat.zero_le _, Nat.zero_le _⟩ (fun r4 z4 y4 H locs h4 hP hS _ _ => ?_)
        have p4_1 : r4 = x3 ∧ z4 = qu (qu z1 0 62 (z1 0 62 + 1)) 40 (z1 0 62).toNatClampNeg x3 := h4.2
        refine qa_iast2 hx hb hK hP hS qw_Ai (q0 := 1) (by decide) 0 (N := 6) (hgM_1 ca o) rfl (i := w1_3) (x := r4) (gi_in (by omega) (by omega)) dX11_movesAll_18 (fun z5 H locs hz5 hP hS => ?_)
        obtain ⟨x6, e6⟩ : ∃ t : Int32, t = w1_3 + 1 := ⟨_, rfl⟩
        refine lv_iinc (v := x6) (lv' := [(3, .int x6), (0, .ref (o + 0)), (1, .ref (o + 1)), (2, .int 0)]) hx hb dX11_movesAll_19 hl (k := 0) rfl (by rw [e6]; rfl) (by decide) rfl (fun ls hl => ?_)
        have t6 : x6.toInt = w1_3.toInt + (1 : Int) := ga_add e6 rfl rfl (by omega) (by omega)
        refine lv_goto (tgt := 2) hx hb dX11_movesAll_22 (by decide) ?_
        exact ih1 x6 z5 y4 (show (6 - x6.toInt : Int) < (n1 : Int) from by omega) ⟨by omega, by omega⟩ (mv0_step (by decide) (by decide) (by omega) (by omega) (by omega) (by omega) v1_0 e3 p4_1.1 p4_1.2 hz5 trivial) _ _ hP hS _ (lv_sub hl [0, 1, 2, 3] rfl)
  exact loop1 7 0 z y (show (6 - (0 : Int) : Int) < ((7 : Nat) : Int) from by omega) ⟨by decide, by decide⟩ (mv0_0 (by omega)) _ _ hP hS _ (lv_sub hl [0, 1, 2, 3] rfl)
set_option maxRecDepth 100000 in
set_option maxHeartbeats 8000000 in
theorem m_movesAll_v1 (l : Launch) (D : va_G) (ca : Nat → ClassId) (o : Nat) (z : Nat → Nat → Int32) (y : Nat → Nat → Int64)  (hp0 : 0 ≤ (z 0 62).toInt ∧ (z 0 62).toInt ≤ 243) : qM l yX11_movesAll cX11_movesAll 4 none 2 83 (qPre D vwCl (qT6 ca) o 41 (qG (GM ca o) z y) [.ref (o + 0), .ref (o + 2), .int 0]) (va_Qv (fun u => (u.1 = mv0 z 2 (z 0 62).toNatClampNeg 6)) (qB D vwCl (qT6 ca) o 41 (fun u : qZ => qG (GM ca o) u.1 u.2)) (qw_A o 41)) (qw_A o 41) := by
  refine Met.ofW (cc := cX11_movesAll) (maxL := 4) (ret := none) (by decide) rfl ?_
  intro p e s m args below meth c s₁ B hml hv
  obtain ⟨rfl, hP, hK⟩ := hv
  have hx := B.exec
  have hb := B.bytes
  have hr := B.returns
  have hts0 := atoms_spec (ws := Cond.code yX11_movesAll cX11_movesAll 4 none :: qtbl) B.pre
  have hts : ∀ w ∈ qtbl, w.before _ s = true := fun w h => hts0 w (List.mem_cons_of_mem _ h)
  have hown : s.vm.findClass RX11 = some m.cls := findClass_of_methodNamed B.named
  have hlocks := B.notSynchronized
  have hS : va_S (qw_A o 41) s.heap s.heap [] := va_S.rf
  have hl := lv_entry ([.ref (o + 0), .ref (o + 2), .int 0]) (n := 4) (Nat.le_of_ble_eq_true rfl)
  rw [lg_entry_eq]
  generalize (lg_sl ([.ref (o + 0), .ref (o + 2), .int 0]) ++ List.replicate (4 - (lg_sl ([.ref (o + 0), .ref (o + 2), .int 0])).length) Slot.unset).toArray = ls at hl ⊢
  have hl : lv_has ls 4 [(0, .ref (o + 0)), (1, .ref (o + 2)), (2, .int 0)] := hl
  refine lv_iconst (v := 0) hx hb dX11_movesAll_0 (by decide) ?_
  refine lv_istore_n (lv' := [(3, .int 0), (0, .ref (o + 0)), (1, .ref (o + 2)), (2, .int 0)]) hx hb dX11_movesAll_1 rfl hl (by decide) rfl (fun ls hl => ?_)
  have loop1 : ∀ (n : Nat) (w1_3 : Int32) (z1 : Nat → Nat → Int32) (y1 : Nat → Nat → Int64), ((6 - w1_3.toInt : Int) < (n : Int)) → ((0 : Int) ≤ w1_3.toInt ∧ w1_3.toInt ≤ 6) → (z1 = mv0 z 2 (z 0 62).toNatClampNeg w1_3.toNatClampNeg) → ∀ (H : Heap) (locs : List Loc), qw_P D vwCl o 41 (qG (GM ca o) z1 y1) H → va_S (qw_A o 41) s.heap H locs → ∀ (ls : Array Slot), lv_has ls 4 [(3, .int w1_3), (0, .ref (o + 0)), (1, .ref (o + 2)), (2, .int 0)] → W p l e (headSpec (Cond.code yX11_movesAll cX11_movesAll 4 none :: qtbl) ({ frames := 2, cells := 0, slots := 0, locals := 83 })).room s m (([.ref (o + 0), .ref (o + 2), .int 0] : List Value).toArray) below meth c H locs 0 0 (MQ below (va_Qv (fun u => (u.1 = mv0 z 2 (z 0 62).toNatClampNeg 6)) (qB D vwCl (qT6 ca) o 41 (fun u : qZ => qG (GM ca o) u.1 u.2)) (qw_A o 41)) (([.ref (o + 0), .ref (o + 2), .int 0] : List Value).toArray) s 0 0 (qw_A o 41)) (F0 m 2 ls []) := by
    intro n
    induction n with
    | zero => intro w1_3 z1 y1 hb1 hv1_3 v1_0; exfalso; omega
    | succ n1 ih1 =>
      intro w1_3 z1 y1 hb1 hv1_3 v1_0 H locs hP hS ls hl
      have kk1 : (z1 0 62).toInt = (z 0 62).toInt + w1_3.toInt := mv0_at (by decide) (by omega) (by omega) (by omega) v1_0
      refine lv_iload_n hx hb dX11_movesAll_2 rfl (lv_at hl 0 rfl) ?_
      refine lv_aload_n hx hb dX11_movesAll_3 rfl (lv_at hl 2 rfl) ?_
      refine qa_len hx hb hK hP (q0 := 2) (by decide) 0 (hgM_2 ca o) rfl (v := 6) rfl dX11_movesAll_4 ?_
      refine lv_icmp_ge (tgt := 25) hx hb dX11_movesAll_5 (by decide) (fun c2 => ?_) (fun c2 => ?_)
      · have t2 : w1_3.toInt ≥ (6 : Int) := gl_le c2
        exact W.vret hx hb hr (fun t ht hW => ⟨⟨(z1, y1), rfl, (by have h := v1_0; rw [gr_eq (y := 6) (show w1_3.toInt = (6 : Int) from by omega)] at h; exact h), by rw [ht]; exact hP, va_K.moved hW.alike hK⟩, hS.F ht⟩) hS.2.2 dX11_movesAll_25
      · have t2 : w1_3.toInt < (6 : Int) := gl_nle c2
        refine lv_aload_n hx hb dX11_movesAll_8 rfl (lv_at hl 2 rfl) ?_
        refine lv_iload_n hx hb dX11_movesAll_9 rfl (lv_at hl 0 rfl) ?_
        refine lv_aload_n hx hb dX11_movesAll_10 rfl (lv_at hl 1 rfl) ?_
        refine lv_aload_n hx hb dX11_movesAll_11 rfl (lv_at hl 2 rfl) ?_
        refine lv_iload_n hx hb dX11_movesAll_12 rfl (lv_at hl 0 rfl) ?_
        refine qa_iald hx hb hK hP (q0 := 2) (by decide) 0 (N := 6) (hgM_2 ca o) rfl (gi_in (by omega) (by omega)) dX11_movesAll_13 ?_
        refine lv_topi (fun x3 e3 => ?_)
        refine lv_iload_n hx hb dX11_movesAll_14 rfl (lv_at hl 3 rfl) ?_
        refine qc_Vi2 (As := [.int x3, .int 0]) (rest := [.int w1_3, .ref (o + 2)]) (k0 := 2) (m_moved l D ca o z1 y1 x3 (by have ql1 : Int32.toInt 0 = 0 := (by decide); omega)) kc_yX11_moved ⟨hx, hb, hml, hown, hts⟩ wq_1599 rfl rfl ⟨Nat.le_of_ble_eq_true rfl, Nat.le_of_ble_eq_true rfl⟩ wq_all hP hK hS qw_Ai (q0 := 0) (by decide) (hgM_0 ca o _ _) rfl rfl hl.1 rfl (Nat.le_of_ble_eq_true rfl) dX11_movesAll_15 ⟨Nat.zero_le _, Nat.zero_le _⟩ (fun r4 z4 y4 H locs h4 hP hS _ _ => ?_)
        have p4_1 : r4 = x3 ∧ z4 = qu (qu z1 0 62 (z1 0 62 + 1)) 40 (z1 0 62).toNatClampNeg x3 := h4.2
        refine qa_iast2 hx hb hK hP hS qw_Ai (q0 := 2) (by decide) 0 (N := 6) (hgM_2 ca o) rfl (i := w1_3) (x := r4) (gi_in (by omega) (by omega)) dX11_movesAll_18 (fun z5 H locs hz5 hP hS => ?_)
        obtain ⟨x6, e6⟩ : ∃ t : Int32, t = w1_3 + 1 := ⟨_, rfl⟩
        refine lv_iinc (v := x6) (lv' := [(3, .int x6), (0, .ref (o + 0)), (1, .ref (o + 2)), (2, .int 0)]) hx hb dX11_movesAll_19 hl (k := 0) rfl (by rw [e6]; rfl) (by decide) rfl (fun ls hl => ?_)
        have t6 : x6.toInt = w1_3.toInt + (1 : Int) := ga_add e6 rfl rfl (by omega) (by omega)
        refine lv_goto (tgt := 2) hx hb dX11_movesAll_22 (by decide) ?_
        exact ih1 x6 z5 y4 (show (6 - x6.toInt : Int) < (n1 : Int) from by omega) ⟨by omega, by omega⟩ (mv0_step (by decide) (by decide) (by omega) (by omega) (by omega) (by omega) v1_0 e3 p4_1.1 p4_1.2 hz5 trivial) _ _ hP hS _ (lv_sub hl [0, 1, 2, 3] rfl)
  exact loop1 7 0 z y (show (6 - (0 : Int) : Int) < ((7 : Nat) : Int) from by omega) ⟨by decide, by decide⟩ (mv0_0 (by omega)) _ _ hP hS _ (lv_sub hl [0, 1, 2, 3] rfl)
set_option maxRecDepth 100000 in
set_option maxHeartbeats 8000000 in
theorem m_movesAll_v2 (l : Launch) (D : va_G) (ca : Nat → ClassId) (o : Nat) (z : Nat → Nat → Int32) (y : Nat → Nat → Int64)  (hp0 : 0 ≤ (z 0 62).toInt ∧ (z 0 62).toInt ≤ 243) : qM l yX11_movesAll cX11_movesAll 4 none 2 83 (qPre D vwCl (qT6 ca) o 41 (qG (GM ca o) z y) [.ref (o + 0), .ref (o + 3), .int 0]) (va_Qv (fun u => (u.1 = mv0 z 3 (z 0 62).toNatClampNeg 6)) (qB D vwCl (qT6 ca) o 41 (fun u : qZ => qG (GM ca o) u.1 u.2)) (qw_A o 41)) (qw_A o 41) := by
  refine Met.ofW (cc := cX11_movesAll) (maxL := 4) (ret := none) (by decide) rfl ?_
  intro p e s m args below meth c s₁ B hml hv
  obtain ⟨rfl, hP, hK⟩ := hv
  have hx := B.exec
  have hb := B.bytes
  have hr := B.returns
  have hts0 := atoms_spec (ws := Cond.code yX11_movesAll cX11_movesAll 4 none :: qtbl) B.pre
  have hts : ∀ w ∈ qtbl, w.before _ s = true := fun w h => hts0 w (List.mem_cons_of_mem _ h)
  have hown : s.vm.findClass RX11 = some m.cls := findClass_of_methodNamed B.named
  have hlocks := B.notSynchronized
  have hS : va_S (qw_A o 41) s.heap s.heap [] := va_S.rf
  have hl := lv_entry ([.ref (o + 0), .ref (o + 3), .int 0]) (n := 4) (Nat.le_of_ble_eq_true rfl)
  rw [lg_entry_eq]
  generalize (lg_sl ([.ref (o + 0), .ref (o + 3), .int 0]) ++ List.replicate (4 - (lg_sl ([.ref (o + 0), .ref (o + 3), .int 0])).length) Slot.unset).toArray = ls at hl ⊢
  have hl : lv_has ls 4 [(0, .ref (o + 0)), (1, .ref (o + 3)), (2, .int 0)] := hl
  refine lv_iconst (v := 0) hx hb dX11_movesAll_0 (by decide) ?_
  refine lv_istore_n (lv' := [(3, .int 0), (0, .ref (o + 0)), (1, .ref (o + 3)), (2, .int 0)]) hx hb dX11_movesAll_1 rfl hl (by decide) rfl (fun ls hl => ?_)
  have loop1 : ∀ (n : Nat) (w1_3 : Int32) (z1 : Nat → Nat → Int32) (y1 : Nat → Nat → Int64), ((6 - w1_3.toInt : Int) < (n : Int)) → ((0 : Int) ≤ w1_3.toInt ∧ w1_3.toInt ≤ 6) → (z1 = mv0 z 3 (z 0 62).toNatClampNeg w1_3.toNatClampNeg) → ∀ (H : Heap) (locs : List Loc), qw_P D vwCl o 41 (qG (GM ca o) z1 y1) H → va_S (qw_A o 41) s.heap H locs → ∀ (ls : Array Slot), lv_has ls 4 [(3, .int w1_3), (0, .ref (o + 0)), (1, .ref (o + 3)), (2, .int 0)] → W p l e (headSpec (Cond.code yX11_movesAll cX11_movesAll 4 none :: qtbl) ({ frames := 2, cells := 0, slots := 0, locals := 83 })).room s m (([.ref (o + 0), .ref (o + 3), .int 0] : List Value).toArray) below meth c H locs 0 0 (MQ below (va_Qv (fun u => (u.1 = mv0 z 3 (z 0 62).toNatClampNeg 6)) (qB D vwCl (qT6 ca) o 41 (fun u : qZ => qG (GM ca o) u.1 u.2)) (qw_A o 41)) (([.ref (o + 0), .ref (o + 3), .int 0] : List Value).toArray) s 0 0 (qw_A o 41)) (F0 m 2 ls []) := by
    intro n
    induction n with
    | zero => intro w1_3 z1 y1 hb1 hv1_3 v1_0; exfalso; omega
    | succ n1 ih1 =>
      intro w1_3 z1 y1 hb1 hv1_3 v1_0 H locs hP hS ls hl
      have kk1 : (z1 0 62).toInt = (z 0 62).toInt + w1_3.toInt := mv0_at (by decide) (by omega) (by omega) (by omega) v1_0
      refine lv_iload_n hx hb dX11_movesAll_2 rfl (lv_at hl 0 rfl) ?_
      refine lv_aload_n hx hb dX11_movesAll_3 rfl (lv_at hl 2 rfl) ?_
      refine qa_len hx hb hK hP (q0 := 3) (by decide) 0 (hgM_3 ca o) rfl (v := 6) rfl dX11_movesAll_4 ?_
      refine lv_icmp_ge (tgt := 25) hx hb dX11_movesAll_5 (by decide) (fun c2 => ?_) (fun c2 => ?_)
      · have t2 : w1_3.toInt ≥ (6 : Int) := gl_le c2
        exact W.vret hx hb hr (fun t ht hW => ⟨⟨(z1, y1), rfl, (by have h := v1_0; rw [gr_eq (y := 6) (show w1_3.toInt = (6 : Int) from by omega)] at h; exact h), by rw [ht]; exact hP, va_K.moved hW.alike hK⟩, hS.F ht⟩) hS.2.2 dX11_movesAll_25
      · have t2 : w1_3.toInt < (6 : Int) := gl_nle c2
        refine lv_aload_n hx hb dX11_movesAll_8 rfl (lv_at hl 2 rfl) ?_
        refine lv_iload_n hx hb dX11_movesAll_9 rfl (lv_at hl 0 rfl) ?_
        refine lv_aload_n hx hb dX11_movesAll_10 rfl (lv_at hl 1 rfl) ?_
        refine lv_aload_n hx hb dX11_movesAll_11 rfl (lv_at hl 2 rfl) ?_
        refine lv_iload_n hx hb dX11_movesAll_12 rfl (lv_at hl 0 rfl) ?_
        refine qa_iald hx hb hK hP (q0 := 3) (by decide) 0 (N := 6) (hgM_3 ca o) rfl (gi_in (by omega) (by omega)) dX11_movesAll_13 ?_
        refine lv_topi (fun x3 e3 => ?_)
        refine lv_iload_n hx hb dX11_movesAll_14 rfl (lv_at hl 3 rfl) ?_
        refine qc_Vi2 (As := [.int x3, .int 0]) (rest := [.int w1_3, .ref (o + 3)]) (k0 := 2) (m_moved l D ca o z1 y1 x3 (by have ql1 : Int32.toInt 0 = 0 := (by decide); omega)) kc_yX11_moved ⟨hx, hb, hml, hown, hts⟩ wq_1599 rfl rfl ⟨Nat.le_of_ble_eq_true rfl, Nat.le_of_ble_eq_true rfl⟩ wq_all hP hK hS qw_Ai (q0 := 0) (by decide) (hgM_0 ca o _ _) rfl rfl hl.1 rfl (Nat.le_of_ble_eq_true rfl) dX11_movesAll_15 ⟨Nat.zero_le _, Nat.zero_le _⟩ (fun r4 z4 y4 H locs h4 hP hS _ _ => ?_)
        have p4_1 : r4 = x3 ∧ z4 = qu (qu z1 0 62 (z1 0 62 + 1)) 40 (z1 0 62).toNatClampNeg x3 := h4.2
        refine qa_iast2 hx hb hK hP hS qw_Ai (q0 := 3) (by decide) 0 (N := 6) (hgM_3 ca o) rfl (i := w1_3) (x := r4) (gi_in (by omega) (by omega)) dX11_movesAll_18 (fun z5 H locs hz5 hP hS => ?_)
        obtain ⟨x6, e6⟩ : ∃ t : Int32, t = w1_3 + 1 := ⟨_, rfl⟩
        refine lv_iinc (v := x6) (lv' := [(3, .int x6), (0, .ref (o + 0)), (1, .ref (o + 3)), (2, .int 0)]) hx hb dX11_movesAll_19 hl (k := 0) rfl (by rw [e6]; rfl) (by decide) rfl (fun ls hl => ?_)
        have t6 : x6.toInt = w1_3.toInt + (1 : Int) := ga_add e6 rfl rfl (by omega) (by omega)
        refine lv_goto (tgt := 2) hx hb dX11_movesAll_22 (by decide) ?_
        exact ih1 x6 z5 y4 (show (6 - x6.toInt : Int) < (n1 : Int) from by omega) ⟨by omega, by omega⟩ (mv0_step (by decide) (by decide) (by omega) (by omega) (by omega) (by omega) v1_0 e3 p4_1.1 p4_1.2 hz5 trivial) _ _ hP hS _ (lv_sub hl [0, 1, 2, 3] rfl)
  exact loop1 7 0 z y (show (6 - (0 : Int) : Int) < ((7 : Nat) : Int) from by omega) ⟨by decide, by decide⟩ (mv0_0 (by omega)) _ _ hP hS _ (lv_sub hl [0, 1, 2, 3] rfl)
set_option maxRecDepth 100000 in
set_option maxHeartbeats 8000000 in
theorem m_movesAll_v3 (l : Launch) (D : va_G) (ca : Nat → ClassId) (o : Nat) (z : Nat → Nat → Int32) (y : Nat → Nat → Int64)  (hp0 : 0 ≤ (z 0 62).toInt ∧ (z 0 62).toInt ≤ 213) : qM l yX11_movesAll cX11_movesAll 4 none 2 83 (qPre D vwCl (qT6 ca) o 41 (qG (GM ca o) z y) [.ref (o + 0), .ref (o + 4), .int 0]) (va_Qv (fun u => (u.1 = mv0 z 4 (z 0 62).toNatClampNeg 36)) (qB D vwCl (qT6 ca) o 41 (fun u : qZ => qG (GM ca o) u.1 u.2)) (qw_A o 41)) (qw_A o 41) := by
  refine Met.ofW (cc := cX11_movesAll) (maxL := 4) (ret := none) (by decide) rfl ?_
  intro p e s m args below meth c s₁ B hml hv
  obtain ⟨rfl, hP, hK⟩ := hv
  have hx := B.exec
  have hb := B.bytes
  have hr := B.returns
  have hts0 := atoms_spec (ws := Cond.code yX11_movesAll cX11_movesAll 4 none :: qtbl) B.pre
  have hts : ∀ w ∈ qtbl, w.before _ s = true := fun w h => hts0 w (List.mem_cons_of_mem _ h)
  have hown : s.vm.findClass RX11 = some m.cls := findClass_of_methodNamed B.named
  have hlocks := B.notSynchronized
  have hS : va_S (qw_A o 41) s.heap s.heap [] := va_S.rf
  have hl := lv_entry ([.ref (o + 0), .ref (o + 4), .int 0]) (n := 4) (Nat.le_of_ble_eq_true rfl)
  rw [lg_entry_eq]
  generalize (lg_sl ([.ref (o + 0), .ref (o + 4), .int 0]) ++ List.replicate (4 - (lg_sl ([.ref (o + 0), .ref (o + 4), .int 0])).length) Slot.unset).toArray = ls at hl ⊢
  have hl : lv_has ls 4 [(0, .ref (o + 0)), (1, .ref (o + 4)), (2, .int 0)] := hl
  refine lv_iconst (v := 0) hx hb dX11_movesAll_0 (by decide) ?_
  refine lv_istore_n (lv' := [(3, .int 0), (0, .ref (o + 0)), (1, .ref (o + 4)), (2, .int 0)]) hx hb dX11_movesAll_1 rfl hl (by decide) rfl (fun ls hl => ?_)
  have loop1 : ∀ (n : Nat) (w1_3 : Int32) (z1 : Nat → Nat → Int32) (y1 : Nat → Nat → Int64), ((36 - w1_3.toInt : Int) < (n : Int)) → ((0 : Int) ≤ w1_3.toInt ∧ w1_3.toInt ≤ 36) → (z1 = mv0 z 4 (z 0 62).toNatClampNeg w1_3.toNatClampNeg) → ∀ (H : Heap) (locs : List Loc), qw_P D vwCl o 41 (qG (GM ca o) z1 y1) H → va_S (qw_A o 41) s.heap H locs → ∀ (ls : Array Slot), lv_has ls 4 [(3, .int w1_3), (0, .ref (o + 0)), (1, .ref (o + 4)), (2, .int 0)] → W p l e (headSpec (Cond.code yX11_movesAll cX11_movesAll 4 none :: qtbl) ({ frames := 2, cells := 0, slots := 0, locals := 83 })).room s m (([.ref (o + 0), .ref (o + 4), .int 0] : List Value).toArray) below meth c H locs 0 0 (MQ below (va_Qv (fun u => (u.1 = mv0 z 4 (z 0 62).toNatClampNeg 36)) (qB D vwCl (qT6 ca) o 41 (fun u : qZ => qG (GM ca o) u.1 u.2)) (qw_A o 41)) (([.ref (o + 0), .ref (o + 4), .int 0] : List Value).toArray) s 0 0 (qw_A o 41)) (F0 m 2 ls []) := by
    intro n
    induction n with
    | zero => intro w1_3 z1 y1 hb1 hv1_3 v1_0; exfalso; omega
    | succ n1 ih1 =>
      intro w1_3 z1 y1 hb1 hv1_3 v1_0 H locs hP hS ls hl
      have kk1 : (z1 0 62).toInt = (z 0 62).toInt + w1_3.toInt := mv0_at (by decide) (by omega) (by omega) (by omega) v1_0
      refine lv_iload_n hx hb dX11_movesAll_2 rfl (lv_at hl 0 rfl) ?_
      refine lv_aload_n hx hb dX11_movesAll_3 rfl (lv_at hl 2 rfl) ?_
      refine qa_len hx hb hK hP (q0 := 4) (by decide) 0 (hgM_4 ca o) rfl (v := 36) rfl dX11_movesAll_4 ?_
      refine lv_icmp_ge (tgt := 25) hx hb dX11_movesAll_5 (by decide) (fun c2 => ?_) (fun c2 => ?_)
      · have t2 : w1_3.toInt ≥ (36 : Int) := gl_le c2
        exact W.vret hx hb hr (fun t ht hW => ⟨⟨(z1, y1), rfl, (by have h := v1_0; rw [gr_eq (y := 36) (show w1_3.toInt = (36 : Int) from by omega)] at h; exact h), by rw [ht]; exact hP, va_K.moved hW.alike hK⟩, hS.F ht⟩) hS.2.2 dX11_movesAll_25
      · have t2 : w1_3.toInt < (36 : Int) := gl_nle c2
        refine lv_aload_n hx hb dX11_movesAll_8 rfl (lv_at hl 2 rfl) ?_
        refine lv_iload_n hx hb dX11_movesAll_9 rfl (lv_at hl 0 rfl) ?_
        refine lv_aload_n hx hb dX11_movesAll_10 rfl (lv_at hl 1 rfl) ?_
        refine lv_aload_n hx hb dX11_movesAll_11 rfl (lv_at hl 2 rfl) ?_
        refine lv_iload_n hx hb dX11_movesAll_12 rfl (lv_at hl 0 rfl) ?_
        refine qa_iald hx hb hK hP (q0 := 4) (by decide) 0 (N := 36) (hgM_4 ca o) rfl (gi_in (by omega) (by omega)) dX11_movesAll_13 ?_
        refine lv_topi (fun x3 e3 => ?_)
        refine lv_iload_n hx hb dX11_movesAll_14 rfl (lv_at hl 3 rfl) ?_
        refine qc_Vi2 (As := [.int x3, .int 0]) (rest := [.int w1_3, .ref (o + 4)]) (k0 := 2) (m_moved l D ca o z1 y1 x3 (by have ql1 : Int32.toInt 0 = 0 := (by decide); omega)) kc_yX11_moved ⟨hx, hb, hml, hown, hts⟩ wq_1599 rfl rfl ⟨Nat.le_of_ble_eq_true rfl, Nat.le_of_ble_eq_true rfl⟩ wq_all hP hK hS qw_Ai (q0 := 0) (by decide) (hgM_0 ca o _ _) rfl rfl hl.1 rfl (Nat.le_of_ble_eq_true rfl) dX11_movesAll_15 ⟨Nat.zero_le _, Nat.zero_le _⟩ (fun r4 z4 y4 H locs h4 hP hS _ _ => ?_)
        have p4_1 : r4 = x3 ∧ z4 = qu (qu z1 0 62 (z1 0 62 + 1)) 40 (z1 0 62).toNatClampNeg x3 := h4.2
        refine qa_iast2 hx hb hK hP hS qw_Ai (q0 := 4) (by decide) 0 (N := 36) (hgM_4 ca o) rfl (i := w1_3) (x := r4) (gi_in (by omega) (by omega)) dX11_movesAll_18 (fun z5 H locs hz5 hP hS => ?_)
        obtain ⟨x6, e6⟩ : ∃ t : Int32, t = w1_3 + 1 := ⟨_, rfl⟩
        refine lv_iinc (v := x6) (lv' := [(3, .int x6), (0, .ref (o + 0)), (1, .ref (o + 4)), (2, .int 0)]) hx hb dX11_movesAll_19 hl (k := 0) rfl (by rw [e6]; rfl) (by decide) rfl (fun ls hl => ?_)
        have t6 : x6.toInt = w1_3.toInt + (1 : Int) := ga_add e6 rfl rfl (by omega) (by omega)
        refine lv_goto (tgt := 2) hx hb dX11_movesAll_22 (by decide) ?_
        exact ih1 x6 z5 y4 (show (36 - x6.toInt : Int) < (n1 : Int) from by omega) ⟨by omega, by omega⟩ (mv0_step (by decide) (by decide) (by omega) (by omega) (by omega) (by omega) v1_0 e3 p4_1.1 p4_1.2 hz5 trivial) _ _ hP hS _ (lv_sub hl [0, 1, 2, 3] rfl)
  exact loop1 37 0 z y (show (36 - (0 : Int) : Int) < ((37 : Nat) : Int) from by omega) ⟨by decide, by decide⟩ (mv0_0 (by omega)) _ _ hP hS _ (lv_sub hl [0, 1, 2, 3] rfl)
set_option maxRecDepth 100000 in
set_option maxHeartbeats 8000000 in
theorem m_movesAll_v4 (l : Launch) (D : va_G) (ca : Nat → ClassId) (o : Nat) (z : Nat → Nat → Int32) (y : Nat → Nat → Int64)  (hp0 : 0 ≤ (z 0 62).toInt ∧ (z 0 62).toInt ≤ 153) : qM l yX11_movesAll cX11_movesAll 4 none 2 83 (qPre D vwCl (qT6 ca) o 41 (qG (GM ca o) z y) [.ref (o + 0), .ref (o + 5), .int 0]) (va_Qv (fun u => (u.1 = mv0 z 5 (z 0 62).toNatClampNeg 96)) (qB D vwCl (qT6 ca) o 41 (fun u : qZ => qG (GM ca o) u.1 u.2)) (qw_A o 41)) (qw_A o 41) := by
  refine Met.ofW (cc := cX11_movesAll) (maxL := 4) (ret := none) (by decide) rfl ?_
  intro p e s m args below meth c s₁ B hml hv
  obtain ⟨rfl, hP, hK⟩ := hv
  have hx := B.exec
  have hb := B.bytes
  have hr := B.returns
  have hts0 := atoms_spec (ws := Cond.code yX11_movesAll cX11_movesAll 4 none :: qtbl) B.pre
  have hts : ∀ w ∈ qtbl, w.before _ s = true := fun w h => hts0 w (List.mem_cons_of_mem _ h)
  have hown : s.vm.findClass RX11 = some m.cls := findClass_of_methodNamed B.named
  have hlocks := B.notSynchronized
  have hS : va_S (qw_A o 41) s.heap s.heap [] := va_S.rf
  have hl := lv_entry ([.ref (o + 0), .ref (o + 5), .int 0]) (n := 4) (Nat.le_of_ble_eq_true rfl)
  rw [lg_entry_eq]
  generalize (lg_sl ([.ref (o + 0), .ref (o + 5), .int 0]) ++ List.replicate (4 - (lg_sl ([.ref (o + 0), .ref (o + 5), .int 0])).length) Slot.unset).toArray = ls at hl ⊢
  have hl : lv_has ls 4 [(0, .ref (o + 0)), (1, .ref (o + 5)), (2, .int 0)] := hl
  refine lv_iconst (v := 0) hx hb dX11_movesAll_0 (by decide) ?_
  refine lv_istore_n (lv' := [(3, .int 0), (0, .ref (o + 0)), (1, .ref (o + 5)), (2, .int 0)]) hx hb dX11_movesAll_1 rfl hl (by decide) rfl (fun ls hl => ?_)
  have loop1 : ∀ (n : Nat) (w1_3 : Int32) (z1 : Nat → Nat → Int32) (y1 : Nat → Nat → Int64), ((96 - w1_3.toInt : Int) < (n : Int)) → ((0 : Int) ≤ w1_3.toInt ∧ w1_3.toInt ≤ 96) → (z1 = mv0 z 5 (z 0 62).toNatClampNeg w1_3.toNatClampNeg) → ∀ (H : Heap) (locs : List Loc), qw_P D vwCl o 41 (qG (GM ca o) z1 y1) H → va_S (qw_A o 41) s.heap H locs → ∀ (ls : Array Slot), lv_has ls 4 [(3, .int w1_3), (0, .ref (o + 0)), (1, .ref (o + 5)), (2, .int 0)] → W p l e (headSpec (Cond.code yX11_movesAll cX11_movesAll 4 none :: qtbl) ({ frames := 2, cells := 0, slots := 0, locals := 83 })).room s m (([.ref (o + 0), .ref (o + 5), .int 0] : List Value).toArray) below meth c H locs 0 0 (MQ below (va_Qv (fun u => (u.1 = mv0 z 5 (z 0 62).toNatClampNeg 96)) (qB D vwCl (qT6 ca) o 41 (fun u : qZ => qG (GM ca o) u.1 u.2)) (qw_A o 41)) (([.ref (o + 0), .ref (o + 5), .int 0] : List Value).toArray) s 0 0 (qw_A o 41)) (F0 m 2 ls []) := by
    intro n
    induction n with
    | zero => intro w1_3 z1 y1 hb1 hv1_3 v1_0; exfalso; omega
    | succ n1 ih1 =>
      intro w1_3 z1 y1 hb1 hv1_3 v1_0 H locs hP hS ls hl
      have kk1 : (z1 0 62).toInt = (z 0 62).toInt + w1_3.toInt := mv0_at (by decide) (by omega) (by omega) (by omega) v1_0
      refine lv_iload_n hx hb dX11_movesAll_2 rfl (lv_at hl 0 rfl) ?_
      refine lv_aload_n hx hb dX11_movesAll_3 rfl (lv_at hl 2 rfl) ?_
      refine qa_len hx hb hK hP (q0 := 5) (by decide) 0 (hgM_5 ca o) rfl (v := 96) rfl dX11_movesAll_4 ?_
      refine lv_icmp_ge (tgt := 25) hx hb dX11_movesAll_5 (by decide) (fun c2 => ?_) (fun c2 => ?_)
      · have t2 : w1_3.toInt ≥ (96 : Int) := gl_le c2
        exact W.vret hx hb hr (fun t ht hW => ⟨⟨(z1, y1), rfl, (by have h := v1_0; rw [gr_eq (y := 96) (show w1_3.toInt = (96 : Int) from by omega)] at h; exact h), by rw [ht]; exact hP, va_K.moved hW.alike hK⟩, hS.F ht⟩) hS.2.2 dX11_movesAll_25
      · have t2 : w1_3.toInt < (96 : Int) := gl_nle c2
        refine lv_aload_n hx hb dX11_movesAll_8 rfl (lv_at hl 2 rfl) ?_
        refine lv_iload_n hx hb dX11_movesAll_9 rfl (lv_at hl 0 rfl) ?_
        refine lv_aload_n hx hb dX11_movesAll_10 rfl (lv_at hl 1 rfl) ?_
        refine lv_aload_n hx hb dX11_movesAll_11 rfl (lv_at hl 2 rfl) ?_
        refine lv_iload_n hx hb dX11_movesAll_12 rfl (lv_at hl 0 rfl) ?_
        refine qa_iald hx hb hK hP (q0 := 5) (by decide) 0 (N := 96) (hgM_5 ca o) rfl (gi_in (by omega) (by omega)) dX11_movesAll_13 ?_
        refine lv_topi (fun x3 e3 => ?_)
        refine lv_iload_n hx hb dX11_movesAll_14 rfl (lv_at hl 3 rfl) ?_
        refine qc_Vi2 (As := [.int x3, .int 0]) (rest := [.int w1_3, .ref (o + 5)]) (k0 := 2) (m_moved l D ca o z1 y1 x3 (by have ql1 : Int32.toInt 0 = 0 := (by decide); omega)) kc_yX11_moved ⟨hx, hb, hml, hown, hts⟩ wq_1599 rfl rfl ⟨Nat.le_of_ble_eq_true rfl, Nat.le_of_ble_eq_true rfl⟩ wq_all hP hK hS qw_Ai (q0 := 0) (by decide) (hgM_0 ca o _ _) rfl rfl hl.1 rfl (Nat.le_of_ble_eq_true rfl) dX11_movesAll_15 ⟨Nat.zero_le _, Nat.zero_le _⟩ (fun r4 z4 y4 H locs h4 hP hS _ _ => ?_)
        have p4_1 : r4 = x3 ∧ z4 = qu (qu z1 0 62 (z1 0 62 + 1)) 40 (z1 0 62).toNatClampNeg x3 := h4.2
        refine qa_iast2 hx hb hK hP hS qw_Ai (q0 := 5) (by decide) 0 (N := 96) (hgM_5 ca o) rfl (i := w1_3) (x := r4) (gi_in (by omega) (by omega)) dX11_movesAll_18 (fun z5 H locs hz5 hP hS => ?_)
        obtain ⟨x6, e6⟩ : ∃ t : Int32, t = w1_3 + 1 := ⟨_, rfl⟩
        refine lv_iinc (v := x6) (lv' := [(3, .int x6), (0, .ref (o + 0)), (1, .ref (o + 5)), (2, .int 0)]) hx hb dX11_movesAll_19 hl (k := 0) rfl (by rw [e6]; rfl) (by decide) rfl (fun ls hl => ?_)
        have t6 : x6.toInt = w1_3.toInt + (1 : Int) := ga_add e6 rfl rfl (by omega) (by omega)
        refine lv_goto (tgt := 2) hx hb dX11_movesAll_22 (by decide) ?_
        exact ih1 x6 z5 y4 (show (96 - x6.toInt : Int) < (n1 : Int) from by omega) ⟨by omega, by omega⟩ (mv0_step (by decide) (by decide) (by omega) (by omega) (by omega) (by omega) v1_0 e3 p4_1.1 p4_1.2 hz5 trivial) _ _ hP hS _ (lv_sub hl [0, 1, 2, 3] rfl)
  exact loop1 97 0 z y (show (96 - (0 : Int) : Int) < ((97 : Nat) : Int) from by omega) ⟨by decide, by decide⟩ (mv0_0 (by omega)) _ _ hP hS _ (lv_sub hl [0, 1, 2, 3] rfl)
set_option maxRecDepth 100000 in
set_option maxHeartbeats 8000000 in
theorem m_movesAll_v5 (l : Launch) (D : va_G) (ca : Nat → ClassId) (o : Nat) (z : Nat → Nat → Int32) (y : Nat → Nat → Int64)  (hp0 : 0 ≤ (z 0 62).toInt ∧ (z 0 62).toInt ≤ 233) : qM l yX11_movesAll cX11_movesAll 4 none 2 83 (qPre D vwCl (qT6 ca) o 41 (qG (GM ca o) z y) [.ref (o + 0), .ref (o + 6), .int 0]) (va_Qv (fun u => (u.1 = mv0 z 6 (z 0 62).toNatClampNeg 16)) (qB D vwCl (qT6 ca) o 41 (fun u : qZ => qG (GM ca o) u.1 u.2)) (qw_A o 41)) (qw_A o 41) := by
  refine Met.ofW (cc := cX11_movesAll) (maxL := 4) (ret := none) (by decide) rfl ?_
  intro p e s m args below meth c s₁ B hml hv
  obtain ⟨rfl, hP, hK⟩ := hv
  have hx := B.exec
  have hb := B.bytes
  have hr := B.returns
  have hts0 := atoms_spec (ws := Cond.code yX11_movesAll cX11_movesAll 4 none :: qtbl) B.pre
  have hts : ∀ w ∈ qtbl, w.before _ s = true := fun w h => hts0 w (List.mem_cons_of_mem _ h)
  have hown : s.vm.findClass RX11 = some m.cls := findClass_of_methodNamed B.named
  have hlocks := B.notSynchronized
  have hS : va_S (qw_A o 41) s.heap s.heap [] := va_S.rf
  have hl := lv_entry ([.ref (o + 0), .ref (o + 6), .int 0]) (n := 4) (Nat.le_of_ble_eq_true rfl)
  rw [lg_entry_eq]
  generalize (lg_sl ([.ref (o + 0), .ref (o + 6), .int 0]) ++ List.replicate (4 - (lg_sl ([.ref (o + 0), .ref (o + 6), .int 0])).length) Slot.unset).toArray = ls at hl ⊢
  have hl : lv_has ls 4 [(0, .ref (o + 0)), (1, .ref (o + 6)), (2, .int 0)] := hl
  refine lv_iconst (v := 0) hx hb dX11_movesAll_0 (by decide) ?_
  refine lv_istore_n (lv' := [(3, .int 0), (0, .ref (o + 0)), (1, .ref (o + 6)), (2, .int 0)]) hx hb dX11_movesAll_1 rfl hl (by decide) rfl (fun ls hl => ?_)
  have loop1 : ∀ (n : Nat) (w1_3 : Int32) (z1 : Nat → Nat → Int32) (y1 : Nat → Nat → Int64), ((16 - w1_3.toInt : Int) < (n : Int)) → ((0 : Int) ≤ w1_3.toInt ∧ w1_3.toInt ≤ 16) → (z1 = mv0 z 6 (z 0 62).toNatClampNeg w1_3.toNatClampNeg) → ∀ (H : Heap) (locs : List Loc), qw_P D vwCl o 41 (qG (GM ca o) z1 y1) H → va_S (qw_A o 41) s.heap H locs → ∀ (ls : Array Slot), lv_has ls 4 [(3, .int w1_3), (0, .ref (o + 0)), (1, .ref (o + 6)), (2, .int 0)] → W p l e (headSpec (Cond.code yX11_movesAll cX11_movesAll 4 none :: qtbl) ({ frames := 2, cells := 0, slots := 0, locals := 83 })).room s m (([.ref (o + 0), .ref (o + 6), .int 0] : List Value).toArray) below meth c H locs 0 0 (MQ below (va_Qv (fun u => (u.1 = mv0 z 6 (z 0 62).toNatClampNeg 16)) (qB D vwCl (qT6 ca) o 41 (fun u : qZ => qG (GM ca o) u.1 u.2)) (qw_A o 41)) (([.ref (o + 0), .ref (o + 6), .int 0] : List Value).toArray) s 0 0 (qw_A o 41)) (F0 m 2 ls []) := by
    intro n
    induction n with
    | zero => intro w1_3 z1 y1 hb1 hv1_3 v1_0; exfalso; omega
    | succ n1 ih1 =>
      intro w1_3 z1 y1 hb1 hv1_3 v1_0 H locs hP hS ls hl
      have kk1 : (z1 0 62).toInt = (z 0 62).toInt + w1_3.toInt := mv0_at (by decide) (by omega) (by omega) (by omega) v1_0
      refine lv_iload_n hx hb dX11_movesAll_2 rfl (lv_at hl 0 rfl) ?_
      refine lv_aload_n hx hb dX11_movesAll_3 rfl (lv_at hl 2 rfl) ?_
      refine qa_len hx hb hK hP (q0 := 6) (by decide) 0 (hgM_6 ca o) rfl (v := 16) rfl dX11_movesAll_4 ?_
      refine lv_icmp_ge (tgt := 25) hx hb dX11_movesAll_5 (by decide) (fun c2 => ?_) (fun c2 => ?_)
      · have t2 : w1_3.toInt ≥ (16 : Int) := gl_le c2
        exact W.vret hx hb hr (fun t ht hW => ⟨⟨(z1, y1), rfl, (by have h := v1_0; rw [gr_eq (y := 16) (show w1_3.toInt = (16 : Int) from by omega)] at h; exact h), by rw [ht]; exact hP, va_K.moved hW.alike hK⟩, hS.F ht⟩) hS.2.2 dX11_movesAll_25
      · have t2 : w1_3.toInt < (16 : Int) := gl_nle c2
        refine lv_aload_n hx hb dX11_movesAll_8 rfl (lv_at hl 2 rfl) ?_
        refine lv_iload_n hx hb dX11_movesAll_9 rfl (lv_at hl 0 rfl) ?_
        refine lv_aload_n hx hb dX11_movesAll_10 rfl (lv_at hl 1 rfl) ?_
        refine lv_aload_n hx hb dX11_movesAll_11 rfl (lv_at hl 2 rfl) ?_
        refine lv_iload_n hx hb dX11_movesAll_12 rfl (lv_at hl 0 rfl) ?_
        refine qa_iald hx hb hK hP (q0 := 6) (by decide) 0 (N := 16) (hgM_6 ca o) rfl (gi_in (by omega) (by omega)) dX11_movesAll_13 ?_
        refine lv_topi (fun x3 e3 => ?_)
        refine lv_iload_n hx hb dX11_movesAll_14 rfl (lv_at hl 3 rfl) ?_
        refine qc_Vi2 (As := [.int x3, .int 0]) (rest := [.int w1_3, .ref (o + 6)]) (k0 := 2) (m_moved l D ca o z1 y1 x3 (by have ql1 : Int32.toInt 0 = 0 := (by decide); omega)) kc_yX11_moved ⟨hx, hb, hml, hown, hts⟩ wq_1599 rfl rfl ⟨Nat.le_of_ble_eq_true rfl, Nat.le_of_ble_eq_true rfl⟩ wq_all hP hK hS qw_Ai (q0 := 0) (by decide) (hgM_0 ca o _ _) rfl rfl hl.1 rfl (Nat.le_of_ble_eq_true rfl) dX11_movesAll_15 ⟨Nat.zero_le _, Nat.zero_le _⟩ (fun r4 z4 y4 H locs h4 hP hS _ _ => ?_)
        have p4_1 : r4 = x3 ∧ z4 = qu (qu z1 0 62 (z1 0 62 + 1)) 40 (z1 0 62).toNatClampNeg x3 := h4.2
        refine qa_iast2 hx hb hK hP hS qw_Ai (q0 := 6) (by decide) 0 (N := 16) (hgM_6 ca o) rfl (i := w1_3) (x := r4) (gi_in (by omega) (by omega)) dX11_movesAll_18 (fun z5 H locs hz5 hP hS => ?_)
        obtain ⟨x6, e6⟩ : ∃ t : Int32, t = w1_3 + 1 := ⟨_, rfl⟩
        refine lv_iinc (v := x6) (lv' := [(3, .int x6), (0, .ref (o + 0)), (1, .ref (o + 6)), (2, .int 0)]) hx hb dX11_movesAll_19 hl (k := 0) rfl (by rw [e6]; rfl) (by decide) rfl (fun ls hl => ?_)
        have t6 : x6.toInt = w1_3.toInt + (1 : Int) := ga_add e6 rfl rfl (by omega) (by omega)
        refine lv_goto (tgt := 2) hx hb dX11_movesAll_22 (by decide) ?_
        exact ih1 x6 z5 y4 (show (16 - x6.toInt : Int) < (n1 : Int) from by omega) ⟨by omega, by omega⟩ (mv0_step (by decide) (by decide) (by omega) (by omega) (by omega) (by omega) v1_0 e3 p4_1.1 p4_1.2 hz5 trivial) _ _ hP hS _ (lv_sub hl [0, 1, 2, 3] rfl)
  exact loop1 17 0 z y (show (16 - (0 : Int) : Int) < ((17 : Nat) : Int) from by omega) ⟨by decide, by decide⟩ (mv0_0 (by omega)) _ _ hP hS _ (lv_sub hl [0, 1, 2, 3] rfl)
set_option maxRecDepth 100000 in
set_option maxHeartbeats 8000000 in
theorem m_movesAll_v6 (l : Launch) (D : va_G) (ca : Nat → ClassId) (o : Nat) (z : Nat → Nat → Int32) (y : Nat → Nat → Int64)  (hp0 : 0 ≤ (z 0 62).toInt ∧ (z 0 62).toInt ≤ 233) : qM l yX11_movesAll cX11_movesAll 4 none 2 83 (qPre D vwCl (qT6 ca) o 41 (qG (GM ca o) z y) [.ref (o + 0), .ref (o + 7), .int 0]) (va_Qv (fun u => (u.1 = mv0 z 7 (z 0 62).toNatClampNeg 16)) (qB D vwCl (qT6 ca) o 41 (fun u : qZ => qG (GM ca o) u.1 u.2)) (qw_A o 41)) (qw_A o 41) := by
  refine Met.ofW (cc := cX11_movesAll) (maxL := 4) (ret := none) (by decide) rfl ?_
  intro p e s m args below meth c s₁ B hml hv
  obtain ⟨rfl, hP, hK⟩ := hv
  have hx := B.exec
  have hb := B.bytes
  have hr := B.returns
  have hts0 := atoms_spec (ws := Cond.code yX11_movesAll cX11_movesAll 4 none :: qtbl) B.pre
  have hts : ∀ w ∈ qtbl, w.before _ s = true := fun w h => hts0 w (List.mem_cons_of_mem _ h)
  have hown : s.vm.findClass RX11 = some m.cls := findClass_of_methodNamed B.named
  have hlocks := B.notSynchronized
  have hS : va_S (qw_A o 41) s.heap s.heap [] := va_S.rf
  have hl := lv_entry ([.ref (o + 0), .ref (o + 7), .int 0]) (n := 4) (Nat.le_of_ble_eq_true rfl)
  rw [lg_entry_eq]
  generalize (lg_sl ([.ref (o + 0), .ref (o + 7), .int 0]) ++ List.replicate (4 - (lg_sl ([.ref (o + 0), .ref (o + 7), .int 0])).length) Slot.unset).toArray = ls at hl ⊢
  have hl : lv_has ls 4 [(0, .ref (o + 0)), (1, .ref (o + 7)), (2, .int 0)] := hl
  refine lv_iconst (v := 0) hx hb dX11_movesAll_0 (by decide) ?_
  refine lv_istore_n (lv' := [(3, .int 0), (0, .ref (o + 0)), (1, .ref (o + 7)), (2, .int 0)]) hx hb dX11_movesAll_1 rfl hl (by decide) rfl (fun ls hl => ?_)
  have loop1 : ∀ (n : Nat) (w1_3 : Int32) (z1 : Nat → Nat → Int32) (y1 : Nat → Nat → Int64), ((16 - w1_3.toInt : Int) < (n : Int)) → ((0 : Int) ≤ w1_3.toInt ∧ w1_3.toInt ≤ 16) → (z1 = mv0 z 7 (z 0 62).toNatClampNeg w1_3.toNatClampNeg) → ∀ (H : Heap) (locs : List Loc), qw_P D vwCl o 41 (qG (GM ca o) z1 y1) H → va_S (qw_A o 41) s.heap H locs → ∀ (ls : Array Slot), lv_has ls 4 [(3, .int w1_3), (0, .ref (o + 0)), (1, .ref (o + 7)), (2, .int 0)] → W p l e (headSpec (Cond.code yX11_movesAll cX11_movesAll 4 none :: qtbl) ({ frames := 2, cells := 0, slots := 0, locals := 83 })).room s m (([.ref (o + 0), .ref (o + 7), .int 0] : List Value).toArray) below meth c H locs 0 0 (MQ below (va_Qv (fun u => (u.1 = mv0 z 7 (z 0 62).toNatClampNeg 16)) (qB D vwCl (qT6 ca) o 41 (fun u : qZ => qG (GM ca o) u.1 u.2)) (qw_A o 41)) (([.ref (o + 0), .ref (o + 7), .int 0] : List Value).toArray) s 0 0 (qw_A o 41)) (F0 m 2 ls []) := by
    intro n
    induction n with
    | zero => intro w1_3 z1 y1 hb1 hv1_3 v1_0; exfalso; omega
    | succ n1 ih1 =>
      intro w1_3 z1 y1 hb1 hv1_3 v1_0 H locs hP hS ls hl
      have kk1 : (z1 0 62).toInt = (z 0 62).toInt + w1_3.toInt := mv0_at (by decide) (by omega) (by omega) (by omega) v1_0
      refine lv_iload_n hx hb dX11_movesAll_2 rfl (lv_at hl 0 rfl) ?_
      refine lv_aload_n hx hb dX11_movesAll_3 rfl (lv_at hl 2 rfl) ?_
      refine qa_len hx hb hK hP (q0 := 7) (by decide) 0 (hgM_7 ca o) rfl (v := 16) rfl dX11_movesAll_4 ?_
      refine lv_icmp_ge (tgt := 25) hx hb dX11_movesAll_5 (by decide) (fun c2 => ?_) (fun c2 => ?_)
      · have t2 : w1_3.toInt ≥ (16 : Int) := gl_le c2
        exact W.vret hx hb hr (fun t ht hW => ⟨⟨(z1, y1), rfl, (by have h := v1_0; rw [gr_eq (y := 16) (show w1_3.toInt = (16 : Int) from by omega)] at h; exact h), by rw [ht]; exact hP, va_K.moved hW.alike hK⟩, hS.F ht⟩) hS.2.2 dX11_movesAll_25
      · have t2 : w1_3.toInt < (16 : Int) := gl_nle c2
        refine lv_aload_n hx hb dX11_movesAll_8 rfl (lv_at hl 2 rfl) ?_
        refine lv_iload_n hx hb dX11_movesAll_9 rfl (lv_at hl 0 rfl) ?_
        refine lv_aload_n hx hb dX11_movesAll_10 rfl (lv_at hl 1 rfl) ?_
        refine lv_aload_n hx hb dX11_movesAll_11 rfl (lv_at hl 2 rfl) ?_
        refine lv_iload_n hx hb dX11_movesAll_12 rfl (lv_at hl 0 rfl) ?_
        refine qa_iald hx hb hK hP (q0 := 7) (by decide) 0 (N := 16) (hgM_7 ca o) rfl (gi_in (by omega) (by omega)) dX11_movesAll_13 ?_
        refine lv_topi (fun x3 e3 => ?_)
        refine lv_iload_n hx hb dX11_movesAll_14 rfl (lv_at hl 3 rfl) ?_
        refine qc_Vi2 (As := [.int x3, .int 0]) (rest := [.int w1_3, .ref (o + 7)]) (k0 := 2) (m_moved l D ca o z1 y1 x3 (by have ql1 : Int32.toInt 0 = 0 := (by decide); omega)) kc_yX11_moved ⟨hx, hb, hml, hown, hts⟩ wq_1599 rfl rfl ⟨Nat.le_of_ble_eq_true rfl, Nat.le_of_ble_eq_true rfl⟩ wq_all hP hK hS qw_Ai (q0 := 0) (by decide) (hgM_0 ca o _ _) rfl rfl hl.1 rfl (Nat.le_of_ble_eq_true rfl) dX11_movesAll_15 ⟨Nat.zero_le _, Nat.zero_le _⟩ (fun r4 z4 y4 H locs h4 hP hS _ _ => ?_)
        have p4_1 : r4 = x3 ∧ z4 = qu (qu z1 0 62 (z1 0 62 + 1)) 40 (z1 0 62).toNatClampNeg x3 := h4.2
        refine qa_iast2 hx hb hK hP hS qw_Ai (q0 := 7) (by decide) 0 (N := 16) (hgM_7 ca o) rfl (i := w1_3) (x := r4) (gi_in (by omega) (by omega)) dX11_movesAll_18 (fun z5 H locs hz5 hP hS => ?_)
        obtain ⟨x6, e6⟩ : ∃ t : Int32, t = w1_3 + 1 := ⟨_, rfl⟩
        refine lv_iinc (v := x6) (lv' := [(3, .int x6), (0, .ref (o + 0)), (1, .ref (o + 7)), (2, .int 0)]) hx hb dX11_movesAll_19 hl (k := 0) rfl (by rw [e6]; rfl) (by decide) rfl (fun ls hl => ?_)
        have t6 : x6.toInt = w1_3.toInt + (1 : Int) := ga_add e6 rfl rfl (by omega) (by omega)
        refine lv_goto (tgt := 2) hx hb dX11_movesAll_22 (by decide) ?_
        exact ih1 x6 z5 y4 (show (16 - x6.toInt : Int) < (n1 : Int) from by omega) ⟨by omega, by omega⟩ (mv0_step (by decide) (by decide) (by omega) (by omega) (by omega) (by omega) v1_0 e3 p4_1.1 p4_1.2 hz5 trivial) _ _ hP hS _ (lv_sub hl [0, 1, 2, 3] rfl)
  exact loop1 17 0 z y (show (16 - (0 : Int) : Int) < ((17 : Nat) : Int) from by omega) ⟨by decide, by decide⟩ (mv0_0 (by omega)) _ _ hP hS _ (lv_sub hl [0, 1, 2, 3] rfl)
set_option maxRecDepth 100000 in
set_option maxHeartbeats 8000000 in
theorem m_movesAll_v7 (l : Launch) (D : va_G) (ca : Nat → ClassId) (o : Nat) (z : Nat → Nat → Int32) (y : Nat → Nat → Int64)  (hp0 : 0 ≤ (z 0 62).toInt ∧ (z 0 62).toInt ≤ 233) : qM l yX11_movesAll cX11_movesAll 4 none 2 83 (qPre D vwCl (qT6 ca) o 41 (qG (GM ca o) z y) [.ref (o + 0), .ref (o + 8), .int 0]) (va_Qv (fun u => (u.1 = mv0 z 8 (z 0 62).toNatClampNeg 16)) (qB D vwCl (qT6 ca) o 41 (fun u : qZ => qG (GM ca o) u.1 u.2)) (qw_A o 41)) (qw_A o 41) := by
  refine Met.ofW (cc := cX11_movesAll) (maxL := 4) (ret := none) (by decide) rfl ?_
  intro p e s m args below meth c s₁ B hml hv
  obtain ⟨rfl, hP, hK⟩ := hv
  have hx := B.exec
  have hb := B.bytes
  have hr := B.returns
  have hts0 := atoms_spec (ws := Cond.code yX11_movesAll cX11_movesAll 4 none :: qtbl) B.pre
  have hts : ∀ w ∈ qtbl, w.before _ s = true := fun w h => hts0 w (List.mem_cons_of_mem _ h)
  have hown : s.vm.findClass RX11 = some m.cls := findClass_of_methodNamed B.named
  have hlocks := B.notSynchronized
  have hS : va_S (qw_A o 41) s.heap s.heap [] := va_S.rf
  have hl := lv_entry ([.ref (o + 0), .ref (o + 8), .int 0]) (n := 4) (Nat.le_of_ble_eq_true rfl)
  rw [lg_entry_eq]
  generalize (lg_sl ([.ref (o + 0), .ref (o + 8), .int 0]) ++ List.replicate (4 - (lg_sl ([.ref (o + 0), .ref (o + 8), .int 0])).length) Slot.unset).toArray = ls at hl ⊢
  have hl : lv_has ls 4 [(0, .ref (o + 0)), (1, .ref (o + 8)), (2, .int 0)] := hl
  refine lv_iconst (v := 0) hx hb dX11_movesAll_0 (by decide) ?_
  refine lv_istore_n (lv' := [(3, .int 0), (0, .ref (o + 0)), (1, .ref (o + 8)), (2, .int 0)]) hx hb dX11_movesAll_1 rfl hl (by decide) rfl (fun ls hl => ?_)
  have loop1 : ∀ (n : Nat) (w1_3 : Int32) (z1 : Nat → Nat → Int32) (y1 : Nat → Nat → Int64), ((16 - w1_3.toInt : Int) < (n : Int)) → ((0 : Int) ≤ w1_3.toInt ∧ w1_3.toInt ≤ 16) → (z1 = mv0 z 8 (z 0 62).toNatClampNeg w1_3.toNatClampNeg) → ∀ (H : Heap) (locs : List Loc), qw_P D vwCl o 41 (qG (GM ca o) z1 y1) H → va_S (qw_A o 41) s.heap H locs → ∀ (ls : Array Slot), lv_has ls 4 [(3, .int w1_3), (0, .ref (o + 0)), (1, .ref (o + 8)), (2, .int 0)] → W p l e (headSpec (Cond.code yX11_movesAll cX11_movesAll 4 none :: qtbl) ({ frames := 2, cells := 0, slots := 0, locals := 83 })).room s m (([.ref (o + 0), .ref (o + 8), .int 0] : List Value).toArray) below meth c H locs 0 0 (MQ below (va_Qv (fun u => (u.1 = mv0 z 8 (z 0 62).toNatClampNeg 16)) (qB D vwCl (qT6 ca) o 41 (fun u : qZ => qG (GM ca o) u.1 u.2)) (qw_A o 41)) (([.ref (o + 0), .ref (o + 8), .int 0] : List Value).toArray) s 0 0 (qw_A o 41)) (F0 m 2 ls []) := by
    intro n
    induction n with
    | zero => intro w1_3 z1 y1 hb1 hv1_3 v1_0; exfalso; omega
    | succ n1 ih1 =>
      intro w1_3 z1 y1 hb1 hv1_3 v1_0 H locs hP hS ls hl
      have kk1 : (z1 0 62).toInt = (z 0 62).toInt + w1_3.toInt := mv0_at (by decide) (by omega) (by omega) (by omega) v1_0
      refine lv_iload_n hx hb dX11_movesAll_2 rfl (lv_at hl 0 rfl) ?_
      refine lv_aload_n hx hb dX11_movesAll_3 rfl (lv_at hl 2 rfl) ?_
      refine qa_len hx hb hK hP (q0 := 8) (by decide) 0 (hgM_8 ca o) rfl (v := 16) rfl dX11_movesAll_4 ?_
      refine lv_icmp_ge (tgt := 25) hx hb dX11_movesAll_5 (by decide) (fun c2 => ?_) (fun c2 => ?_)
      · have t2 : w1_3.toInt ≥ (16 : Int) := gl_le c2
        exact W.vret hx hb hr (fun t ht hW => ⟨⟨(z1, y1), rfl, (by have h := v1_0; rw [gr_eq (y := 16) (show w1_3.toInt = (16 : Int) from by omega)] at h; exact h), by rw [ht]; exact hP, va_K.moved hW.alike hK⟩, hS.F ht⟩) hS.2.2 dX11_movesAll_25
      · have t2 : w1_3.toInt < (16 : Int) := gl_nle c2
        refine lv_aload_n hx hb dX11_movesAll_8 rfl (lv_at hl 2 rfl) ?_
        refine lv_iload_n hx hb dX11_movesAll_9 rfl (lv_at hl 0 rfl) ?_
        refine lv_aload_n hx hb dX11_movesAll_10 rfl (lv_at hl 1 rfl) ?_
        refine lv_aload_n hx hb dX11_movesAll_11 rfl (lv_at hl 2 rfl) ?_
        refine lv_iload_n hx hb dX11_movesAll_12 rfl (lv_at hl 0 rfl) ?_
        refine qa_iald hx hb hK hP (q0 := 8) (by decide) 0 (N := 16) (hgM_8 ca o) rfl (gi_in (by omega) (by omega)) dX11_movesAll_13 ?_
        refine lv_topi (fun x3 e3 => ?_)
        refine lv_iload_n hx hb dX11_movesAll_14 rfl (lv_at hl 3 rfl) ?_
        refine qc_Vi2 (As := [.int x3, .int 0]) (rest := [.int w1_3, .ref (o + 8)]) (k0 := 2) (m_moved l D ca o z1 y1 x3 (by have ql1 : Int32.toInt 0 = 0 := (by decide); omega)) kc_yX11_moved ⟨hx, hb, hml, hown, hts⟩ wq_1599 rfl rfl ⟨Nat.le_of_ble_eq_true rfl, Nat.le_of_ble_eq_true rfl⟩ wq_all hP hK hS qw_Ai (q0 := 0) (by decide) (hgM_0 ca o _ _) rfl rfl hl.1 rfl (Nat.le_of_ble_eq_true rfl) dX11_movesAll_15 ⟨Nat.zero_le _, Nat.zero_le _⟩ (fun r4 z4 y4 H locs h4 hP hS _ _ => ?_)
        have p4_1 : r4 = x3 ∧ z4 = qu (qu z1 0 62 (z1 0 62 + 1)) 40 (z1 0 62).toNatClampNeg x3 := h4.2
        refine qa_iast2 hx hb hK hP hS qw_Ai (q0 := 8) (by decide) 0 (N := 16) (hgM_8 ca o) rfl (i := w1_3) (x := r4) (gi_in (by omega) (by omega)) dX11_movesAll_18 (fun z5 H locs hz5 hP hS => ?_)
        obtain ⟨x6, e6⟩ : ∃ t : Int32, t = w1_3 + 1 := ⟨_, rfl⟩
        refine lv_iinc (v := x6) (lv' := [(3, .int x6), (0, .ref (o + 0)), (1, .ref (o + 8)), (2, .int 0)]) hx hb dX11_movesAll_19 hl (k := 0) rfl (by rw [e6]; rfl) (by decide) rfl (fun ls hl => ?_)
        have t6 : x6.toInt = w1_3.toInt + (1 : Int) := ga_add e6 rfl rfl (by omega) (by omega)
        refine lv_goto (tgt := 2) hx hb dX11_movesAll_22 (by decide) ?_
        exact ih1 x6 z5 y4 (show (16 - x6.toInt : Int) < (n1 : Int) from by omega) ⟨by omega, by omega⟩ (mv0_step (by decide) (by decide) (by omega) (by omega) (by omega) (by omega) v1_0 e3 p4_1.1 p4_1.2 hz5 trivial) _ _ hP hS _ (lv_sub hl [0, 1, 2, 3] rfl)
  exact loop1 17 0 z y (show (16 - (0 : Int) : Int) < ((17 : Nat) : Int) from by omega) ⟨by decide, by decide⟩ (mv0_0 (by omega)) _ _ hP hS _ (lv_sub hl [0, 1, 2, 3] rfl)
set_option maxRecDepth 100000 in
set_option maxHeartbeats 8000000 in
theorem m_movesAll_v8 (l : Launch) (D : va_G) (ca : Nat → ClassId) (o : Nat) (z : Nat → Nat → Int32) (y : Nat → Nat → Int64)  (hp0 : 0 ≤ (z 0 62).toInt ∧ (z 0 62).toInt ≤ 233) : qM l yX11_movesAll cX11_movesAll 4 none 2 83 (qPre D vwCl (qT6 ca) o 41 (qG (GM ca o) z y) [.ref (o + 0), .ref (o + 9), .int 0]) (va_Qv (fun u => (u.1 = mv0 z 9 (z 0 62).toNatClampNeg 16)) (qB D vwCl (qT6 ca) o 41 (fun u : qZ => qG (GM ca o) u.1 u.2)) (qw_A o 41)) (qw_A o 41) := by
  refine Met.ofW (cc := cX11_movesAll) (maxL := 4) (ret := none) (by decide) rfl ?_
  intro p e s m args below meth c s₁ B hml hv
  obtain ⟨rfl, hP, hK⟩ := hv
  have hx := B.exec
  have hb := B.bytes
  have hr := B.returns
  have hts0 := atoms_spec (ws := Cond.code yX11_movesAll cX11_movesAll 4 none :: qtbl) B.pre
  have hts : ∀ w ∈ qtbl, w.before _ s = true := fun w h => hts0 w (List.mem_cons_of_mem _ h)
  have hown : s.vm.findClass RX11 = some m.cls := findClass_of_methodNamed B.named
  have hlocks := B.notSynchronized
  have hS : va_S (qw_A o 41) s.heap s.heap [] := va_S.rf
  have hl := lv_entry ([.ref (o + 0), .ref (o + 9), .int 0]) (n := 4) (Nat.le_of_ble_eq_true rfl)
  rw [lg_entry_eq]
  generalize (lg_sl ([.ref (o + 0), .ref (o + 9), .int 0]) ++ List.replicate (4 - (lg_sl ([.ref (o + 0), .ref (o + 9), .int 0])).length) Slot.unset).toArray = ls at hl ⊢
  have hl : lv_has ls 4 [(0, .ref (o + 0)), (1, .ref (o + 9)), (2, .int 0)] := hl
  refine lv_iconst (v := 0) hx hb dX11_movesAll_0 (by decide) ?_
  refine lv_istore_n (lv' := [(3, .int 0), (0, .ref (o + 0)), (1, .ref (o + 9)), (2, .int 0)]) hx hb dX11_movesAll_1 rfl hl (by decide) rfl (fun ls hl => ?_)
  have loop1 : ∀ (n : Nat) (w1_3 : Int32) (z1 : Nat → Nat → Int32) (y1 : Nat → Nat → Int64), ((16 - w1_3.toInt : Int) < (n : Int)) → ((0 : Int) ≤ w1_3.toInt ∧ w1_3.toInt ≤ 16) → (z1 = mv0 z 9 (z 0 62).toNatClampNeg w1_3.toNatClampNeg) → ∀ (H : Heap) (locs : List Loc), qw_P D vwCl o 41 (qG (GM ca o) z1 y1) H → va_S (qw_A o 41) s.heap H locs → ∀ (ls : Array Slot), lv_has ls 4 [(3, .int w1_3), (0, .ref (o + 0)), (1, .ref (o + 9)), (2, .int 0)] → W p l e (headSpec (Cond.code yX11_movesAll cX11_movesAll 4 none :: qtbl) ({ frames := 2, cells := 0, slots := 0, locals := 83 })).room s m (([.ref (o + 0), .ref (o + 9), .int 0] : List Value).toArray) below meth c H locs 0 0 (MQ below (va_Qv (fun u => (u.1 = mv0 z 9 (z 0 62).toNatClampNeg 16)) (qB D vwCl (qT6 ca) o 41 (fun u : qZ => qG (GM ca o) u.1 u.2)) (qw_A o 41)) (([.ref (o + 0), .ref (o + 9), .int 0] : List Value).toArray) s 0 0 (qw_A o 41)) (F0 m 2 ls []) := by
    intro n
    induction n with
    | zero => intro w1_3 z1 y1 hb1 hv1_3 v1_0; exfalso; omega
    | succ n1 ih1 =>
      intro w1_3 z1 y1 hb1 hv1_3 v1_0 H locs hP hS ls hl
      have kk1 : (z1 0 62).toInt = (z 0 62).toInt + w1_3.toInt := mv0_at (by decide) (by omega) (by omega) (by omega) v1_0
      refine lv_iload_n hx hb dX11_movesAll_2 rfl (lv_at hl 0 rfl) ?_
      refine lv_aload_n hx hb dX11_movesAll_3 rfl (lv_at hl 2 rfl) ?_
      refine qa_len hx hb hK hP (q0 := 9) (by decide) 0 (hgM_9 ca o) rfl (v := 16) rfl dX11_movesAll_4 ?_
      refine lv_icmp_ge (tgt := 25) hx hb dX11_movesAll_5 (by decide) (fun c2 => ?_) (fun c2 => ?_)
      · have t2 : w1_3.toInt ≥ (16 : Int) := gl_le c2
        exact W.vret hx hb hr (fun t ht hW => ⟨⟨(z1, y1), rfl, (by have h := v1_0; rw [gr_eq (y := 16) (show w1_3.toInt = (16 : Int) from by omega)] at h; exact h), by rw [ht]; exact hP, va_K.moved hW.alike hK⟩, hS.F ht⟩) hS.2.2 dX11_movesAll_25
      · have t2 : w1_3.toInt < (16 : Int) := gl_nle c2
        refine lv_aload_n hx hb dX11_movesAll_8 rfl (lv_at hl 2 rfl) ?_
        refine lv_iload_n hx hb dX11_movesAll_9 rfl (lv_at hl 0 rfl) ?_
        refine lv_aload_n hx hb dX11_movesAll_10 rfl (lv_at hl 1 rfl) ?_
        refine lv_aload_n hx hb dX11_movesAll_11 rfl (lv_at hl 2 rfl) ?_
        refine lv_iload_n hx hb dX11_movesAll_12 rfl (lv_at hl 0 rfl) ?_
        refine qa_iald hx hb hK hP (q0 := 9) (by decide) 0 (N := 16) (hgM_9 ca o) rfl (gi_in (by omega) (by omega)) dX11_movesAll_13 ?_
        refine lv_topi (fun x3 e3 => ?_)
        refine lv_iload_n hx hb dX11_movesAll_14 rfl (lv_at hl 3 rfl) ?_
        refine qc_Vi2 (As := [.int x3, .int 0]) (rest := [.int w1_3, .ref (o + 9)]) (k0 := 2) (m_moved l D ca o z1 y1 x3 (by have ql1 : Int32.toInt 0 = 0 := (by decide); omega)) kc_yX11_moved ⟨hx, hb, hml, hown, hts⟩ wq_1599 rfl rfl ⟨Nat.le_of_ble_eq_true rfl, Nat.le_of_ble_eq_true rfl⟩ wq_all hP hK hS qw_Ai (q0 := 0) (by decide) (hgM_0 ca o _ _) rfl rfl hl.1 rfl (Nat.le_of_ble_eq_true rfl) dX11_movesAll_15 ⟨Nat.zero_le _, Nat.zero_le _⟩ (fun r4 z4 y4 H locs h4 hP hS _ _ => ?_)
        have p4_1 : r4 = x3 ∧ z4 = qu (qu z1 0 62 (z1 0 62 + 1)) 40 (z1 0 62).toNatClampNeg x3 := h4.2
        refine qa_iast2 hx hb hK hP hS qw_Ai (q0 := 9) (by decide) 0 (N := 16) (hgM_9 ca o) rfl (i := w1_3) (x := r4) (gi_in (by omega) (by omega)) dX11_movesAll_18 (fun z5 H locs hz5 hP hS => ?_)
        obtain ⟨x6, e6⟩ : ∃ t : Int32, t = w1_3 + 1 := ⟨_, rfl⟩
        refine lv_iinc (v := x6) (lv' := [(3, .int x6), (0, .ref (o + 0)), (1, .ref (o + 9)), (2, .int 0)]) hx hb dX11_movesAll_19 hl (k := 0) rfl (by rw [e6]; rfl) (by decide) rfl (fun ls hl => ?_)
        have t6 : x6.toInt = w1_3.toInt + (1 : Int) := ga_add e6 rfl rfl (by omega) (by omega)
        refine lv_goto (tgt := 2) hx hb dX11_movesAll_22 (by decide) ?_
        exact ih1 x6 z5 y4 (show (16 - x6.toInt : Int) < (n1 : Int) from by omega) ⟨by omega, by omega⟩ (mv0_step (by decide) (by decide) (by omega) (by omega) (by omega) (by omega) v1_0 e3 p4_1.1 p4_1.2 hz5 trivial) _ _ hP hS _ (lv_sub hl [0, 1, 2, 3] rfl)
  exact loop1 17 0 z y (show (16 - (0 : Int) : Int) < ((17 : Nat) : Int) from by omega) ⟨by decide, by decide⟩ (mv0_0 (by omega)) _ _ hP hS _ (lv_sub hl [0, 1, 2, 3] rfl)
set_option maxRecDepth 100000 in
set_option maxHeartbeats 8000000 in
theorem m_movesAll_v9 (l : Launch) (D : va_G) (ca : Nat → ClassId) (o : Nat) (z : Nat → Nat → Int32) (y : Nat → Nat → Int64)  (hp0 : 0 ≤ (z 0 62).toInt ∧ (z 0 62).toInt ≤ 233) : qM l yX11_movesAll cX11_movesAll 4 none 2 83 (qPre D vwCl (qT6 ca) o 41 (qG (GM ca o) z y) [.ref (o + 0), .ref (o + 10), .int 0]) (va_Qv (fun u => (u.1 = mv0 z 10 (z 0 62).toNatClampNeg 16)) (qB D vwCl (qT6 ca) o 41 (fun u : qZ => qG (GM ca o) u.1 u.2)) (qw_A o 41)) (qw_A o 41) := by
  refine Met.ofW (cc := cX11_movesAll) (maxL := 4) (ret := none) (by decide) rfl ?_
  intro p e s m args below meth c s₁ B hml hv
  obtain ⟨rfl, hP, hK⟩ := hv
  have hx := B.exec
  have hb := B.bytes
  have hr := B.returns
  have hts0 := atoms_spec (ws := Cond.code yX11_movesAll cX11_movesAll 4 none :: qtbl) B.pre
  have hts : ∀ w ∈ qtbl, w.before _ s = true := fun w h => hts0 w (List.mem_cons_of_mem _ h)
  have hown : s.vm.findClass RX11 = some m.cls := findClass_of_methodNamed B.named
  have hlocks := B.notSynchronized
  have hS : va_S (qw_A o 41) s.heap s.heap [] := va_S.rf
  have hl := lv_entry ([.ref (o + 0), .ref (o + 10), .int 0]) (n := 4) (Nat.le_of_ble_eq_true rfl)
  rw [lg_entry_eq]
  generalize (lg_sl ([.ref (o + 0), .ref (o + 10), .int 0]) ++ List.replicate (4 - (lg_sl ([.ref (o + 0), .ref (o + 10), .int 0])).length) Slot.unset).toArray = ls at hl ⊢
  have hl : lv_has ls 4 [(0, .ref (o + 0)), (1, .ref (o + 10)), (2, .int 0)] := hl
  refine lv_iconst (v := 0) hx hb dX11_movesAll_0 (by decide) ?_
  refine lv_istore_n (lv' := [(3, .int 0), (0, .ref (o + 0)), (1, .ref (o + 10)), (2, .int 0)]) hx hb dX11_movesAll_1 rfl hl (by decide) rfl (fun ls hl => ?_)
  have loop1 : ∀ (n : Nat) (w1_3 : Int32) (z1 : Nat → Nat → Int32) (y1 : Nat → Nat → Int64), ((16 - w1_3.toInt : Int) < (n : Int)) → ((0 : Int) ≤ w1_3.toInt ∧ w1_3.toInt ≤ 16) → (z1 = mv0 z 10 (z 0 62).toNatClampNeg w1_3.toNatClampNeg) → ∀ (H : Heap) (locs : List Loc), qw_P D vwCl o 41 (qG (GM ca o) z1 y1) H → va_S (qw_A o 41) s.heap H locs → ∀ (ls : Array Slot), lv_has ls 4 [(3, .int w1_3), (0, .ref (o + 0)), (1, .ref (o + 10)), (2, .int 0)] → W p l e (headSpec (Cond.code yX11_movesAll cX11_movesAll 4 none :: qtbl) ({ frames := 2, cells := 0, slots := 0, locals := 83 })).room s m (([.ref (o + 0), .ref (o + 10), .int 0] : List Value).toArray) below meth c H locs 0 0 (MQ below (va_Qv (fun u => (u.1 = mv0 z 10 (z 0 62).toNatClampNeg 16)) (qB D vwCl (qT6 ca) o 41 (fun u : qZ => qG (GM ca o) u.1 u.2)) (qw_A o 41)) (([.ref (o + 0), .ref (o + 10), .int 0] : List Value).toArray) s 0 0 (qw_A o 41)) (F0 m 2 ls []) := by
    intro n
    induction n with
    | zero => intro w1_3 z1 y1 hb1 hv1_3 v1_0; exfalso; omega
    | succ n1 ih1 =>
      intro w1_3 z1 y1 hb1 hv1_3 v1_0 H locs hP hS ls hl
      have kk1 : (z1 0 62).toInt = (z 0 62).toInt + w1_3.toInt := mv0_at (by decide) (by omega) (by omega) (by omega) v1_0
      refine lv_iload_n hx hb dX11_movesAll_2 rfl (lv_at hl 0 rfl) ?_
      refine lv_aload_n hx hb dX11_movesAll_3 rfl (lv_at hl 2 rfl) ?_
      refine qa_len hx hb hK hP (q0 := 10) (by decide) 0 (hgM_10 ca o) rfl (v := 16) rfl dX11_movesAll_4 ?_
      refine lv_icmp_ge (tgt := 25) hx hb dX11_movesAll_5 (by decide) (fun c2 => ?_) (fun c2 => ?_)
      · have t2 : w1_3.toInt ≥ (16 : Int) := gl_le c2
        exact W.vret hx hb hr (fun t ht hW => ⟨⟨(z1, y1), rfl, (by have h := v1_0; rw [gr_eq (y := 16) (show w1_3.toInt = (16 : Int) from by omega)] at h; exact h), by rw [ht]; exact hP, va_K.moved hW.alike hK⟩, hS.F ht⟩) hS.2.2 dX11_movesAll_25
      · have t2 : w1_3.toInt < (16 : Int) := gl_nle c2
        refine lv_aload_n hx hb dX11_movesAll_8 rfl (lv_at hl 2 rfl) ?_
        refine lv_iload_n hx hb dX11_movesAll_9 rfl (lv_at hl 0 rfl) ?_
        refine lv_aload_n hx hb dX11_movesAll_10 rfl (lv_at hl 1 rfl) ?_
        refine lv_aload_n hx hb dX11_movesAll_11 rfl (lv_at hl 2 rfl) ?_
        refine lv_iload_n hx hb dX11_movesAll_12 rfl (lv_at hl 0 rfl) ?_
        refine qa_iald hx hb hK hP (q0 := 10) (by decide) 0 (N := 16) (hgM_10 ca o) rfl (gi_in (by omega) (by omega)) dX11_movesAll_13 ?_
        refine lv_topi (fun x3 e3 => ?_)
        refine lv_iload_n hx hb dX11_movesAll_14 rfl (lv_at hl 3 rfl) ?_
        refine qc_Vi2 (As := [.int x3, .int 0]) (rest := [.int w1_3, .ref (o + 10)]) (k0 := 2) (m_moved l D ca o z1 y1 x3 (by have ql1 : Int32.toInt 0 = 0 := (by decide); omega)) kc_yX11_moved ⟨hx, hb, hml, hown, hts⟩ wq_1599 rfl rfl ⟨Nat.le_of_ble_eq_true rfl, Nat.le_of_ble_eq_true rfl⟩ wq_all hP hK hS qw_Ai (q0 := 0) (by decide) (hgM_0 ca o _ _) rfl rfl hl.1 rfl (Nat.le_of_ble_eq_true rfl) dX11_movesAll_15 ⟨Nat.zero_le _, Nat.zero_le _⟩ (fun r4 z4 y4 H locs h4 hP hS _ _ => ?_)
        have p4_1 : r4 = x3 ∧ z4 = qu (qu z1 0 62 (z1 0 62 + 1)) 40 (z1 0 62).toNatClampNeg x3 := h4.2
        refine qa_iast2 hx hb hK hP hS qw_Ai (q0 := 10) (by decide) 0 (N := 16) (hgM_10 ca o) rfl (i := w1_3) (x := r4) (gi_in (by omega) (by omega)) dX11_movesAll_18 (fun z5 H locs hz5 hP hS => ?_)
        obtain ⟨x6, e6⟩ : ∃ t : Int32, t = w1_3 + 1 := ⟨_, rfl⟩
        refine lv_iinc (v := x6) (lv' := [(3, .int x6), (0, .ref (o + 0)), (1, .ref (o + 10)), (2, .int 0)]) hx hb dX11_movesAll_19 hl (k := 0) rfl (by rw [e6]; rfl) (by decide) rfl (fun ls hl => ?_)
        have t6 : x6.toInt = w1_3.toInt + (1 : Int) := ga_add e6 rfl rfl (by omega) (by omega)
        refine lv_goto (tgt := 2) hx hb dX11_movesAll_22 (by decide) ?_
        exact ih1 x6 z5 y4 (show (16 - x6.toInt : Int) < (n1 : Int) from by omega) ⟨by omega, by omega⟩ (mv0_step (by decide) (by decide) (by omega) (by omega) (by omega) (by omega) v1_0 e3 p4_1.1 p4_1.2 hz5 trivial) _ _ hP hS _ (lv_sub hl [0, 1, 2, 3] rfl)
  exact loop1 17 0 z y (show (16 - (0 : Int) : Int) < ((17 : Nat) : Int) from by omega) ⟨by decide, by decide⟩ (mv0_0 (by omega)) _ _ hP hS _ (lv_sub hl [0, 1, 2, 3] rfl)
set_option maxRecDepth 100000 in
set_option maxHeartbeats 8000000 in
theorem m_movesAll_v10 (l : Launch) (D : va_G) (ca : Nat → ClassId) (o : Nat) (z : Nat → Nat → Int32) (y : Nat → Nat → Int64)  (hp0 : 0 ≤ (z 0 62).toInt ∧ (z 0 62).toInt ≤ 233) : qM l yX11_movesAll cX11_movesAll 4 none 2 83 (qPre D vwCl (qT6 ca) o 41 (qG (GM ca o) z y) [.ref (o + 0), .ref (o + 11), .int 0]) (va_Qv (fun u => (u.1 = mv0 z 11 (z 0 62).toNatClampNeg 16)) (qB D vwCl (qT6 ca) o 41 (fun u : qZ => qG (GM ca o) u.1 u.2)) (qw_A o 41)) (qw_A o 41) := by
  refine Met.ofW (cc := cX11_movesAll) (maxL := 4) (ret := none) (by decide) rfl ?_
  intro p e s m args below meth c s₁ B hml hv
  obtain ⟨rfl, hP, hK⟩ := hv
  have hx := B.exec
  have hb := B.bytes
  have hr := B.returns
  have hts0 := atoms_spec (ws := Cond.code yX11_movesAll cX11_movesAll 4 none :: qtbl) B.pre
  have hts : ∀ w ∈ qtbl, w.before _ s = true := fun w h => hts0 w (List.mem_cons_of_mem _ h)
  have hown : s.vm.findClass RX11 = some m.cls := findClass_of_methodNamed B.named
  have hlocks := B.notSynchronized
  have hS : va_S (qw_A o 41) s.heap s.heap [] := va_S.rf
  have hl := lv_entry ([.ref (o + 0), .ref (o + 11), .int 0]) (n := 4) (Nat.le_of_ble_eq_true rfl)
  rw [lg_entry_eq]
  generalize (lg_sl ([.ref (o + 0), .ref (o + 11), .int 0]) ++ List.replicate (4 - (lg_sl ([.ref (o + 0), .ref (o + 11), .int 0])).length) Slot.unset).toArray = ls at hl ⊢
  have hl : lv_has ls 4 [(0, .ref (o + 0)), (1, .ref (o + 11)), (2, .int 0)] := hl
  refine lv_iconst (v := 0) hx hb dX11_movesAll_0 (by decide) ?_
  refine lv_istore_n (lv' := [(3, .int 0), (0, .ref (o + 0)), (1, .ref (o + 11)), (2, .int 0)]) hx hb dX11_movesAll_1 rfl hl (by decide) rfl (fun ls hl => ?_)
  have loop1 : ∀ (n : Nat) (w1_3 : Int32) (z1 : Nat → Nat → Int32) (y1 : Nat → Nat → Int64), ((16 - w1_3.toInt : Int) < (n : Int)) → ((0 : Int) ≤ w1_3.toInt ∧ w1_3.toInt ≤ 16) → (z1 = mv0 z 11 (z 0 62).toNatClampNeg w1_3.toNatClampNeg) → ∀ (H : Heap) (locs : List Loc), qw_P D vwCl o 41 (qG (GM ca o) z1 y1) H → va_S (qw_A o 41) s.heap H locs → ∀ (ls : Array Slot), lv_has ls 4 [(3, .int w1_3), (0, .ref (o + 0)), (1, .ref (o + 11)), (2, .int 0)] → W p l e (headSpec (Cond.code yX11_movesAll cX11_movesAll 4 none :: qtbl) ({ frames := 2, cells := 0, slots := 0, locals := 83 })).room s m (([.ref (o + 0), .ref (o + 11), .int 0] : List Value).toArray) below meth c H locs 0 0 (MQ below (va_Qv (fun u => (u.1 = mv0 z 11 (z 0 62).toNatClampNeg 16)) (qB D vwCl (qT6 ca) o 41 (fun u : qZ => qG (GM ca o) u.1 u.2)) (qw_A o 41)) (([.ref (o + 0), .ref (o + 11), .int 0] : List Value).toArray) s 0 0 (qw_A o 41)) (F0 m 2 ls []) := by
    intro n
    induction n with
    | zero => intro w1_3 z1 y1 hb1 hv1_3 v1_0; exfalso; omega
    | succ n1 ih1 =>
      intro w1_3 z1 y1 hb1 hv1_3 v1_0 H locs hP hS ls hl
      have kk1 : (z1 0 62).toInt = (z 0 62).toInt + w1_3.toInt := mv0_at (by decide) (by omega) (by omega) (by omega) v1_0
      refine lv_iload_n hx hb dX11_movesAll_2 rfl (lv_at hl 0 rfl) ?_
      refine lv_aload_n hx hb dX11_movesAll_3 rfl (lv_at hl 2 rfl) ?_
      refine qa_len hx hb hK hP (q0 := 11) (by decide) 0 (hgM_11 ca o) rfl (v := 16) rfl dX11_movesAll_4 ?_
      refine lv_icmp_ge (tgt := 25) hx hb dX11_movesAll_5 (by decide) (fun c2 => ?_) (fun c2 => ?_)
      · have t2 : w1_3.toInt ≥ (16 : Int) := gl_le c2
        exact W.vret hx hb hr (fun t ht hW => ⟨⟨(z1, y1), rfl, (by have h := v1_0; rw [gr_eq (y := 16) (show w1_3.toInt = (16 : Int) from by omega)] at h; exact h), by rw [ht]; exact hP, va_K.moved hW.alike hK⟩, hS.F ht⟩) hS.2.2 dX11_movesAll_25
      · have t2 : w1_3.toInt < (16 : Int) := gl_nle c2
        refine lv_aload_n hx hb dX11_movesAll_8 rfl (lv_at hl 2 rfl) ?_
        refine lv_iload_n hx hb dX11_movesAll_9 rfl (lv_at hl 0 rfl) ?_
        refine lv_aload_n hx hb dX11_movesAll_10 rfl (lv_at hl 1 rfl) ?_
        refine lv_aload_n hx hb dX11_movesAll_11 rfl (lv_at hl 2 rfl) ?_
        refine lv_iload_n hx hb dX11_movesAll_12 rfl (lv_at hl 0 rfl) ?_
        refine qa_iald hx hb hK hP (q0 := 11) (by decide) 0 (N := 16) (hgM_11 ca o) rfl (gi_in (by omega) (by omega)) dX11_movesAll_13 ?_
        refine lv_topi (fun x3 e3 => ?_)
        refine lv_iload_n hx hb dX11_movesAll_14 rfl (lv_at hl 3 rfl) ?_
        refine qc_Vi2 (As := [.int x3, .int 0]) (rest := [.int w1_3, .ref (o + 11)]) (k0 := 2) (m_moved l D ca o z1 y1 x3 (by have ql1 : Int32.toInt 0 = 0 := (by decide); omega)) kc_yX11_moved ⟨hx, hb, hml, hown, hts⟩ wq_1599 rfl rfl ⟨Nat.le_of_ble_eq_true rfl, Nat.le_of_ble_eq_true rfl⟩ wq_all hP hK hS qw_Ai (q0 := 0) (by decide) (hgM_0 ca o _ _) rfl rfl hl.1 rfl (Nat.le_of_ble_eq_true rfl) dX11_movesAll_15 ⟨Nat.zero_le _, Nat.zero_le _⟩ (fun r4 z4 y4 H locs h4 hP hS _ _ => ?_)
        have p4_1 : r4 = x3 ∧ z4 = qu (qu z1 0 62 (z1 0 62 + 1)) 40 (z1 0 62).toNatClampNeg x3 := h4.2
        refine qa_iast2 hx hb hK hP hS qw_Ai (q0 := 11) (by decide) 0 (N := 16) (hgM_11 ca o) rfl (i := w1_3) (x := r4) (gi_in (by omega) (by omega)) dX11_movesAll_18 (fun z5 H locs hz5 hP hS => ?_)
        obtain ⟨x6, e6⟩ : ∃ t : Int32, t = w1_3 + 1 := ⟨_, rfl⟩
        refine lv_iinc (v := x6) (lv' := [(3, .int x6), (0, .ref (o + 0)), (1, .ref (o + 11)), (2, .int 0)]) hx hb dX11_movesAll_19 hl (k := 0) rfl (by rw [e6]; rfl) (by decide) rfl (fun ls hl => ?_)
        have t6 : x6.toInt = w1_3.toInt + (1 : Int) := ga_add e6 rfl rfl (by omega) (by omega)
        refine lv_goto (tgt := 2) hx hb dX11_movesAll_22 (by decide) ?_
        exact ih1 x6 z5 y4 (show (16 - x6.toInt : Int) < (n1 : Int) from by omega) ⟨by omega, by omega⟩ (mv0_step (by decide) (by decide) (by omega) (by omega) (by omega) (by omega) v1_0 e3 p4_1.1 p4_1.2 hz5 trivial) _ _ hP hS _ (lv_sub hl [0, 1, 2, 3] rfl)
  exact loop1 17 0 z y (show (16 - (0 : Int) : Int) < ((17 : Nat) : Int) from by omega) ⟨by decide, by decide⟩ (mv0_0 (by omega)) _ _ hP hS _ (lv_sub hl [0, 1, 2, 3] rfl)
set_option maxRecDepth 100000 in
set_option maxHeartbeats 8000000 in
theorem m_moves (l : Launch) (D : va_G) (ca : Nat → ClassId) (o : Nat) (z : Nat → Nat → Int32) (y : Nat → Nat → Int64)   : qM l yX11_moves cX11_moves 2 none 3 106 (qPre D vwCl (qT6 ca) o 41 (qG (GM ca o) z y) [.ref (o + 0), .int 0]) (va_Qv (fun u => (u.1 = kpF z 249)) (qB D vwCl (qT6 ca) o 41 (fun u : qZ => qG (GM ca o) u.1 u.2)) (qw_A o 41)) (qw_A o 41) := by
  refine Met.ofW (cc := cX11_moves) (maxL := 2) (ret := none) (by decide) rfl ?_
  intro p e s m args below meth c s₁ B hml hv
  obtain ⟨rfl, hP, hK⟩ := hv
  have hx := B.exec
  have hb := B.bytes
  have hr := B.returns
  have hts0 := atoms_spec (ws := Cond.code yX11_moves cX11_moves 2 none :: qtbl) B.pre
  have hts : ∀ w ∈ qtbl, w.before _ s = true := fun w h => hts0 w (List.mem_cons_of_mem _ h)
  have hown : s.vm.findClass RX11 = some m.cls := findClass_of_methodNamed B.named
  have hlocks := B.notSynchronized
  have hS : va_S (qw_A o 41) s.heap s.heap [] := va_S.rf
  have hl := lv_entry ([.ref (o + 0), .int 0]) (n := 2) (Nat.le_of_ble_eq_true rfl)
  rw [lg_entry_eq]
  generalize (lg_sl ([.ref (o + 0), .int 0]) ++ List.replicate (2 - (lg_sl ([.ref (o + 0), .int 0])).length) Slot.unset).toArray = ls at hl ⊢
  have hl : lv_has ls 2 [(0, .ref (o + 0)), (1, .int 0)] := hl
  refine lv_aload_n hx hb dX11_moves_0 rfl (lv_at hl 0 rfl) ?_
  refine lv_iconst (v := 0) hx hb dX11_moves_1 (by decide) ?_
  refine qf_put2 hx hb hts inX11 tyX11 tyX11_ok nmX11 hown hK hP hS qw_Ai (q0 := 0) (by decide) (hgM_0 ca o) rfl 62 (by decide) wq_1054 rfl (x := 0) 62 rfl rfl rfl (Nat.le_of_ble_eq_true rfl) dX11_moves_2 (fun z1 H locs hz1 hP hS => ?_)
  have kf1 : z1 = kpF z 0 := kpF_0 hz1
  have kn1 : (z1 0 62).toInt = 0 := kpF_at (by decide) kf1
  refine lv_aload_n hx hb dX11_moves_5 rfl (lv_at hl 0 rfl) ?_
  refine lv_aload_n hx hb dX11_moves_6 rfl (lv_at hl 0 rfl) ?_
  refine lv_aload_n hx hb dX11_moves_7 rfl (lv_at hl 0 rfl) ?_
  refine qf_get hx hb hts inX11 hown hK hP (q0 := 0) (by decide) (hgM_0 ca o) rfl 4 (by decide) wq_997 (v := .int (z1 0 4)) rfl dX11_moves_8 ?_
  refine lv_topi (fun x2 e2 => ?_)
  refine lv_iload_n hx hb dX11_moves_11 rfl (lv_at hl 1 rfl) ?_
  refine qc_Vi2 (As := [.int x2, .int 0]) (rest := [.ref (o + 0)]) (k0 := 2) (m_moved l D ca o z1 y x2 (by have ql1 : Int32.toInt 0 = 0 := (by decide); omega)) kc_yX11_moved ⟨hx, hb, hml, hown, hts⟩ wq_1599 rfl rfl ⟨Nat.le_of_ble_eq_true rfl, Nat.le_of_ble_eq_true rfl⟩ wq_all hP hK hS qw_Ai (q0 := 0) (by decide) (hgM_0 ca o _ _) rfl rfl hl.1 rfl (Nat.le_of_ble_eq_true rfl) dX11_moves_12 ⟨Nat.zero_le _, Nat.zero_le _⟩ (fun r3 z3 y3 H locs h3 hP hS _ _ => ?_)
  have p3_1 : r3 = x2 ∧ z3 = qu (qu z1 0 62 (z1 0 62 + 1)) 40 (z1 0 62).toNatClampNeg x2 := h3.2
  refine qf_put2 hx hb hts inX11 tyX11 tyX11_ok nmX11 hown hK hP hS qw_Ai (q0 := 0) (by decide) (hgM_0 ca o) rfl 4 (by decide) wq_997 rfl (x := r3) 4 rfl rfl rfl (Nat.le_of_ble_eq_true rfl) dX11_moves_15 (fun z4 H locs hz4 hP hS => ?_)
  have kf4 : z4 = kpF z 1 := kpF_m (by decide) kf1 e2 p3_1.1 p3_1.2 hz4
  have kn4 : (z4 0 62).toInt = 1 := kpF_at (by decide) kf4
  refine lv_aload_n hx hb dX11_moves_18 rfl (lv_at hl 0 rfl) ?_
  refine lv_aload_n hx hb dX11_moves_19 rfl (lv_at hl 0 rfl) ?_
  refine lv_aload_n hx hb dX11_moves_20 rfl (lv_at hl 0 rfl) ?_
  refine qf_get hx hb hts inX11 hown hK hP (q0 := 0) (by decide) (hgM_0 ca o) rfl 5 (by decide) wq_998 (v := .int (z4 0 5)) rfl dX11_moves_21 ?_
  refine lv_topi (fun x5 e5 => ?_)
  refine lv_iload_n hx hb dX11_moves_24 rfl (lv_at hl 1 rfl) ?_
  refine qc_Vi2 (As := [.int x5, .int 0]) (rest := [.ref (o + 0)]) (k0 := 2) (m_moved l D ca o z4 y3 x5 (by have ql1 : Int32.toInt 0 = 0 := (by decide); omega)) kc_yX11_moved ⟨hx, hb, hml, hown, hts⟩ wq_1599 rfl rfl ⟨Nat.le_of_ble_eq_true rfl, Nat.le_of_ble_eq_true rfl⟩ wq_all hP hK hS qw_Ai (q0 := 0) (by decide) (hgM_0 ca o _ _) rfl rfl hl.1 rfl (Nat.le_of_ble_eq_true rfl) dX11_moves_25 ⟨Nat.zero_le _, Nat.zero_le _⟩ (fun r6 z6 y6 H locs h6 hP hS _ _ => ?_)
  have p6_1 : r6 = x5 ∧ z6 = qu (qu z4 0 62 (z4 0 62 + 1)) 40 (z4 0 62).toNatClampNeg x5 := h6.2
  refine qf_put2 hx hb hts inX11 tyX11 tyX11_ok nmX11 hown hK hP hS qw_Ai (q0 := 0) (by decide) (hgM_0 ca o) rfl 5 (by decide) wq_998 rfl (x := r6) 5 rfl rfl rfl (Nat.le_of_ble_eq_true rfl) dX11_moves_28 (fun z7 H locs hz7 hP hS => ?_)
  have kf7 : z7 = kpF z 2 := kpF_m (by decide) kf4 e5 p6_1.1 p6_1.2 hz7
  have kn7 : (z7 0 62).toInt = 2 := kpF_at (by decide) kf7
  refine lv_aload_n hx hb dX11_moves_31 rfl (lv_at hl 0 rfl) ?_
  refine lv_aload_n hx hb dX11_moves_32 rfl (lv_at hl 0 rfl) ?_
  refine lv_aload_n hx hb dX11_moves_33 rfl (lv_at hl 0 rfl) ?_
  refine qf_get hx hb hts inX11 hown hK hP (q0 := 0) (by decide) (hgM_0 ca o) rfl 6 (by decide) wq_999 (v := .int (z7 0 6)) rfl dX11_moves_34 ?_
  refine lv_topi (fun x8 e8 => ?_)
  refine lv_iload_n hx hb dX11_moves_37 rfl (lv_at hl 1 rfl) ?_
  refine qc_Vi2 (As := [.int x8, .int 0]) (rest := [.ref (o + 0)]) (k0 := 2) (m_moved l D ca o z7 y6 x8 (by have ql1 : Int32.toInt 0 = 0 := (by decide); omega)) kc_yX11_moved ⟨hx, hb, hml, hown, hts⟩ wq_1599 rfl rfl ⟨Nat.le_of_ble_eq_true rfl, Nat.le_of_ble_eq_true rfl⟩ wq_all hP hK hS qw_Ai (q0 := 0) (by decide) (hgM_0 ca o _ _) rfl rfl hl.1 rfl (Nat.le_of_ble_eq_true rfl) dX11_moves_38 ⟨Nat.zero_le _, Nat.zero_le _⟩ (fun r9 z9 y9 H locs h9 hP hS _ _ => ?_)
  have p9_1 : r9 = x8 ∧ z9 = qu (qu z7 0 62 (z7 0 62 + 1)) 40 (z7 0 62).toNatClampNeg x8 := h9.2
  refine qf_put2 hx hb hts inX11 tyX11 tyX11_ok nmX11 hown hK hP hS qw_Ai (q0 := 0) (by decide) (hgM_0 ca o) rfl 6 (by decide) wq_999 rfl (x := r9) 6 rfl rfl rfl (Nat.le_of_ble_eq_true rfl) dX11_moves_41 (fun z10 H locs hz10 hP hS => ?_)
  have kf10 : z10 = kpF z 3 := kpF_m (by decide) kf7 e8 p9_1.1 p9_1.2 hz10
  have kn10 : (z10 0 62).toInt = 3 := kpF_at (by decide) kf10
  refine lv_aload_n hx hb dX11_moves_44 rfl (lv_at hl 0 rfl) ?_
  refine lv_aload_n hx hb dX11_moves_45 rfl (lv_at hl 0 rfl) ?_
  refine qf_get hx hb hts inX11 hown hK hP (q0 := 0) (by decide) (hgM_0 ca o) rfl 0 (by decide) wq_993 (v := .ref (o + 1)) rfl dX11_moves_46 ?_
  refine lv_iload_n hx hb dX11_moves_49 rfl (lv_at hl 1 rfl) ?_
  refine qc_Vv2 (As := [.ref (o + 1), .int 0]) (rest := []) (k0 := 2) (m_movesAll l D ca o z10 y9 (by have ql1 : Int32.toInt 0 = 0 := (by decide); omega)) kc_yX11_movesAll ⟨hx, hb, hml, hown, hts⟩ wq_1603 rfl rfl ⟨Nat.le_of_ble_eq_true rfl, Nat.le_of_ble_eq_true rfl⟩ wq_all hP hK hS qw_Ai (q0 := 0) (by decide) (hgM_0 ca o _ _) rfl rfl hl.1 rfl (Nat.le_of_ble_eq_true rfl) dX11_moves_50 ⟨Nat.zero_le _, Nat.zero_le _⟩ (fun z11 y11 H locs h11 hP hS _ _ => ?_)
  have p11_0 : z11 = mv0 z10 1 (z10 0 62).toNatClampNeg 6 := h11
  have kf11 : z11 = kpF z 9 := kpF_a1 kf10 p11_0
  have kn11 : (z11 0 62).toInt = 9 := kpF_at (by decide) kf11
  refine lv_aload_n hx hb dX11_moves_53 rfl (lv_at hl 0 rfl) ?_
  refine lv_aload_n hx hb dX11_moves_54 rfl (lv_at hl 0 rfl) ?_
  refine qf_get hx hb hts inX11 hown hK hP (q0 := 0) (by decide) (hgM_0 ca o) rfl 1 (by decide) wq_994 (v := .ref (o + 2)) rfl dX11_moves_55 ?_
  refine lv_iload_n hx hb dX11_moves_58 rfl (lv_at hl 1 rfl) ?_
  refine qc_Vv2 (As := [.ref (o + 2), .int 0]) (rest := []) (k0 := 2) (m_movesAll_v1 l D ca o z11 y11 (by have ql1 : Int32.toInt 0 = 0 := (by decide); omega)) kc_yX11_movesAll ⟨hx, hb, hml, hown, hts⟩ wq_1603 rfl rfl ⟨Nat.le_of_ble_eq_true rfl, Nat.le_of_ble_eq_true rfl⟩ wq_all hP hK hS qw_Ai (q0 := 0) (by decide) (hgM_0 ca o _ _) rfl rfl hl.1 rfl (Nat.le_of_ble_eq_true rfl) dX11_moves_59 ⟨Nat.zero_le _, Nat.zero_le _⟩ (fun z12 y12 H locs h12 hP hS _ _ => ?_)
  have p12_0 : z12 = mv0 z11 2 (z11 0 62).toNatClampNeg 6 := h12
  have kf12 : z12 = kpF z 15 := kpF_a2 kf11 p12_0
  have kn12 : (z12 0 62).toInt = 15 := kpF_at (by decide) kf12
  refine lv_aload_n hx hb dX11_moves_62 rfl (lv_at hl 0 rfl) ?_
  refine lv_aload_n hx hb dX11_moves_63 rfl (lv_at hl 0 rfl) ?_
  refine qf_get hx hb hts inX11 hown hK hP (q0 := 0) (by decide) (hgM_0 ca o) rfl 2 (by decide) wq_995 (v := .ref (o + 3)) rfl dX11_moves_64 ?_
  refine lv_iload_n hx hb dX11_moves_67 rfl (lv_at hl 1 rfl) ?_
  refine qc_Vv2 (As := [.ref (o + 3), .int 0]) (rest := []) (k0 := 2) (m_movesAll_v2 l D ca o z12 y12 (by have ql1 : Int32.toInt 0 = 0 := (by decide); omega)) kc_yX11_movesAll ⟨hx, hb, hml, hown, hts⟩ wq_1603 rfl rfl ⟨Nat.le_of_ble_eq_true rfl, Nat.le_of_ble_eq_true rfl⟩ wq_all hP hK hS qw_Ai (q0 := 0) (by decide) (hgM_0 ca o _ _) rfl rfl hl.1 rfl (Nat.le_of_ble_eq_true rfl) dX11_moves_68 ⟨Nat.zero_le _, Nat.zero_le _⟩ (fun z13 y13 H locs h13 hP hS _ _ => ?_)
  have p13_0 : z13 = mv0 z12 3 (z12 0 62).toNatClampNeg 6 := h13
  have kf13 : z13 = kpF z 21 := kpF_a3 kf12 p13_0
  have kn13 : (z13 0 62).toInt = 21 := kpF_at (by decide) kf13
  refine lv_aload_n hx hb dX11_moves_71 rfl (lv_at hl 0 rfl) ?_
  refine lv_aload_n hx hb dX11_moves_72 rfl (lv_at hl 0 rfl) ?_
  refine qf_get hx hb hts inX11 hown hK hP (q0 := 0) (by decide) (hgM_0 ca o) rfl 3 (by decide) wq_996 (v := .ref (o + 4)) rfl dX11_moves_73 ?_
  refine lv_iload_n hx hb dX11_moves_76 rfl (lv_at hl 1 rfl) ?_
  refine qc_Vv2 (As := [.ref (o + 4), .int 0]) (rest := []) (k0 := 2) (m_movesAll_v3 l D ca o z13 y13 (by have ql1 : Int32.toInt 0 = 0 := (by decide); omega)) kc_yX11_movesAll ⟨hx, hb, hml, hown, hts⟩ wq_1603 rfl rfl ⟨Nat.le_of_ble_eq_true rfl, Nat.le_of_ble_eq_true rfl⟩ wq_all hP hK hS qw_Ai (q0 := 0) (by decide) (hgM_0 ca o _ _) rfl rfl hl.1 rfl (Nat.le_of_ble_eq_true rfl) dX11_moves_77 ⟨Nat.zero_le _, Nat.zero_le _⟩ (fun z14 y14 H locs h14 hP hS _ _ => ?_)
  have p14_0 : z14 = mv0 z13 4 (z13 0 62).toNatClampNeg 36 := h14
  have kf14 : z14 = kpF z 57 := kpF_a4 kf13 p14_0
  have kn14 : (z14 0 62).toInt = 57 := kpF_at (by decide) kf14
  refine lv_aload_n hx hb dX11_moves_80 rfl (lv_at hl 0 rfl) ?_
  refine lv_aload_n hx hb dX11_moves_81 rfl (lv_at hl 0 rfl) ?_
  refine qf_get hx hb hts inX11 hown hK hP (q0 := 0) (by decide) (hgM_0 ca o) rfl 7 (by decide) wq_1000 (v := .ref (o + 5)) rfl dX11_moves_82 ?_
  refine lv_iload_n hx hb dX11_moves_85 rfl (lv_at hl 1 rfl) ?_
  refine qc_Vv2 (As := [.ref (o + 5), .int 0]) (rest := []) (k0 := 2) (m_movesAll_v4 l D ca o z14 y14 (by have ql1 : Int32.toInt 0 = 0 := (by decide); omega)) kc_yX11_movesAll ⟨hx, hb, hml, hown, hts⟩ wq_1603 rfl rfl ⟨Nat.le_of_ble_eq_true rfl, Nat.le_of_ble_eq_true rfl⟩ wq_all hP hK hS qw_Ai (q0 := 0) (by decide) (hgM_0 ca o _ _) rfl rfl hl.1 rfl (Nat.le_of_ble_eq_true rfl) dX11_moves_86 ⟨Nat.zero_le _, Nat.zero_le _⟩ (fun z15 y15 H locs h15 hP hS _ _ => ?_)
  have p15_0 : z15 = mv0 z14 5 (z14 0 62).toNatClampNeg 96 := h15
  have kf15 : z15 = kpF z 153 := kpF_a5 kf14 p15_0
  have kn15 : (z15 0 62).toInt = 153 := kpF_at (by decide) kf15
  refine lv_aload_n hx hb dX11_moves_89 rfl (lv_at hl 0 rfl) ?_
  refine lv_aload_n hx hb dX11_moves_90 rfl (lv_at hl 0 rfl) ?_
  refine qf_get hx hb hts inX11 hown hK hP (q0 := 0) (by decide) (hgM_0 ca o) rfl 8 (by decide) wq_1001 (v := .ref (o + 6)) rfl dX11_moves_91 ?_
  refine lv_iload_n hx hb dX11_moves_94 rfl (lv_at hl 1 rfl) ?_
  refine qc_Vv2 (As := [.ref (o + 6), .int 0]) (rest := []) (k0 := 2) (m_movesAll_v5 l D ca o z15 y15 (by have ql1 : Int32.toInt 0 = 0 := (by decide); omega)) kc_yX11_movesAll ⟨hx, hb, hml, hown, hts⟩ wq_1603 rfl rfl ⟨Nat.le_of_ble_eq_true rfl, Nat.le_of_ble_eq_true rfl⟩ wq_all hP hK hS qw_Ai (q0 := 0) (by decide) (hgM_0 ca o _ _) rfl rfl hl.1 rfl (Nat.le_of_ble_eq_true rfl) dX11_moves_95 ⟨Nat.zero_le _, Nat.zero_le _⟩ (fun z16 y16 H locs h16 hP hS _ _ => ?_)
  have p16_0 : z16 = mv0 z15 6 (z15 0 62).toNatClampNeg 16 := h16
  have kf16 : z16 = kpF z 169 := kpF_a6 kf15 p16_0
  have kn16 : (z16 0 62).toInt = 169 := kpF_at (by decide) kf16
  refine lv_aload_n hx hb dX11_moves_98 rfl (lv_at hl 0 rfl) ?_
  refine lv_aload_n hx hb dX11_moves_99 rfl (lv_at hl 0 rfl) ?_
  refine qf_get hx hb hts inX11 hown hK hP (q0 := 0) (by decide) (hgM_0 ca o) rfl 9 (by decide) wq_1002 (v := .ref (o + 7)) rfl dX11_moves_100 ?_
  refine lv_iload_n hx hb dX11_moves_103 rfl (lv_at hl 1 rfl) ?_
  refine qc_Vv2 (As := [.ref (o + 7), .int 0]) (rest := []) (k0 := 2) (m_movesAll_v6 l D ca o z16 y16 (by have ql1 : Int32.toInt 0 = 0 := (by decide); omega)) kc_yX11_movesAll ⟨hx, hb, hml, hown, hts⟩ wq_1603 rfl rfl ⟨Nat.le_of_ble_eq_true rfl, Nat.le_of_ble_eq_true rfl⟩ wq_all hP hK hS qw_Ai (q0 := 0) (by decide) (hgM_0 ca o _ _) rfl rfl hl.1 rfl (Nat.le_of_ble_eq_true rfl) dX11_moves_104 ⟨Nat.zero_le _, Nat.zero_le _⟩ (fun z17 y17 H locs h17 hP hS _ _ => ?_)
  have p17_0 : z17 = mv0 z16 7 (z16 0 62).toNatClampNeg 16 := h17
  have kf17 : z17 = kpF z 185 := kpF_a7 kf16 p17_0
  have kn17 : (z17 0 62).toInt = 185 := kpF_at (by decide) kf17
  refine lv_aload_n hx hb dX11_moves_107 rfl (lv_at hl 0 rfl) ?_
  refine lv_aload_n hx hb dX11_moves_108 rfl (lv_at hl 0 rfl) ?_
  refine qf_get hx hb hts inX11 hown hK hP (q0 := 0) (by decide) (hgM_0 ca o) rfl 10 (by decide) wq_1003 (v := .ref (o + 8)) rfl dX11_moves_109 ?_
  refine lv_iload_n hx hb dX11_moves_112 rfl (lv_at hl 1 rfl) ?_
  refine qc_Vv2 (As := [.ref (o + 8), .int 0]) (rest := []) (k0 := 2) (m_movesAll_v7 l D ca o z17 y17 (by have ql1 : Int32.toInt 0 = 0 := (by decide); omega)) kc_yX11_movesAll ⟨hx, hb, hml, hown, hts⟩ wq_1603 rfl rfl ⟨Nat.le_of_ble_eq_true rfl, Nat.le_of_ble_eq_true rfl⟩ wq_all hP hK hS qw_Ai (q0 := 0) (by decide) (hgM_0 ca o _ _) rfl rfl hl.1 rfl (Nat.le_of_ble_eq_true rfl) dX11_moves_113 ⟨Nat.zero_le _, Nat.zero_le _⟩ (fun z18 y18 H locs h18 hP hS _ _ => ?_)
  have p18_0 : z18 = mv0 z17 8 (z17 0 62).toNatClampNeg 16 := h18
  have kf18 : z18 = kpF z 201 := kpF_a8 kf17 p18_0
  have kn18 : (z18 0 62).toInt = 201 := kpF_at (by decide) kf18
  refine lv_aload_n hx hb dX11_moves_116 rfl (lv_at hl 0 rfl) ?_
  refine lv_aload_n hx hb dX11_moves_117 rfl (lv_at hl 0 rfl) ?_
  refine qf_get hx hb hts inX11 hown hK hP (q0 := 0) (by decide) (hgM_0 ca o) rfl 11 (by decide) wq_1004 (v := .ref (o + 9)) rfl dX11_moves_118 ?_
  refine lv_iload_n hx hb dX11_moves_121 rfl (lv_at hl 1 rfl) ?_
  refine qc_Vv2 (As := [.ref (o + 9), .int 0]) (rest := []) (k0 := 2) (m_movesAll_v8 l D ca o z18 y18 (by have ql1 : Int32.toInt 0 = 0 := (by decide); omega)) kc_yX11_movesAll ⟨hx, hb, hml, hown, hts⟩ wq_1603 rfl rfl ⟨Nat.le_of_ble_eq_true rfl, Nat.le_of_ble_eq_true rfl⟩ wq_all hP hK hS qw_Ai (q0 := 0) (by decide) (hgM_0 ca o _ _) rfl rfl hl.1 rfl (Nat.le_of_ble_eq_true rfl) dX11_moves_122 ⟨Nat.zero_le _, Nat.zero_le _⟩ (fun z19 y19 H locs h19 hP hS _ _ => ?_)
  have p19_0 : z19 = mv0 z18 9 (z18 0 62).toNatClampNeg 16 := h19
  have kf19 : z19 = kpF z 217 := kpF_a9 kf18 p19_0
  have kn19 : (z19 0 62).toInt = 217 := kpF_at (by decide) kf19
  refine lv_aload_n hx hb dX11_moves_125 rfl (lv_at hl 0 rfl) ?_
  refine lv_aload_n hx hb dX11_moves_126 rfl (lv_at hl 0 rfl) ?_
  refine qf_get hx hb hts inX11 hown hK hP (q0 := 0) (by decide) (hgM_0 ca o) rfl 12 (by decide) wq_1005 (v := .ref (o + 10)) rfl dX11_moves_127 ?_
  refine lv_iload_n hx hb dX11_moves_130 rfl (lv_at hl 1 rfl) ?_
  refine qc_Vv2 (As := [.ref (o + 10), .int 0]) (rest := []) (k0 := 2) (m_movesAll_v9 l D ca o z19 y19 (by have ql1 : Int32.toInt 0 = 0 := (by decide); omega)) kc_yX11_movesAll ⟨hx, hb, hml, hown, hts⟩ wq_1603 rfl rfl ⟨Nat.le_of_ble_eq_true rfl, Nat.le_of_ble_eq_true rfl⟩ wq_all hP hK hS qw_Ai (q0 := 0) (by decide) (hgM_0 ca o _ _) rfl rfl hl.1 rfl (Nat.le_of_ble_eq_true rfl) dX11_moves_131 ⟨Nat.zero_le _, Nat.zero_le _⟩ (fun z20 y20 H locs h20 hP hS _ _ => ?_)
  have p20_0 : z20 = mv0 z19 10 (z19 0 62).toNatClampNeg 16 := h20
  have kf20 : z20 = kpF z 233 := kpF_a10 kf19 p20_0
  have kn20 : (z20 0 62).toInt = 233 := kpF_at (by decide) kf20
  refine lv_aload_n hx hb dX11_moves_134 rfl (lv_at hl 0 rfl) ?_
  refine lv_aload_n hx hb dX11_moves_135 rfl (lv_at hl 0 rfl) ?_
  refine qf_get hx hb hts inX11 hown hK hP (q0 := 0) (by decide) (hgM_0 ca o) rfl 13 (by decide) wq_1006 (v := .ref (o + 11)) rfl dX11_moves_136 ?_
  refine lv_iload_n hx hb dX11_moves_139 rfl (lv_at hl 1 rfl) ?_
  refine qc_Vv2 (As := [.ref (o + 11), .int 0]) (rest := []) (k0 := 2) (m_movesAll_v10 l D ca o z20 y20 (by have ql1 : Int32.toInt 0 = 0 := (by decide); omega)) kc_yX11_movesAll ⟨hx, hb, hml, hown, hts⟩ wq_1603 rfl rfl ⟨Nat.le_of_ble_eq_true rfl, Nat.le_of_ble_eq_true rfl⟩ wq_all hP hK hS qw_Ai (q0 := 0) (by decide) (hgM_0 ca o _ _) rfl rfl hl.1 rfl (Nat.le_of_ble_eq_true rfl) dX11_moves_140 ⟨Nat.zero_le _, Nat.zero_le _⟩ (fun z21 y21 H locs h21 hP hS _ _ => ?_)
  have p21_0 : z21 = mv0 z20 11 (z20 0 62).toNatClampNeg 16 := h21
  have kf21 : z21 = kpF z 249 := kpF_a11 kf20 p21_0
  have kn21 : (z21 0 62).toInt = 249 := kpF_at (by decide) kf21
  exact W.vret hx hb hr (fun t ht hW => ⟨⟨(z21, y21), rfl, kf21, by rw [ht]; exact hP, va_K.moved hW.alike hK⟩, hS.F ht⟩) hS.2.2 dX11_moves_143
