set_option maxRecDepth 100000 in
set_option maxHeartbeats 8000000 in
theorem m_middle (l : Launch) (D : va_G) (ca : Nat → ClassId) (o : Nat) (b z : Nat → Nat → Int32) (y : Nat → Nat → Int64) (J0 : qJM b z) (a0 : Int32) (a1 : Int32)  : qM l yX11_middle cX11_middle 6 (some .int) 5 147 (qPre D vwCl (qT6 ca) o 41 (qG (GM ca o) z y) [.ref (o + 0), .int a0, .int a1]) (va_Qi (fun r u => ((-3 : Int) ≤ r.toInt ∧ r.toInt ≤ 99) ∧ qJM b u.1) (qB D vwCl (qT6 ca) o 41 (fun u : qZ => qG (GM ca o) u.1 u.2)) (qw_A o 41)) (qw_A o 41) := by
  refine Met.ofW (cc := cX11_middle) (maxL := 6) (ret := (some .int)) (by decide) rfl ?_
  intro p e s m args below meth c s₁ B hml hv
  obtain ⟨rfl, hP, hK⟩ := hv
  have hx := B.exec
  have hb := B.bytes
  have hr := B.returns
  have hts0 := atoms_spec (ws := Cond.code yX11_middle cX11_middle 6 (some .int) :: qtbl) B.pre
  have hts : ∀ w ∈ qtbl, w.before _ s = true := fun w h => hts0 w (List.mem_cons_of_mem _ h)
  have hown : s.vm.findClass RX11 = some m.cls := findClass_of_methodNamed B.named
  have hlocks := B.notSynchronized
  have hS : va_S (qw_A o 41) s.heap s.heap [] := va_S.rf
  have hl := lv_entry ([.ref (o + 0), .int a0, .int a1]) (n := 6) (Nat.le_of_ble_eq_true rfl)
  rw [lg_entry_eq]
  generalize (lg_sl ([.ref (o + 0), .int a0, .int a1]) ++ List.replicate (6 - (lg_sl ([.ref (o + 0), .int a0, .int a1])).length) Slot.unset).toArray = ls at hl ⊢
  have hl : lv_has ls 6 [(0, .ref (o + 0)), (1, .int a0), (2, .int a1)] := hl
  refine lv_aload_n hx hb dX11_middle_0 rfl (lv_at hl 0 rfl) ?_
  refine lv_iload_n hx hb dX11_middle_1 rfl (lv_at hl 1 rfl) ?_
  refine qc_Vip (As := [.int a0]) (rest := []) (k0 := 1) (m_areRemarks l D ca o b z y J0 a0) kc_yX11_areRemarks ⟨hx, hb, hml, hown, hts⟩ wq_1324 rfl rfl ⟨Nat.le_of_ble_eq_true rfl, Nat.le_of_ble_eq_true rfl⟩ wq_all hP hK hS qw_Ai (q0 := 0) (by decide) (hgM_0 ca o _ _) rfl rfl hl.1 rfl (Nat.le_of_ble_eq_true rfl) dX11_middle_2 ⟨Nat.zero_le _, Nat.zero_le _⟩ (fun r1 H locs h1 hP hS _ _ => ?_)
  have b1 : (0 : Int) ≤ r1.toInt ∧ r1.toInt ≤ 1 := h1
  refine lv_if_eq (tgt := 16) hx hb dX11_middle_5 (by decide) (fun c2 => ?_) (fun c2 => ?_)
  · have t2 : r1.toInt = (0 : Int) := gl_eq c2
    refine lv_iconst (v := (-1)) hx hb dX11_middle_16 (by decide) ?_
    exact W.iret (v := (-1)) hx hb hr (fun t ht hW => ⟨⟨(-1), (z, y), rfl, ⟨⟨by decide, by decide⟩, J0⟩, by rw [ht]; exact hP, va_K.moved hW.alike hK⟩, hS.F ht⟩) hS.2.2 dX11_middle_17
  · have t2 : r1.toInt ≠ (0 : Int) := gl_ne c2
    refine lv_aload_n hx hb dX11_middle_8 rfl (lv_at hl 0 rfl) ?_
    refine lv_iload_n hx hb dX11_middle_9 rfl (lv_at hl 2 rfl) ?_
    refine qc_Vip (As := [.int a1]) (rest := []) (k0 := 1) (m_isPerson l D ca o b z y J0 a1) kc_yX11_isPerson ⟨hx, hb, hml, hown, hts⟩ wq_1194 rfl rfl ⟨Nat.le_of_ble_eq_true rfl, Nat.le_of_ble_eq_true rfl⟩ wq_all hP hK hS qw_Ai (q0 := 0) (by decide) (hgM_0 ca o _ _) rfl rfl hl.1 rfl (Nat.le_of_ble_eq_true rfl) dX11_middle_10 ⟨Nat.zero_le _, Nat.zero_le _⟩ (fun r3 H locs h3 hP hS _ _ => ?_)
    rcases h3 with ⟨hr3, hf3_0, hf3_1⟩ | ⟨hr3, hf3_0⟩
    · subst hr3
      have hg3_0 : pHas (z 0 4) a1 := hf3_0
      have hg3_1 : 0 ≤ a1.toInt ∧ a1.toInt ≤ 5 := hf3_1
      refine lv_if_ne (tgt := 18) hx hb dX11_middle_13 (by decide) (fun _ => ?_) (fun q => absurd q (by decide))
      refine lv_aload_n hx hb dX11_middle_18 rfl (lv_at hl 0 rfl) ?_
      refine qc_Vip (As := []) (rest := []) (k0 := 0) (m_rowMany l D ca o b z y J0) kc_yX11_rowMany ⟨hx, hb, hml, hown, hts⟩ wq_1315 rfl rfl ⟨Nat.le_of_ble_eq_true rfl, Nat.le_of_ble_eq_true rfl⟩ wq_all hP hK hS qw_Ai (q0 := 0) (by decide) (hgM_0 ca o _ _) rfl rfl hl.1 rfl (Nat.le_of_ble_eq_true rfl) dX11_middle_19 ⟨Nat.zero_le _, Nat.zero_le _⟩ (fun r4 H locs h4 hP hS _ _ => ?_)
      have p4_1 : rmI z 6 r4 := h4.2
      refine lv_ldcw (v := 200000) hx hb hown (hts _ wq_1319) dX11_middle_22 ?_
      refine lv_icmp_le (tgt := 31) hx hb dX11_middle_25 (by decide) (fun c5 => ?_) (fun c5 => ?_)
      · have t5 : r4.toInt ≤ (200000 : Int) := gl_le c5
        refine lv_aload_n hx hb dX11_middle_31 rfl (lv_at hl 0 rfl) ?_
        refine lv_iload_n hx hb dX11_middle_32 rfl (lv_at hl 1 rfl) ?_
        refine lv_iload_n hx hb dX11_middle_33 rfl (lv_at hl 2 rfl) ?_
        refine qc_Vv2 (As := [.int a0, .int a1]) (rest := []) (k0 := 2) (m_laysAges l D ca o b z y J0 a0 a1 ⟨by omega, by omega⟩ (rm_le p4_1 (by omega))) kc_yX11_laysAges ⟨hx, hb, hml, hown, hts⟩ wq_1368 rfl rfl ⟨Nat.le_of_ble_eq_true rfl, Nat.le_of_ble_eq_true rfl⟩ wq_all hP hK hS qw_Ai (q0 := 0) (by decide) (hgM_0 ca o _ _) rfl rfl hl.1 rfl (Nat.le_of_ble_eq_true rfl) dX11_middle_34 ⟨Nat.zero_le _, Nat.zero_le _⟩ (fun z6 y6 H locs h6 hP hS _ _ => ?_)
        have J6 : qJM b z6 := h6.1
        have p6_1 : arI z6 := h6.2
        refine lv_iconst (v := 0) hx hb dX11_middle_37 (by decide) ?_
        refine lv_istore_n (lv' := [(3, .int 0), (0, .ref (o + 0)), (1, .int a0), (2, .int a1)]) hx hb dX11_middle_38 rfl hl (by decide) rfl (fun ls hl => ?_)
        refine lv_iconst (v := 0) hx hb dX11_middle_39 (by decide) ?_
        refine lv_istore (lv' := [(4, .int 0), (3, .int 0), (0, .ref (o + 0)), (1, .int a0), (2, .int a1)]) hx hb dX11_middle_40 hl (by decide) rfl (fun ls hl => ?_)
        have loop7 : ∀ (n : Nat) (w7_4 : Int32) (w7_3 : Int32), ((100 - w7_4.toInt : Int) < (n : Int)) → ((0 : Int) ≤ w7_4.toInt ∧ w7_4.toInt ≤ 100) → (w7_3 = sA (z6 25) w7_4.toNatClampNeg) → ∀ (H : Heap) (locs : List Loc), qw_P D vwCl o 41 (qG (GM ca o) z6 y6) H → va_S (qw_A o 41) s.heap H locs → ∀ (ls : Array Slot), lv_has ls 6 [(4, .int w7_4), (3, .int w7_3), (0, .ref (o + 0)), (1, .int a0), (2, .int a1)] → W p l e (headSpec (Cond.code yX11_middle cX11_middle 6 (some .int) :: qtbl) ({ frames := 5, cells := 0, slots := 0, locals := 147 })).room s m (([.ref (o + 0), .int a0, .int a1] : List Value).toArray) below meth c H locs 0 0 (MQ below (va_Qi (fun r u => ((-3 : Int) ≤ r.toInt ∧ r.toInt ≤ 99) ∧ qJM b u.1) (qB D vwCl (qT6 ca) o 41 (fun u : qZ => qG (GM ca o) u.1 u.2)) (qw_A o 41)) (([.ref (o + 0), .int a0, .int a1] : List Value).toArray) s 0 0 (qw_A o 41)) (F0 m 42 ls []) := by
          intro n
          induction n with
          | zero => intro w7_4 w7_3 hb7 hv7_4 v7_0; exfalso; omega
          | succ n7 ih7 =>
            intro w7_4 w7_3 hb7 hv7_4 v7_0 H locs hP hS ls hl
            refine lv_iload hx hb dX11_middle_42 (lv_at hl 0 rfl) ?_
            refine lv_bipush (v := 100) hx hb dX11_middle_44 (by decide) ?_
            refine lv_icmp_ge (tgt := 65) hx hb dX11_middle_46 (by decide) (fun c8 => ?_) (fun c8 => ?_)
            · have t8 : w7_4.toInt ≥ (100 : Int) := gl_le c8
              have al8 : w7_3 = sA (z6 25) 100 := by have h := v7_0; rw [gr_eq (y := 100) (show w7_4.toInt = (100 : Int) from by omega)] at h; exact h
              refine lv_iload_n hx hb dX11_middle_65 rfl (lv_at hl 1 rfl) ?_
              refine lv_if_ne (tgt := 72) hx hb dX11_middle_66 (by decide) (fun c9 => ?_) (fun c9 => ?_)
              · have t9 : w7_3.toInt ≠ (0 : Int) := gl_ne c9
                refine lv_iconst (v := 0) hx hb dX11_middle_72 (by decide) ?_
                refine lv_istore (lv' := [(4, .int 0), (3, .int w7_3), (0, .ref (o + 0)), (1, .int a0), (2, .int a1)]) hx hb dX11_middle_73 hl (by decide) rfl (fun ls hl => ?_)
                refine lv_aload_n hx hb dX11_middle_75 rfl (lv_at hl 2 rfl) ?_
                refine qf_get hx hb hts inX11 hown hK hP (q0 := 0) (by decide) (hgM_0 ca o) rfl 38 (by decide) wq_1030 (v := .ref (o + 25)) rfl dX11_middle_76 ?_
                refine lv_iconst (v := 0) hx hb dX11_middle_79 (by decide) ?_
                refine qa_iald hx hb hK hP (q0 := 25) (by decide) 0 (N := 100) (hgM_25 ca o) rfl (gi_in (by decide) (by decide)) dX11_middle_80 ?_
                refine lv_topi (fun x10 e10 => ?_)
                refine lv_istore (lv' := [(5, .int x10), (4, .int 0), (3, .int w7_3), (0, .ref (o + 0)), (1, .int a0), (2, .int a1)]) hx hb dX11_middle_81 hl (by decide) rfl (fun ls hl => ?_)
                have loop11 : ∀ (n : Nat) (w11_5 : Int32) (w11_4 : Int32), ((99 - w11_4.toInt : Int) < (n : Int)) → ((0 : Int) ≤ w11_4.toInt ∧ w11_4.toInt ≤ 99) → (w11_5 = sA (z6 25) (w11_4.toNatClampNeg + 1)) → ∀ (H : Heap) (locs : List Loc), qw_P D vwCl o 41 (qG (GM ca o) z6 y6) H → va_S (qw_A o 41) s.heap H locs → ∀ (ls : Array Slot), lv_has ls 6 [(5, .int w11_5), (4, .int w11_4), (3, .int w7_3), (0, .ref (o + 0)), (1, .int a0), (2, .int a1)] → W p l e (headSpec (Cond.code yX11_middle cX11_middle 6 (some .int) :: qtbl) ({ frames := 5, cells := 0, slots := 0, locals := 147 })).room s m (([.ref (o + 0), .int a0, .int a1] : List Value).toArray) below meth c H locs 0 0 (MQ below (va_Qi (fun r u => ((-3 : Int) ≤ r.toInt ∧ r.toInt ≤ 99) ∧ qJM b u.1) (qB D vwCl (qT6 ca) o 41 (fun u : qZ => qG (GM ca o) u.1 u.2)) (qw_A o 41)) (([.ref (o + 0), .int a0, .int a1] : List Value).toArray) s 0 0 (qw_A o 41)) (F0 m 83 ls []) := by
                  intro n
                  induction n with
                  | zero => intro w11_5 w11_4 hb11 hv11_4 v11_0; exfalso; omega
                  | succ n11 ih11 =>
                    intro w11_5 w11_4 hb11 hv11_4 v11_0 H locs hP hS ls hl
                    refine lv_iconst (v := 2) hx hb dX11_middle_83 (by decide) ?_
                    refine lv_iload hx hb dX11_middle_84 (lv_at hl 0 rfl) ?_
                    refine lv_imul hx hb dX11_middle_86 ?_
                    refine lv_topi (fun x12 e12 => ?_)
                    have sb12 := sA_100 p6_1 (k := w11_4.toNatClampNeg + 1) (by have := gn_cast (x := w11_4) (by omega); omega)
                    rw [← v11_0] at sb12
                    have t12 : x12.toInt = 2 * w11_5.toInt := ga_mul e12 rfl rfl (by omega) (by omega)
                    refine lv_iload_n hx hb dX11_middle_87 rfl (lv_at hl 2 rfl) ?_
                    refine lv_icmp_ge (tgt := 112) hx hb dX11_middle_88 (by decide) (fun c13 => ?_) (fun c13 => ?_)
                    · have t13 : x12.toInt ≥ w7_3.toInt := gl_le c13
                      refine lv_iload hx hb dX11_middle_112 (lv_at hl 1 rfl) ?_
                      exact W.iret (v := w11_4) hx hb hr (fun t ht hW => ⟨⟨w11_4, (z6, y6), rfl, ⟨⟨by omega, by omega⟩, J6⟩, by rw [ht]; exact hP, va_K.moved hW.alike hK⟩, hS.F ht⟩) hS.2.2 dX11_middle_114
                    · have t13 : x12.toInt < w7_3.toInt := gl_nle c13
                      have hk13 : w11_4.toInt ≤ 98 := mid_lt p6_1 (by omega) (by omega) v11_0 al8 t12 (by omega)
                      refine lv_iload hx hb dX11_middle_91 (lv_at hl 1 rfl) ?_
                      refine lv_iconst (v := 1) hx hb dX11_middle_93 (by decide) ?_
                      refine lv_iadd hx hb dX11_middle_94 ?_
                      refine lv_topi (fun x14 e14 => ?_)
                      have t14 : x14.toInt = w11_4.toInt + (1 : Int) := ga_add e14 rfl rfl (by omega) (by omega)
                      refine lv_istore (lv' := [(4, .int x14), (5, .int w11_5), (3, .int w7_3), (0, .ref (o + 0)), (1, .int a0), (2, .int a1)]) hx hb dX11_middle_95 hl (by decide) rfl (fun ls hl => ?_)
                      refine lv_iload hx hb dX11_middle_97 (lv_at hl 1 rfl) ?_
                      refine lv_aload_n hx hb dX11_middle_99 rfl (lv_at hl 3 rfl) ?_
                      refine qf_get hx hb hts inX11 hown hK hP (q0 := 0) (by decide) (hgM_0 ca o) rfl 38 (by decide) wq_1030 (v := .ref (o + 25)) rfl dX11_middle_100 ?_
                      refine lv_iload hx hb dX11_middle_103 (lv_at hl 0 rfl) ?_
                      refine qa_iald hx hb hK hP (q0 := 25) (by decide) 0 (N := 100) (hgM_25 ca o) rfl (gi_in (by omega) (by omega)) dX11_middle_105 ?_
                      refine lv_topi (fun x15 e15 => ?_)
                      refine lv_iadd hx hb dX11_middle_106 ?_
                      refine lv_topi (fun x16 e16 => ?_)
                      refine lv_istore (lv' := [(5, .int x16), (4, .int x14), (3, .int w7_3), (0, .ref (o + 0)), (1, .int a0), (2, .int a1)]) hx hb dX11_middle_107 hl (by decide) rfl (fun ls hl => ?_)
                      refine lv_goto (tgt := 83) hx hb dX11_middle_109 (by decide) ?_
                      exact ih11 x16 x14 (show (99 - x14.toInt : Int) < (n11 : Int) from by omega) ⟨by omega, by omega⟩ (sA_s1 (by omega) (by omega) v11_0 e15 e16) _ _ hP hS _ (lv_sub hl [0, 1, 2, 3, 4, 5] rfl)
                exact loop11 100 x10 0 (show (99 - (0 : Int) : Int) < ((100 : Nat) : Int) from by omega) ⟨by decide, by decide⟩ (sA_1 e10) _ _ hP hS _ (lv_sub hl [0, 1, 2, 3, 4, 5] rfl)
              · have t9 : w7_3.toInt = (0 : Int) := gl_eq c9
                refine lv_bipush (v := (-2)) hx hb dX11_middle_69 (by decide) ?_
                exact W.iret (v := (-2)) hx hb hr (fun t ht hW => ⟨⟨(-2), (z6, y6), rfl, ⟨⟨by decide, by decide⟩, J6⟩, by rw [ht]; exact hP, va_K.moved hW.alike hK⟩, hS.F ht⟩) hS.2.2 dX11_middle_71
            · have t8 : w7_4.toInt < (100 : Int) := gl_nle c8
              refine lv_iload_n hx hb dX11_middle_49 rfl (lv_at hl 1 rfl) ?_
              refine lv_aload_n hx hb dX11_middle_50 rfl (lv_at hl 2 rfl) ?_
              refine qf_get hx hb hts inX11 hown hK hP (q0 := 0) (by decide) (hgM_0 ca o) rfl 38 (by decide) wq_1030 (v := .ref (o + 25)) rfl dX11_middle_51 ?_
              refine lv_iload hx hb dX11_middle_54 (lv_at hl 0 rfl) ?_
              refine qa_iald hx hb hK hP (q0 := 25) (by decide) 0 (N := 100) (hgM_25 ca o) rfl (gi_in (by omega) (by omega)) dX11_middle_56 ?_
              refine lv_topi (fun x17 e17 => ?_)
              refine lv_iadd hx hb dX11_middle_57 ?_
              refine lv_topi (fun x18 e18 => ?_)
              refine lv_istore_n (lv' := [(3, .int x18), (4, .int w7_4), (0, .ref (o + 0)), (1, .int a0), (2, .int a1)]) hx hb dX11_middle_58 rfl hl (by decide) rfl (fun ls hl => ?_)
              obtain ⟨x19, e19⟩ : ∃ t : Int32, t = w7_4 + 1 := ⟨_, rfl⟩
              refine lv_iinc (v := x19) (lv' := [(4, .int x19), (3, .int x18), (0, .ref (o + 0)), (1, .int a0), (2, .int a1)]) hx hb dX11_middle_59 hl (k := 1) rfl (by rw [e19]; rfl) (by decide) rfl (fun ls hl => ?_)
              have t19 : x19.toInt = w7_4.toInt + (1 : Int) := ga_add e19 rfl rfl (by omega) (by omega)
              refine lv_goto (tgt := 42) hx hb dX11_middle_62 (by decide) ?_
              exact ih7 x19 x18 (show (100 - x19.toInt : Int) < (n7 : Int) from by omega) ⟨by omega, by omega⟩ (sA_s (by omega) (by omega) v7_0 e17 e18) _ _ hP hS _ (lv_sub hl [0, 1, 2, 3, 4] rfl)
        exact loop7 101 0 0 (show (100 - (0 : Int) : Int) < ((101 : Nat) : Int) from by omega) ⟨by decide, by decide⟩ (rfl) _ _ hP hS _ (lv_sub hl [0, 1, 2, 3, 4] rfl)
      · have t5 : r4.toInt > (200000 : Int) := gl_nle c5
        refine lv_bipush (v := (-3)) hx hb dX11_middle_28 (by decide) ?_
        exact W.iret (v := (-3)) hx hb hr (fun t ht hW => ⟨⟨(-3), (z, y), rfl, ⟨⟨by decide, by decide⟩, J0⟩, by rw [ht]; exact hP, va_K.moved hW.alike hK⟩, hS.F ht⟩) hS.2.2 dX11_middle_30
    · subst hr3
      have hg3_0 : ¬ pHas (z 0 4) a1 := hf3_0
      refine lv_if_ne (tgt := 18) hx hb dX11_middle_13 (by decide) (fun q => absurd q (by decide)) (fun _ => ?_)
      refine lv_iconst (v := (-1)) hx hb dX11_middle_16 (by decide) ?_
      exact W.iret (v := (-1)) hx hb hr (fun t ht hW => ⟨⟨(-1), (z, y), rfl, ⟨⟨by decide, by decide⟩, J0⟩, by rw [ht]; exact hP, va_K.moved hW.alike hK⟩, hS.F ht⟩) hS.2.2 dX11_middle_17
set_option maxRecDepth 100000 in
set_option maxHeartbeats 8000000 in
theorem m_min (l : Launch) (D : va_G) (ca : Nat → ClassId) (o : Nat) (b z : Nat → Nat → Int32) (y : Nat → Nat → Int64) (J0 : qJM b z) (a0 : Int32) (a1 : Int32)  : qM l yX11_min cX11_min 2 (some .int) 1 60 (qPre D vwCl (qT6 ca) o 41 (qG (GM ca o) z y) [.int a0, .int a1]) (va_Qi (fun r (_ : Unit) => True ∧ (r.toInt = min a0.toInt a1.toInt)) (qB D vwCl (qT6 ca) o 41 (fun _ : Unit => qG (GM ca o) z y)) (qw_A o 41)) (qw_A o 41) := by
  refine Met.ofW (cc := cX11_min) (maxL := 2) (ret := (some .int)) (by decide) rfl ?_
  intro p e s m args below meth c s₁ B hml hv
  obtain ⟨rfl, hP, hK⟩ := hv
  have hx := B.exec
  have hb := B.bytes
  have hr := B.returns
  have hts0 := atoms_spec (ws := Cond.code yX11_min cX11_min 2 (some .int) :: qtbl) B.pre
  have hts : ∀ w ∈ qtbl, w.before _ s = true := fun w h => hts0 w (List.mem_cons_of_mem _ h)
  have hown : s.vm.findClass RX11 = some m.cls := findClass_of_methodNamed B.named
  have hlocks := B.notSynchronized
  have hS : va_S (qw_A o 41) s.heap s.heap [] := va_S.rf
  have hl := lv_entry ([.int a0, .int a1]) (n := 2) (Nat.le_of_ble_eq_true rfl)
  rw [lg_entry_eq]
  generalize (lg_sl ([.int a0, .int a1]) ++ List.replicate (2 - (lg_sl ([.int a0, .int a1])).length) Slot.unset).toArray = ls at hl ⊢
  have hl : lv_has ls 2 [(0, .int a0), (1, .int a1)] := hl
  refine lv_iload_n hx hb dX11_min_0 rfl (lv_at hl 0 rfl) ?_
  refine lv_iload_n hx hb dX11_min_1 rfl (lv_at hl 1 rfl) ?_
  refine lv_icmp_ge (tgt := 9) hx hb dX11_min_2 (by decide) (fun c1 => ?_) (fun c1 => ?_)
  · have t1 : a0.toInt ≥ a1.toInt := gl_le c1
    refine lv_iload_n hx hb dX11_min_9 rfl (lv_at hl 1 rfl) ?_
    exact W.iret (v := a1) hx hb hr (fun t ht hW => ⟨⟨a1, (), rfl, ⟨trivial, (show a1.toInt = min a0.toInt a1.toInt from by omega)⟩, by rw [ht]; exact hP, va_K.moved hW.alike hK⟩, hS.F ht⟩) hS.2.2 dX11_min_10
  · have t1 : a0.toInt < a1.toInt := gl_nle c1
    refine lv_iload_n hx hb dX11_min_5 rfl (lv_at hl 0 rfl) ?_
    refine lv_goto (tgt := 10) hx hb dX11_min_6 (by decide) ?_
    exact W.iret (v := a0) hx hb hr (fun t ht hW => ⟨⟨a0, (), rfl, ⟨trivial, (show a0.toInt = min a0.toInt a1.toInt from by omega)⟩, by rw [ht]; exact hP, va_K.moved hW.alike hK⟩, hS.F ht⟩) hS.2.2 dX11_min_10
set_option maxRecDepth 100000 in
set_option maxHeartbeats 8000000 in
theorem m_apart (l : Launch) (D : va_G) (ca : Nat → ClassId) (o : Nat) (b z : Nat → Nat → Int32) (y : Nat → Nat → Int64) (J0 : qJM b z) (a0 : Int32) (a1 : Int32) (a2 : Int32) (a3 : Int32)  : qM l yX11_apart cX11_apart 10 (some .int) 4 125 (qPre D vwCl (qT6 ca) o 41 (qG (GM ca o) z y) [.ref (o + 0), .int a0, .int a1, .int a2, .int a3]) (va_Qi (fun r u => True ∧ qJM b u.1) (qB D vwCl (qT6 ca) o 41 (fun u : qZ => qG (GM ca o) u.1 u.2)) (qw_A o 41)) (qw_A o 41) := by
  refine Met.ofW (cc := cX11_apart) (maxL := 10) (ret := (some .int)) (by decide) rfl ?_
  intro p e s m args below meth c s₁ B hml hv
  obtain ⟨rfl, hP, hK⟩ := hv
  have hx := B.exec
  have hb := B.bytes
  have hr := B.returns
  have hts0 := atoms_spec (ws := Cond.code yX11_apart cX11_apart 10 (some .int) :: qtbl) B.pre
  have hts : ∀ w ∈ qtbl, w.before _ s = true := fun w h => hts0 w (List.mem_cons_of_mem _ h)
  have hown : s.vm.findClass RX11 = some m.cls := findClass_of_methodNamed B.named
  have hlocks := B.notSynchronized
  have hS : va_S (qw_A o 41) s.heap s.heap [] := va_S.rf
  have hl := lv_entry ([.ref (o + 0), .int a0, .int a1, .int a2, .int a3]) (n := 10) (Nat.le_of_ble_eq_true rfl)
  rw [lg_entry_eq]
  generalize (lg_sl ([.ref (o + 0), .int a0, .int a1, .int a2, .int a3]) ++ List.replicate (10 - (lg_sl ([.ref (o + 0), .int a0, .int a1, .int a2, .int a3])).length) Slot.unset).toArray = ls at hl ⊢
  have hl : lv_has ls 10 [(0, .ref (o + 0)), (1, .int a0), (2, .int a1), (3, .int a2), (4, .int a3)] := hl
  refine lv_aload_n hx hb dX11_apart_0 rfl (lv_at hl 0 rfl) ?_
  refine lv_iload_n hx hb dX11_apart_1 rfl (lv_at hl 1 rfl) ?_
  refine qc_Vip (As := [.int a0]) (rest := []) (k0 := 1) (m_areRemarks l D ca o b z y J0 a0) kc_yX11_areRemarks ⟨hx, hb, hml, hown, hts⟩ wq_1324 rfl rfl ⟨Nat.le_of_ble_eq_true rfl, Nat.le_of_ble_eq_true rfl⟩ wq_all hP hK hS qw_Ai (q0 := 0) (by decide) (hgM_0 ca o _ _) rfl rfl hl.1 rfl (Nat.le_of_ble_eq_true rfl) dX11_apart_2 ⟨Nat.zero_le _, Nat.zero_le _⟩ (fun r1 H locs h1 hP hS _ _ => ?_)
  have b1 : (0 : Int) ≤ r1.toInt ∧ r1.toInt ≤ 1 := h1
  refine lv_if_eq (tgt := 27) hx hb dX11_apart_5 (by decide) (fun c2 => ?_) (fun c2 => ?_)
  · have t2 : r1.toInt = (0 : Int) := gl_eq c2
    refine lv_sipush (v := (-400)) hx hb dX11_apart_27 (by decide) ?_
    exact W.iret (v := (-400)) hx hb hr (fun t ht hW => ⟨⟨(-400), (z, y), rfl, ⟨trivial, J0⟩, by rw [ht]; exact hP, va_K.moved hW.alike hK⟩, hS.F ht⟩) hS.2.2 dX11_apart_30
  · have t2 : r1.toInt ≠ (0 : Int) := gl_ne c2
    refine lv_aload_n hx hb dX11_apart_8 rfl (lv_at hl 0 rfl) ?_
    refine lv_iload_n hx hb dX11_apart_9 rfl (lv_at hl 2 rfl) ?_
    refine lv_iload_n hx hb dX11_apart_10 rfl (lv_at hl 3 rfl) ?_
    refine qc_Vip (As := [.int a1, .int a2]) (rest := []) (k0 := 2) (m_areTwo l D ca o b z y J0 a1 a2) kc_yX11_areTwo ⟨hx, hb, hml, hown, hts⟩ wq_1384 rfl rfl ⟨Nat.le_of_ble_eq_true rfl, Nat.le_of_ble_eq_true rfl⟩ wq_all hP hK hS qw_Ai (q0 := 0) (by decide) (hgM_0 ca o _ _) rfl rfl hl.1 rfl (Nat.le_of_ble_eq_true rfl) dX11_apart_11 ⟨Nat.zero_le _, Nat.zero_le _⟩ (fun r3 H locs h3 hP hS _ _ => ?_)
    rcases h3 with ⟨hr3, hf3_0, hf3_1⟩ | ⟨hr3, hf3_0⟩
    · subst hr3
      have hg3_0 : pHas (z 0 4) a1 ∧ pHas (z 0 4) a2 ∧ a1.toInt ≠ a2.toInt := hf3_0
      have hg3_1 : 0 ≤ a1.toInt ∧ a1.toInt ≤ 5 ∧ 0 ≤ a2.toInt ∧ a2.toInt ≤ 5 := hf3_1
      refine lv_if_eq (tgt := 27) hx hb dX11_apart_14 (by decide) (fun q => absurd q (by decide)) (fun _ => ?_)
      refine lv_iload hx hb dX11_apart_17 (lv_at hl 4 rfl) ?_
      refine lv_iconst (v := 0) hx hb dX11_apart_19 (by decide) ?_
      refine lv_iconst (v := 2) hx hb dX11_apart_20 (by decide) ?_
      refine qc_Sip (As := [.int a3, .int 0, .int 2]) (rest := []) (k0 := 3) (m_in l D ca o b z y J0 a3 0 2) kc_yX11_in ⟨hx, hb, hml, hown, hts⟩ wq_1187 rfl rfl ⟨Nat.le_of_ble_eq_true rfl, Nat.le_of_ble_eq_true rfl⟩ wq_all hP hK hS qw_Ai rfl hl.1 rfl (Nat.le_of_ble_eq_true rfl) dX11_apart_21 ⟨Nat.zero_le _, Nat.zero_le _⟩ (fun r4 H locs h4 hP hS _ _ => ?_)
      rcases h4 with ⟨hr4, hf4_0⟩ | ⟨hr4, hf4_0⟩
      · subst hr4
        have hg4_0 : (0 : Int) ≤ a3.toInt ∧ a3.toInt ≤ (2 : Int) := hf4_0
        refine lv_if_ne (tgt := 31) hx hb dX11_apart_24 (by decide) (fun _ => ?_) (fun q => absurd q (by decide))
        refine lv_aload_n hx hb dX11_apart_31 rfl (lv_at hl 0 rfl) ?_
        refine qc_Vip (As := []) (rest := []) (k0 := 0) (m_rowMany l D ca o b z y J0) kc_yX11_rowMany ⟨hx, hb, hml, hown, hts⟩ wq_1315 rfl rfl ⟨Nat.le_of_ble_eq_true rfl, Nat.le_of_ble_eq_true rfl⟩ wq_all hP hK hS qw_Ai (q0 := 0) (by decide) (hgM_0 ca o _ _) rfl rfl hl.1 rfl (Nat.le_of_ble_eq_true rfl) dX11_apart_32 ⟨Nat.zero_le _, Nat.zero_le _⟩ (fun r5 H locs h5 hP hS _ _ => ?_)
        have p5_1 : rmI z 6 r5 := h5.2
        refine lv_ldcw (v := 200000) hx hb hown (hts _ wq_1319) dX11_apart_35 ?_
        refine lv_icmp_le (tgt := 45) hx hb dX11_apart_38 (by decide) (fun c6 => ?_) (fun c6 => ?_)
        · have t6 : r5.toInt ≤ (200000 : Int) := gl_le c6
          refine lv_ldcw (v := 100000000) hx hb hown (hts _ wq_1388) dX11_apart_45 ?_
          refine lv_istore (lv' := [(5, .int 100000000), (0, .ref (o + 0)), (1, .int a0), (2, .int a1), (3, .int a2), (4, .int a3)]) hx hb dX11_apart_48 hl (by decide) rfl (fun ls hl => ?_)
          refine lv_ldcw (v := (-100000000)) hx hb hown (hts _ wq_1389) dX11_apart_50 ?_
          refine lv_istore (lv' := [(6, .int ((-100000000))), (5, .int 100000000), (0, .ref (o + 0)), (1, .int a0), (2, .int a1), (3, .int a2), (4, .int a3)]) hx hb dX11_apart_53 hl (by decide) rfl (fun ls hl => ?_)
          refine lv_iconst (v := 0) hx hb dX11_apart_55 (by decide) ?_
          refine lv_istore (lv' := [(7, .int 0), (6, .int ((-100000000))), (5, .int 100000000), (0, .ref (o + 0)), (1, .int a0), (2, .int a1), (3, .int a2), (4, .int a3)]) hx hb dX11_apart_56 hl (by decide) rfl (fun ls hl => ?_)
          refine lv_aload_n hx hb dX11_apart_58 rfl (lv_at hl 3 rfl) ?_
          refine qc_Vv2 (As := []) (rest := []) (k0 := 0) (m_firstRow l D ca o b z y J0) kc_yX11_firstRow ⟨hx, hb, hml, hown, hts⟩ wq_1336 rfl rfl ⟨Nat.le_of_ble_eq_true rfl, Nat.le_of_ble_eq_true rfl⟩ wq_all hP hK hS qw_Ai (q0 := 0) (by decide) (hgM_0 ca o _ _) rfl rfl hl.1 rfl (Nat.le_of_ble_eq_true rfl) dX11_apart_59 ⟨Nat.zero_le _, Nat.zero_le _⟩ (fun z7 y7 H locs h7 hP hS _ _ => ?_)
          have J7 : qJM b z7 := h7.1
          have p7_3 : rl z7 + 1 = rwp z 6 := h7.2.2.2
          refine lv_iconst (v := 1) hx hb dX11_apart_62 (by decide) ?_
          refine lv_istore (lv' := [(8, .int 1), (7, .int 0), (6, .int ((-100000000))), (5, .int 100000000), (0, .ref (o + 0)), (1, .int a0), (2, .int a1), (3, .int a2), (4, .int a3)]) hx hb dX11_apart_63 hl (by decide) rfl (fun ls hl => ?_)
          have loop8 : ∀ (n : Nat) (w8_8 : Int32) (w8_7 : Int32) (w8_6 : Int32) (w8_5 : Int32) (z8 : Nat → Nat → Int32) (y8 : Nat → Nat → Int64), (((rl z8 : Int) : Int) < (n : Int)) → ((1 : Int) ≤ w8_8.toInt ∧ w8_8.toInt ≤ 1) → ((-100000000 : Int) ≤ w8_6.toInt ∧ w8_6.toInt ≤ 99) → ((-99 : Int) ≤ w8_5.toInt ∧ w8_5.toInt ≤ 100000000) → (qJM b z8) → ∀ (H : Heap) (locs : List Loc), qw_P D vwCl o 41 (qG (GM ca o) z8 y8) H → va_S (qw_A o 41) s.heap H locs → ∀ (ls : Array Slot), lv_has ls 10 [(8, .int w8_8), (7, .int w8_7), (6, .int w8_6), (5, .int w8_5), (0, .ref (o + 0)), (1, .int a0), (2, .int a1), (3, .int a2), (4, .int a3)] → W p l e (headSpec (Cond.code yX11_apart cX11_apart 10 (some .int) :: qtbl) ({ frames := 4, cells := 0, slots := 0, locals := 125 })).room s m (([.ref (o + 0), .int a0, .int a1, .int a2, .int a3] : List Value).toArray) below meth c H locs 0 0 (MQ below (va_Qi (fun r u => True ∧ qJM b u.1) (qB D vwCl (qT6 ca) o 41 (fun u : qZ => qG (GM ca o) u.1 u.2)) (qw_A o 41)) (([.ref (o + 0), .int a0, .int a1, .int a2, .int a3] : List Value).toArray) s 0 0 (qw_A o 41)) (F0 m 65 ls []) := by
            intro n
            induction n with
            | zero => intro w8_8 w8_7 w8_6 w8_5 z8 y8 hb8 hv8_8 hv8_6 hv8_5 J8; exfalso; omega
            | succ n8 ih8 =>
              intro w8_8 w8_7 w8_6 w8_5 z8 y8 hb8 hv8_8 hv8_6 hv8_5 J8 H locs hP hS ls hl
              refine lv_iload hx hb dX11_apart_65 (lv_at hl 0 rfl) ?_
              refine lv_if_eq (tgt := 135) hx hb dX11_apart_67 (by decide) (fun c9 => ?_) (fun c9 => ?_)
              · have t9 : w8_8.toInt = (0 : Int) := gl_eq c9
                exfalso; omega
              · have t9 : w8_8.toInt ≠ (0 : Int) := gl_ne c9
                refine lv_aload_n hx hb dX11_apart_70 rfl (lv_at hl 4 rfl) ?_
                refine lv_iload_n hx hb dX11_apart_71 rfl (lv_at hl 5 rfl) ?_
                refine qc_Vip (As := [.int a0]) (rest := []) (k0 := 1) (m_fitsAll l D ca o b z8 y8 J8 a0) kc_yX11_fitsAll ⟨hx, hb, hml, hown, hts⟩ wq_1340 rfl rfl ⟨Nat.le_of_ble_eq_true rfl, Nat.le_of_ble_eq_true rfl⟩ wq_all hP hK hS qw_Ai (q0 := 0) (by decide) (hgM_0 ca o _ _) rfl rfl hl.1 rfl (Nat.le_of_ble_eq_true rfl) dX11_apart_72 ⟨Nat.zero_le _, Nat.zero_le _⟩ (fun r10 H locs h10 hP hS _ _ => ?_)
                have b10 : (0 : Int) ≤ r10.toInt ∧ r10.toInt ≤ 1 := h10
                refine lv_if_eq (tgt := 126) hx hb dX11_apart_75 (by decide) (fun c11 => ?_) (fun c11 => ?_)
                · have t11 : r10.toInt = (0 : Int) := gl_eq c11
                  refine lv_aload_n hx hb dX11_apart_126 rfl (lv_at hl 4 rfl) ?_
                  refine qc_Vi2 (As := []) (rest := []) (k0 := 0) (m_nextRow l D ca o b z8 y8 J8) kc_yX11_nextRow ⟨hx, hb, hml, hown, hts⟩ wq_1352 rfl rfl ⟨Nat.le_of_ble_eq_true rfl, Nat.le_of_ble_eq_true rfl⟩ wq_all hP hK hS qw_Ai (q0 := 0) (by decide) (hgM_0 ca o _ _) rfl rfl hl.1 rfl (Nat.le_of_ble_eq_true rfl) dX11_apart_127 ⟨Nat.zero_le _, Nat.zero_le _⟩ (fun r12 z12 y12 H locs h12 hP hS _ _ => ?_)
                  have J12 : qJM b z12 := h12.2.1
                  have p12_4 : (z12 0 41).toInt = (z8 0 41).toInt := h12.2.2.2.2
                  rcases h12.1 with ⟨hr12, hf12_0⟩ | hr12
                  · subst hr12
                    have hg12_0 : rl z12 + 1 ≤ rl z8 := hf12_0
                    refine lv_istore (lv' := [(8, .int 1), (7, .int w8_7), (6, .int w8_6), (5, .int w8_5), (0, .ref (o + 0)), (1, .int a0), (2, .int a1), (3, .int a2), (4, .int a3)]) hx hb dX11_apart_130 hl (by decide) rfl (fun ls hl => ?_)
                    refine lv_goto (tgt := 65) hx hb dX11_apart_132 (by decide) ?_
                    exact ih8 1 w8_7 w8_6 w8_5 z12 y12 (show ((rl z12 : Int) : Int) < (n8 : Int) from by omega) ⟨by decide, by decide⟩ ⟨by omega, by omega⟩ ⟨by omega, by omega⟩ J12 _ _ hP hS _ (lv_sub hl [0, 1, 2, 3, 4, 5, 6, 7, 8] rfl)
                  · subst hr12
                    refine lv_istore (lv' := [(8, .int 0), (7, .int w8_7), (6, .int w8_6), (5, .int w8_5), (0, .ref (o + 0)), (1, .int a0), (2, .int a1), (3, .int a2), (4, .int a3)]) hx hb dX11_apart_130 hl (by decide) rfl (fun ls hl => ?_)
                    refine lv_goto (tgt := 65) hx hb dX11_apart_132 (by decide) ?_
                    refine lv_iload hx hb dX11_apart_65 (lv_at hl 0 rfl) ?_
                    refine lv_if_eq (tgt := 135) hx hb dX11_apart_67 (by decide) (fun _ => ?_) (fun q => absurd (by decide) q)
                    refine lv_iload hx hb dX11_apart_135 (lv_at hl 8 rfl) ?_
                    refine lv_iconst (v := 2) hx hb dX11_apart_137 (by decide) ?_
                    refine lv_icmp_ne (tgt := 144) hx hb dX11_apart_138 (by decide) (fun c13 => ?_) (fun c13 => ?_)
                    · have t13 : a3.toInt ≠ (2 : Int) := gl_ne c13
                      refine lv_iload hx hb dX11_apart_144 (lv_at hl 3 rfl) ?_
                      refine lv_ldcw (v := 100000000) hx hb hown (hts _ wq_1388) dX11_apart_146 ?_
                      refine lv_icmp_ne (tgt := 158) hx hb dX11_apart_149 (by decide) (fun c14 => ?_) (fun c14 => ?_)
                      · have t14 : w8_5.toInt ≠ (100000000 : Int) := gl_ne c14
                        refine lv_iload hx hb dX11_apart_158 (lv_at hl 8 rfl) ?_
                        refine lv_if_ne (tgt := 168) hx hb dX11_apart_160 (by decide) (fun c15 => ?_) (fun c15 => ?_)
                        · have t15 : a3.toInt ≠ (0 : Int) := gl_ne c15
                          refine lv_iload hx hb dX11_apart_168 (lv_at hl 2 rfl) ?_
                          exact W.iret (v := w8_6) hx hb hr (fun t ht hW => ⟨⟨w8_6, (z12, y12), rfl, ⟨trivial, J12⟩, by rw [ht]; exact hP, va_K.moved hW.alike hK⟩, hS.F ht⟩) hS.2.2 dX11_apart_170
                        · have t15 : a3.toInt = (0 : Int) := gl_eq c15
                          refine lv_iload hx hb dX11_apart_163 (lv_at hl 3 rfl) ?_
                          refine lv_goto (tgt := 170) hx hb dX11_apart_165 (by decide) ?_
                          exact W.iret (v := w8_5) hx hb hr (fun t ht hW => ⟨⟨w8_5, (z12, y12), rfl, ⟨trivial, J12⟩, by rw [ht]; exact hP, va_K.moved hW.alike hK⟩, hS.F ht⟩) hS.2.2 dX11_apart_170
                      · have t14 : w8_5.toInt = (100000000 : Int) := gl_eq c14
                        refine lv_sipush (v := (-200)) hx hb dX11_apart_152 (by decide) ?_
                        refine lv_goto (tgt := 170) hx hb dX11_apart_155 (by decide) ?_
                        exact W.iret (v := (-200)) hx hb hr (fun t ht hW => ⟨⟨(-200), (z12, y12), rfl, ⟨trivial, J12⟩, by rw [ht]; exact hP, va_K.moved hW.alike hK⟩, hS.F ht⟩) hS.2.2 dX11_apart_170
                    · have t13 : a3.toInt = (2 : Int) := gl_eq c13
                      refine lv_iload hx hb dX11_apart_141 (lv_at hl 1 rfl) ?_
                      exact W.iret (v := w8_7) hx hb hr (fun t ht hW => ⟨⟨w8_7, (z12, y12), rfl, ⟨trivial, J12⟩, by rw [ht]; exact hP, va_K.moved hW.alike hK⟩, hS.F ht⟩) hS.2.2 dX11_apart_143
                · have t11 : r10.toInt ≠ (0 : Int) := gl_ne c11
                  refine lv_aload_n hx hb dX11_apart_78 rfl (lv_at hl 4 rfl) ?_
                  refine qf_get hx hb hts inX11 hown hK hP (q0 := 0) (by decide) (hgM_0 ca o) rfl 36 (by decide) wq_1028 (v := .ref (o + 23)) rfl dX11_apart_79 ?_
                  refine lv_iload_n hx hb dX11_apart_82 rfl (lv_at hl 6 rfl) ?_
                  refine qa_iald hx hb hK hP (q0 := 23) (by decide) 0 (N := 6) (hgM_23 ca o) rfl (gi_in (by omega) (by omega)) dX11_apart_83 ?_
                  refine lv_topi (fun x16 e16 => ?_)
                  have b16 := iM_23 J8 e16
                  refine lv_aload_n hx hb dX11_apart_84 rfl (lv_at hl 4 rfl) ?_
                  refine qf_get hx hb hts inX11 hown hK hP (q0 := 0) (by decide) (hgM_0 ca o) rfl 36 (by decide) wq_1028 (v := .ref (o + 23)) rfl dX11_apart_85 ?_
                  refine lv_iload_n hx hb dX11_apart_88 rfl (lv_at hl 7 rfl) ?_
                  refine qa_iald hx hb hK hP (q0 := 23) (by decide) 0 (N := 6) (hgM_23 ca o) rfl (gi_in (by omega) (by omega)) dX11_apart_89 ?_
                  refine lv_topi (fun x17 e17 => ?_)
                  have b17 := iM_23 J8 e17
                  refine lv_isub hx hb dX11_apart_90 ?_
                  refine lv_topi (fun x18 e18 => ?_)
                  have t18 : x18.toInt = x16.toInt - x17.toInt := ga_sub e18 rfl rfl (by omega) (by omega)
                  refine lv_istore (lv' := [(9, .int x18), (8, .int w8_8), (7, .int w8_7), (6, .int w8_6), (5, .int w8_5), (0, .ref (o + 0)), (1, .int a0), (2, .int a1), (3, .int a2), (4, .int a3)]) hx hb dX11_apart_91 hl (by decide) rfl (fun ls hl => ?_)
                  refine lv_iload hx hb dX11_apart_93 (lv_at hl 4 rfl) ?_
                  refine lv_iload hx hb dX11_apart_95 (lv_at hl 0 rfl) ?_
                  refine qc_Sip (As := [.int w8_5, .int x18]) (rest := []) (k0 := 2) (m_min l D ca o b z8 y8 J8 w8_5 x18) kc_yX11_min ⟨hx, hb, hml, hown, hts⟩ wq_1390 rfl rfl ⟨Nat.le_of_ble_eq_true rfl, Nat.le_of_ble_eq_true rfl⟩ wq_all hP hK hS qw_Ai rfl hl.1 rfl (Nat.le_of_ble_eq_true rfl) dX11_apart_97 ⟨Nat.zero_le _, Nat.zero_le _⟩ (fun r19 H locs h19 hP hS _ _ => ?_)
                  have p19_1 : r19.toInt = min w8_5.toInt x18.toInt := h19.2
                  refine lv_istore (lv' := [(5, .int r19), (9, .int x18), (8, .int w8_8), (7, .int w8_7), (6, .int w8_6), (0, .ref (o + 0)), (1, .int a0), (2, .int a1), (3, .int a2), (4, .int a3)]) hx hb dX11_apart_100 hl (by decide) rfl (fun ls hl => ?_)
                  refine lv_iload hx hb dX11_apart_102 (lv_at hl 4 rfl) ?_
                  refine lv_iload hx hb dX11_apart_104 (lv_at hl 1 rfl) ?_
                  refine qc_Sip (As := [.int w8_6, .int x18]) (rest := []) (k0 := 2) (m_max l D ca o b z8 y8 J8 w8_6 x18) kc_yX11_max ⟨hx, hb, hml, hown, hts⟩ wq_1273 rfl rfl ⟨Nat.le_of_ble_eq_true rfl, Nat.le_of_ble_eq_true rfl⟩ wq_all hP hK hS qw_Ai rfl hl.1 rfl (Nat.le_of_ble_eq_true rfl) dX11_apart_106 ⟨Nat.zero_le _, Nat.zero_le _⟩ (fun r20 H locs h20 hP hS _ _ => ?_)
                  have p20_1 : r20.toInt = max w8_6.toInt x18.toInt := h20.2
                  refine lv_istore (lv' := [(6, .int r20), (5, .int r19), (9, .int x18), (8, .int w8_8), (7, .int w8_7), (0, .ref (o + 0)), (1, .int a0), (2, .int a1), (3, .int a2), (4, .int a3)]) hx hb dX11_apart_109 hl (by decide) rfl (fun ls hl => ?_)
                  refine lv_iload hx hb dX11_apart_111 (lv_at hl 4 rfl) ?_
                  refine lv_iload hx hb dX11_apart_113 (lv_at hl 2 rfl) ?_
                  refine lv_if_ne (tgt := 122) hx hb dX11_apart_115 (by decide) (fun c21 => ?_) (fun c21 => ?_)
                  · have t21 : x18.toInt ≠ (0 : Int) := gl_ne c21
                    refine lv_iconst (v := 0) hx hb dX11_apart_122 (by decide) ?_
                    refine lv_iadd hx hb dX11_apart_123 ?_
                    refine lv_topi (fun x22 e22 => ?_)
                    have gb22_0 := gl_b w8_7
                    have gb22_1 := gl_b r1
                    have gb22_2 := gl_b r5
                    have gb22_3 := gl_b w8_8
                    have gb22_4 := gl_b r10
                    have gb22_5 := gl_b x18
                    have t22 : x22.toInt = w8_7.toInt + (0 : Int) := ga_add e22 rfl rfl (by omega) (by omega)
                    refine lv_istore (lv' := [(7, .int x22), (6, .int r20), (5, .int r19), (9, .int x18), (8, .int w8_8), (0, .ref (o + 0)), (1, .int a0), (2, .int a1), (3, .int a2), (4, .int a3)]) hx hb dX11_apart_124 hl (by decide) rfl (fun ls hl => ?_)
                    refine lv_aload_n hx hb dX11_apart_126 rfl (lv_at hl 5 rfl) ?_
                    refine qc_Vi2 (As := []) (rest := []) (k0 := 0) (m_nextRow l D ca o b z8 y8 J8) kc_yX11_nextRow ⟨hx, hb, hml, hown, hts⟩ wq_1352 rfl rfl ⟨Nat.le_of_ble_eq_true rfl, Nat.le_of_ble_eq_true rfl⟩ wq_all hP hK hS qw_Ai (q0 := 0) (by decide) (hgM_0 ca o _ _) rfl rfl hl.1 rfl (Nat.le_of_ble_eq_true rfl) dX11_apart_127 ⟨Nat.zero_le _, Nat.zero_le _⟩ (fun r23 z23 y23 H locs h23 hP hS _ _ => ?_)
                    have J23 : qJM b z23 := h23.2.1
                    have p23_4 : (z23 0 41).toInt = (z8 0 41).toInt := h23.2.2.2.2
                    rcases h23.1 with ⟨hr23, hf23_0⟩ | hr23
                    · subst hr23
                      have hg23_0 : rl z23 + 1 ≤ rl z8 := hf23_0
                      refine lv_istore (lv' := [(8, .int 1), (7, .int x22), (6, .int r20), (5, .int r19), (9, .int x18), (0, .ref (o + 0)), (1, .int a0), (2, .int a1), (3, .int a2), (4, .int a3)]) hx hb dX11_apart_130 hl (by decide) rfl (fun ls hl => ?_)
                      refine lv_goto (tgt := 65) hx hb dX11_apart_132 (by decide) ?_
                      exact ih8 1 x22 r20 r19 z23 y23 (show ((rl z23 : Int) : Int) < (n8 : Int) from by omega) ⟨by decide, by decide⟩ ⟨by omega, by omega⟩ ⟨by omega, by omega⟩ J23 _ _ hP hS _ (lv_sub hl [0, 1, 2, 3, 5, 6, 7, 8, 9] rfl)
                    · subst hr23
                      refine lv_istore (lv' := [(8, .int 0), (7, .int x22), (6, .int r20), (5, .int r19), (9, .int x18), (0, .ref (o + 0)), (1, .int a0), (2, .int a1), (3, .int a2), (4, .int a3)]) hx hb dX11_apart_130 hl (by decide) rfl (fun ls hl => ?_)
                      refine lv_goto (tgt := 65) hx hb dX11_apart_132 (by decide) ?_
                      refine lv_iload hx hb dX11_apart_65 (lv_at hl 0 rfl) ?_
                      refine lv_if_eq (tgt := 135) hx hb dX11_apart_67 (by decide) (fun _ => ?_) (fun q => absurd (by decide) q)
                      refine lv_iload hx hb dX11_apart_135 (lv_at hl 9 rfl) ?_
                      refine lv_iconst (v := 2) hx hb dX11_apart_137 (by decide) ?_
                      refine lv_icmp_ne (tgt := 144) hx hb dX11_apart_138 (by decide) (fun c24 => ?_) (fun c24 => ?_)
                      · have t24 : a3.toInt ≠ (2 : Int) := gl_ne c24
                        refine lv_iload hx hb dX11_apart_144 (lv_at hl 3 rfl) ?_
                        refine lv_ldcw (v := 100000000) hx hb hown (hts _ wq_1388) dX11_apart_146 ?_
                        refine lv_icmp_ne (tgt := 158) hx hb dX11_apart_149 (by decide) (fun c25 => ?_) (fun c25 => ?_)
                        · have t25 : r19.toInt ≠ (100000000 : Int) := gl_ne c25
                          refine lv_iload hx hb dX11_apart_158 (lv_at hl 9 rfl) ?_
                          refine lv_if_ne (tgt := 168) hx hb dX11_apart_160 (by decide) (fun c26 => ?_) (fun c26 => ?_)
                          · have t26 : a3.toInt ≠ (0 : Int) := gl_ne c26
                            refine lv_iload hx hb dX11_apart_168 (lv_at hl 2 rfl) ?_
                            exact W.iret (v := r20) hx hb hr (fun t ht hW => ⟨⟨r20, (z23, y23), rfl, ⟨trivial, J23⟩, by rw [ht]; exact hP, va_K.moved hW.alike hK⟩, hS.F ht⟩) hS.2.2 dX11_apart_170
                          · have t26 : a3.toInt = (0 : Int) := gl_eq c26
                            refine lv_iload hx hb dX11_apart_163 (lv_at hl 3 rfl) ?_
                            refine lv_goto (tgt := 170) hx hb dX11_apart_165 (by decide) ?_
                            exact W.iret (v := r19) hx hb hr (fun t ht hW => ⟨⟨r19, (z23, y23), rfl, ⟨trivial, J23⟩, by rw [ht]; exact hP, va_K.moved hW.alike hK⟩, hS.F ht⟩) hS.2.2 dX11_apart_170
                        · have t25 : r19.toInt = (100000000 : Int) := gl_eq c25
                          exfalso; omega
                      · have t24 : a3.toInt = (2 : Int) := gl_eq c24
                        refine lv_iload hx hb dX11_apart_141 (lv_at hl 1 rfl) ?_
                        exact W.iret (v := x22) hx hb hr (fun t ht hW => ⟨⟨x22, (z23, y23), rfl, ⟨trivial, J23⟩, by rw [ht]; exact hP, va_K.moved hW.alike hK⟩, hS.F ht⟩) hS.2.2 dX11_apart_143
                  · have t21 : x18.toInt = (0 : Int) := gl_eq c21
                    refine lv_iconst (v := 1) hx hb dX11_apart_118 (by decide) ?_
                    refine lv_goto (tgt := 123) hx hb dX11_apart_119 (by decide) ?_
                    refine lv_iadd hx hb dX11_apart_123 ?_
                    refine lv_topi (fun x27 e27 => ?_)
                    refine lv_istore (lv' := [(7, .int x27), (6, .int r20), (5, .int r19), (9, .int x18), (8, .int w8_8), (0, .ref (o + 0)), (1, .int a0), (2, .int a1), (3, .int a2), (4, .int a3)]) hx hb dX11_apart_124 hl (by decide) rfl (fun ls hl => ?_)
                    refine lv_aload_n hx hb dX11_apart_126 rfl (lv_at hl 5 rfl) ?_
                    refine qc_Vi2 (As := []) (rest := []) (k0 := 0) (m_nextRow l D ca o b z8 y8 J8) kc_yX11_nextRow ⟨hx, hb, hml, hown, hts⟩ wq_1352 rfl rfl ⟨Nat.le_of_ble_eq_true rfl, Nat.le_of_ble_eq_true rfl⟩ wq_all hP hK hS qw_Ai (q0 := 0) (by decide) (hgM_0 ca o _ _) rfl rfl hl.1 rfl (Nat.le_of_ble_eq_true rfl) dX11_apart_127 ⟨Nat.zero_le _, Nat.zero_le _⟩ (fun r28 z28 y28 H locs h28 hP hS _ _ => ?_)
                    have J28 : qJM b z28 := h28.2.1
                    have p28_4 : (z28 0 41).toInt = (z8 0 41).toInt := h28.2.2.2.2
                    rcases h28.1 with ⟨hr28, hf28_0⟩ | hr28
                    · subst hr28
                      have hg28_0 : rl z28 + 1 ≤ rl z8 := hf28_0
                      refine lv_istore (lv' := [(8, .int 1), (7, .int x27), (6, .int r20), (5, .int r19), (9, .int x18), (0, .ref (o + 0)), (1, .int a0), (2, .int a1), (3, .int a2), (4, .int a3)]) hx hb dX11_apart_130 hl (by decide) rfl (fun ls hl => ?_)
                      refine lv_goto (tgt := 65) hx hb dX11_apart_132 (by decide) ?_
                      exact ih8 1 x27 r20 r19 z28 y28 (show ((rl z28 : Int) : Int) < (n8 : Int) from by omega) ⟨by decide, by decide⟩ ⟨by omega, by omega⟩ ⟨by omega, by omega⟩ J28 _ _ hP hS _ (lv_sub hl [0, 1, 2, 3, 5, 6, 7, 8, 9] rfl)
                    · subst hr28
                      refine lv_istore (lv' := [(8, .int 0), (7, .int x27), (6, .int r20), (5, .int r19), (9, .int x18), (0, .ref (o + 0)), (1, .int a0), (2, .int a1), (3, .int a2), (4, .int a3)]) hx hb dX11_apart_130 hl (by decide) rfl (fun ls hl => ?_)
                      refine lv_goto (tgt := 65) hx hb dX11_apart_132 (by decide) ?_
                      refine lv_iload hx hb dX11_apart_65 (lv_at hl 0 rfl) ?_
                      refine lv_if_eq (tgt := 135) hx hb dX11_apart_67 (by decide) (fun _ => ?_) (fun q => absurd (by decide) q)
                      refine lv_iload hx hb dX11_apart_135 (lv_at hl 9 rfl) ?_
                      refine lv_iconst (v := 2) hx hb dX11_apart_137 (by decide) ?_
                      refine lv_icmp_ne (tgt := 144) hx hb dX11_apart_138 (by decide) (fun c29 => ?_) (fun c29 => ?_)
                      · have t29 : a3.toInt ≠ (2 : Int) := gl_ne c29
                        refine lv_iload hx hb dX11_apart_144 (lv_at hl 3 rfl) ?_
                        refine lv_ldcw (v := 100000000) hx hb hown (hts _ wq_1388) dX11_apart_146 ?_
                        refine lv_icmp_ne (tgt := 158) hx hb dX11_apart_149 (by decide) (fun c30 => ?_) (fun c30 => ?_)
                        · have t30 : r19.toInt ≠ (100000000 : Int) := gl_ne c30
                          refine lv_iload hx hb dX11_apart_158 (lv_at hl 9 rfl) ?_
                          refine lv_if_ne (tgt := 168) hx hb dX11_apart_160 (by decide) (fun c31 => ?_) (fun c31 => ?_)
                          · have t31 : a3.toInt ≠ (0 : Int) := gl_ne c31
                            refine lv_iload hx hb dX11_apart_168 (lv_at hl 2 rfl) ?_
                            exact W.iret (v := r20) hx hb hr (fun t ht hW => ⟨⟨r20, (z28, y28), rfl, ⟨trivial, J28⟩, by rw [ht]; exact hP, va_K.moved hW.alike hK⟩, hS.F ht⟩) hS.2.2 dX11_apart_170
                          · have t31 : a3.toInt = (0 : Int) := gl_eq c31
                            refine lv_iload hx hb dX11_apart_163 (lv_at hl 3 rfl) ?_
                            refine lv_goto (tgt := 170) hx hb dX11_apart_165 (by decide) ?_
                            exact W.iret (v := r19) hx hb hr (fun t ht hW => ⟨⟨r19, (z28, y28), rfl, ⟨trivial, J28⟩, by rw [ht]; exact hP, va_K.moved hW.alike hK⟩, hS.F ht⟩) hS.2.2 dX11_apart_170
                        · have t30 : r19.toInt = (100000000 : Int) := gl_eq c30
                          exfalso; omega
                      · have t29 : a3.toInt = (2 : Int) := gl_eq c29
                        refine lv_iload hx hb dX11_apart_141 (lv_at hl 1 rfl) ?_
                        exact W.iret (v := x27) hx hb hr (fun t ht hW => ⟨⟨x27, (z28, y28), rfl, ⟨trivial, J28⟩, by rw [ht]; exact hP, va_K.moved hW.alike hK⟩, hS.F ht⟩) hS.2.2 dX11_apart_143
          exact loop8 (rl z7 + 1) 1 0 (-100000000) 100000000 z7 y7 (show ((rl z7 : Int) : Int) < (((rl z7 + 1) : Nat) : Int) from by omega) ⟨by decide, by decide⟩ ⟨by decide, by decide⟩ ⟨by decide, by decide⟩ J7 _ _ hP hS _ (lv_sub hl [0, 1, 2, 3, 4, 5, 6, 7, 8] rfl)
        · have t6 : r5.toInt > (200000 : Int) := gl_nle c6
          refine lv_sipush (v := (-300)) hx hb dX11_apart_41 (by decide) ?_
          exact W.iret (v := (-300)) hx hb hr (fun t ht hW => ⟨⟨(-300), (z, y), rfl, ⟨trivial, J0⟩, by rw [ht]; exact hP, va_K.moved hW.alike hK⟩, hS.F ht⟩) hS.2.2 dX11_apart_44
      · subst hr4
        have hg4_0 : ¬ ((0 : Int) ≤ a3.toInt ∧ a3.toInt ≤ (2 : Int)) := hf4_0
        refine lv_if_ne (tgt := 31) hx hb dX11_apart_24 (by decide) (fun q => absurd q (by decide)) (fun _ => ?_)
        refine lv_sipush (v := (-400)) hx hb dX11_apart_27 (by decide) ?_
        exact W.iret (v := (-400)) hx hb hr (fun t ht hW => ⟨⟨(-400), (z, y), rfl, ⟨trivial, J0⟩, by rw [ht]; exact hP, va_K.moved hW.alike hK⟩, hS.F ht⟩) hS.2.2 dX11_apart_30
    · subst hr3
      have hg3_0 : ¬ (pHas (z 0 4) a1 ∧ pHas (z 0 4) a2 ∧ a1.toInt ≠ a2.toInt) := hf3_0
      refine lv_if_eq (tgt := 27) hx hb dX11_apart_14 (by decide) (fun _ => ?_) (fun q => absurd (by decide) q)
      refine lv_sipush (v := (-400)) hx hb dX11_apart_27 (by decide) ?_
      exact W.iret (v := (-400)) hx hb hr (fun t ht hW => ⟨⟨(-400), (z, y), rfl, ⟨trivial, J0⟩, by rw [ht]; exact hP, va_K.moved hW.alike hK⟩, hS.F ht⟩) hS.2.2 dX11_apart_30
set_option maxRecDepth 100000 in
set_option maxHeartbeats 8000000 in
theorem m_parent (l : Launch) (D : va_G) (ca : Nat → ClassId) (o : Nat) (b z : Nat → Nat → Int32) (y : Nat → Nat → Int64) (J0 : qJM b z) (a0 : Int32) (a1 : Int32) (a2 : Int32)  : qM l yX11_parent cX11_parent 4 (some .boolean) 4 125 (qPre D vwCl (qT6 ca) o 41 (qG (GM ca o) z y) [.ref (o + 0), .int a0, .int a1, .int a2]) (va_Qi (fun r u => ((r = 1 ∧ (pHas (z 0 4) a0 ∧ pHas (z 0 4) a1 ∧ a0.toInt ≠ a1.toInt ∧ -1 ≤ a2.toInt ∧ a2.toInt ≤ 99) ∧ (qK kM (qu z 4 (a0.toInt * 6 + a1.toInt).toNat a2) u.1)) ∨ (r = 0 ∧ (¬ (pHas (z 0 4) a0 ∧ pHas (z 0 4) a1 ∧ a0.toInt ≠ a1.toInt ∧ -1 ≤ a2.toInt ∧ a2.toInt ≤ 99)) ∧ (qK kM z u.1))) ∧ qJM u.1 u.1) (qB D vwCl (qT6 ca) o 41 (fun u : qZ => qG (GM ca o) u.1 u.2)) (qw_A o 41)) (qw_A o 41) := by
  refine Met.ofW (cc := cX11_parent) (maxL := 4) (ret := (some .boolean)) (by decide) rfl ?_
  intro p e s m args below meth c s₁ B hml hv
  obtain ⟨rfl, hP, hK⟩ := hv
  have hx := B.exec
  have hb := B.bytes
  have hr := B.returns
  have hts0 := atoms_spec (ws := Cond.code yX11_parent cX11_parent 4 (some .boolean) :: qtbl) B.pre
  have hts : ∀ w ∈ qtbl, w.before _ s = true := fun w h => hts0 w (List.mem_cons_of_mem _ h)
  have hown : s.vm.findClass RX11 = some m.cls := findClass_of_methodNamed B.named
  have hlocks := B.notSynchronized
  have hS : va_S (qw_A o 41) s.heap s.heap [] := va_S.rf
  have hl := lv_entry ([.ref (o + 0), .int a0, .int a1, .int a2]) (n := 4) (Nat.le_of_ble_eq_true rfl)
  rw [lg_entry_eq]
  generalize (lg_sl ([.ref (o + 0), .int a0, .int a1, .int a2]) ++ List.replicate (4 - (lg_sl ([.ref (o + 0), .int a0, .int a1, .int a2])).length) Slot.unset).toArray = ls at hl ⊢
  have hl : lv_has ls 4 [(0, .ref (o + 0)), (1, .int a0), (2, .int a1), (3, .int a2)] := hl
  have Jz : qJM z z := ⟨J0.1, qK_rf, J0.2.2⟩
  refine lv_aload_n hx hb dX11_parent_0 rfl (lv_at hl 0 rfl) ?_
  refine lv_iload_n hx hb dX11_parent_1 rfl (lv_at hl 1 rfl) ?_
  refine lv_iload_n hx hb dX11_parent_2 rfl (lv_at hl 2 rfl) ?_
  refine qc_Vip (As := [.int a0, .int a1]) (rest := []) (k0 := 2) (m_areTwo l D ca o z z y Jz a0 a1) kc_yX11_areTwo ⟨hx, hb, hml, hown, hts⟩ wq_1384 rfl rfl ⟨Nat.le_of_ble_eq_true rfl, Nat.le_of_ble_eq_true rfl⟩ wq_all hP hK hS qw_Ai (q0 := 0) (by decide) (hgM_0 ca o _ _) rfl rfl hl.1 rfl (Nat.le_of_ble_eq_true rfl) dX11_parent_3 ⟨Nat.zero_le _, Nat.zero_le _⟩ (fun r1 H locs h1 hP hS _ _ => ?_)
  rcases h1 with ⟨hr1, hf1_0, hf1_1⟩ | ⟨hr1, hf1_0⟩
  · subst hr1
    have hg1_0 : pHas (z 0 4) a0 ∧ pHas (z 0 4) a1 ∧ a0.toInt ≠ a1.toInt := hf1_0
    have hg1_1 : 0 ≤ a0.toInt ∧ a0.toInt ≤ 5 ∧ 0 ≤ a1.toInt ∧ a1.toInt ≤ 5 := hf1_1
    refine lv_if_eq (tgt := 19) hx hb dX11_parent_6 (by decide) (fun q => absurd q (by decide)) (fun _ => ?_)
    refine lv_iload_n hx hb dX11_parent_9 rfl (lv_at hl 3 rfl) ?_
    refine lv_iconst (v := (-1)) hx hb dX11_parent_10 (by decide) ?_
    refine lv_bipush (v := 99) hx hb dX11_parent_11 (by decide) ?_
    refine qc_Sip (As := [.int a2, .int ((-1)), .int 99]) (rest := []) (k0 := 3) (m_in l D ca o z z y Jz a2 (-1) 99) kc_yX11_in ⟨hx, hb, hml, hown, hts⟩ wq_1187 rfl rfl ⟨Nat.le_of_ble_eq_true rfl, Nat.le_of_ble_eq_true rfl⟩ wq_all hP hK hS qw_Ai rfl hl.1 rfl (Nat.le_of_ble_eq_true rfl) dX11_parent_13 ⟨Nat.zero_le _, Nat.zero_le _⟩ (fun r2 H locs h2 hP hS _ _ => ?_)
    rcases h2 with ⟨hr2, hf2_0⟩ | ⟨hr2, hf2_0⟩
    · subst hr2
      have hg2_0 : (-1 : Int) ≤ a2.toInt ∧ a2.toInt ≤ (99 : Int) := hf2_0
      refine lv_if_ne (tgt := 21) hx hb dX11_parent_16 (by decide) (fun _ => ?_) (fun q => absurd q (by decide))
      refine lv_aload_n hx hb dX11_parent_21 rfl (lv_at hl 0 rfl) ?_
      refine qf_get hx hb hts inX11 hown hK hP (q0 := 0) (by decide) (hgM_0 ca o) rfl 3 (by decide) wq_996 (v := .ref (o + 4)) rfl dX11_parent_22 ?_
      refine lv_bipush (v := 6) hx hb dX11_parent_25 (by decide) ?_
      refine lv_iload_n hx hb dX11_parent_27 rfl (lv_at hl 1 rfl) ?_
      refine lv_imul hx hb dX11_parent_28 ?_
      refine lv_topi (fun x3 e3 => ?_)
      have t3 : x3.toInt = (6 : Int) * a0.toInt := ga_mul e3 rfl rfl (by omega) (by omega)
      refine lv_iload_n hx hb dX11_parent_29 rfl (lv_at hl 2 rfl) ?_
      refine lv_iadd hx hb dX11_parent_30 ?_
      refine lv_topi (fun x4 e4 => ?_)
      have t4 : x4.toInt = x3.toInt + a1.toInt := ga_add e4 rfl rfl (by omega) (by omega)
      refine lv_iload_n hx hb dX11_parent_31 rfl (lv_at hl 3 rfl) ?_
      refine qa_iast2 hx hb hK hP hS qw_Ai (q0 := 4) (by decide) 0 (N := 36) (hgM_4 ca o) rfl (i := x4) (x := a2) (gi_in (by omega) (by omega)) dX11_parent_32 (fun z5 H locs hz5 hP hS => ?_)
      have J5 := jM_4 Jz hz5
      refine lv_iconst (v := 1) hx hb dX11_parent_33 (by decide) ?_
      exact W.zret (v := 1) (ty := .boolean) hx hb hr rfl (fun t ht hW => ⟨⟨1, (z5, y), rfl, ⟨Or.inl ⟨rfl, ⟨hg1_0.1, hg1_0.2.1, by omega, by omega, by omega⟩, (by have h := J5.2.1; rw [show x4.toNatClampNeg = (a0.toInt * 6 + a1.toInt).toNat from by show x4.toInt.toNat = _; congr 1; omega] at h; exact h)⟩, ⟨J5.1, qK_rf, J5.2.2⟩⟩, by rw [ht]; exact hP, va_K.moved hW.alike hK⟩, hS.F ht⟩) hS.2.2 dX11_parent_34
    · subst hr2
      have hg2_0 : ¬ ((-1 : Int) ≤ a2.toInt ∧ a2.toInt ≤ (99 : Int)) := hf2_0
      refine lv_if_ne (tgt := 21) hx hb dX11_parent_16 (by decide) (fun q => absurd q (by decide)) (fun _ => ?_)
      refine lv_iconst (v := 0) hx hb dX11_parent_19 (by decide) ?_
      exact W.zret (v := 0) (ty := .boolean) hx hb hr rfl (fun t ht hW => ⟨⟨0, (z, y), rfl, ⟨Or.inr ⟨rfl, (by omega), qK_rf⟩, ⟨Jz.1, qK_rf, Jz.2.2⟩⟩, by rw [ht]; exact hP, va_K.moved hW.alike hK⟩, hS.F ht⟩) hS.2.2 dX11_parent_20
  · subst hr1
    have hg1_0 : ¬ (pHas (z 0 4) a0 ∧ pHas (z 0 4) a1 ∧ a0.toInt ≠ a1.toInt) := hf1_0
    refine lv_if_eq (tgt := 19) hx hb dX11_parent_6 (by decide) (fun _ => ?_) (fun q => absurd (by decide) q)
    refine lv_iconst (v := 0) hx hb dX11_parent_19 (by decide) ?_
    exact W.zret (v := 0) (ty := .boolean) hx hb hr rfl (fun t ht hW => ⟨⟨0, (z, y), rfl, ⟨Or.inr ⟨rfl, (fun h => hg1_0 ⟨h.1, h.2.1, h.2.2.1⟩), qK_rf⟩, ⟨Jz.1, qK_rf, Jz.2.2⟩⟩, by rw [ht]; exact hP, va_K.moved hW.alike hK⟩, hS.F ht⟩) hS.2.2 dX11_parent_20
set_option maxRecDepth 100000 in
set_option maxHeartbeats 8000000 in
theorem m_laysTree (l : Launch) (D : va_G) (ca : Nat → ClassId) (o : Nat) (b z : Nat → Nat → Int32) (y : Nat → Nat → Int64) (J0 : qJM b z)   : qM l yX11_laysTree cX11_laysTree 5 (some .boolean) 3 103 (qPre D vwCl (qT6 ca) o 41 (qG (GM ca o) z y) [.ref (o + 0)]) (va_Qi (fun r u => ((0 : Int) ≤ r.toInt ∧ r.toInt ≤ 1) ∧ qJM b u.1) (qB D vwCl (qT6 ca) o 41 (fun u : qZ => qG (GM ca o) u.1 u.2)) (qw_A o 41)) (qw_A o 41) := by
  refine Met.ofW (cc := cX11_laysTree) (maxL := 5) (ret := (some .boolean)) (by decide) rfl ?_
  intro p e s m args below meth c s₁ B hml hv
  obtain ⟨rfl, hP, hK⟩ := hv
  have hx := B.exec
  have hb := B.bytes
  have hr := B.returns
  have hts0 := atoms_spec (ws := Cond.code yX11_laysTree cX11_laysTree 5 (some .boolean) :: qtbl) B.pre
  have hts : ∀ w ∈ qtbl, w.before _ s = true := fun w h => hts0 w (List.mem_cons_of_mem _ h)
  have hown : s.vm.findClass RX11 = some m.cls := findClass_of_methodNamed B.named
  have hlocks := B.notSynchronized
  have hS : va_S (qw_A o 41) s.heap s.heap [] := va_S.rf
  have hl := lv_entry ([.ref (o + 0)]) (n := 5) (Nat.le_of_ble_eq_true rfl)
  rw [lg_entry_eq]
  generalize (lg_sl ([.ref (o + 0)]) ++ List.replicate (5 - (lg_sl ([.ref (o + 0)])).length) Slot.unset).toArray = ls at hl ⊢
  have hl : lv_has ls 5 [(0, .ref (o + 0))] := hl
  refine lv_iconst (v := 0) hx hb dX11_laysTree_0 (by decide) ?_
  refine lv_istore_n (lv' := [(1, .int 0), (0, .ref (o + 0))]) hx hb dX11_laysTree_1 rfl hl (by decide) rfl (fun ls hl => ?_)
  have loop1 : ∀ (n : Nat) (w1_1 : Int32) (z1 : Nat → Nat → Int32) (y1 : Nat → Nat → Int64), ((6 - w1_1.toInt : Int) < (n : Int)) → ((0 : Int) ≤ w1_1.toInt ∧ w1_1.toInt ≤ 6) → (qJM b z1) → ∀ (H : Heap) (locs : List Loc), qw_P D vwCl o 41 (qG (GM ca o) z1 y1) H → va_S (qw_A o 41) s.heap H locs → ∀ (ls : Array Slot), lv_has ls 5 [(1, .int w1_1), (0, .ref (o + 0))] → W p l e (headSpec (Cond.code yX11_laysTree cX11_laysTree 5 (some .boolean) :: qtbl) ({ frames := 3, cells := 0, slots := 0, locals := 103 })).room s m (([.ref (o + 0)] : List Value).toArray) below meth c H locs 0 0 (MQ below (va_Qi (fun r u => ((0 : Int) ≤ r.toInt ∧ r.toInt ≤ 1) ∧ qJM b u.1) (qB D vwCl (qT6 ca) o 41 (fun u : qZ => qG (GM ca o) u.1 u.2)) (qw_A o 41)) (([.ref (o + 0)] : List Value).toArray) s 0 0 (qw_A o 41)) (F0 m 2 ls []) := by
    intro n
    induction n with
    | zero => intro w1_1 z1 y1 hb1 hv1_1 J1; exfalso; omega
    | succ n1 ih1 =>
      intro w1_1 z1 y1 hb1 hv1_1 J1 H locs hP hS ls hl
      refine lv_iload_n hx hb dX11_laysTree_2 rfl (lv_at hl 0 rfl) ?_
      refine lv_bipush (v := 6) hx hb dX11_laysTree_3 (by decide) ?_
      refine lv_icmp_ge (tgt := 38) hx hb dX11_laysTree_5 (by decide) (fun c2 => ?_) (fun c2 => ?_)
      · have t2 : w1_1.toInt ≥ (6 : Int) := gl_le c2
        refine lv_iconst (v := 0) hx hb dX11_laysTree_38 (by decide) ?_
        refine lv_istore_n (lv' := [(1, .int 0), (0, .ref (o + 0))]) hx hb dX11_laysTree_39 rfl hl (by decide) rfl (fun ls hl => ?_)
        have loop3 : ∀ (n : Nat) (w3_1 : Int32) (z3 : Nat → Nat → Int32) (y3 : Nat → Nat → Int64), ((700 - w3_1.toInt : Int) < (n : Int)) → ((0 : Int) ≤ w3_1.toInt ∧ w3_1.toInt ≤ 700) → (qJM b z3) → ∀ (H : Heap) (locs : List Loc), qw_P D vwCl o 41 (qG (GM ca o) z3 y3) H → va_S (qw_A o 41) s.heap H locs → ∀ (ls : Array Slot), lv_has ls 5 [(1, .int w3_1), (0, .ref (o + 0))] → W p l e (headSpec (Cond.code yX11_laysTree cX11_laysTree 5 (some .boolean) :: qtbl) ({ frames := 3, cells := 0, slots := 0, locals := 103 })).room s m (([.ref (o + 0)] : List Value).toArray) below meth c H locs 0 0 (MQ below (va_Qi (fun r u => ((0 : Int) ≤ r.toInt ∧ r.toInt ≤ 1) ∧ qJM b u.1) (qB D vwCl (qT6 ca) o 41 (fun u : qZ => qG (GM ca o) u.1 u.2)) (qw_A o 41)) (([.ref (o + 0)] : List Value).toArray) s 0 0 (qw_A o 41)) (F0 m 40 ls []) := by
          intro n
          induction n with
          | zero => intro w3_1 z3 y3 hb3 hv3_1 J3; exfalso; omega
          | succ n3 ih3 =>
            intro w3_1 z3 y3 hb3 hv3_1 J3 H locs hP hS ls hl
            refine lv_iload_n hx hb dX11_laysTree_40 rfl (lv_at hl 0 rfl) ?_
            refine lv_sipush (v := 700) hx hb dX11_laysTree_41 (by decide) ?_
            refine lv_icmp_ge (tgt := 183) hx hb dX11_laysTree_44 (by decide) (fun c4 => ?_) (fun c4 => ?_)
            · have t4 : w3_1.toInt ≥ (700 : Int) := gl_le c4
              refine lv_iconst (v := 0) hx hb dX11_laysTree_183 (by decide) ?_
              refine lv_istore_n (lv' := [(1, .int 0), (0, .ref (o + 0))]) hx hb dX11_laysTree_184 rfl hl (by decide) rfl (fun ls hl => ?_)
              have loop5 : ∀ (n : Nat) (w5_1 : Int32), ((6 - w5_1.toInt : Int) < (n : Int)) → ((0 : Int) ≤ w5_1.toInt ∧ w5_1.toInt ≤ 6) → ∀ (H : Heap) (locs : List Loc), qw_P D vwCl o 41 (qG (GM ca o) z3 y3) H → va_S (qw_A o 41) s.heap H locs → ∀ (ls : Array Slot), lv_has ls 5 [(1, .int w5_1), (0, .ref (o + 0))] → W p l e (headSpec (Cond.code yX11_laysTree cX11_laysTree 5 (some .boolean) :: qtbl) ({ frames := 3, cells := 0, slots := 0, locals := 103 })).room s m (([.ref (o + 0)] : List Value).toArray) below meth c H locs 0 0 (MQ below (va_Qi (fun r u => ((0 : Int) ≤ r.toInt ∧ r.toInt ≤ 1) ∧ qJM b u.1) (qB D vwCl (qT6 ca) o 41 (fun u : qZ => qG (GM ca o) u.1 u.2)) (qw_A o 41)) (([.ref (o + 0)] : List Value).toArray) s 0 0 (qw_A o 41)) (F0 m 185 ls []) := by
                intro n
                induction n with
                | zero => intro w5_1 hb5 hv5_1; exfalso; omega
                | succ n5 ih5 =>
                  intro w5_1 hb5 hv5_1 H locs hP hS ls hl
                  refine lv_iload_n hx hb dX11_laysTree_185 rfl (lv_at hl 0 rfl) ?_
                  refine lv_bipush (v := 6) hx hb dX11_laysTree_186 (by decide) ?_
                  refine lv_icmp_ge (tgt := 222) hx hb dX11_laysTree_188 (by decide) (fun c6 => ?_) (fun c6 => ?_)
                  · have t6 : w5_1.toInt ≥ (6 : Int) := gl_le c6
                    refine lv_iconst (v := 1) hx hb dX11_laysTree_222 (by decide) ?_
                    exact W.zret (v := 1) (ty := .boolean) hx hb hr rfl (fun t ht hW => ⟨⟨1, (z3, y3), rfl, ⟨⟨by decide, by decide⟩, J3⟩, by rw [ht]; exact hP, va_K.moved hW.alike hK⟩, hS.F ht⟩) hS.2.2 dX11_laysTree_223
                  · have t6 : w5_1.toInt < (6 : Int) := gl_nle c6
                    refine lv_aload_n hx hb dX11_laysTree_191 rfl (lv_at hl 1 rfl) ?_
                    refine lv_iload_n hx hb dX11_laysTree_192 rfl (lv_at hl 0 rfl) ?_
                    refine qc_Vip (As := [.int w5_1]) (rest := []) (k0 := 1) (m_isPerson l D ca o b z3 y3 J3 w5_1) kc_yX11_isPerson ⟨hx, hb, hml, hown, hts⟩ wq_1194 rfl rfl ⟨Nat.le_of_ble_eq_true rfl, Nat.le_of_ble_eq_true rfl⟩ wq_all hP hK hS qw_Ai (q0 := 0) (by decide) (hgM_0 ca o _ _) rfl rfl hl.1 rfl (Nat.le_of_ble_eq_true rfl) dX11_laysTree_193 ⟨Nat.zero_le _, Nat.zero_le _⟩ (fun r7 H locs h7 hP hS _ _ => ?_)
                    rcases h7 with ⟨hr7, hf7_0, hf7_1⟩ | ⟨hr7, hf7_0⟩
                    · subst hr7
                      have hg7_0 : pHas (z3 0 4) w5_1 := hf7_0
                      have hg7_1 : 0 ≤ w5_1.toInt ∧ w5_1.toInt ≤ 5 := hf7_1
                      refine lv_if_eq (tgt := 216) hx hb dX11_laysTree_196 (by decide) (fun q => absurd q (by decide)) (fun _ => ?_)
                      refine lv_aload_n hx hb dX11_laysTree_199 rfl (lv_at hl 1 rfl) ?_
                      refine qf_get hx hb hts inX11 hown hK hP (q0 := 0) (by decide) (hgM_0 ca o) rfl 52 (by decide) wq_1044 (v := .ref (o + 33)) rfl dX11_laysTree_200 ?_
                      refine lv_iload_n hx hb dX11_laysTree_203 rfl (lv_at hl 0 rfl) ?_
                      refine qa_iald hx hb hK hP (q0 := 33) (by decide) 0 (N := 6) (hgM_33 ca o) rfl (gi_in (by omega) (by omega)) dX11_laysTree_204 ?_
                      refine lv_topi (fun x8 e8 => ?_)
                      refine lv_aload_n hx hb dX11_laysTree_205 rfl (lv_at hl 1 rfl) ?_
                      refine qf_get hx hb hts inX11 hown hK hP (q0 := 0) (by decide) (hgM_0 ca o) rfl 53 (by decide) wq_1045 (v := .ref (o + 34)) rfl dX11_laysTree_206 ?_
                      refine lv_iload_n hx hb dX11_laysTree_209 rfl (lv_at hl 0 rfl) ?_
                      refine qa_iald hx hb hK hP (q0 := 34) (by decide) 0 (N := 6) (hgM_34 ca o) rfl (gi_in (by omega) (by omega)) dX11_laysTree_210 ?_
                      refine lv_topi (fun x9 e9 => ?_)
                      refine lv_icmp_le (tgt := 216) hx hb dX11_laysTree_211 (by decide) (fun c10 => ?_) (fun c10 => ?_)
                      · have t10 : x8.toInt ≤ x9.toInt := gl_le c10
                        obtain ⟨x11, e11⟩ : ∃ t : Int32, t = w5_1 + 1 := ⟨_, rfl⟩
                        refine lv_iinc (v := x11) (lv' := [(1, .int x11), (0, .ref (o + 0))]) hx hb dX11_laysTree_216 hl (k := 0) rfl (by rw [e11]; rfl) (by decide) rfl (fun ls hl => ?_)
                        have t11 : x11.toInt = w5_1.toInt + (1 : Int) := ga_add e11 rfl rfl (by omega) (by omega)
                        refine lv_goto (tgt := 185) hx hb dX11_laysTree_219 (by decide) ?_
                        exact ih5 x11 (show (6 - x11.toInt : Int) < (n5 : Int) from by omega) ⟨by omega, by omega⟩ _ _ hP hS _ (lv_sub hl [0, 1] rfl)
                      · have t10 : x8.toInt > x9.toInt := gl_nle c10
                        refine lv_iconst (v := 0) hx hb dX11_laysTree_214 (by decide) ?_
                        exact W.zret (v := 0) (ty := .boolean) hx hb hr rfl (fun t ht hW => ⟨⟨0, (z3, y3), rfl, ⟨⟨by decide, by decide⟩, J3⟩, by rw [ht]; exact hP, va_K.moved hW.alike hK⟩, hS.F ht⟩) hS.2.2 dX11_laysTree_215
                    · subst hr7
                      have hg7_0 : ¬ pHas (z3 0 4) w5_1 := hf7_0
                      refine lv_if_eq (tgt := 216) hx hb dX11_laysTree_196 (by decide) (fun _ => ?_) (fun q => absurd (by decide) q)
                      obtain ⟨x12, e12⟩ : ∃ t : Int32, t = w5_1 + 1 := ⟨_, rfl⟩
                      refine lv_iinc (v := x12) (lv' := [(1, .int x12), (0, .ref (o + 0))]) hx hb dX11_laysTree_216 hl (k := 0) rfl (by rw [e12]; rfl) (by decide) rfl (fun ls hl => ?_)
                      have t12 : x12.toInt = w5_1.toInt + (1 : Int) := ga_add e12 rfl rfl (by omega) (by omega)
                      refine lv_goto (tgt := 185) hx hb dX11_laysTree_219 (by decide) ?_
                      exact ih5 x12 (show (6 - x12.toInt : Int) < (n5 : Int) from by omega) ⟨by omega, by omega⟩ _ _ hP hS _ (lv_sub hl [0, 1] rfl)
              exact loop5 7 0 (show (6 - (0 : Int) : Int) < ((7 : Nat) : Int) from by omega) ⟨by decide, by decide⟩ _ _ hP hS _ (lv_sub hl [0, 1] rfl)
            · have t4 : w3_1.toInt < (700 : Int) := gl_nle c4
              refine lv_iconst (v := 0) hx hb dX11_laysTree_47 (by decide) ?_
              refine lv_istore_n (lv' := [(2, .int 0), (1, .int w3_1), (0, .ref (o + 0))]) hx hb dX11_laysTree_48 rfl hl (by decide) rfl (fun ls hl => ?_)
              have loop13 : ∀ (n : Nat) (w13_2 : Int32) (z13 : Nat → Nat → Int32) (y13 : Nat → Nat → Int64), ((6 - w13_2.toInt : Int) < (n : Int)) → ((0 : Int) ≤ w13_2.toInt ∧ w13_2.toInt ≤ 6) → (qJM b z13) → ∀ (H : Heap) (locs : List Loc), qw_P D vwCl o 41 (qG (GM ca o) z13 y13) H → va_S (qw_A o 41) s.heap H locs → ∀ (ls : Array Slot), lv_has ls 5 [(2, .int w13_2), (1, .int w3_1), (0, .ref (o + 0))] → W p l e (headSpec (Cond.code yX11_laysTree cX11_laysTree 5 (some .boolean) :: qtbl) ({ frames := 3, cells := 0, slots := 0, locals := 103 })).room s m (([.ref (o + 0)] : List Value).toArray) below meth c H locs 0 0 (MQ below (va_Qi (fun r u => ((0 : Int) ≤ r.toInt ∧ r.toInt ≤ 1) ∧ qJM b u.1) (qB D vwCl (qT6 ca) o 41 (fun u : qZ => qG (GM ca o) u.1 u.2)) (qw_A o 41)) (([.ref (o + 0)] : List Value).toArray) s 0 0 (qw_A o 41)) (F0 m 49 ls []) := by
                intro n
                induction n with
                | zero => intro w13_2 z13 y13 hb13 hv13_2 J13; exfalso; omega
                | succ n13 ih13 =>
                  intro w13_2 z13 y13 hb13 hv13_2 J13 H locs hP hS ls hl
                  refine lv_iload_n hx hb dX11_laysTree_49 rfl (lv_at hl 0 rfl) ?_
                  refine lv_bipush (v := 6) hx hb dX11_laysTree_50 (by decide) ?_
                  refine lv_icmp_ge (tgt := 177) hx hb dX11_laysTree_52 (by decide) (fun c14 => ?_) (fun c14 => ?_)
                  · have t14 : w13_2.toInt ≥ (6 : Int) := gl_le c14
                    obtain ⟨x15, e15⟩ : ∃ t : Int32, t = w3_1 + 1 := ⟨_, rfl⟩
                    refine lv_iinc (v := x15) (lv' := [(1, .int x15), (2, .int w13_2), (0, .ref (o + 0))]) hx hb dX11_laysTree_177 hl (k := 1) rfl (by rw [e15]; rfl) (by decide) rfl (fun ls hl => ?_)
                    have t15 : x15.toInt = w3_1.toInt + (1 : Int) := ga_add e15 rfl rfl (by omega) (by omega)
                    refine lv_goto (tgt := 40) hx hb dX11_laysTree_180 (by decide) ?_
                    exact ih3 x15 z13 y13 (show (700 - x15.toInt : Int) < (n3 : Int) from by omega) ⟨by omega, by omega⟩ J13 _ _ hP hS _ (lv_sub hl [0, 2] rfl)
                  · have t14 : w13_2.toInt < (6 : Int) := gl_nle c14
                    refine lv_iconst (v := 0) hx hb dX11_laysTree_55 (by decide) ?_
                    refine lv_istore_n (lv' := [(3, .int 0), (2, .int w13_2), (1, .int w3_1), (0, .ref (o + 0))]) hx hb dX11_laysTree_56 rfl hl (by decide) rfl (fun ls hl => ?_)
                    have loop16 : ∀ (n : Nat) (w16_3 : Int32) (z16 : Nat → Nat → Int32) (y16 : Nat → Nat → Int64), ((6 - w16_3.toInt : Int) < (n : Int)) → ((0 : Int) ≤ w16_3.toInt ∧ w16_3.toInt ≤ 6) → (qJM b z16) → ∀ (H : Heap) (locs : List Loc), qw_P D vwCl o 41 (qG (GM ca o) z16 y16) H → va_S (qw_A o 41) s.heap H locs → ∀ (ls : Array Slot), lv_has ls 5 [(3, .int w16_3), (2, .int w13_2), (1, .int w3_1), (0, .ref (o + 0))] → W p l e (headSpec (Cond.code yX11_laysTree cX11_laysTree 5 (some .boolean) :: qtbl) ({ frames := 3, cells := 0, slots := 0, locals := 103 })).room s m (([.ref (o + 0)] : List Value).toArray) below meth c H locs 0 0 (MQ below (va_Qi (fun r u => ((0 : Int) ≤ r.toInt ∧ r.toInt ≤ 1) ∧ qJM b u.1) (qB D vwCl (qT6 ca) o 41 (fun u : qZ => qG (GM ca o) u.1 u.2)) (qw_A o 41)) (([.ref (o + 0)] : List Value).toArray) s 0 0 (qw_A o 41)) (F0 m 57 ls []) := by
                      intro n
                      induction n with
                      | zero => intro w16_3 z16 y16 hb16 hv16_3 J16; exfalso; omega
                      | succ n16 ih16 =>
                        intro w16_3 z16 y16 hb16 hv16_3 J16 H locs hP hS ls hl
                        refine lv_iload_n hx hb dX11_laysTree_57 rfl (lv_at hl 0 rfl) ?_
                        refine lv_bipush (v := 6) hx hb dX11_laysTree_58 (by decide) ?_
                        refine lv_icmp_ge (tgt := 171) hx hb dX11_laysTree_60 (by decide) (fun c17 => ?_) (fun c17 => ?_)
                        · have t17 : w16_3.toInt ≥ (6 : Int) := gl_le c17
                          obtain ⟨x18, e18⟩ : ∃ t : Int32, t = w13_2 + 1 := ⟨_, rfl⟩
                          refine lv_iinc (v := x18) (lv' := [(2, .int x18), (3, .int w16_3), (1, .int w3_1), (0, .ref (o + 0))]) hx hb dX11_laysTree_171 hl (k := 1) rfl (by rw [e18]; rfl) (by decide) rfl (fun ls hl => ?_)
                          have t18 : x18.toInt = w13_2.toInt + (1 : Int) := ga_add e18 rfl rfl (by omega) (by omega)
                          refine lv_goto (tgt := 49) hx hb dX11_laysTree_174 (by decide) ?_
                          exact ih13 x18 z16 y16 (show (6 - x18.toInt : Int) < (n13 : Int) from by omega) ⟨by omega, by omega⟩ J16 _ _ hP hS _ (lv_sub hl [0, 2, 3] rfl)
                        · have t17 : w16_3.toInt < (6 : Int) := gl_nle c17
                          refine lv_aload_n hx hb dX11_laysTree_63 rfl (lv_at hl 3 rfl) ?_
                          refine qf_get hx hb hts inX11 hown hK hP (q0 := 0) (by decide) (hgM_0 ca o) rfl 3 (by decide) wq_996 (v := .ref (o + 4)) rfl dX11_laysTree_64 ?_
                          refine lv_bipush (v := 6) hx hb dX11_laysTree_67 (by decide) ?_
                          refine lv_iload_n hx hb dX11_laysTree_69 rfl (lv_at hl 1 rfl) ?_
                          refine lv_imul hx hb dX11_laysTree_70 ?_
                          refine lv_topi (fun x19 e19 => ?_)
                          have t19 : x19.toInt = (6 : Int) * w13_2.toInt := ga_mul e19 rfl rfl (by omega) (by omega)
                          refine lv_iload_n hx hb dX11_laysTree_71 rfl (lv_at hl 0 rfl) ?_
                          refine lv_iadd hx hb dX11_laysTree_72 ?_
                          refine lv_topi (fun x20 e20 => ?_)
                          have t20 : x20.toInt = x19.toInt + w16_3.toInt := ga_add e20 rfl rfl (by omega) (by omega)
                          refine qa_iald hx hb hK hP (q0 := 4) (by decide) 0 (N := 36) (hgM_4 ca o) rfl (gi_in (by omega) (by omega)) dX11_laysTree_73 ?_
                          refine lv_topi (fun x21 e21 => ?_)
                          refine lv_istore (lv' := [(4, .int x21), (3, .int w16_3), (2, .int w13_2), (1, .int w3_1), (0, .ref (o + 0))]) hx hb dX11_laysTree_74 hl (by decide) rfl (fun ls hl => ?_)
                          refine lv_iload hx hb dX11_laysTree_76 (lv_at hl 0 rfl) ?_
                          refine lv_iconst (v := (-1)) hx hb dX11_laysTree_78 (by decide) ?_
                          refine lv_icmp_ne (tgt := 85) hx hb dX11_laysTree_79 (by decide) (fun c22 => ?_) (fun c22 => ?_)
                          · have t22 : x21.toInt ≠ (-1 : Int) := gl_ne c22
                            refine lv_aload_n hx hb dX11_laysTree_85 rfl (lv_at hl 4 rfl) ?_
                            refine qf_get hx hb hts inX11 hown hK hP (q0 := 0) (by decide) (hgM_0 ca o) rfl 52 (by decide) wq_1044 (v := .ref (o + 33)) rfl dX11_laysTree_86 ?_
                            refine lv_iload_n hx hb dX11_laysTree_89 rfl (lv_at hl 2 rfl) ?_
                            refine lv_aload_n hx hb dX11_laysTree_90 rfl (lv_at hl 4 rfl) ?_
                            refine qf_get hx hb hts inX11 hown hK hP (q0 := 0) (by decide) (hgM_0 ca o) rfl 52 (by decide) wq_1044 (v := .ref (o + 33)) rfl dX11_laysTree_91 ?_
                            refine lv_iload_n hx hb dX11_laysTree_94 rfl (lv_at hl 2 rfl) ?_
                            refine qa_iald hx hb hK hP (q0 := 33) (by decide) 0 (N := 6) (hgM_33 ca o) rfl (gi_in (by omega) (by omega)) dX11_laysTree_95 ?_
                            refine lv_topi (fun x23 e23 => ?_)
                            refine lv_aload_n hx hb dX11_laysTree_96 rfl (lv_at hl 4 rfl) ?_
                            refine qf_get hx hb hts inX11 hown hK hP (q0 := 0) (by decide) (hgM_0 ca o) rfl 52 (by decide) wq_1044 (v := .ref (o + 33)) rfl dX11_laysTree_97 ?_
                            refine lv_iload_n hx hb dX11_laysTree_100 rfl (lv_at hl 1 rfl) ?_
                            refine qa_iald hx hb hK hP (q0 := 33) (by decide) 0 (N := 6) (hgM_33 ca o) rfl (gi_in (by omega) (by omega)) dX11_laysTree_101 ?_
                            refine lv_topi (fun x24 e24 => ?_)
                            refine lv_iload hx hb dX11_laysTree_102 (lv_at hl 0 rfl) ?_
                            refine lv_iadd hx hb dX11_laysTree_104 ?_
                            refine lv_topi (fun x25 e25 => ?_)
                            refine qc_Sip (As := [.int x23, .int x25]) (rest := [.int w13_2, .ref (o + 33)]) (k0 := 2) (m_max l D ca o b z16 y16 J16 x23 x25) kc_yX11_max ⟨hx, hb, hml, hown, hts⟩ wq_1273 rfl rfl ⟨Nat.le_of_ble_eq_true rfl, Nat.le_of_ble_eq_true rfl⟩ wq_all hP hK hS qw_Ai rfl hl.1 rfl (Nat.le_of_ble_eq_true rfl) dX11_laysTree_105 ⟨Nat.zero_le _, Nat.zero_le _⟩ (fun r26 H locs h26 hP hS _ _ => ?_)
                            have p26_1 : r26.toInt = max x23.toInt x25.toInt := h26.2
                            refine qa_iast2 hx hb hK hP hS qw_Ai (q0 := 33) (by decide) 0 (N := 6) (hgM_33 ca o) rfl (i := w13_2) (x := r26) (gi_in (by omega) (by omega)) dX11_laysTree_108 (fun z27 H locs hz27 hP hS => ?_)
                            have J27 := jM_33 J16 hz27
                            refine lv_aload_n hx hb dX11_laysTree_109 rfl (lv_at hl 4 rfl) ?_
                            refine qf_get hx hb hts inX11 hown hK hP (q0 := 0) (by decide) (hgM_0 ca o) rfl 53 (by decide) wq_1045 (v := .ref (o + 34)) rfl dX11_laysTree_110 ?_
                            refine lv_iload_n hx hb dX11_laysTree_113 rfl (lv_at hl 1 rfl) ?_
                            refine lv_aload_n hx hb dX11_laysTree_114 rfl (lv_at hl 4 rfl) ?_
                            refine qf_get hx hb hts inX11 hown hK hP (q0 := 0) (by decide) (hgM_0 ca o) rfl 53 (by decide) wq_1045 (v := .ref (o + 34)) rfl dX11_laysTree_115 ?_
                            refine lv_iload_n hx hb dX11_laysTree_118 rfl (lv_at hl 1 rfl) ?_
                            refine qa_iald hx hb hK hP (q0 := 34) (by decide) 0 (N := 6) (hgM_34 ca o) rfl (gi_in (by omega) (by omega)) dX11_laysTree_119 ?_
                            refine lv_topi (fun x28 e28 => ?_)
                            refine lv_aload_n hx hb dX11_laysTree_120 rfl (lv_at hl 4 rfl) ?_
                            refine qf_get hx hb hts inX11 hown hK hP (q0 := 0) (by decide) (hgM_0 ca o) rfl 53 (by decide) wq_1045 (v := .ref (o + 34)) rfl dX11_laysTree_121 ?_
                            refine lv_iload_n hx hb dX11_laysTree_124 rfl (lv_at hl 2 rfl) ?_
                            refine qa_iald hx hb hK hP (q0 := 34) (by decide) 0 (N := 6) (hgM_34 ca o) rfl (gi_in (by omega) (by omega)) dX11_laysTree_125 ?_
                            refine lv_topi (fun x29 e29 => ?_)
                            refine lv_iload hx hb dX11_laysTree_126 (lv_at hl 0 rfl) ?_
                            refine lv_isub hx hb dX11_laysTree_128 ?_
                            refine lv_topi (fun x30 e30 => ?_)
                            refine qc_Sip (As := [.int x28, .int x30]) (rest := [.int w16_3, .ref (o + 34)]) (k0 := 2) (m_min l D ca o b z27 y16 J27 x28 x30) kc_yX11_min ⟨hx, hb, hml, hown, hts⟩ wq_1390 rfl rfl ⟨Nat.le_of_ble_eq_true rfl, Nat.le_of_ble_eq_true rfl⟩ wq_all hP hK hS qw_Ai rfl hl.1 rfl (Nat.le_of_ble_eq_true rfl) dX11_laysTree_129 ⟨Nat.zero_le _, Nat.zero_le _⟩ (fun r31 H locs h31 hP hS _ _ => ?_)
                            have p31_1 : r31.toInt = min x28.toInt x30.toInt := h31.2
                            refine qa_iast2 hx hb hK hP hS qw_Ai (q0 := 34) (by decide) 0 (N := 6) (hgM_34 ca o) rfl (i := w16_3) (x := r31) (gi_in (by omega) (by omega)) dX11_laysTree_132 (fun z32 H locs hz32 hP hS => ?_)
                            have J32 := jM_34 J27 hz32
                            refine lv_aload_n hx hb dX11_laysTree_133 rfl (lv_at hl 4 rfl) ?_
                            refine qf_get hx hb hts inX11 hown hK hP (q0 := 0) (by decide) (hgM_0 ca o) rfl 52 (by decide) wq_1044 (v := .ref (o + 33)) rfl dX11_laysTree_134 ?_
                            refine lv_iload_n hx hb dX11_laysTree_137 rfl (lv_at hl 2 rfl) ?_
                            refine qa_iald hx hb hK hP (q0 := 33) (by decide) 0 (N := 6) (hgM_33 ca o) rfl (gi_in (by omega) (by omega)) dX11_laysTree_138 ?_
                            refine lv_topi (fun x33 e33 => ?_)
                            refine lv_aload_n hx hb dX11_laysTree_139 rfl (lv_at hl 4 rfl) ?_
                            refine qf_get hx hb hts inX11 hown hK hP (q0 := 0) (by decide) (hgM_0 ca o) rfl 1 (by decide) wq_994 (v := .ref (o + 2)) rfl dX11_laysTree_140 ?_
                            refine lv_iload_n hx hb dX11_laysTree_143 rfl (lv_at hl 2 rfl) ?_
                            refine qa_iald hx hb hK hP (q0 := 2) (by decide) 0 (N := 6) (hgM_2 ca o) rfl (gi_in (by omega) (by omega)) dX11_laysTree_144 ?_
                            refine lv_topi (fun x34 e34 => ?_)
                            have b34 := iM_2 J32 e34
                            refine lv_icmp_gt (tgt := 163) hx hb dX11_laysTree_145 (by decide) (fun c35 => ?_) (fun c35 => ?_)
                            · have t35 : x33.toInt > x34.toInt := gl_lt c35
                              refine lv_iconst (v := 0) hx hb dX11_laysTree_163 (by decide) ?_
                              exact W.zret (v := 0) (ty := .boolean) hx hb hr rfl (fun t ht hW => ⟨⟨0, (z32, y16), rfl, ⟨⟨by decide, by decide⟩, J32⟩, by rw [ht]; exact hP, va_K.moved hW.alike hK⟩, hS.F ht⟩) hS.2.2 dX11_laysTree_164
                            · have t35 : x33.toInt ≤ x34.toInt := gl_nlt c35
                              refine lv_aload_n hx hb dX11_laysTree_148 rfl (lv_at hl 4 rfl) ?_
                              refine qf_get hx hb hts inX11 hown hK hP (q0 := 0) (by decide) (hgM_0 ca o) rfl 53 (by decide) wq_1045 (v := .ref (o + 34)) rfl dX11_laysTree_149 ?_
                              refine lv_iload_n hx hb dX11_laysTree_152 rfl (lv_at hl 1 rfl) ?_
                              refine qa_iald hx hb hK hP (q0 := 34) (by decide) 0 (N := 6) (hgM_34 ca o) rfl (gi_in (by omega) (by omega)) dX11_laysTree_153 ?_
                              refine lv_topi (fun x36 e36 => ?_)
                              refine lv_aload_n hx hb dX11_laysTree_154 rfl (lv_at hl 4 rfl) ?_
                              refine qf_get hx hb hts inX11 hown hK hP (q0 := 0) (by decide) (hgM_0 ca o) rfl 0 (by decide) wq_993 (v := .ref (o + 1)) rfl dX11_laysTree_155 ?_
                              refine lv_iload_n hx hb dX11_laysTree_158 rfl (lv_at hl 1 rfl) ?_
                              refine qa_iald hx hb hK hP (q0 := 1) (by decide) 0 (N := 6) (hgM_1 ca o) rfl (gi_in (by omega) (by omega)) dX11_laysTree_159 ?_
                              refine lv_topi (fun x37 e37 => ?_)
                              have b37 := iM_1 J32 e37
                              refine lv_icmp_ge (tgt := 165) hx hb dX11_laysTree_160 (by decide) (fun c38 => ?_) (fun c38 => ?_)
                              · have t38 : x36.toInt ≥ x37.toInt := gl_le c38
                                obtain ⟨x39, e39⟩ : ∃ t : Int32, t = w16_3 + 1 := ⟨_, rfl⟩
                                refine lv_iinc (v := x39) (lv' := [(3, .int x39), (4, .int x21), (2, .int w13_2), (1, .int w3_1), (0, .ref (o + 0))]) hx hb dX11_laysTree_165 hl (k := 1) rfl (by rw [e39]; rfl) (by decide) rfl (fun ls hl => ?_)
                                have t39 : x39.toInt = w16_3.toInt + (1 : Int) := ga_add e39 rfl rfl (by omega) (by omega)
                                refine lv_goto (tgt := 57) hx hb dX11_laysTree_168 (by decide) ?_
                                exact ih16 x39 z32 y16 (show (6 - x39.toInt : Int) < (n16 : Int) from by omega) ⟨by omega, by omega⟩ J32 _ _ hP hS _ (lv_sub hl [0, 2, 3, 4] rfl)
                              · have t38 : x36.toInt < x37.toInt := gl_nle c38
                                refine lv_iconst (v := 0) hx hb dX11_laysTree_163 (by decide) ?_
                                exact W.zret (v := 0) (ty := .boolean) hx hb hr rfl (fun t ht hW => ⟨⟨0, (z32, y16), rfl, ⟨⟨by decide, by decide⟩, J32⟩, by rw [ht]; exact hP, va_K.moved hW.alike hK⟩, hS.F ht⟩) hS.2.2 dX11_laysTree_164
                          · have t22 : x21.toInt = (-1 : Int) := gl_eq c22
                            refine lv_goto (tgt := 165) hx hb dX11_laysTree_82 (by decide) ?_
                            obtain ⟨x40, e40⟩ : ∃ t : Int32, t = w16_3 + 1 := ⟨_, rfl⟩
                            refine lv_iinc (v := x40) (lv' := [(3, .int x40), (4, .int x21), (2, .int w13_2), (1, .int w3_1), (0, .ref (o + 0))]) hx hb dX11_laysTree_165 hl (k := 1) rfl (by rw [e40]; rfl) (by decide) rfl (fun ls hl => ?_)
                            have t40 : x40.toInt = w16_3.toInt + (1 : Int) := ga_add e40 rfl rfl (by omega) (by omega)
                            refine lv_goto (tgt := 57) hx hb dX11_laysTree_168 (by decide) ?_
                            exact ih16 x40 z16 y16 (show (6 - x40.toInt : Int) < (n16 : Int) from by omega) ⟨by omega, by omega⟩ J16 _ _ hP hS _ (lv_sub hl [0, 2, 3, 4] rfl)
                    exact loop16 7 0 z13 y13 (show (6 - (0 : Int) : Int) < ((7 : Nat) : Int) from by omega) ⟨by decide, by decide⟩ J13 _ _ hP hS _ (lv_sub hl [0, 1, 2, 3] rfl)
              exact loop13 7 0 z3 y3 (show (6 - (0 : Int) : Int) < ((7 : Nat) : Int) from by omega) ⟨by decide, by decide⟩ J3 _ _ hP hS _ (lv_sub hl [0, 1, 2] rfl)
        exact loop3 701 0 z1 y1 (show (700 - (0 : Int) : Int) < ((701 : Nat) : Int) from by omega) ⟨by decide, by decide⟩ J1 _ _ hP hS _ (lv_sub hl [0, 1] rfl)
      · have t2 : w1_1.toInt < (6 : Int) := gl_nle c2
        refine lv_aload_n hx hb dX11_laysTree_8 rfl (lv_at hl 1 rfl) ?_
        refine qf_get hx hb hts inX11 hown hK hP (q0 := 0) (by decide) (hgM_0 ca o) rfl 52 (by decide) wq_1044 (v := .ref (o + 33)) rfl dX11_laysTree_9 ?_
        refine lv_iload_n hx hb dX11_laysTree_12 rfl (lv_at hl 0 rfl) ?_
        refine lv_aload_n hx hb dX11_laysTree_13 rfl (lv_at hl 1 rfl) ?_
        refine qf_get hx hb hts inX11 hown hK hP (q0 := 0) (by decide) (hgM_0 ca o) rfl 0 (by decide) wq_993 (v := .ref (o + 1)) rfl dX11_laysTree_14 ?_
        refine lv_iload_n hx hb dX11_laysTree_17 rfl (lv_at hl 0 rfl) ?_
        refine qa_iald hx hb hK hP (q0 := 1) (by decide) 0 (N := 6) (hgM_1 ca o) rfl (gi_in (by omega) (by omega)) dX11_laysTree_18 ?_
        refine lv_topi (fun x41 e41 => ?_)
        have b41 := iM_1 J1 e41
        refine qa_iast2 hx hb hK hP hS qw_Ai (q0 := 33) (by decide) 0 (N := 6) (hgM_33 ca o) rfl (i := w1_1) (x := x41) (gi_in (by omega) (by omega)) dX11_laysTree_19 (fun z42 H locs hz42 hP hS => ?_)
        have J42 := jM_33 J1 hz42
        refine lv_aload_n hx hb dX11_laysTree_20 rfl (lv_at hl 1 rfl) ?_
        refine qf_get hx hb hts inX11 hown hK hP (q0 := 0) (by decide) (hgM_0 ca o) rfl 53 (by decide) wq_1045 (v := .ref (o + 34)) rfl dX11_laysTree_21 ?_
        refine lv_iload_n hx hb dX11_laysTree_24 rfl (lv_at hl 0 rfl) ?_
        refine lv_aload_n hx hb dX11_laysTree_25 rfl (lv_at hl 1 rfl) ?_
        refine qf_get hx hb hts inX11 hown hK hP (q0 := 0) (by decide) (hgM_0 ca o) rfl 1 (by decide) wq_994 (v := .ref (o + 2)) rfl dX11_laysTree_26 ?_
        refine lv_iload_n hx hb dX11_laysTree_29 rfl (lv_at hl 0 rfl) ?_
        refine qa_iald hx hb hK hP (q0 := 2) (by decide) 0 (N := 6) (hgM_2 ca o) rfl (gi_in (by omega) (by omega)) dX11_laysTree_30 ?_
        refine lv_topi (fun x43 e43 => ?_)
        have b43 := iM_2 J42 e43
        refine qa_iast2 hx hb hK hP hS qw_Ai (q0 := 34) (by decide) 0 (N := 6) (hgM_34 ca o) rfl (i := w1_1) (x := x43) (gi_in (by omega) (by omega)) dX11_laysTree_31 (fun z44 H locs hz44 hP hS => ?_)
        have J44 := jM_34 J42 hz44
        obtain ⟨x45, e45⟩ : ∃ t : Int32, t = w1_1 + 1 := ⟨_, rfl⟩
        refine lv_iinc (v := x45) (lv' := [(1, .int x45), (0, .ref (o + 0))]) hx hb dX11_laysTree_32 hl (k := 0) rfl (by rw [e45]; rfl) (by decide) rfl (fun ls hl => ?_)
        have t45 : x45.toInt = w1_1.toInt + (1 : Int) := ga_add e45 rfl rfl (by omega) (by omega)
        refine lv_goto (tgt := 2) hx hb dX11_laysTree_35 (by decide) ?_
        exact ih1 x45 z44 y1 (show (6 - x45.toInt : Int) < (n1 : Int) from by omega) ⟨by omega, by omega⟩ J44 _ _ hP hS _ (lv_sub hl [0, 1] rfl)
  exact loop1 7 0 z y (show (6 - (0 : Int) : Int) < ((7 : Nat) : Int) from by omega) ⟨by decide, by decide⟩ J0 _ _ hP hS _ (lv_sub hl [0, 1] rfl)
set_option maxRecDepth 100000 in
set_option maxHeartbeats 8000000 in
theorem m_tree (l : Launch) (D : va_G) (ca : Nat → ClassId) (o : Nat) (b z : Nat → Nat → Int32) (y : Nat → Nat → Int64) (J0 : qJM b z) (a0 : Int32) (a1 : Int32)  : qM l yX11_tree cX11_tree 3 (some .int) 4 127 (qPre D vwCl (qT6 ca) o 41 (qG (GM ca o) z y) [.ref (o + 0), .int a0, .int a1]) (va_Qi (fun r u => True ∧ qJM b u.1) (qB D vwCl (qT6 ca) o 41 (fun u : qZ => qG (GM ca o) u.1 u.2)) (qw_A o 41)) (qw_A o 41) := by
  refine Met.ofW (cc := cX11_tree) (maxL := 3) (ret := (some .int)) (by decide) rfl ?_
  intro p e s m args below meth c s₁ B hml hv
  obtain ⟨rfl, hP, hK⟩ := hv
  have hx := B.exec
  have hb := B.bytes
  have hr := B.returns
  have hts0 := atoms_spec (ws := Cond.code yX11_tree cX11_tree 3 (some .int) :: qtbl) B.pre
  have hts : ∀ w ∈ qtbl, w.before _ s = true := fun w h => hts0 w (List.mem_cons_of_mem _ h)
  have hown : s.vm.findClass RX11 = some m.cls := findClass_of_methodNamed B.named
  have hlocks := B.notSynchronized
  have hS : va_S (qw_A o 41) s.heap s.heap [] := va_S.rf
  have hl := lv_entry ([.ref (o + 0), .int a0, .int a1]) (n := 3) (Nat.le_of_ble_eq_true rfl)
  rw [lg_entry_eq]
  generalize (lg_sl ([.ref (o + 0), .int a0, .int a1]) ++ List.replicate (3 - (lg_sl ([.ref (o + 0), .int a0, .int a1])).length) Slot.unset).toArray = ls at hl ⊢
  have hl : lv_has ls 3 [(0, .ref (o + 0)), (1, .int a0), (2, .int a1)] := hl
  refine lv_aload_n hx hb dX11_tree_0 rfl (lv_at hl 0 rfl) ?_
  refine lv_iload_n hx hb dX11_tree_1 rfl (lv_at hl 1 rfl) ?_
  refine qc_Vip (As := [.int a0]) (rest := []) (k0 := 1) (m_isPerson l D ca o b z y J0 a0) kc_yX11_isPerson ⟨hx, hb, hml, hown, hts⟩ wq_1194 rfl rfl ⟨Nat.le_of_ble_eq_true rfl, Nat.le_of_ble_eq_true rfl⟩ wq_all hP hK hS qw_Ai (q0 := 0) (by decide) (hgM_0 ca o _ _) rfl rfl hl.1 rfl (Nat.le_of_ble_eq_true rfl) dX11_tree_2 ⟨Nat.zero_le _, Nat.zero_le _⟩ (fun r1 H locs h1 hP hS _ _ => ?_)
  rcases h1 with ⟨hr1, hf1_0, hf1_1⟩ | ⟨hr1, hf1_0⟩
  · subst hr1
    have hg1_0 : pHas (z 0 4) a0 := hf1_0
    have hg1_1 : 0 ≤ a0.toInt ∧ a0.toInt ≤ 5 := hf1_1
    refine lv_if_eq (tgt := 17) hx hb dX11_tree_5 (by decide) (fun q => absurd q (by decide)) (fun _ => ?_)
    refine lv_iload_n hx hb dX11_tree_8 rfl (lv_at hl 2 rfl) ?_
    refine lv_iconst (v := 0) hx hb dX11_tree_9 (by decide) ?_
    refine lv_iconst (v := 1) hx hb dX11_tree_10 (by decide) ?_
    refine qc_Sip (As := [.int a1, .int 0, .int 1]) (rest := []) (k0 := 3) (m_in l D ca o b z y J0 a1 0 1) kc_yX11_in ⟨hx, hb, hml, hown, hts⟩ wq_1187 rfl rfl ⟨Nat.le_of_ble_eq_true rfl, Nat.le_of_ble_eq_true rfl⟩ wq_all hP hK hS qw_Ai rfl hl.1 rfl (Nat.le_of_ble_eq_true rfl) dX11_tree_11 ⟨Nat.zero_le _, Nat.zero_le _⟩ (fun r2 H locs h2 hP hS _ _ => ?_)
    rcases h2 with ⟨hr2, hf2_0⟩ | ⟨hr2, hf2_0⟩
    · subst hr2
      have hg2_0 : (0 : Int) ≤ a1.toInt ∧ a1.toInt ≤ (1 : Int) := hf2_0
      refine lv_if_ne (tgt := 19) hx hb dX11_tree_14 (by decide) (fun _ => ?_) (fun q => absurd q (by decide))
      refine lv_aload_n hx hb dX11_tree_19 rfl (lv_at hl 0 rfl) ?_
      refine qc_Vi2 (As := []) (rest := []) (k0 := 0) (m_laysTree l D ca o b z y J0) kc_yX11_laysTree ⟨hx, hb, hml, hown, hts⟩ wq_1551 rfl rfl ⟨Nat.le_of_ble_eq_true rfl, Nat.le_of_ble_eq_true rfl⟩ wq_all hP hK hS qw_Ai (q0 := 0) (by decide) (hgM_0 ca o _ _) rfl rfl hl.1 rfl (Nat.le_of_ble_eq_true rfl) dX11_tree_20 ⟨Nat.zero_le _, Nat.zero_le _⟩ (fun r3 z3 y3 H locs h3 hP hS _ _ => ?_)
      have J3 : qJM b z3 := h3.2
      have b3 : (0 : Int) ≤ r3.toInt ∧ r3.toInt ≤ 1 := h3.1
      refine lv_if_ne (tgt := 29) hx hb dX11_tree_23 (by decide) (fun c4 => ?_) (fun c4 => ?_)
      · have t4 : r3.toInt ≠ (0 : Int) := gl_ne c4
        refine lv_iload_n hx hb dX11_tree_29 rfl (lv_at hl 2 rfl) ?_
        refine lv_if_ne (tgt := 42) hx hb dX11_tree_30 (by decide) (fun c5 => ?_) (fun c5 => ?_)
        · have t5 : a1.toInt ≠ (0 : Int) := gl_ne c5
          refine lv_aload_n hx hb dX11_tree_42 rfl (lv_at hl 0 rfl) ?_
          refine qf_get hx hb hts inX11 hown hK hP (q0 := 0) (by decide) (hgM_0 ca o) rfl 53 (by decide) wq_1045 (v := .ref (o + 34)) rfl dX11_tree_43 ?_
          refine lv_iload_n hx hb dX11_tree_46 rfl (lv_at hl 1 rfl) ?_
          refine qa_iald hx hb hK hP (q0 := 34) (by decide) 0 (N := 6) (hgM_34 ca o) rfl (gi_in (by omega) (by omega)) dX11_tree_47 ?_
          refine lv_topi (fun x6 e6 => ?_)
          exact W.iret (v := x6) hx hb hr (fun t ht hW => ⟨⟨x6, (z3, y3), rfl, ⟨trivial, J3⟩, by rw [ht]; exact hP, va_K.moved hW.alike hK⟩, hS.F ht⟩) hS.2.2 dX11_tree_48
        · have t5 : a1.toInt = (0 : Int) := gl_eq c5
          refine lv_aload_n hx hb dX11_tree_33 rfl (lv_at hl 0 rfl) ?_
          refine qf_get hx hb hts inX11 hown hK hP (q0 := 0) (by decide) (hgM_0 ca o) rfl 52 (by decide) wq_1044 (v := .ref (o + 33)) rfl dX11_tree_34 ?_
          refine lv_iload_n hx hb dX11_tree_37 rfl (lv_at hl 1 rfl) ?_
          refine qa_iald hx hb hK hP (q0 := 33) (by decide) 0 (N := 6) (hgM_33 ca o) rfl (gi_in (by omega) (by omega)) dX11_tree_38 ?_
          refine lv_topi (fun x7 e7 => ?_)
          refine lv_goto (tgt := 48) hx hb dX11_tree_39 (by decide) ?_
          exact W.iret (v := x7) hx hb hr (fun t ht hW => ⟨⟨x7, (z3, y3), rfl, ⟨trivial, J3⟩, by rw [ht]; exact hP, va_K.moved hW.alike hK⟩, hS.F ht⟩) hS.2.2 dX11_tree_48
      · have t4 : r3.toInt = (0 : Int) := gl_eq c4
        refine lv_bipush (v := (-2)) hx hb dX11_tree_26 (by decide) ?_
        exact W.iret (v := (-2)) hx hb hr (fun t ht hW => ⟨⟨(-2), (z3, y3), rfl, ⟨trivial, J3⟩, by rw [ht]; exact hP, va_K.moved hW.alike hK⟩, hS.F ht⟩) hS.2.2 dX11_tree_28
    · subst hr2
      have hg2_0 : ¬ ((0 : Int) ≤ a1.toInt ∧ a1.toInt ≤ (1 : Int)) := hf2_0
      refine lv_if_ne (tgt := 19) hx hb dX11_tree_14 (by decide) (fun q => absurd q (by decide)) (fun _ => ?_)
      refine lv_iconst (v := (-1)) hx hb dX11_tree_17 (by decide) ?_
      exact W.iret (v := (-1)) hx hb hr (fun t ht hW => ⟨⟨(-1), (z, y), rfl, ⟨trivial, J0⟩, by rw [ht]; exact hP, va_K.moved hW.alike hK⟩, hS.F ht⟩) hS.2.2 dX11_tree_18
  · subst hr1
    have hg1_0 : ¬ pHas (z 0 4) a0 := hf1_0
    refine lv_if_eq (tgt := 17) hx hb dX11_tree_5 (by decide) (fun _ => ?_) (fun q => absurd (by decide) q)
    refine lv_iconst (v := (-1)) hx hb dX11_tree_17 (by decide) ?_
    exact W.iret (v := (-1)) hx hb hr (fun t ht hW => ⟨⟨(-1), (z, y), rfl, ⟨trivial, J0⟩, by rw [ht]; exact hP, va_K.moved hW.alike hK⟩, hS.F ht⟩) hS.2.2 dX11_tree_18
set_option maxRecDepth 100000 in
set_option maxHeartbeats 8000000 in
theorem m_lasting (l : Launch) (D : va_G) (ca : Nat → ClassId) (o : Nat) (b z : Nat → Nat → Int32) (y : Nat → Nat → Int64) (J0 : qJM b z) (a0 : Int32) (a1 : Int32) (ha0 : (0 : Int) ≤ a0.toInt ∧ a0.toInt ≤ 8) (ha1 : (0 : Int) ≤ a1.toInt ∧ a1.toInt ≤ 2040) : qM l yX11_lasting cX11_lasting 5 (some .int) 2 81 (qPre D vwCl (qT6 ca) o 41 (qG (GM ca o) z y) [.ref (o + 0), .int a0, .int a1]) (va_Qi (fun r (_ : Unit) => ((0 : Int) ≤ r.toInt ∧ r.toInt ≤ 2040)) (qB D vwCl (qT6 ca) o 41 (fun _ : Unit => qG (GM ca o) z y)) (qw_A o 41)) (qw_A o 41) := by
  refine Met.ofW (cc := cX11_lasting) (maxL := 5) (ret := (some .int)) (by decide) rfl ?_
  intro p e s m args below meth c s₁ B hml hv
  obtain ⟨rfl, hP, hK⟩ := hv
  have hx := B.exec
  have hb := B.bytes
  have hr := B.returns
  have hts0 := atoms_spec (ws := Cond.code yX11_lasting cX11_lasting 5 (some .int) :: qtbl) B.pre
  have hts : ∀ w ∈ qtbl, w.before _ s = true := fun w h => hts0 w (List.mem_cons_of_mem _ h)
  have hown : s.vm.findClass RX11 = some m.cls := findClass_of_methodNamed B.named
  have hlocks := B.notSynchronized
  have hS : va_S (qw_A o 41) s.heap s.heap [] := va_S.rf
  have hl := lv_entry ([.ref (o + 0), .int a0, .int a1]) (n := 5) (Nat.le_of_ble_eq_true rfl)
  rw [lg_entry_eq]
  generalize (lg_sl ([.ref (o + 0), .int a0, .int a1]) ++ List.replicate (5 - (lg_sl ([.ref (o + 0), .int a0, .int a1])).length) Slot.unset).toArray = ls at hl ⊢
  have hl : lv_has ls 5 [(0, .ref (o + 0)), (1, .int a0), (2, .int a1)] := hl
  refine lv_iconst (v := 0) hx hb dX11_lasting_0 (by decide) ?_
  refine lv_istore_n (lv' := [(3, .int 0), (0, .ref (o + 0)), (1, .int a0), (2, .int a1)]) hx hb dX11_lasting_1 rfl hl (by decide) rfl (fun ls hl => ?_)
  refine lv_iconst (v := 0) hx hb dX11_lasting_2 (by decide) ?_
  refine lv_istore (lv' := [(4, .int 0), (3, .int 0), (0, .ref (o + 0)), (1, .int a0), (2, .int a1)]) hx hb dX11_lasting_3 hl (by decide) rfl (fun ls hl => ?_)
  have loop1 : ∀ (n : Nat) (w1_4 : Int32) (w1_3 : Int32), ((98 - w1_4.toInt : Int) < (n : Int)) → ((0 : Int) ≤ w1_4.toInt ∧ w1_4.toInt ≤ 98) → ((0 : Int) ≤ w1_3.toInt ∧ w1_3.toInt ≤ 2040) → (w1_3.toInt ≤ 255 * w1_4.toInt) → ∀ (H : Heap) (locs : List Loc), qw_P D vwCl o 41 (qG (GM ca o) z y) H → va_S (qw_A o 41) s.heap H locs → ∀ (ls : Array Slot), lv_has ls 5 [(4, .int w1_4), (3, .int w1_3), (0, .ref (o + 0)), (1, .int a0), (2, .int a1)] → W p l e (headSpec (Cond.code yX11_lasting cX11_lasting 5 (some .int) :: qtbl) ({ frames := 2, cells := 0, slots := 0, locals := 81 })).room s m (([.ref (o + 0), .int a0, .int a1] : List Value).toArray) below meth c H locs 0 0 (MQ below (va_Qi (fun r (_ : Unit) => ((0 : Int) ≤ r.toInt ∧ r.toInt ≤ 2040)) (qB D vwCl (qT6 ca) o 41 (fun _ : Unit => qG (GM ca o) z y)) (qw_A o 41)) (([.ref (o + 0), .int a0, .int a1] : List Value).toArray) s 0 0 (qw_A o 41)) (F0 m 5 ls []) := by
    intro n
    induction n with
    | zero => intro w1_4 w1_3 hb1 hv1_4 hv1_3 v1_0; exfalso; omega
    | succ n1 ih1 =>
      intro w1_4 w1_3 hb1 hv1_4 hv1_3 v1_0 H locs hP hS ls hl
      refine lv_iload hx hb dX11_lasting_5 (lv_at hl 0 rfl) ?_
      refine lv_iload_n hx hb dX11_lasting_7 rfl (lv_at hl 3 rfl) ?_
      refine lv_icmp_ge (tgt := 30) hx hb dX11_lasting_8 (by decide) (fun c2 => ?_) (fun c2 => ?_)
      · have t2 : w1_4.toInt ≥ a0.toInt := gl_le c2
        refine lv_iload_n hx hb dX11_lasting_30 rfl (lv_at hl 1 rfl) ?_
        exact W.iret (v := w1_3) hx hb hr (fun t ht hW => ⟨⟨w1_3, (), rfl, ⟨by omega, by omega⟩, by rw [ht]; exact hP, va_K.moved hW.alike hK⟩, hS.F ht⟩) hS.2.2 dX11_lasting_31
      · have t2 : w1_4.toInt < a0.toInt := gl_nle c2
        refine lv_iload_n hx hb dX11_lasting_11 rfl (lv_at hl 1 rfl) ?_
        refine lv_iload_n hx hb dX11_lasting_12 rfl (lv_at hl 4 rfl) ?_
        refine lv_aload_n hx hb dX11_lasting_13 rfl (lv_at hl 2 rfl) ?_
        refine lv_iload hx hb dX11_lasting_14 (lv_at hl 0 rfl) ?_
        refine qc_Vip (As := [.int w1_4]) (rest := [.int a1, .int w1_3]) (k0 := 1) (m_octet l D ca o b z y J0 w1_4 ⟨by omega, by omega⟩) kc_yX11_octet ⟨hx, hb, hml, hown, hts⟩ wq_1237 rfl rfl ⟨Nat.le_of_ble_eq_true rfl, Nat.le_of_ble_eq_true rfl⟩ wq_all hP hK hS qw_Ai (q0 := 0) (by decide) (hgM_0 ca o _ _) rfl rfl hl.1 rfl (Nat.le_of_ble_eq_true rfl) dX11_lasting_16 ⟨Nat.zero_le _, Nat.zero_le _⟩ (fun r3 H locs h3 hP hS _ _ => ?_)
        have p3_1 : r3 = z 12 w1_4.toNatClampNeg &&& 255 := h3.2
        have b3 : (0 : Int) ≤ r3.toInt ∧ r3.toInt ≤ 255 := h3.1
        refine qc_Sip (As := [.int a1, .int r3]) (rest := [.int w1_3]) (k0 := 2) (m_min l D ca o b z y J0 a1 r3) kc_yX11_min ⟨hx, hb, hml, hown, hts⟩ wq_1390 rfl rfl ⟨Nat.le_of_ble_eq_true rfl, Nat.le_of_ble_eq_true rfl⟩ wq_all hP hK hS qw_Ai rfl hl.1 rfl (Nat.le_of_ble_eq_true rfl) dX11_lasting_19 ⟨Nat.zero_le _, Nat.zero_le _⟩ (fun r4 H locs h4 hP hS _ _ => ?_)
        have p4_1 : r4.toInt = min a1.toInt r3.toInt := h4.2
        refine lv_iadd hx hb dX11_lasting_22 ?_
        refine lv_topi (fun x5 e5 => ?_)
        have t5 : x5.toInt = w1_3.toInt + r4.toInt := ga_add e5 rfl rfl (by omega) (by omega)
        refine lv_istore_n (lv' := [(3, .int x5), (4, .int w1_4), (0, .ref (o + 0)), (1, .int a0), (2, .int a1)]) hx hb dX11_lasting_23 rfl hl (by decide) rfl (fun ls hl => ?_)
        obtain ⟨x6, e6⟩ : ∃ t : Int32, t = w1_4 + 1 := ⟨_, rfl⟩
        refine lv_iinc (v := x6) (lv' := [(4, .int x6), (3, .int x5), (0, .ref (o + 0)), (1, .int a0), (2, .int a1)]) hx hb dX11_lasting_24 hl (k := 1) rfl (by rw [e6]; rfl) (by decide) rfl (fun ls hl => ?_)
        have t6 : x6.toInt = w1_4.toInt + (1 : Int) := ga_add e6 rfl rfl (by omega) (by omega)
        refine lv_goto (tgt := 5) hx hb dX11_lasting_27 (by decide) ?_
        exact ih1 x6 x5 (show (98 - x6.toInt : Int) < (n1 : Int) from by omega) ⟨by omega, by omega⟩ ⟨by omega, by omega⟩ (show x5.toInt ≤ 255 * x6.toInt from by omega) _ _ hP hS _ (lv_sub hl [0, 1, 2, 3, 4] rfl)
  exact loop1 99 0 0 (show (98 - (0 : Int) : Int) < ((99 : Nat) : Int) from by omega) ⟨by decide, by decide⟩ ⟨by decide, by decide⟩ (show (0 : Int) ≤ 255 * (0 : Int) from by omega) _ _ hP hS _ (lv_sub hl [0, 1, 2, 3, 4] rfl)
set_option maxRecDepth 100000 in
set_option maxHeartbeats 8000000 in
theorem m_tyres (l : Launch) (D : va_G) (ca : Nat → ClassId) (o : Nat) (b z : Nat → Nat → Int32) (y : Nat → Nat → Int64) (J0 : qJM b z) (a0 : Int32) (a1 : Int32)  : qM l yX11_tyres cX11_tyres 5 (some .int) 3 105 (qPre D vwCl (qT6 ca) o 41 (qG (GM ca o) z y) [.ref (o + 0), .int a0, .int a1]) (va_Qi (fun r u => ((-3 : Int) ≤ r.toInt ∧ r.toInt ≤ 2040) ∧ qJM b u.1) (qB D vwCl (qT6 ca) o 41 (fun u : qZ => qG (GM ca o) u.1 u.2)) (qw_A o 41)) (qw_A o 41) := by
  refine Met.ofW (cc := cX11_tyres) (maxL := 5) (ret := (some .int)) (by decide) rfl ?_
  intro p e s m args below meth c s₁ B hml hv
  obtain ⟨rfl, hP, hK⟩ := hv
  have hx := B.exec
  have hb := B.bytes
  have hr := B.returns
  have hts0 := atoms_spec (ws := Cond.code yX11_tyres cX11_tyres 5 (some .int) :: qtbl) B.pre
  have hts : ∀ w ∈ qtbl, w.before _ s = true := fun w h => hts0 w (List.mem_cons_of_mem _ h)
  have hown : s.vm.findClass RX11 = some m.cls := findClass_of_methodNamed B.named
  have hlocks := B.notSynchronized
  have hS : va_S (qw_A o 41) s.heap s.heap [] := va_S.rf
  have hl := lv_entry ([.ref (o + 0), .int a0, .int a1]) (n := 5) (Nat.le_of_ble_eq_true rfl)
  rw [lg_entry_eq]
  generalize (lg_sl ([.ref (o + 0), .int a0, .int a1]) ++ List.replicate (5 - (lg_sl ([.ref (o + 0), .int a0, .int a1])).length) Slot.unset).toArray = ls at hl ⊢
  have hl : lv_has ls 5 [(0, .ref (o + 0)), (1, .int a0), (2, .int a1)] := hl
  refine lv_iload_n hx hb dX11_tyres_0 rfl (lv_at hl 1 rfl) ?_
  refine lv_iconst (v := 1) hx hb dX11_tyres_1 (by decide) ?_
  refine lv_bipush (v := 8) hx hb dX11_tyres_2 (by decide) ?_
  refine qc_Sip (As := [.int a0, .int 1, .int 8]) (rest := []) (k0 := 3) (m_in l D ca o b z y J0 a0 1 8) kc_yX11_in ⟨hx, hb, hml, hown, hts⟩ wq_1187 rfl rfl ⟨Nat.le_of_ble_eq_true rfl, Nat.le_of_ble_eq_true rfl⟩ wq_all hP hK hS qw_Ai rfl hl.1 rfl (Nat.le_of_ble_eq_true rfl) dX11_tyres_4 ⟨Nat.zero_le _, Nat.zero_le _⟩ (fun r1 H locs h1 hP hS _ _ => ?_)
  rcases h1 with ⟨hr1, hf1_0⟩ | ⟨hr1, hf1_0⟩
  · subst hr1
    have hg1_0 : (1 : Int) ≤ a0.toInt ∧ a0.toInt ≤ (8 : Int) := hf1_0
    refine lv_if_eq (tgt := 28) hx hb dX11_tyres_7 (by decide) (fun q => absurd q (by decide)) (fun _ => ?_)
    refine lv_iload_n hx hb dX11_tyres_10 rfl (lv_at hl 2 rfl) ?_
    refine lv_iconst (v := 1) hx hb dX11_tyres_11 (by decide) ?_
    refine lv_bipush (v := 8) hx hb dX11_tyres_12 (by decide) ?_
    refine qc_Sip (As := [.int a1, .int 1, .int 8]) (rest := []) (k0 := 3) (m_in l D ca o b z y J0 a1 1 8) kc_yX11_in ⟨hx, hb, hml, hown, hts⟩ wq_1187 rfl rfl ⟨Nat.le_of_ble_eq_true rfl, Nat.le_of_ble_eq_true rfl⟩ wq_all hP hK hS qw_Ai rfl hl.1 rfl (Nat.le_of_ble_eq_true rfl) dX11_tyres_14 ⟨Nat.zero_le _, Nat.zero_le _⟩ (fun r2 H locs h2 hP hS _ _ => ?_)
    rcases h2 with ⟨hr2, hf2_0⟩ | ⟨hr2, hf2_0⟩
    · subst hr2
      have hg2_0 : (1 : Int) ≤ a1.toInt ∧ a1.toInt ≤ (8 : Int) := hf2_0
      refine lv_if_eq (tgt := 28) hx hb dX11_tyres_17 (by decide) (fun q => absurd q (by decide)) (fun _ => ?_)
      refine lv_iload_n hx hb dX11_tyres_20 rfl (lv_at hl 1 rfl) ?_
      refine lv_aload_n hx hb dX11_tyres_21 rfl (lv_at hl 0 rfl) ?_
      refine qf_get hx hb hts inX11 hown hK hP (q0 := 0) (by decide) (hgM_0 ca o) rfl 15 (by decide) wq_1008 (v := .int (z 0 15)) rfl dX11_tyres_22 ?_
      refine lv_topi (fun x3 e3 => ?_)
      have b3 := iM_0_15 J0 e3
      refine lv_icmp_le (tgt := 30) hx hb dX11_tyres_25 (by decide) (fun c4 => ?_) (fun c4 => ?_)
      · have t4 : a0.toInt ≤ x3.toInt := gl_le c4
        refine lv_aload_n hx hb dX11_tyres_30 rfl (lv_at hl 0 rfl) ?_
        refine lv_iconst (v := 0) hx hb dX11_tyres_31 (by decide) ?_
        refine qf_put2 hx hb hts inX11 tyX11 tyX11_ok nmX11 hown hK hP hS qw_Ai (q0 := 0) (by decide) (hgM_0 ca o) rfl 15 (by decide) wq_1008 rfl (x := 0) 15 rfl rfl rfl (Nat.le_of_ble_eq_true rfl) dX11_tyres_32 (fun z5 H locs hz5 hP hS => ?_)
        have J5 := jM_0_15 J0 hz5 ⟨by decide, by decide⟩
        refine lv_iconst (v := 0) hx hb dX11_tyres_35 (by decide) ?_
        refine lv_istore_n (lv' := [(3, .int 0), (0, .ref (o + 0)), (1, .int a0), (2, .int a1)]) hx hb dX11_tyres_36 rfl hl (by decide) rfl (fun ls hl => ?_)
        refine lv_iconst (v := 0) hx hb dX11_tyres_37 (by decide) ?_
        refine lv_istore (lv' := [(4, .int 0), (3, .int 0), (0, .ref (o + 0)), (1, .int a0), (2, .int a1)]) hx hb dX11_tyres_38 hl (by decide) rfl (fun ls hl => ?_)
        have loop6 : ∀ (n : Nat) (w6_4 : Int32) (w6_3 : Int32), ((8 - w6_4.toInt : Int) < (n : Int)) → ((0 : Int) ≤ w6_4.toInt ∧ w6_4.toInt ≤ 8) → ((0 : Int) ≤ w6_3.toInt ∧ w6_3.toInt ≤ 2040) → (w6_3.toInt ≤ 255 * w6_4.toInt) → ∀ (H : Heap) (locs : List Loc), qw_P D vwCl o 41 (qG (GM ca o) z5 y) H → va_S (qw_A o 41) s.heap H locs → ∀ (ls : Array Slot), lv_has ls 5 [(4, .int w6_4), (3, .int w6_3), (0, .ref (o + 0)), (1, .int a0), (2, .int a1)] → W p l e (headSpec (Cond.code yX11_tyres cX11_tyres 5 (some .int) :: qtbl) ({ frames := 3, cells := 0, slots := 0, locals := 105 })).room s m (([.ref (o + 0), .int a0, .int a1] : List Value).toArray) below meth c H locs 0 0 (MQ below (va_Qi (fun r u => ((-3 : Int) ≤ r.toInt ∧ r.toInt ≤ 2040) ∧ qJM b u.1) (qB D vwCl (qT6 ca) o 41 (fun u : qZ => qG (GM ca o) u.1 u.2)) (qw_A o 41)) (([.ref (o + 0), .int a0, .int a1] : List Value).toArray) s 0 0 (qw_A o 41)) (F0 m 40 ls []) := by
          intro n
          induction n with
          | zero => intro w6_4 w6_3 hb6 hv6_4 hv6_3 v6_0; exfalso; omega
          | succ n6 ih6 =>
            intro w6_4 w6_3 hb6 hv6_4 hv6_3 v6_0 H locs hP hS ls hl
            refine lv_iload hx hb dX11_tyres_40 (lv_at hl 0 rfl) ?_
            refine lv_iload_n hx hb dX11_tyres_42 rfl (lv_at hl 3 rfl) ?_
            refine lv_icmp_ge (tgt := 73) hx hb dX11_tyres_43 (by decide) (fun c7 => ?_) (fun c7 => ?_)
            · have t7 : w6_4.toInt ≥ a0.toInt := gl_le c7
              refine lv_iload_n hx hb dX11_tyres_73 rfl (lv_at hl 3 rfl) ?_
              refine lv_iload_n hx hb dX11_tyres_74 rfl (lv_at hl 4 rfl) ?_
              refine lv_icmp_ge (tgt := 81) hx hb dX11_tyres_75 (by decide) (fun c8 => ?_) (fun c8 => ?_)
              · have t8 : a0.toInt ≥ a1.toInt := gl_le c8
                refine lv_iload_n hx hb dX11_tyres_81 rfl (lv_at hl 1 rfl) ?_
                refine lv_istore (lv' := [(4, .int w6_3), (3, .int w6_3), (0, .ref (o + 0)), (1, .int a0), (2, .int a1)]) hx hb dX11_tyres_82 hl (by decide) rfl (fun ls hl => ?_)
                have loop9 : ∀ (n : Nat) (w9_4 : Int32), ((w9_4.toInt : Int) < (n : Int)) → ((0 : Int) ≤ w9_4.toInt ∧ w9_4.toInt ≤ 2040) → ∀ (H : Heap) (locs : List Loc), qw_P D vwCl o 41 (qG (GM ca o) z5 y) H → va_S (qw_A o 41) s.heap H locs → ∀ (ls : Array Slot), lv_has ls 5 [(4, .int w9_4), (3, .int w6_3), (0, .ref (o + 0)), (1, .int a0), (2, .int a1)] → W p l e (headSpec (Cond.code yX11_tyres cX11_tyres 5 (some .int) :: qtbl) ({ frames := 3, cells := 0, slots := 0, locals := 105 })).room s m (([.ref (o + 0), .int a0, .int a1] : List Value).toArray) below meth c H locs 0 0 (MQ below (va_Qi (fun r u => ((-3 : Int) ≤ r.toInt ∧ r.toInt ≤ 2040) ∧ qJM b u.1) (qB D vwCl (qT6 ca) o 41 (fun u : qZ => qG (GM ca o) u.1 u.2)) (qw_A o 41)) (([.ref (o + 0), .int a0, .int a1] : List Value).toArray) s 0 0 (qw_A o 41)) (F0 m 84 ls []) := by
                  intro n
                  induction n with
                  | zero => intro w9_4 hb9 hv9_4; exfalso; omega
                  | succ n9 ih9 =>
                    intro w9_4 hb9 hv9_4 H locs hP hS ls hl
                    refine lv_aload_n hx hb dX11_tyres_84 rfl (lv_at hl 2 rfl) ?_
                    refine lv_iload_n hx hb dX11_tyres_85 rfl (lv_at hl 3 rfl) ?_
                    refine lv_iload hx hb dX11_tyres_86 (lv_at hl 0 rfl) ?_
                    refine qc_Vip (As := [.int a0, .int w9_4]) (rest := []) (k0 := 2) (m_lasting l D ca o b z5 y J5 a0 w9_4 ⟨by omega, by omega⟩ ⟨by omega, by omega⟩) kc_yX11_lasting ⟨hx, hb, hml, hown, hts⟩ wq_1559 rfl rfl ⟨Nat.le_of_ble_eq_true rfl, Nat.le_of_ble_eq_true rfl⟩ wq_all hP hK hS qw_Ai (q0 := 0) (by decide) (hgM_0 ca o _ _) rfl rfl hl.1 rfl (Nat.le_of_ble_eq_true rfl) dX11_tyres_88 ⟨Nat.zero_le _, Nat.zero_le _⟩ (fun r10 H locs h10 hP hS _ _ => ?_)
                    have b10 : (0 : Int) ≤ r10.toInt ∧ r10.toInt ≤ 2040 := h10
                    refine lv_iload_n hx hb dX11_tyres_91 rfl (lv_at hl 4 rfl) ?_
                    refine lv_iload hx hb dX11_tyres_92 (lv_at hl 0 rfl) ?_
                    refine lv_imul hx hb dX11_tyres_94 ?_
                    refine lv_topi (fun x11 e11 => ?_)
                    have mz11 : w9_4.toInt = 0 → x11.toInt = 0 := fun h => ga_mulz e11 h
                    refine lv_icmp_ge (tgt := 107) hx hb dX11_tyres_95 (by decide) (fun c12 => ?_) (fun c12 => ?_)
                    · have t12 : r10.toInt ≥ x11.toInt := gl_le c12
                      refine lv_iload hx hb dX11_tyres_107 (lv_at hl 0 rfl) ?_
                      exact W.iret (v := w9_4) hx hb hr (fun t ht hW => ⟨⟨w9_4, (z5, y), rfl, ⟨⟨by omega, by omega⟩, J5⟩, by rw [ht]; exact hP, va_K.moved hW.alike hK⟩, hS.F ht⟩) hS.2.2 dX11_tyres_109
                    · have t12 : r10.toInt < x11.toInt := gl_nle c12
                      refine lv_iload hx hb dX11_tyres_98 (lv_at hl 0 rfl) ?_
                      refine lv_iconst (v := 1) hx hb dX11_tyres_100 (by decide) ?_
                      refine lv_isub hx hb dX11_tyres_101 ?_
                      refine lv_topi (fun x13 e13 => ?_)
                      have t13 : x13.toInt = w9_4.toInt - (1 : Int) := ga_sub e13 rfl rfl (by omega) (by omega)
                      refine lv_istore (lv' := [(4, .int x13), (3, .int w6_3), (0, .ref (o + 0)), (1, .int a0), (2, .int a1)]) hx hb dX11_tyres_102 hl (by decide) rfl (fun ls hl => ?_)
                      refine lv_goto (tgt := 84) hx hb dX11_tyres_104 (by decide) ?_
                      exact ih9 x13 (show (x13.toInt : Int) < (n9 : Int) from by omega) ⟨by omega, by omega⟩ _ _ hP hS _ (lv_sub hl [0, 1, 2, 3, 4] rfl)
                exact loop9 2041 w6_3 (show (w6_3.toInt : Int) < ((2041 : Nat) : Int) from by omega) ⟨by omega, by omega⟩ _ _ hP hS _ (lv_sub hl [0, 1, 2, 3, 4] rfl)
              · have t8 : a0.toInt < a1.toInt := gl_nle c8
                refine lv_bipush (v := (-3)) hx hb dX11_tyres_78 (by decide) ?_
                exact W.iret (v := (-3)) hx hb hr (fun t ht hW => ⟨⟨(-3), (z5, y), rfl, ⟨⟨by decide, by decide⟩, J5⟩, by rw [ht]; exact hP, va_K.moved hW.alike hK⟩, hS.F ht⟩) hS.2.2 dX11_tyres_80
            · have t7 : w6_4.toInt < a0.toInt := gl_nle c7
              refine lv_aload_n hx hb dX11_tyres_46 rfl (lv_at hl 2 rfl) ?_
              refine lv_iload hx hb dX11_tyres_47 (lv_at hl 0 rfl) ?_
              refine qc_Vip (As := [.int w6_4]) (rest := []) (k0 := 1) (m_octet l D ca o b z5 y J5 w6_4 ⟨by omega, by omega⟩) kc_yX11_octet ⟨hx, hb, hml, hown, hts⟩ wq_1237 rfl rfl ⟨Nat.le_of_ble_eq_true rfl, Nat.le_of_ble_eq_true rfl⟩ wq_all hP hK hS qw_Ai (q0 := 0) (by decide) (hgM_0 ca o _ _) rfl rfl hl.1 rfl (Nat.le_of_ble_eq_true rfl) dX11_tyres_49 ⟨Nat.zero_le _, Nat.zero_le _⟩ (fun r14 H locs h14 hP hS _ _ => ?_)
              have p14_1 : r14 = z5 12 w6_4.toNatClampNeg &&& 255 := h14.2
              have b14 : (0 : Int) ≤ r14.toInt ∧ r14.toInt ≤ 255 := h14.1
              refine lv_if_ne (tgt := 58) hx hb dX11_tyres_52 (by decide) (fun c15 => ?_) (fun c15 => ?_)
              · have t15 : r14.toInt ≠ (0 : Int) := gl_ne c15
                refine lv_iload_n hx hb dX11_tyres_58 rfl (lv_at hl 1 rfl) ?_
                refine lv_aload_n hx hb dX11_tyres_59 rfl (lv_at hl 2 rfl) ?_
                refine lv_iload hx hb dX11_tyres_60 (lv_at hl 0 rfl) ?_
                refine qc_Vip (As := [.int w6_4]) (rest := [.int w6_3]) (k0 := 1) (m_octet l D ca o b z5 y J5 w6_4 ⟨by omega, by omega⟩) kc_yX11_octet ⟨hx, hb, hml, hown, hts⟩ wq_1237 rfl rfl ⟨Nat.le_of_ble_eq_true rfl, Nat.le_of_ble_eq_true rfl⟩ wq_all hP hK hS qw_Ai (q0 := 0) (by decide) (hgM_0 ca o _ _) rfl rfl hl.1 rfl (Nat.le_of_ble_eq_true rfl) dX11_tyres_62 ⟨Nat.zero_le _, Nat.zero_le _⟩ (fun r16 H locs h16 hP hS _ _ => ?_)
                have p16_1 : r16 = z5 12 w6_4.toNatClampNeg &&& 255 := h16.2
                have b16 : (0 : Int) ≤ r16.toInt ∧ r16.toInt ≤ 255 := h16.1
                refine lv_iadd hx hb dX11_tyres_65 ?_
                refine lv_topi (fun x17 e17 => ?_)
                have t17 : x17.toInt = w6_3.toInt + r16.toInt := ga_add e17 rfl rfl (by omega) (by omega)
                refine lv_istore_n (lv' := [(3, .int x17), (4, .int w6_4), (0, .ref (o + 0)), (1, .int a0), (2, .int a1)]) hx hb dX11_tyres_66 rfl hl (by decide) rfl (fun ls hl => ?_)
                obtain ⟨x18, e18⟩ : ∃ t : Int32, t = w6_4 + 1 := ⟨_, rfl⟩
                refine lv_iinc (v := x18) (lv' := [(4, .int x18), (3, .int x17), (0, .ref (o + 0)), (1, .int a0), (2, .int a1)]) hx hb dX11_tyres_67 hl (k := 1) rfl (by rw [e18]; rfl) (by decide) rfl (fun ls hl => ?_)
                have t18 : x18.toInt = w6_4.toInt + (1 : Int) := ga_add e18 rfl rfl (by omega) (by omega)
                refine lv_goto (tgt := 40) hx hb dX11_tyres_70 (by decide) ?_
                exact ih6 x18 x17 (show (8 - x18.toInt : Int) < (n6 : Int) from by omega) ⟨by omega, by omega⟩ ⟨by omega, by omega⟩ (show x17.toInt ≤ 255 * x18.toInt from by omega) _ _ hP hS _ (lv_sub hl [0, 1, 2, 3, 4] rfl)
              · have t15 : r14.toInt = (0 : Int) := gl_eq c15
                refine lv_bipush (v := (-2)) hx hb dX11_tyres_55 (by decide) ?_
                exact W.iret (v := (-2)) hx hb hr (fun t ht hW => ⟨⟨(-2), (z5, y), rfl, ⟨⟨by decide, by decide⟩, J5⟩, by rw [ht]; exact hP, va_K.moved hW.alike hK⟩, hS.F ht⟩) hS.2.2 dX11_tyres_57
        exact loop6 9 0 0 (show (8 - (0 : Int) : Int) < ((9 : Nat) : Int) from by omega) ⟨by decide, by decide⟩ ⟨by decide, by decide⟩ (show (0 : Int) ≤ 255 * (0 : Int) from by omega) _ _ hP hS _ (lv_sub hl [0, 1, 2, 3, 4] rfl)
      · have t4 : a0.toInt > x3.toInt := gl_nle c4
        refine lv_iconst (v := (-1)) hx hb dX11_tyres_28 (by decide) ?_
        exact W.iret (v := (-1)) hx hb hr (fun t ht hW => ⟨⟨(-1), (z, y), rfl, ⟨⟨by decide, by decide⟩, J0⟩, by rw [ht]; exact hP, va_K.moved hW.alike hK⟩, hS.F ht⟩) hS.2.2 dX11_tyres_29
    · subst hr2
      have hg2_0 : ¬ ((1 : Int) ≤ a1.toInt ∧ a1.toInt ≤ (8 : Int)) := hf2_0
      refine lv_if_eq (tgt := 28) hx hb dX11_tyres_17 (by decide) (fun _ => ?_) (fun q => absurd (by decide) q)
      refine lv_iconst (v := (-1)) hx hb dX11_tyres_28 (by decide) ?_
      exact W.iret (v := (-1)) hx hb hr (fun t ht hW => ⟨⟨(-1), (z, y), rfl, ⟨⟨by decide, by decide⟩, J0⟩, by rw [ht]; exact hP, va_K.moved hW.alike hK⟩, hS.F ht⟩) hS.2.2 dX11_tyres_29
  · subst hr1
    have hg1_0 : ¬ ((1 : Int) ≤ a0.toInt ∧ a0.toInt ≤ (8 : Int)) := hf1_0
    refine lv_if_eq (tgt := 28) hx hb dX11_tyres_7 (by decide) (fun _ => ?_) (fun q => absurd (by decide) q)
    refine lv_iconst (v := (-1)) hx hb dX11_tyres_28 (by decide) ?_
    exact W.iret (v := (-1)) hx hb hr (fun t ht hW => ⟨⟨(-1), (z, y), rfl, ⟨⟨by decide, by decide⟩, J0⟩, by rw [ht]; exact hP, va_K.moved hW.alike hK⟩, hS.F ht⟩) hS.2.2 dX11_tyres_29
set_option maxRecDepth 100000 in
set_option maxHeartbeats 8000000 in
theorem m_stateOf (l : Launch) (D : va_G) (ca : Nat → ClassId) (o : Nat) (b z : Nat → Nat → Int32) (y : Nat → Nat → Int64) (J0 : qJM b z) (a0 : Int32) (a1 : Int32) (a2 : Int32) (ha0 : (0 : Int) ≤ a0.toInt ∧ a0.toInt ≤ 20) (ha1 : (0 : Int) ≤ a1.toInt ∧ a1.toInt ≤ 20) (ha2 : (0 : Int) ≤ a2.toInt ∧ a2.toInt ≤ 20) : qM l yX11_stateOf cX11_stateOf 3 (some .int) 1 60 (qPre D vwCl (qT6 ca) o 41 (qG (GM ca o) z y) [.int a0, .int a1, .int a2]) (va_Qi (fun r (_ : Unit) => ((0 : Int) ≤ r.toInt ∧ r.toInt ≤ 9260) ∧ (r.toInt = a0.toInt + 21 * a1.toInt + 441 * a2.toInt)) (qB D vwCl (qT6 ca) o 41 (fun _ : Unit => qG (GM ca o) z y)) (qw_A o 41)) (qw_A o 41) := by
  refine Met.ofW (cc := cX11_stateOf) (maxL := 3) (ret := (some .int)) (by decide) rfl ?_
  intro p e s m args below meth c s₁ B hml hv
  obtain ⟨rfl, hP, hK⟩ := hv
  have hx := B.exec
  have hb := B.bytes
  have hr := B.returns
  have hts0 := atoms_spec (ws := Cond.code yX11_stateOf cX11_stateOf 3 (some .int) :: qtbl) B.pre
  have hts : ∀ w ∈ qtbl, w.before _ s = true := fun w h => hts0 w (List.mem_cons_of_mem _ h)
  have hown : s.vm.findClass RX11 = some m.cls := findClass_of_methodNamed B.named
  have hlocks := B.notSynchronized
  have hS : va_S (qw_A o 41) s.heap s.heap [] := va_S.rf
  have hl := lv_entry ([.int a0, .int a1, .int a2]) (n := 3) (Nat.le_of_ble_eq_true rfl)
  rw [lg_entry_eq]
  generalize (lg_sl ([.int a0, .int a1, .int a2]) ++ List.replicate (3 - (lg_sl ([.int a0, .int a1, .int a2])).length) Slot.unset).toArray = ls at hl ⊢
  have hl : lv_has ls 3 [(0, .int a0), (1, .int a1), (2, .int a2)] := hl
  refine lv_iload_n hx hb dX11_stateOf_0 rfl (lv_at hl 0 rfl) ?_
  refine lv_bipush (v := 21) hx hb dX11_stateOf_1 (by decide) ?_
  refine lv_iload_n hx hb dX11_stateOf_3 rfl (lv_at hl 1 rfl) ?_
  refine lv_imul hx hb dX11_stateOf_4 ?_
  refine lv_topi (fun x1 e1 => ?_)
  have t1 : x1.toInt = (21 : Int) * a1.toInt := ga_mul e1 rfl rfl (by omega) (by omega)
  refine lv_iadd hx hb dX11_stateOf_5 ?_
  refine lv_topi (fun x2 e2 => ?_)
  have t2 : x2.toInt = a0.toInt + x1.toInt := ga_add e2 rfl rfl (by omega) (by omega)
  refine lv_sipush (v := 441) hx hb dX11_stateOf_6 (by decide) ?_
  refine lv_iload_n hx hb dX11_stateOf_9 rfl (lv_at hl 2 rfl) ?_
  refine lv_imul hx hb dX11_stateOf_10 ?_
  refine lv_topi (fun x3 e3 => ?_)
  have t3 : x3.toInt = (441 : Int) * a2.toInt := ga_mul e3 rfl rfl (by omega) (by omega)
  refine lv_iadd hx hb dX11_stateOf_11 ?_
  refine lv_topi (fun x4 e4 => ?_)
  have t4 : x4.toInt = x2.toInt + x3.toInt := ga_add e4 rfl rfl (by omega) (by omega)
  exact W.iret (v := x4) hx hb hr (fun t ht hW => ⟨⟨x4, (), rfl, ⟨⟨by omega, by omega⟩, (show x4.toInt = a0.toInt + 21 * a1.toInt + 441 * a2.toInt from by omega)⟩, by rw [ht]; exact hP, va_K.moved hW.alike hK⟩, hS.F ht⟩) hS.2.2 dX11_stateOf_12
set_option maxRecDepth 100000 in
set_option maxHeartbeats 8000000 in
theorem m_reaches (l : Launch) (D : va_G) (ca : Nat → ClassId) (o : Nat) (b z : Nat → Nat → Int32) (y : Nat → Nat → Int64) (J0 : qJM b z) (a0 : Int32) (a1 : Int32) (ha0 : (0 : Int) ≤ a0.toInt ∧ a0.toInt ≤ 9260) (hp0 : okS z a0) (hp1 : btI z) (hp2 : 0 ≤ a1.toInt ∧ a1.toInt ≤ (z 0 58).toInt + 1) : qM l yX11_reaches cX11_reaches 3 none 1 60 (qPre D vwCl (qT6 ca) o 41 (qG (GM ca o) z y) [.ref (o + 0), .int a0, .int a1]) (va_Qv (fun u => qJM b u.1 ∧ u.1 35 = z 35 ∧ (btI u.1)) (qB D vwCl (qT6 ca) o 41 (fun u : qZ => qG (GM ca o) u.1 u.2)) (qw_A o 41)) (qw_A o 41) := by
  refine Met.ofW (cc := cX11_reaches) (maxL := 3) (ret := none) (by decide) rfl ?_
  intro p e s m args below meth c s₁ B hml hv
  obtain ⟨rfl, hP, hK⟩ := hv
  have hx := B.exec
  have hb := B.bytes
  have hr := B.returns
  have hts0 := atoms_spec (ws := Cond.code yX11_reaches cX11_reaches 3 none :: qtbl) B.pre
  have hts : ∀ w ∈ qtbl, w.before _ s = true := fun w h => hts0 w (List.mem_cons_of_mem _ h)
  have hown : s.vm.findClass RX11 = some m.cls := findClass_of_methodNamed B.named
  have hlocks := B.notSynchronized
  have hS : va_S (qw_A o 41) s.heap s.heap [] := va_S.rf
  have hl := lv_entry ([.ref (o + 0), .int a0, .int a1]) (n := 3) (Nat.le_of_ble_eq_true rfl)
  rw [lg_entry_eq]
  generalize (lg_sl ([.ref (o + 0), .int a0, .int a1]) ++ List.replicate (3 - (lg_sl ([.ref (o + 0), .int a0, .int a1])).length) Slot.unset).toArray = ls at hl ⊢
  have hl : lv_has ls 3 [(0, .ref (o + 0)), (1, .int a0), (2, .int a1)] := hl
  refine lv_aload_n hx hb dX11_reaches_0 rfl (lv_at hl 0 rfl) ?_
  refine qf_get hx hb hts inX11 hown hK hP (q0 := 0) (by decide) (hgM_0 ca o) rfl 57 (by decide) wq_1049 (v := .ref (o + 38)) rfl dX11_reaches_1 ?_
  refine lv_iload_n hx hb dX11_reaches_4 rfl (lv_at hl 1 rfl) ?_
  refine qa_iald hx hb hK hP (q0 := 38) (by decide) 0 (N := 9261) (hgM_38 ca o) rfl (gi_in (by omega) (by omega)) dX11_reaches_5 ?_
  refine lv_topi (fun x1 e1 => ?_)
  have rl1 : x1.toInt = x1.toInt := rfl
  refine lv_iconst (v := (-1)) hx hb dX11_reaches_6 (by decide) ?_
  refine lv_icmp_eq (tgt := 11) hx hb dX11_reaches_7 (by decide) (fun c2 => ?_) (fun c2 => ?_)
  · have t2 : x1.toInt = (-1 : Int) := gl_eq c2
    have br2 := bt_room hp1 (by omega) (by omega) e1 (by omega)
    refine lv_aload_n hx hb dX11_reaches_11 rfl (lv_at hl 0 rfl) ?_
    refine qf_get hx hb hts inX11 hown hK hP (q0 := 0) (by decide) (hgM_0 ca o) rfl 57 (by decide) wq_1049 (v := .ref (o + 38)) rfl dX11_reaches_12 ?_
    refine lv_iload_n hx hb dX11_reaches_15 rfl (lv_at hl 1 rfl) ?_
    refine lv_iload_n hx hb dX11_reaches_16 rfl (lv_at hl 2 rfl) ?_
    refine qa_iast2 hx hb hK hP hS qw_Ai (q0 := 38) (by decide) 0 (N := 9261) (hgM_38 ca o) rfl (i := a0) (x := a1) (gi_in (by omega) (by omega)) dX11_reaches_17 (fun z3 H locs hz3 hP hS => ?_)
    have J3 := jM_38 J0 hz3
    have R35_3 : z3 35 = z 35 := (qt_row hz3 (by decide)).trans (rfl)
    have k3_0 : (z3 0 58).toInt = (z 0 58).toInt := congrArg Int32.toInt (qt_ne hz3 58 (by decide))
    refine lv_aload_n hx hb dX11_reaches_18 rfl (lv_at hl 0 rfl) ?_
    refine qf_get hx hb hts inX11 hown hK hP (q0 := 0) (by decide) (hgM_0 ca o) rfl 56 (by decide) wq_1048 (v := .ref (o + 37)) rfl dX11_reaches_19 ?_
    refine lv_aload_n hx hb dX11_reaches_22 rfl (lv_at hl 0 rfl) ?_
    refine qf_get hx hb hts inX11 hown hK hP (q0 := 0) (by decide) (hgM_0 ca o) rfl 58 (by decide) wq_1050 (v := .int (z3 0 58)) rfl dX11_reaches_23 ?_
    refine lv_topi (fun x4 e4 => ?_)
    have b4 := iM_0_58 J3 e4
    have k4 : x4.toInt = (z3 0 58).toInt := congrArg Int32.toInt e4
    refine lv_iload_n hx hb dX11_reaches_26 rfl (lv_at hl 1 rfl) ?_
    refine qa_iast2 hx hb hK hP hS qw_Ai (q0 := 37) (by decide) 0 (N := 9261) (hgM_37 ca o) rfl (i := x4) (x := a0) (gi_in (by omega) (by omega)) dX11_reaches_27 (fun z5 H locs hz5 hP hS => ?_)
    have J5 := jM_37 J3 hz5 ⟨by omega, by omega⟩
    have R35_5 : z5 35 = z 35 := (qt_row hz5 (by decide)).trans (R35_3)
    have k5_0 : (z5 0 58).toInt = (z3 0 58).toInt := congrArg Int32.toInt (qt_ne hz5 58 (by decide))
    refine lv_aload_n hx hb dX11_reaches_28 rfl (lv_at hl 0 rfl) ?_
    refine lv_aload_n hx hb dX11_reaches_29 rfl (lv_at hl 0 rfl) ?_
    refine qf_get hx hb hts inX11 hown hK hP (q0 := 0) (by decide) (hgM_0 ca o) rfl 58 (by decide) wq_1050 (v := .int (z5 0 58)) rfl dX11_reaches_30 ?_
    refine lv_topi (fun x6 e6 => ?_)
    have b6 := iM_0_58 J5 e6
    have k6 : x6.toInt = (z5 0 58).toInt := congrArg Int32.toInt e6
    refine lv_iconst (v := 1) hx hb dX11_reaches_33 (by decide) ?_
    refine lv_iadd hx hb dX11_reaches_34 ?_
    refine lv_topi (fun x7 e7 => ?_)
    have t7 : x7.toInt = x6.toInt + (1 : Int) := ga_add e7 rfl rfl (by omega) (by omega)
    refine qf_put2 hx hb hts inX11 tyX11 tyX11_ok nmX11 hown hK hP hS qw_Ai (q0 := 0) (by decide) (hgM_0 ca o) rfl 58 (by decide) wq_1050 rfl (x := x7) 58 rfl rfl rfl (Nat.le_of_ble_eq_true rfl) dX11_reaches_35 (fun z8 H locs hz8 hP hS => ?_)
    have J8 := jM_0_58 J5 hz8 ⟨by omega, by omega⟩
    have R35_8 : z8 35 = z 35 := (qt_row hz8 (by decide)).trans (R35_5)
    have k8_0 : (z8 0 58).toInt = x7.toInt := congrArg Int32.toInt (qt_at hz8)
    exact W.vret hx hb hr (fun t ht hW => ⟨⟨(z8, y), rfl, ⟨J8, R35_8, (bt_add hp1 (by omega) (by omega) e1 (by omega) (by omega) (by omega) hp0 hz3 hz5 (show x4.toInt = _ from by omega) hz8 (by omega))⟩, by rw [ht]; exact hP, va_K.moved hW.alike hK⟩, hS.F ht⟩) hS.2.2 dX11_reaches_38
  · have t2 : x1.toInt ≠ (-1 : Int) := gl_ne c2
    exact W.vret hx hb hr (fun t ht hW => ⟨⟨(z, y), rfl, ⟨J0, rfl, hp1⟩, by rw [ht]; exact hP, va_K.moved hW.alike hK⟩, hS.F ht⟩) hS.2.2 dX11_reaches_10
set_option maxRecDepth 100000 in
set_option maxHeartbeats 8000000 in
theorem m_pours (l : Launch) (D : va_G) (ca : Nat → ClassId) (o : Nat) (b z : Nat → Nat → Int32) (y : Nat → Nat → Int64) (J0 : qJM b z) (a0 : Int32) (a1 : Int32) (a2 : Int32) (ha0 : (0 : Int) ≤ a0.toInt ∧ a0.toInt ≤ 9260) (ha1 : (0 : Int) ≤ a1.toInt ∧ a1.toInt ≤ 2) (ha2 : (0 : Int) ≤ a2.toInt ∧ a2.toInt ≤ 2) (hp0 : okS z a0) (hp1 : btI z) (hp2 : a1.toInt ≠ a2.toInt) (hp3 : ((z 35 0).toInt ≤ 20 ∧ (z 35 1).toInt ≤ 20 ∧ (z 35 2).toInt ≤ 20)) : qM l yX11_pours cX11_pours 5 none 2 82 (qPre D vwCl (qT6 ca) o 41 (qG (GM ca o) z y) [.ref (o + 0), .int a0, .int a1, .int a2]) (va_Qv (fun u => qJM b u.1 ∧ u.1 35 = z 35 ∧ (btI u.1)) (qB D vwCl (qT6 ca) o 41 (fun u : qZ => qG (GM ca o) u.1 u.2)) (qw_A o 41)) (qw_A o 41) := by
  refine Met.ofW (cc := cX11_pours) (maxL := 5) (ret := none) (by decide) rfl ?_
  intro p e s m args below meth c s₁ B hml hv
  obtain ⟨rfl, hP, hK⟩ := hv
  have hx := B.exec
  have hb := B.bytes
  have hr := B.returns
  have hts0 := atoms_spec (ws := Cond.code yX11_pours cX11_pours 5 none :: qtbl) B.pre
  have hts : ∀ w ∈ qtbl, w.before _ s = true := fun w h => hts0 w (List.mem_cons_of_mem _ h)
  have hown : s.vm.findClass RX11 = some m.cls := findClass_of_methodNamed B.named
  have hlocks := B.notSynchronized
  have hS : va_S (qw_A o 41) s.heap s.heap [] := va_S.rf
  have hl := lv_entry ([.ref (o + 0), .int a0, .int a1, .int a2]) (n := 5) (Nat.le_of_ble_eq_true rfl)
  rw [lg_entry_eq]
  generalize (lg_sl ([.ref (o + 0), .int a0, .int a1, .int a2]) ++ List.replicate (5 - (lg_sl ([.ref (o + 0), .int a0, .int a1, .int a2])).length) Slot.unset).toArray = ls at hl ⊢
  have hl : lv_has ls 5 [(0, .ref (o + 0)), (1, .int a0), (2, .int a1), (3, .int a2)] := hl
  have ok0 : a0.toInt % 21 ≤ (z 35 0).toInt ∧ a0.toInt / 21 % 21 ≤ (z 35 1).toInt ∧ a0.toInt / 441 ≤ (z 35 2).toInt := hp0
  have sz0 := hp3
  rcases (by omega : (a1.toInt = 0 ∧ a2.toInt = 1) ∨ (a1.toInt = 0 ∧ a2.toInt = 2) ∨ (a1.toInt = 1 ∧ a2.toInt = 0) ∨ (a1.toInt = 1 ∧ a2.toInt = 2) ∨ (a1.toInt = 2 ∧ a2.toInt = 0) ∨ (a1.toInt = 2 ∧ a2.toInt = 1)) with ⟨ha_, hb_⟩ | ⟨ha_, hb_⟩ | ⟨ha_, hb_⟩ | ⟨ha_, hb_⟩ | ⟨ha_, hb_⟩ | ⟨ha_, hb_⟩
  · obtain rfl : a1 = 0 := gr_eq ha_
    obtain rfl : a2 = 1 := gr_eq hb_
    refine lv_aload_n hx hb dX11_pours_0 rfl (lv_at hl 0 rfl) ?_
    refine qf_get hx hb hts inX11 hown hK hP (q0 := 0) (by decide) (hgM_0 ca o) rfl 55 (by decide) wq_1047 (v := .ref (o + 36)) rfl dX11_pours_1 ?_
    refine lv_iconst (v := 0) hx hb dX11_pours_4 (by decide) ?_
    refine lv_iload_n hx hb dX11_pours_5 rfl (lv_at hl 1 rfl) ?_
    refine lv_bipush (v := 21) hx hb dX11_pours_6 (by decide) ?_
    refine lv_irem hx hb dX11_pours_8 (by decide) ?_
    refine lv_topi (fun x1 e1 => ?_)
    have t1 : x1.toInt = a0.toInt % 21 := ga_rem e1 rfl (by omega) (by decide)
    refine qa_iast2 hx hb hK hP hS qw_Ai (q0 := 36) (by decide) 0 (N := 3) (hgM_36 ca o) rfl (i := 0) (x := x1) (gi_in (by decide) (by decide)) dX11_pours_9 (fun z2 H locs hz2 hP hS => ?_)
    have J2 := jM_36 J0 hz2
    have R35_2 : z2 35 = z 35 := (qt_row hz2 (by decide)).trans (rfl)
    have k2_0 : (z2 36 0).toInt = x1.toInt := congrArg Int32.toInt (qt_at hz2)
    have k2_1 : (z2 36 1).toInt = (z 36 1).toInt := congrArg Int32.toInt (qt_off hz2 (by decide))
    have k2_2 : (z2 36 2).toInt = (z 36 2).toInt := congrArg Int32.toInt (qt_off hz2 (by decide))
    have k2_3 : (z2 35 0).toInt = (z 35 0).toInt := congrArg Int32.toInt (qt_ne hz2 0 (by decide))
    have k2_4 : (z2 35 1).toInt = (z 35 1).toInt := congrArg Int32.toInt (qt_ne hz2 1 (by decide))
    have k2_5 : (z2 35 2).toInt = (z 35 2).toInt := congrArg Int32.toInt (qt_ne hz2 2 (by decide))
    have k2_6 : (z2 0 58).toInt = (z 0 58).toInt := congrArg Int32.toInt (qt_ne hz2 58 (by decide))
    have bt2 := bt_up hp1 hz2 ⟨by decide, by decide, by decide, fun h => absurd h (by decide)⟩
    refine lv_aload_n hx hb dX11_pours_10 rfl (lv_at hl 0 rfl) ?_
    refine qf_get hx hb hts inX11 hown hK hP (q0 := 0) (by decide) (hgM_0 ca o) rfl 55 (by decide) wq_1047 (v := .ref (o + 36)) rfl dX11_pours_11 ?_
    refine lv_iconst (v := 1) hx hb dX11_pours_14 (by decide) ?_
    refine lv_iload_n hx hb dX11_pours_15 rfl (lv_at hl 1 rfl) ?_
    refine lv_bipush (v := 21) hx hb dX11_pours_16 (by decide) ?_
    refine lv_idiv hx hb dX11_pours_18 (by decide) ?_
    refine lv_topi (fun x3 e3 => ?_)
    have t3 : x3.toInt = a0.toInt / 21 := ga_div e3 rfl (by omega) (by decide)
    refine lv_bipush (v := 21) hx hb dX11_pours_19 (by decide) ?_
    refine lv_irem hx hb dX11_pours_21 (by decide) ?_
    refine lv_topi (fun x4 e4 => ?_)
    have t4 : x4.toInt = x3.toInt % 21 := ga_rem e4 rfl (by omega) (by decide)
    have tb4 : x4.toInt = a0.toInt / 21 % 21 := by rw [t4, t3]
    refine qa_iast2 hx hb hK hP hS qw_Ai (q0 := 36) (by decide) 0 (N := 3) (hgM_36 ca o) rfl (i := 1) (x := x4) (gi_in (by decide) (by decide)) dX11_pours_22 (fun z5 H locs hz5 hP hS => ?_)
    have J5 := jM_36 J2 hz5
    have R35_5 : z5 35 = z 35 := (qt_row hz5 (by decide)).trans (R35_2)
    have k5_0 : (z5 36 0).toInt = (z2 36 0).toInt := congrArg Int32.toInt (qt_off hz5 (by decide))
    have k5_1 : (z5 36 1).toInt = x4.toInt := congrArg Int32.toInt (qt_at hz5)
    have k5_2 : (z5 36 2).toInt = (z2 36 2).toInt := congrArg Int32.toInt (qt_off hz5 (by decide))
    have k5_3 : (z5 35 0).toInt = (z2 35 0).toInt := congrArg Int32.toInt (qt_ne hz5 0 (by decide))
    have k5_4 : (z5 35 1).toInt = (z2 35 1).toInt := congrArg Int32.toInt (qt_ne hz5 1 (by decide))
    have k5_5 : (z5 35 2).toInt = (z2 35 2).toInt := congrArg Int32.toInt (qt_ne hz5 2 (by decide))
    have k5_6 : (z5 0 58).toInt = (z2 0 58).toInt := congrArg Int32.toInt (qt_ne hz5 58 (by decide))
    have bt5 := bt_up bt2 hz5 ⟨by decide, by decide, by decide, fun h => absurd h (by decide)⟩
    refine lv_aload_n hx hb dX11_pours_23 rfl (lv_at hl 0 rfl) ?_
    refine qf_get hx hb hts inX11 hown hK hP (q0 := 0) (by decide) (hgM_0 ca o) rfl 55 (by decide) wq_1047 (v := .ref (o + 36)) rfl dX11_pours_24 ?_
    refine lv_iconst (v := 2) hx hb dX11_pours_27 (by decide) ?_
    refine lv_iload_n hx hb dX11_pours_28 rfl (lv_at hl 1 rfl) ?_
    refine lv_sipush (v := 441) hx hb dX11_pours_29 (by decide) ?_
    refine lv_idiv hx hb dX11_pours_32 (by decide) ?_
    refine lv_topi (fun x6 e6 => ?_)
    have t6 : x6.toInt = a0.toInt / 441 := ga_div e6 rfl (by omega) (by decide)
    refine qa_iast2 hx hb hK hP hS qw_Ai (q0 := 36) (by decide) 0 (N := 3) (hgM_36 ca o) rfl (i := 2) (x := x6) (gi_in (by decide) (by decide)) dX11_pours_33 (fun z7 H locs hz7 hP hS => ?_)
    have J7 := jM_36 J5 hz7
    have R35_7 : z7 35 = z 35 := (qt_row hz7 (by decide)).trans (R35_5)
    have k7_0 : (z7 36 0).toInt = (z5 36 0).toInt := congrArg Int32.toInt (qt_off hz7 (by decide))
    have k7_1 : (z7 36 1).toInt = (z5 36 1).toInt := congrArg Int32.toInt (qt_off hz7 (by decide))
    have k7_2 : (z7 36 2).toInt = x6.toInt := congrArg Int32.toInt (qt_at hz7)
    have k7_3 : (z7 35 0).toInt = (z5 35 0).toInt := congrArg Int32.toInt (qt_ne hz7 0 (by decide))
    have k7_4 : (z7 35 1).toInt = (z5 35 1).toInt := congrArg Int32.toInt (qt_ne hz7 1 (by decide))
    have k7_5 : (z7 35 2).toInt = (z5 35 2).toInt := congrArg Int32.toInt (qt_ne hz7 2 (by decide))
    have k7_6 : (z7 0 58).toInt = (z5 0 58).toInt := congrArg Int32.toInt (qt_ne hz7 58 (by decide))
    have bt7 := bt_up bt5 hz7 ⟨by decide, by decide, by decide, fun h => absurd h (by decide)⟩
    refine lv_aload_n hx hb dX11_pours_34 rfl (lv_at hl 0 rfl) ?_
    refine qf_get hx hb hts inX11 hown hK hP (q0 := 0) (by decide) (hgM_0 ca o) rfl 55 (by decide) wq_1047 (v := .ref (o + 36)) rfl dX11_pours_35 ?_
    refine lv_iload_n hx hb dX11_pours_38 rfl (lv_at hl 2 rfl) ?_
    refine qa_iald hx hb hK hP (q0 := 36) (by decide) 0 (N := 3) (hgM_36 ca o) rfl (gi_in (by decide) (by decide)) dX11_pours_39 ?_
    refine lv_topi (fun x8 e8 => ?_)
    have k8 : x8.toInt = (z7 36 0).toInt := congrArg Int32.toInt e8
    refine lv_aload_n hx hb dX11_pours_40 rfl (lv_at hl 0 rfl) ?_
    refine qf_get hx hb hts inX11 hown hK hP (q0 := 0) (by decide) (hgM_0 ca o) rfl 54 (by decide) wq_1046 (v := .ref (o + 35)) rfl dX11_pours_41 ?_
    refine lv_iload_n hx hb dX11_pours_44 rfl (lv_at hl 3 rfl) ?_
    refine qa_iald hx hb hK hP (q0 := 35) (by decide) 0 (N := 3) (hgM_35 ca o) rfl (gi_in (by decide) (by decide)) dX11_pours_45 ?_
    refine lv_topi (fun x9 e9 => ?_)
    have k9 : x9.toInt = (z7 35 1).toInt := congrArg Int32.toInt e9
    refine lv_aload_n hx hb dX11_pours_46 rfl (lv_at hl 0 rfl) ?_
    refine qf_get hx hb hts inX11 hown hK hP (q0 := 0) (by decide) (hgM_0 ca o) rfl 55 (by decide) wq_1047 (v := .ref (o + 36)) rfl dX11_pours_47 ?_
    refine lv_iload_n hx hb dX11_pours_50 rfl (lv_at hl 3 rfl) ?_
    refine qa_iald hx hb hK hP (q0 := 36) (by decide) 0 (N := 3) (hgM_36 ca o) rfl (gi_in (by decide) (by decide)) dX11_pours_51 ?_
    refine lv_topi (fun x10 e10 => ?_)
    have k10 : x10.toInt = (z7 36 1).toInt := congrArg Int32.toInt e10
    refine lv_isub hx hb dX11_pours_52 ?_
    refine lv_topi (fun x11 e11 => ?_)
    have t11 : x11.toInt = x9.toInt - x10.toInt := ga_sub e11 rfl rfl (by omega) (by omega)
    refine qc_Sip (As := [.int x8, .int x11]) (rest := []) (k0 := 2) (m_min l D ca o b z7 y J7 x8 x11) kc_yX11_min ⟨hx, hb, hml, hown, hts⟩ wq_1390 rfl rfl ⟨Nat.le_of_ble_eq_true rfl, Nat.le_of_ble_eq_true rfl⟩ wq_all hP hK hS qw_Ai rfl hl.1 rfl (Nat.le_of_ble_eq_true rfl) dX11_pours_53 ⟨Nat.zero_le _, Nat.zero_le _⟩ (fun r12 H locs h12 hP hS _ _ => ?_)
    have p12_1 : r12.toInt = min x8.toInt x11.toInt := h12.2
    refine lv_istore (lv' := [(4, .int r12), (0, .ref (o + 0)), (1, .int a0), (2, .int 0), (3, .int 1)]) hx hb dX11_pours_56 hl (by decide) rfl (fun ls hl => ?_)
    refine lv_aload_n hx hb dX11_pours_58 rfl (lv_at hl 1 rfl) ?_
    refine qf_get hx hb hts inX11 hown hK hP (q0 := 0) (by decide) (hgM_0 ca o) rfl 55 (by decide) wq_1047 (v := .ref (o + 36)) rfl dX11_pours_59 ?_
    refine lv_iload_n hx hb dX11_pours_62 rfl (lv_at hl 3 rfl) ?_
    refine lv_aload_n hx hb dX11_pours_63 rfl (lv_at hl 1 rfl) ?_
    refine qf_get hx hb hts inX11 hown hK hP (q0 := 0) (by decide) (hgM_0 ca o) rfl 55 (by decide) wq_1047 (v := .ref (o + 36)) rfl dX11_pours_64 ?_
    refine lv_iload_n hx hb dX11_pours_67 rfl (lv_at hl 3 rfl) ?_
    refine qa_iald hx hb hK hP (q0 := 36) (by decide) 0 (N := 3) (hgM_36 ca o) rfl (gi_in (by decide) (by decide)) dX11_pours_68 ?_
    refine lv_topi (fun x13 e13 => ?_)
    have k13 : x13.toInt = (z7 36 0).toInt := congrArg Int32.toInt e13
    have ag13 : x13.toInt = x8.toInt := congrArg Int32.toInt (e13.trans e8.symm)
    refine lv_iload hx hb dX11_pours_69 (lv_at hl 0 rfl) ?_
    refine lv_isub hx hb dX11_pours_71 ?_
    refine lv_topi (fun x14 e14 => ?_)
    have t14 : x14.toInt = x13.toInt - r12.toInt := ga_sub e14 rfl rfl (by omega) (by omega)
    refine qa_iast2 hx hb hK hP hS qw_Ai (q0 := 36) (by decide) 0 (N := 3) (hgM_36 ca o) rfl (i := 0) (x := x14) (gi_in (by decide) (by decide)) dX11_pours_72 (fun z15 H locs hz15 hP hS => ?_)
    have J15 := jM_36 J7 hz15
    have R35_15 : z15 35 = z 35 := (qt_row hz15 (by decide)).trans (R35_7)
    have k15_0 : (z15 36 0).toInt = x14.toInt := congrArg Int32.toInt (qt_at hz15)
    have k15_1 : (z15 36 1).toInt = (z7 36 1).toInt := congrArg Int32.toInt (qt_off hz15 (by decide))
    have k15_2 : (z15 36 2).toInt = (z7 36 2).toInt := congrArg Int32.toInt (qt_off hz15 (by decide))
    have k15_3 : (z15 35 0).toInt = (z7 35 0).toInt := congrArg Int32.toInt (qt_ne hz15 0 (by decide))
    have k15_4 : (z15 35 1).toInt = (z7 35 1).toInt := congrArg Int32.toInt (qt_ne hz15 1 (by decide))
    have k15_5 : (z15 35 2).toInt = (z7 35 2).toInt := congrArg Int32.toInt (qt_ne hz15 2 (by decide))
    have k15_6 : (z15 0 58).toInt = (z7 0 58).toInt := congrArg Int32.toInt (qt_ne hz15 58 (by decide))
    have bt15 := bt_up bt7 hz15 ⟨by decide, by decide, by decide, fun h => absurd h (by decide)⟩
    refine lv_aload_n hx hb dX11_pours_73 rfl (lv_at hl 1 rfl) ?_
    refine qf_get hx hb hts inX11 hown hK hP (q0 := 0) (by decide) (hgM_0 ca o) rfl 55 (by decide) wq_1047 (v := .ref (o + 36)) rfl dX11_pours_74 ?_
    refine lv_iload_n hx hb dX11_pours_77 rfl (lv_at hl 4 rfl) ?_
    refine lv_aload_n hx hb dX11_pours_78 rfl (lv_at hl 1 rfl) ?_
    refine qf_get hx hb hts inX11 hown hK hP (q0 := 0) (by decide) (hgM_0 ca o) rfl 55 (by decide) wq_1047 (v := .ref (o + 36)) rfl dX11_pours_79 ?_
    refine lv_iload_n hx hb dX11_pours_82 rfl (lv_at hl 4 rfl) ?_
    refine qa_iald hx hb hK hP (q0 := 36) (by decide) 0 (N := 3) (hgM_36 ca o) rfl (gi_in (by decide) (by decide)) dX11_pours_83 ?_
    refine lv_topi (fun x16 e16 => ?_)
    have k16 : x16.toInt = (z15 36 1).toInt := congrArg Int32.toInt e16
    refine lv_iload hx hb dX11_pours_84 (lv_at hl 0 rfl) ?_
    refine lv_iadd hx hb dX11_pours_86 ?_
    refine lv_topi (fun x17 e17 => ?_)
    have t17 : x17.toInt = x16.toInt + r12.toInt := ga_add e17 rfl rfl (by omega) (by omega)
    refine qa_iast2 hx hb hK hP hS qw_Ai (q0 := 36) (by decide) 0 (N := 3) (hgM_36 ca o) rfl (i := 1) (x := x17) (gi_in (by decide) (by decide)) dX11_pours_87 (fun z18 H locs hz18 hP hS => ?_)
    have J18 := jM_36 J15 hz18
    have R35_18 : z18 35 = z 35 := (qt_row hz18 (by decide)).trans (R35_15)
    have k18_0 : (z18 36 0).toInt = (z15 36 0).toInt := congrArg Int32.toInt (qt_off hz18 (by decide))
    have k18_1 : (z18 36 1).toInt = x17.toInt := congrArg Int32.toInt (qt_at hz18)
    have k18_2 : (z18 36 2).toInt = (z15 36 2).toInt := congrArg Int32.toInt (qt_off hz18 (by decide))
    have k18_3 : (z18 35 0).toInt = (z15 35 0).toInt := congrArg Int32.toInt (qt_ne hz18 0 (by decide))
    have k18_4 : (z18 35 1).toInt = (z15 35 1).toInt := congrArg Int32.toInt (qt_ne hz18 1 (by decide))
    have k18_5 : (z18 35 2).toInt = (z15 35 2).toInt := congrArg Int32.toInt (qt_ne hz18 2 (by decide))
    have k18_6 : (z18 0 58).toInt = (z15 0 58).toInt := congrArg Int32.toInt (qt_ne hz18 58 (by decide))
    have bt18 := bt_up bt15 hz18 ⟨by decide, by decide, by decide, fun h => absurd h (by decide)⟩
    refine lv_aload_n hx hb dX11_pours_88 rfl (lv_at hl 1 rfl) ?_
    refine lv_aload_n hx hb dX11_pours_89 rfl (lv_at hl 1 rfl) ?_
    refine qf_get hx hb hts inX11 hown hK hP (q0 := 0) (by decide) (hgM_0 ca o) rfl 55 (by decide) wq_1047 (v := .ref (o + 36)) rfl dX11_pours_90 ?_
    refine lv_iconst (v := 0) hx hb dX11_pours_93 (by decide) ?_
    refine qa_iald hx hb hK hP (q0 := 36) (by decide) 0 (N := 3) (hgM_36 ca o) rfl (gi_in (by decide) (by decide)) dX11_pours_94 ?_
    refine lv_topi (fun x19 e19 => ?_)
    have k19 : x19.toInt = (z18 36 0).toInt := congrArg Int32.toInt e19
    refine lv_aload_n hx hb dX11_pours_95 rfl (lv_at hl 1 rfl) ?_
    refine qf_get hx hb hts inX11 hown hK hP (q0 := 0) (by decide) (hgM_0 ca o) rfl 55 (by decide) wq_1047 (v := .ref (o + 36)) rfl dX11_pours_96 ?_
    refine lv_iconst (v := 1) hx hb dX11_pours_99 (by decide) ?_
    refine qa_iald hx hb hK hP (q0 := 36) (by decide) 0 (N := 3) (hgM_36 ca o) rfl (gi_in (by decide) (by decide)) dX11_pours_100 ?_
    refine lv_topi (fun x20 e20 => ?_)
    have k20 : x20.toInt = (z18 36 1).toInt := congrArg Int32.toInt e20
    refine lv_aload_n hx hb dX11_pours_101 rfl (lv_at hl 1 rfl) ?_
    refine qf_get hx hb hts inX11 hown hK hP (q0 := 0) (by decide) (hgM_0 ca o) rfl 55 (by decide) wq_1047 (v := .ref (o + 36)) rfl dX11_pours_102 ?_
    refine lv_iconst (v := 2) hx hb dX11_pours_105 (by decide) ?_
    refine qa_iald hx hb hK hP (q0 := 36) (by decide) 0 (N := 3) (hgM_36 ca o) rfl (gi_in (by decide) (by decide)) dX11_pours_106 ?_
    refine lv_topi (fun x21 e21 => ?_)
    have k21 : x21.toInt = (z18 36 2).toInt := congrArg Int32.toInt e21
    refine qc_Sip (As := [.int x19, .int x20, .int x21]) (rest := [.ref (o + 0)]) (k0 := 3) (m_stateOf l D ca o b z18 y J18 x19 x20 x21 ⟨by omega, by omega⟩ ⟨by omega, by omega⟩ ⟨by omega, by omega⟩) kc_yX11_stateOf ⟨hx, hb, hml, hown, hts⟩ wq_1567 rfl rfl ⟨Nat.le_of_ble_eq_true rfl, Nat.le_of_ble_eq_true rfl⟩ wq_all hP hK hS qw_Ai rfl hl.1 rfl (Nat.le_of_ble_eq_true rfl) dX11_pours_107 ⟨Nat.zero_le _, Nat.zero_le _⟩ (fun r22 H locs h22 hP hS _ _ => ?_)
    have p22_1 : r22.toInt = x19.toInt + 21 * x20.toInt + 441 * x21.toInt := h22.2
    have b22 : (0 : Int) ≤ r22.toInt ∧ r22.toInt ≤ 9260 := h22.1
    refine lv_aload_n hx hb dX11_pours_110 rfl (lv_at hl 1 rfl) ?_
    refine qf_get hx hb hts inX11 hown hK hP (q0 := 0) (by decide) (hgM_0 ca o) rfl 57 (by decide) wq_1049 (v := .ref (o + 38)) rfl dX11_pours_111 ?_
    refine lv_iload_n hx hb dX11_pours_114 rfl (lv_at hl 2 rfl) ?_
    refine qa_iald hx hb hK hP (q0 := 38) (by decide) 0 (N := 9261) (hgM_38 ca o) rfl (gi_in (by omega) (by omega)) dX11_pours_115 ?_
    refine lv_topi (fun x23 e23 => ?_)
    have tq23 := bt18.2.1 a0.toNatClampNeg (ga_nat (by omega) (show _ < (9261 : Int) from by omega))
    rw [← e23] at tq23
    have tz23 := iM_0_58 J18 rfl
    refine lv_iconst (v := 1) hx hb dX11_pours_116 (by decide) ?_
    refine lv_iadd hx hb dX11_pours_117 ?_
    refine lv_topi (fun x24 e24 => ?_)
    have t24 : x24.toInt = x23.toInt + (1 : Int) := ga_add e24 rfl rfl (by omega) (by omega)
    refine qc_Vv2 (As := [.int r22, .int x24]) (rest := []) (k0 := 2) (m_reaches l D ca o b z18 y J18 r22 x24 ⟨by omega, by omega⟩ ((okS_of p22_1 (by omega) (by omega) (by omega) (by omega) (by omega) (by omega) (by omega) (by omega))) (bt18) (by omega)) kc_yX11_reaches ⟨hx, hb, hml, hown, hts⟩ wq_1570 rfl rfl ⟨Nat.le_of_ble_eq_true rfl, Nat.le_of_ble_eq_true rfl⟩ wq_all hP hK hS qw_Ai (q0 := 0) (by decide) (hgM_0 ca o _ _) rfl rfl hl.1 rfl (Nat.le_of_ble_eq_true rfl) dX11_pours_118 ⟨Nat.zero_le _, Nat.zero_le _⟩ (fun z25 y25 H locs h25 hP hS _ _ => ?_)
    have J25 : qJM b z25 := h25.1
    have R35_25 : z25 35 = z 35 := (h25.2.1).trans (R35_18)
    have p25_2 : btI z25 := h25.2.2
    exact W.vret hx hb hr (fun t ht hW => ⟨⟨(z25, y25), rfl, ⟨J25, R35_25, p25_2⟩, by rw [ht]; exact hP, va_K.moved hW.alike hK⟩, hS.F ht⟩) hS.2.2 dX11_pours_121
  · obtain rfl : a1 = 0 := gr_eq ha_
    obtain rfl : a2 = 2 := gr_eq hb_
    refine lv_aload_n hx hb dX11_pours_0 rfl (lv_at hl 0 rfl) ?_
    refine qf_get hx hb hts inX11 hown hK hP (q0 := 0) (by decide) (hgM_0 ca o) rfl 55 (by decide) wq_1047 (v := .ref (o + 36)) rfl dX11_pours_1 ?_
    refine lv_iconst (v := 0) hx hb dX11_pours_4 (by decide) ?_
    refine lv_iload_n hx hb dX11_pours_5 rfl (lv_at hl 1 rfl) ?_
    refine lv_bipush (v := 21) hx hb dX11_pours_6 (by decide) ?_
    refine lv_irem hx hb dX11_pours_8 (by decide) ?_
    refine lv_topi (fun x26 e26 => ?_)
    have t26 : x26.toInt = a0.toInt % 21 := ga_rem e26 rfl (by omega) (by decide)
    refine qa_iast2 hx hb hK hP hS qw_Ai (q0 := 36) (by decide) 0 (N := 3) (hgM_36 ca o) rfl (i := 0) (x := x26) (gi_in (by decide) (by decide)) dX11_pours_9 (fun z27 H locs hz27 hP hS => ?_)
    have J27 := jM_36 J0 hz27
    have R35_27 : z27 35 = z 35 := (qt_row hz27 (by decide)).trans (rfl)
    have k27_0 : (z27 36 0).toInt = x26.toInt := congrArg Int32.toInt (qt_at hz27)
    have k27_1 : (z27 36 1).toInt = (z 36 1).toInt := congrArg Int32.toInt (qt_off hz27 (by decide))
    have k27_2 : (z27 36 2).toInt = (z 36 2).toInt := congrArg Int32.toInt (qt_off hz27 (by decide))
    have k27_3 : (z27 35 0).toInt = (z 35 0).toInt := congrArg Int32.toInt (qt_ne hz27 0 (by decide))
    have k27_4 : (z27 35 1).toInt = (z 35 1).toInt := congrArg Int32.toInt (qt_ne hz27 1 (by decide))
    have k27_5 : (z27 35 2).toInt = (z 35 2).toInt := congrArg Int32.toInt (qt_ne hz27 2 (by decide))
    have k27_6 : (z27 0 58).toInt = (z 0 58).toInt := congrArg Int32.toInt (qt_ne hz27 58 (by decide))
    have bt27 := bt_up hp1 hz27 ⟨by decide, by decide, by decide, fun h => absurd h (by decide)⟩
    refine lv_aload_n hx hb dX11_pours_10 rfl (lv_at hl 0 rfl) ?_
    refine qf_get hx hb hts inX11 hown hK hP (q0 := 0) (by decide) (hgM_0 ca o) rfl 55 (by decide) wq_1047 (v := .ref (o + 36)) rfl dX11_pours_11 ?_
    refine lv_iconst (v := 1) hx hb dX11_pours_14 (by decide) ?_
    refine lv_iload_n hx hb dX11_pours_15 rfl (lv_at hl 1 rfl) ?_
    refine lv_bipush (v := 21) hx hb dX11_pours_16 (by decide) ?_
    refine lv_idiv hx hb dX11_pours_18 (by decide) ?_
    refine lv_topi (fun x28 e28 => ?_)
    have t28 : x28.toInt = a0.toInt / 21 := ga_div e28 rfl (by omega) (by decide)
    refine lv_bipush (v := 21) hx hb dX11_pours_19 (by decide) ?_
    refine lv_irem hx hb dX11_pours_21 (by decide) ?_
    refine lv_topi (fun x29 e29 => ?_)
    have t29 : x29.toInt = x28.toInt % 21 := ga_rem e29 rfl (by omega) (by decide)
    have tb29 : x29.toInt = a0.toInt / 21 % 21 := by rw [t29, t28]
    refine qa_iast2 hx hb hK hP hS qw_Ai (q0 := 36) (by decide) 0 (N := 3) (hgM_36 ca o) rfl (i := 1) (x := x29) (gi_in (by decide) (by decide)) dX11_pours_22 (fun z30 H locs hz30 hP hS => ?_)
    have J30 := jM_36 J27 hz30
    have R35_30 : z30 35 = z 35 := (qt_row hz30 (by decide)).trans (R35_27)
    have k30_0 : (z30 36 0).toInt = (z27 36 0).toInt := congrArg Int32.toInt (qt_off hz30 (by decide))
    have k30_1 : (z30 36 1).toInt = x29.toInt := congrArg Int32.toInt (qt_at hz30)
    have k30_2 : (z30 36 2).toInt = (z27 36 2).toInt := congrArg Int32.toInt (qt_off hz30 (by decide))
    have k30_3 : (z30 35 0).toInt = (z27 35 0).toInt := congrArg Int32.toInt (qt_ne hz30 0 (by decide))
    have k30_4 : (z30 35 1).toInt = (z27 35 1).toInt := congrArg Int32.toInt (qt_ne hz30 1 (by decide))
    have k30_5 : (z30 35 2).toInt = (z27 35 2).toInt := congrArg Int32.toInt (qt_ne hz30 2 (by decide))
    have k30_6 : (z30 0 58).toInt = (z27 0 58).toInt := congrArg Int32.toInt (qt_ne hz30 58 (by decide))
    have bt30 := bt_up bt27 hz30 ⟨by decide, by decide, by decide, fun h => absurd h (by decide)⟩
    refine lv_aload_n hx hb dX11_pours_23 rfl (lv_at hl 0 rfl) ?_
    refine qf_get hx hb hts inX11 hown hK hP (q0 := 0) (by decide) (hgM_0 ca o) rfl 55 (by decide) wq_1047 (v := .ref (o + 36)) rfl dX11_pours_24 ?_
    refine lv_iconst (v := 2) hx hb dX11_pours_27 (by decide) ?_
    refine lv_iload_n hx hb dX11_pours_28 rfl (lv_at hl 1 rfl) ?_
    refine lv_sipush (v := 441) hx hb dX11_pours_29 (by decide) ?_
    refine lv_idiv hx hb dX11_pours_32 (by decide) ?_
    refine lv_topi (fun x31 e31 => ?_)
    have t31 : x31.toInt = a0.toInt / 441 := ga_div e31 rfl (by omega) (by decide)
    refine qa_iast2 hx hb hK hP hS qw_Ai (q0 := 36) (by decide) 0 (N := 3) (hgM_36 ca o) rfl (i := 2) (x := x31) (gi_in (by decide) (by decide)) dX11_pours_33 (fun z32 H locs hz32 hP hS => ?_)
    have J32 := jM_36 J30 hz32
    have R35_32 : z32 35 = z 35 := (qt_row hz32 (by decide)).trans (R35_30)
    have k32_0 : (z32 36 0).toInt = (z30 36 0).toInt := congrArg Int32.toInt (qt_off hz32 (by decide))
    have k32_1 : (z32 36 1).toInt = (z30 36 1).toInt := congrArg Int32.toInt (qt_off hz32 (by decide))
    have k32_2 : (z32 36 2).toInt = x31.toInt := congrArg Int32.toInt (qt_at hz32)
    have k32_3 : (z32 35 0).toInt = (z30 35 0).toInt := congrArg Int32.toInt (qt_ne hz32 0 (by decide))
    have k32_4 : (z32 35 1).toInt = (z30 35 1).toInt := congrArg Int32.toInt (qt_ne hz32 1 (by decide))
    have k32_5 : (z32 35 2).toInt = (z30 35 2).toInt := congrArg Int32.toInt (qt_ne hz32 2 (by decide))
    have k32_6 : (z32 0 58).toInt = (z30 0 58).toInt := congrArg Int32.toInt (qt_ne hz32 58 (by decide))
    have bt32 := bt_up bt30 hz32 ⟨by decide, by decide, by decide, fun h => absurd h (by decide)⟩
    refine lv_aload_n hx hb dX11_pours_34 rfl (lv_at hl 0 rfl) ?_
    refine qf_get hx hb hts inX11 hown hK hP (q0 := 0) (by decide) (hgM_0 ca o) rfl 55 (by decide) wq_1047 (v := .ref (o + 36)) rfl dX11_pours_35 ?_
    refine lv_iload_n hx hb dX11_pours_38 rfl (lv_at hl 2 rfl) ?_
    refine qa_iald hx hb hK hP (q0 := 36) (by decide) 0 (N := 3) (hgM_36 ca o) rfl (gi_in (by decide) (by decide)) dX11_pours_39 ?_
    refine lv_topi (fun x33 e33 => ?_)
    have k33 : x33.toInt = (z32 36 0).toInt := congrArg Int32.toInt e33
    refine lv_aload_n hx hb dX11_pours_40 rfl (lv_at hl 0 rfl) ?_
    refine qf_get hx hb hts inX11 hown hK hP (q0 := 0) (by decide) (hgM_0 ca o) rfl 54 (by decide) wq_1046 (v := .ref (o + 35)) rfl dX11_pours_41 ?_
    refine lv_iload_n hx hb dX11_pours_44 rfl (lv_at hl 3 rfl) ?_
    refine qa_iald hx hb hK hP (q0 := 35) (by decide) 0 (N := 3) (hgM_35 ca o) rfl (gi_in (by decide) (by decide)) dX11_pours_45 ?_
    refine lv_topi (fun x34 e34 => ?_)
    have k34 : x34.toInt = (z32 35 2).toInt := congrArg Int32.toInt e34
    refine lv_aload_n hx hb dX11_pours_46 rfl (lv_at hl 0 rfl) ?_
    refine qf_get hx hb hts inX11 hown hK hP (q0 := 0) (by decide) (hgM_0 ca o) rfl 55 (by decide) wq_1047 (v := .ref (o + 36)) rfl dX11_pours_47 ?_
    refine lv_iload_n hx hb dX11_pours_50 rfl (lv_at hl 3 rfl) ?_
    refine qa_iald hx hb hK hP (q0 := 36) (by decide) 0 (N := 3) (hgM_36 ca o) rfl (gi_in (by decide) (by decide)) dX11_pours_51 ?_
    refine lv_topi (fun x35 e35 => ?_)
    have k35 : x35.toInt = (z32 36 2).toInt := congrArg Int32.toInt e35
    refine lv_isub hx hb dX11_pours_52 ?_
    refine lv_topi (fun x36 e36 => ?_)
    have t36 : x36.toInt = x34.toInt - x35.toInt := ga_sub e36 rfl rfl (by omega) (by omega)
    refine qc_Sip (As := [.int x33, .int x36]) (rest := []) (k0 := 2) (m_min l D ca o b z32 y J32 x33 x36) kc_yX11_min ⟨hx, hb, hml, hown, hts⟩ wq_1390 rfl rfl ⟨Nat.le_of_ble_eq_true rfl, Nat.le_of_ble_eq_true rfl⟩ wq_all hP hK hS qw_Ai rfl hl.1 rfl (Nat.le_of_ble_eq_true rfl) dX11_pours_53 ⟨Nat.zero_le _, Nat.zero_le _⟩ (fun r37 H locs h37 hP hS _ _ => ?_)
    have p37_1 : r37.toInt = min x33.toInt x36.toInt := h37.2
    refine lv_istore (lv' := [(4, .int r37), (0, .ref (o + 0)), (1, .int a0), (2, .int 0), (3, .int 2)]) hx hb dX11_pours_56 hl (by decide) rfl (fun ls hl => ?_)
    refine lv_aload_n hx hb dX11_pours_58 rfl (lv_at hl 1 rfl) ?_
    refine qf_get hx hb hts inX11 hown hK hP (q0 := 0) (by decide) (hgM_0 ca o) rfl 55 (by decide) wq_1047 (v := .ref (o + 36)) rfl dX11_pours_59 ?_
    refine lv_iload_n hx hb dX11_pours_62 rfl (lv_at hl 3 rfl) ?_
    refine lv_aload_n hx hb dX11_pours_63 rfl (lv_at hl 1 rfl) ?_
    refine qf_get hx hb hts inX11 hown hK hP (q0 := 0) (by decide) (hgM_0 ca o) rfl 55 (by decide) wq_1047 (v := .ref (o + 36)) rfl dX11_pours_64 ?_
    refine lv_iload_n hx hb dX11_pours_67 rfl (lv_at hl 3 rfl) ?_
    refine qa_iald hx hb hK hP (q0 := 36) (by decide) 0 (N := 3) (hgM_36 ca o) rfl (gi_in (by decide) (by decide)) dX11_pours_68 ?_
    refine lv_topi (fun x38 e38 => ?_)
    have k38 : x38.toInt = (z32 36 0).toInt := congrArg Int32.toInt e38
    have ag38 : x38.toInt = x33.toInt := congrArg Int32.toInt (e38.trans e33.symm)
    refine lv_iload hx hb dX11_pours_69 (lv_at hl 0 rfl) ?_
    refine lv_isub hx hb dX11_pours_71 ?_
    refine lv_topi (fun x39 e39 => ?_)
    have t39 : x39.toInt = x38.toInt - r37.toInt := ga_sub e39 rfl rfl (by omega) (by omega)
    refine qa_iast2 hx hb hK hP hS qw_Ai (q0 := 36) (by decide) 0 (N := 3) (hgM_36 ca o) rfl (i := 0) (x := x39) (gi_in (by decide) (by decide)) dX11_pours_72 (fun z40 H locs hz40 hP hS => ?_)
    have J40 := jM_36 J32 hz40
    have R35_40 : z40 35 = z 35 := (qt_row hz40 (by decide)).trans (R35_32)
    have k40_0 : (z40 36 0).toInt = x39.toInt := congrArg Int32.toInt (qt_at hz40)
    have k40_1 : (z40 36 1).toInt = (z32 36 1).toInt := congrArg Int32.toInt (qt_off hz40 (by decide))
    have k40_2 : (z40 36 2).toInt = (z32 36 2).toInt := congrArg Int32.toInt (qt_off hz40 (by decide))
    have k40_3 : (z40 35 0).toInt = (z32 35 0).toInt := congrArg Int32.toInt (qt_ne hz40 0 (by decide))
    have k40_4 : (z40 35 1).toInt = (z32 35 1).toInt := congrArg Int32.toInt (qt_ne hz40 1 (by decide))
    have k40_5 : (z40 35 2).toInt = (z32 35 2).toInt := congrArg Int32.toInt (qt_ne hz40 2 (by decide))
    have k40_6 : (z40 0 58).toInt = (z32 0 58).toInt := congrArg Int32.toInt (qt_ne hz40 58 (by decide))
    have bt40 := bt_up bt32 hz40 ⟨by decide, by decide, by decide, fun h => absurd h (by decide)⟩
    refine lv_aload_n hx hb dX11_pours_73 rfl (lv_at hl 1 rfl) ?_
    refine qf_get hx hb hts inX11 hown hK hP (q0 := 0) (by decide) (hgM_0 ca o) rfl 55 (by decide) wq_1047 (v := .ref (o + 36)) rfl dX11_pours_74 ?_
    refine lv_iload_n hx hb dX11_pours_77 rfl (lv_at hl 4 rfl) ?_
    refine lv_aload_n hx hb dX11_pours_78 rfl (lv_at hl 1 rfl) ?_
    refine qf_get hx hb hts inX11 hown hK hP (q0 := 0) (by decide) (hgM_0 ca o) rfl 55 (by decide) wq_1047 (v := .ref (o + 36)) rfl dX11_pours_79 ?_
    refine lv_iload_n hx hb dX11_pours_82 rfl (lv_at hl 4 rfl) ?_
    refine qa_iald hx hb hK hP (q0 := 36) (by decide) 0 (N := 3) (hgM_36 ca o) rfl (gi_in (by decide) (by decide)) dX11_pours_83 ?_
    refine lv_topi (fun x41 e41 => ?_)
    have k41 : x41.toInt = (z40 36 2).toInt := congrArg Int32.toInt e41
    refine lv_iload hx hb dX11_pours_84 (lv_at hl 0 rfl) ?_
    refine lv_iadd hx hb dX11_pours_86 ?_
    refine lv_topi (fun x42 e42 => ?_)
    have t42 : x42.toInt = x41.toInt + r37.toInt := ga_add e42 rfl rfl (by omega) (by omega)
    refine qa_iast2 hx hb hK hP hS qw_Ai (q0 := 36) (by decide) 0 (N := 3) (hgM_36 ca o) rfl (i := 2) (x := x42) (gi_in (by decide) (by decide)) dX11_pours_87 (fun z43 H locs hz43 hP hS => ?_)
    have J43 := jM_36 J40 hz43
    have R35_43 : z43 35 = z 35 := (qt_row hz43 (by decide)).trans (R35_40)
    have k43_0 : (z43 36 0).toInt = (z40 36 0).toInt := congrArg Int32.toInt (qt_off hz43 (by decide))
    have k43_1 : (z43 36 1).toInt = (z40 36 1).toInt := congrArg Int32.toInt (qt_off hz43 (by decide))
    have k43_2 : (z43 36 2).toInt = x42.toInt := congrArg Int32.toInt (qt_at hz43)
    have k43_3 : (z43 35 0).toInt = (z40 35 0).toInt := congrArg Int32.toInt (qt_ne hz43 0 (by decide))
    have k43_4 : (z43 35 1).toInt = (z40 35 1).toInt := congrArg Int32.toInt (qt_ne hz43 1 (by decide))
    have k43_5 : (z43 35 2).toInt = (z40 35 2).toInt := congrArg Int32.toInt (qt_ne hz43 2 (by decide))
    have k43_6 : (z43 0 58).toInt = (z40 0 58).toInt := congrArg Int32.toInt (qt_ne hz43 58 (by decide))
    have bt43 := bt_up bt40 hz43 ⟨by decide, by decide, by decide, fun h => absurd h (by decide)⟩
    refine lv_aload_n hx hb dX11_pours_88 rfl (lv_at hl 1 rfl) ?_
    refine lv_aload_n hx hb dX11_pours_89 rfl (lv_at hl 1 rfl) ?_
    refine qf_get hx hb hts inX11 hown hK hP (q0 := 0) (by decide) (hgM_0 ca o) rfl 55 (by decide) wq_1047 (v := .ref (o + 36)) rfl dX11_pours_90 ?_
    refine lv_iconst (v := 0) hx hb dX11_pours_93 (by decide) ?_
    refine qa_iald hx hb hK hP (q0 := 36) (by decide) 0 (N := 3) (hgM_36 ca o) rfl (gi_in (by decide) (by decide)) dX11_pours_94 ?_
    refine lv_topi (fun x44 e44 => ?_)
    have k44 : x44.toInt = (z43 36 0).toInt := congrArg Int32.toInt e44
    refine lv_aload_n hx hb dX11_pours_95 rfl (lv_at hl 1 rfl) ?_
    refine qf_get hx hb hts inX11 hown hK hP (q0 := 0) (by decide) (hgM_0 ca o) rfl 55 (by decide) wq_1047 (v := .ref (o + 36)) rfl dX11_pours_96 ?_
    refine lv_iconst (v := 1) hx hb dX11_pours_99 (by decide) ?_
    refine qa_iald hx hb hK hP (q0 := 36) (by decide) 0 (N := 3) (hgM_36 ca o) rfl (gi_in (by decide) (by decide)) dX11_pours_100 ?_
    refine lv_topi (fun x45 e45 => ?_)
    have k45 : x45.toInt = (z43 36 1).toInt := congrArg Int32.toInt e45
    refine lv_aload_n hx hb dX11_pours_101 rfl (lv_at hl 1 rfl) ?_
    refine qf_get hx hb hts inX11 hown hK hP (q0 := 0) (by decide) (hgM_0 ca o) rfl 55 (by decide) wq_1047 (v := .ref (o + 36)) rfl dX11_pours_102 ?_
    refine lv_iconst (v := 2) hx hb dX11_pours_105 (by decide) ?_
    refine qa_iald hx hb hK hP (q0 := 36) (by decide) 0 (N := 3) (hgM_36 ca o) rfl (gi_in (by decide) (by decide)) dX11_pours_106 ?_
    refine lv_topi (fun x46 e46 => ?_)
    have k46 : x46.toInt = (z43 36 2).toInt := congrArg Int32.toInt e46
    refine qc_Sip (As := [.int x44, .int x45, .int x46]) (rest := [.ref (o + 0)]) (k0 := 3) (m_stateOf l D ca o b z43 y J43 x44 x45 x46 ⟨by omega, by omega⟩ ⟨by omega, by omega⟩ ⟨by omega, by omega⟩) kc_yX11_stateOf ⟨hx, hb, hml, hown, hts⟩ wq_1567 rfl rfl ⟨Nat.le_of_ble_eq_true rfl, Nat.le_of_ble_eq_true rfl⟩ wq_all hP hK hS qw_Ai rfl hl.1 rfl (Nat.le_of_ble_eq_true rfl) dX11_pours_107 ⟨Nat.zero_le _, Nat.zero_le _⟩ (fun r47 H locs h47 hP hS _ _ => ?_)
    have p47_1 : r47.toInt = x44.toInt + 21 * x45.toInt + 441 * x46.toInt := h47.2
    have b47 : (0 : Int) ≤ r47.toInt ∧ r47.toInt ≤ 9260 := h47.1
    refine lv_aload_n hx hb dX11_pours_110 rfl (lv_at hl 1 rfl) ?_
    refine qf_get hx hb hts inX11 hown hK hP (q0 := 0) (by decide) (hgM_0 ca o) rfl 57 (by decide) wq_1049 (v := .ref (o + 38)) rfl dX11_pours_111 ?_
    refine lv_iload_n hx hb dX11_pours_114 rfl (lv_at hl 2 rfl) ?_
    refine qa_iald hx hb hK hP (q0 := 38) (by decide) 0 (N := 9261) (hgM_38 ca o) rfl (gi_in (by omega) (by omega)) dX11_pours_115 ?_
    refine lv_topi (fun x48 e48 => ?_)
    have tq48 := bt43.2.1 a0.toNatClampNeg (ga_nat (by omega) (show _ < (9261 : Int) from by omega))
    rw [← e48] at tq48
    have tz48 := iM_0_58 J43 rfl
    refine lv_iconst (v := 1) hx hb dX11_pours_116 (by decide) ?_
    refine lv_iadd hx hb dX11_pours_117 ?_
    refine lv_topi (fun x49 e49 => ?_)
    have t49 : x49.toInt = x48.toInt + (1 : Int) := ga_add e49 rfl rfl (by omega) (by omega)
    refine qc_Vv2 (As := [.int r47, .int x49]) (rest := []) (k0 := 2) (m_reaches l D ca o b z43 y J43 r47 x49 ⟨by omega, by omega⟩ ((okS_of p47_1 (by omega) (by omega) (by omega) (by omega) (by omega) (by omega) (by omega) (by omega))) (bt43) (by omega)) kc_yX11_reaches ⟨hx, hb, hml, hown, hts⟩ wq_1570 rfl rfl ⟨Nat.le_of_ble_eq_true rfl, Nat.le_of_ble_eq_true rfl⟩ wq_all hP hK hS qw_Ai (q0 := 0) (by decide) (hgM_0 ca o _ _) rfl rfl hl.1 rfl (Nat.le_of_ble_eq_true rfl) dX11_pours_118 ⟨Nat.zero_le _, Nat.zero_le _⟩ (fun z50 y50 H locs h50 hP hS _ _ => ?_)
    have J50 : qJM b z50 := h50.1
    have R35_50 : z50 35 = z 35 := (h50.2.1).trans (R35_43)
    have p50_2 : btI z50 := h50.2.2
    exact W.vret hx hb hr (fun t ht hW => ⟨⟨(z50, y50), rfl, ⟨J50, R35_50, p50_2⟩, by rw [ht]; exact hP, va_K.moved hW.alike hK⟩, hS.F ht⟩) hS.2.2 dX11_pours_121
  · obtain rfl : a1 = 1 := gr_eq ha_
    obtain rfl : a2 = 0 := gr_eq hb_
    refine lv_aload_n hx hb dX11_pours_0 rfl (lv_at hl 0 rfl) ?_
    refine qf_get hx hb hts inX11 hown hK hP (q0 := 0) (by decide) (hgM_0 ca o) rfl 55 (by decide) wq_1047 (v := .ref (o + 36)) rfl dX11_pours_1 ?_
    refine lv_iconst (v := 0) hx hb dX11_pours_4 (by decide) ?_
    refine lv_iload_n hx hb dX11_pours_5 rfl (lv_at hl 1 rfl) ?_
    refine lv_bipush (v := 21) hx hb dX11_pours_6 (by decide) ?_
    refine lv_irem hx hb dX11_pours_8 (by decide) ?_
    refine lv_topi (fun x51 e51 => ?_)
    have t51 : x51.toInt = a0.toInt % 21 := ga_rem e51 rfl (by omega) (by decide)
    refine qa_iast2 hx hb hK hP hS qw_Ai (q0 := 36) (by decide) 0 (N := 3) (hgM_36 ca o) rfl (i := 0) (x := x51) (gi_in (by decide) (by decide)) dX11_pours_9 (fun z52 H locs hz52 hP hS => ?_)
    have J52 := jM_36 J0 hz52
    have R35_52 : z52 35 = z 35 := (qt_row hz52 (by decide)).trans (rfl)
    have k52_0 : (z52 36 0).toInt = x51.toInt := congrArg Int32.toInt (qt_at hz52)
    have k52_1 : (z52 36 1).toInt = (z 36 1).toInt := congrArg Int32.toInt (qt_off hz52 (by decide))
    have k52_2 : (z52 36 2).toInt = (z 36 2).toInt := congrArg Int32.toInt (qt_off hz52 (by decide))
    have k52_3 : (z52 35 0).toInt = (z 35 0).toInt := congrArg Int32.toInt (qt_ne hz52 0 (by decide))
    have k52_4 : (z52 35 1).toInt = (z 35 1).toInt := congrArg Int32.toInt (qt_ne hz52 1 (by decide))
    have k52_5 : (z52 35 2).toInt = (z 35 2).toInt := congrArg Int32.toInt (qt_ne hz52 2 (by decide))
    have k52_6 : (z52 0 58).toInt = (z 0 58).toInt := congrArg Int32.toInt (qt_ne hz52 58 (by decide))
    have bt52 := bt_up hp1 hz52 ⟨by decide, by decide, by decide, fun h => absurd h (by decide)⟩
    refine lv_aload_n hx hb dX11_pours_10 rfl (lv_at hl 0 rfl) ?_
    refine qf_get hx hb hts inX11 hown hK hP (q0 := 0) (by decide) (hgM_0 ca o) rfl 55 (by decide) wq_1047 (v := .ref (o + 36)) rfl dX11_pours_11 ?_
    refine lv_iconst (v := 1) hx hb dX11_pours_14 (by decide) ?_
    refine lv_iload_n hx hb dX11_pours_15 rfl (lv_at hl 1 rfl) ?_
    refine lv_bipush (v := 21) hx hb dX11_pours_16 (by decide) ?_
    refine lv_idiv hx hb dX11_pours_18 (by decide) ?_
    refine lv_topi (fun x53 e53 => ?_)
    have t53 : x53.toInt = a0.toInt / 21 := ga_div e53 rfl (by omega) (by decide)
    refine lv_bipush (v := 21) hx hb dX11_pours_19 (by decide) ?_
    refine lv_irem hx hb dX11_pours_21 (by decide) ?_
    refine lv_topi (fun x54 e54 => ?_)
    have t54 : x54.toInt = x53.toInt % 21 := ga_rem e54 rfl (by omega) (by decide)
    have tb54 : x54.toInt = a0.toInt / 21 % 21 := by rw [t54, t53]
    refine qa_iast2 hx hb hK hP hS qw_Ai (q0 := 36) (by decide) 0 (N := 3) (hgM_36 ca o) rfl (i := 1) (x := x54) (gi_in (by decide) (by decide)) dX11_pours_22 (fun z55 H locs hz55 hP hS => ?_)
    have J55 := jM_36 J52 hz55
    have R35_55 : z55 35 = z 35 := (qt_row hz55 (by decide)).trans (R35_52)
    have k55_0 : (z55 36 0).toInt = (z52 36 0).toInt := congrArg Int32.toInt (qt_off hz55 (by decide))
    have k55_1 : (z55 36 1).toInt = x54.toInt := congrArg Int32.toInt (qt_at hz55)
    have k55_2 : (z55 36 2).toInt = (z52 36 2).toInt := congrArg Int32.toInt (qt_off hz55 (by decide))
    have k55_3 : (z55 35 0).toInt = (z52 35 0).toInt := congrArg Int32.toInt (qt_ne hz55 0 (by decide))
    have k55_4 : (z55 35 1).toInt = (z52 35 1).toInt := congrArg Int32.toInt (qt_ne hz55 1 (by decide))
    have k55_5 : (z55 35 2).toInt = (z52 35 2).toInt := congrArg Int32.toInt (qt_ne hz55 2 (by decide))
    have k55_6 : (z55 0 58).toInt = (z52 0 58).toInt := congrArg Int32.toInt (qt_ne hz55 58 (by decide))
    have bt55 := bt_up bt52 hz55 ⟨by decide, by decide, by decide, fun h => absurd h (by decide)⟩
    refine lv_aload_n hx hb dX11_pours_23 rfl (lv_at hl 0 rfl) ?_
    refine qf_get hx hb hts inX11 hown hK hP (q0 := 0) (by decide) (hgM_0 ca o) rfl 55 (by decide) wq_1047 (v := .ref (o + 36)) rfl dX11_pours_24 ?_
    refine lv_iconst (v := 2) hx hb dX11_pours_27 (by decide) ?_
    refine lv_iload_n hx hb dX11_pours_28 rfl (lv_at hl 1 rfl) ?_
    refine lv_sipush (v := 441) hx hb dX11_pours_29 (by decide) ?_
    refine lv_idiv hx hb dX11_pours_32 (by decide) ?_
    refine lv_topi (fun x56 e56 => ?_)
    have t56 : x56.toInt = a0.toInt / 441 := ga_div e56 rfl (by omega) (by decide)
    refine qa_iast2 hx hb hK hP hS qw_Ai (q0 := 36) (by decide) 0 (N := 3) (hgM_36 ca o) rfl (i := 2) (x := x56) (gi_in (by decide) (by decide)) dX11_pours_33 (fun z57 H locs hz57 hP hS => ?_)
    have J57 := jM_36 J55 hz57
    have R35_57 : z57 35 = z 35 := (qt_row hz57 (by decide)).trans (R35_55)
    have k57_0 : (z57 36 0).toInt = (z55 36 0).toInt := congrArg Int32.toInt (qt_off hz57 (by decide))
    have k57_1 : (z57 36 1).toInt = (z55 36 1).toInt := congrArg Int32.toInt (qt_off hz57 (by decide))
    have k57_2 : (z57 36 2).toInt = x56.toInt := congrArg Int32.toInt (qt_at hz57)
    have k57_3 : (z57 35 0).toInt = (z55 35 0).toInt := congrArg Int32.toInt (qt_ne hz57 0 (by decide))
    have k57_4 : (z57 35 1).toInt = (z55 35 1).toInt := congrArg Int32.toInt (qt_ne hz57 1 (by decide))
    have k57_5 : (z57 35 2).toInt = (z55 35 2).toInt := congrArg Int32.toInt (qt_ne hz57 2 (by decide))
    have k57_6 : (z57 0 58).toInt = (z55 0 58).toInt := congrArg Int32.toInt (qt_ne hz57 58 (by decide))
    have bt57 := bt_up bt55 hz57 ⟨by decide, by decide, by decide, fun h => absurd h (by decide)⟩
    refine lv_aload_n hx hb dX11_pours_34 rfl (lv_at hl 0 rfl) ?_
    refine qf_get hx hb hts inX11 hown hK hP (q0 := 0) (by decide) (hgM_0 ca o) rfl 55 (by decide) wq_1047 (v := .ref (o + 36)) rfl dX11_pours_35 ?_
    refine lv_iload_n hx hb dX11_pours_38 rfl (lv_at hl 2 rfl) ?_
    refine qa_iald hx hb hK hP (q0 := 36) (by decide) 0 (N := 3) (hgM_36 ca o) rfl (gi_in (by decide) (by decide)) dX11_pours_39 ?_
    refine lv_topi (fun x58 e58 => ?_)
    have k58 : x58.toInt = (z57 36 1).toInt := congrArg Int32.toInt e58
    refine lv_aload_n hx hb dX11_pours_40 rfl (lv_at hl 0 rfl) ?_
    refine qf_get hx hb hts inX11 hown hK hP (q0 := 0) (by decide) (hgM_0 ca o) rfl 54 (by decide) wq_1046 (v := .ref (o + 35)) rfl dX11_pours_41 ?_
    refine lv_iload_n hx hb dX11_pours_44 rfl (lv_at hl 3 rfl) ?_
    refine qa_iald hx hb hK hP (q0 := 35) (by decide) 0 (N := 3) (hgM_35 ca o) rfl (gi_in (by decide) (by decide)) dX11_pours_45 ?_
    refine lv_topi (fun x59 e59 => ?_)
    have k59 : x59.toInt = (z57 35 0).toInt := congrArg Int32.toInt e59
    refine lv_aload_n hx hb dX11_pours_46 rfl (lv_at hl 0 rfl) ?_
    refine qf_get hx hb hts inX11 hown hK hP (q0 := 0) (by decide) (hgM_0 ca o) rfl 55 (by decide) wq_1047 (v := .ref (o + 36)) rfl dX11_pours_47 ?_
    refine lv_iload_n hx hb dX11_pours_50 rfl (lv_at hl 3 rfl) ?_
    refine qa_iald hx hb hK hP (q0 := 36) (by decide) 0 (N := 3) (hgM_36 ca o) rfl (gi_in (by decide) (by decide)) dX11_pours_51 ?_
    refine lv_topi (fun x60 e60 => ?_)
    have k60 : x60.toInt = (z57 36 0).toInt := congrArg Int32.toInt e60
    refine lv_isub hx hb dX11_pours_52 ?_
    refine lv_topi (fun x61 e61 => ?_)
    have t61 : x61.toInt = x59.toInt - x60.toInt := ga_sub e61 rfl rfl (by omega) (by omega)
    refine qc_Sip (As := [.int x58, .int x61]) (rest := []) (k0 := 2) (m_min l D ca o b z57 y J57 x58 x61) kc_yX11_min ⟨hx, hb, hml, hown, hts⟩ wq_1390 rfl rfl ⟨Nat.le_of_ble_eq_true rfl, Nat.le_of_ble_eq_true rfl⟩ wq_all hP hK hS qw_Ai rfl hl.1 rfl (Nat.le_of_ble_eq_true rfl) dX11_pours_53 ⟨Nat.zero_le _, Nat.zero_le _⟩ (fun r62 H locs h62 hP hS _ _ => ?_)
    have p62_1 : r62.toInt = min x58.toInt x61.toInt := h62.2
    refine lv_istore (lv' := [(4, .int r62), (0, .ref (o + 0)), (1, .int a0), (2, .int 1), (3, .int 0)]) hx hb dX11_pours_56 hl (by decide) rfl (fun ls hl => ?_)
    refine lv_aload_n hx hb dX11_pours_58 rfl (lv_at hl 1 rfl) ?_
    refine qf_get hx hb hts inX11 hown hK hP (q0 := 0) (by decide) (hgM_0 ca o) rfl 55 (by decide) wq_1047 (v := .ref (o + 36)) rfl dX11_pours_59 ?_
    refine lv_iload_n hx hb dX11_pours_62 rfl (lv_at hl 3 rfl) ?_
    refine lv_aload_n hx hb dX11_pours_63 rfl (lv_at hl 1 rfl) ?_
    refine qf_get hx hb hts inX11 hown hK hP (q0 := 0) (by decide) (hgM_0 ca o) rfl 55 (by decide) wq_1047 (v := .ref (o + 36)) rfl dX11_pours_64 ?_
    refine lv_iload_n hx hb dX11_pours_67 rfl (lv_at hl 3 rfl) ?_
    refine qa_iald hx hb hK hP (q0 := 36) (by decide) 0 (N := 3) (hgM_36 ca o) rfl (gi_in (by decide) (by decide)) dX11_pours_68 ?_
    refine lv_topi (fun x63 e63 => ?_)
    have k63 : x63.toInt = (z57 36 1).toInt := congrArg Int32.toInt e63
    have ag63 : x63.toInt = x58.toInt := congrArg Int32.toInt (e63.trans e58.symm)
    refine lv_iload hx hb dX11_pours_69 (lv_at hl 0 rfl) ?_
    refine lv_isub hx hb dX11_pours_71 ?_
    refine lv_topi (fun x64 e64 => ?_)
    have t64 : x64.toInt = x63.toInt - r62.toInt := ga_sub e64 rfl rfl (by omega) (by omega)
    refine qa_iast2 hx hb hK hP hS qw_Ai (q0 := 36) (by decide) 0 (N := 3) (hgM_36 ca o) rfl (i := 1) (x := x64) (gi_in (by decide) (by decide)) dX11_pours_72 (fun z65 H locs hz65 hP hS => ?_)
    have J65 := jM_36 J57 hz65
    have R35_65 : z65 35 = z 35 := (qt_row hz65 (by decide)).trans (R35_57)
    have k65_0 : (z65 36 0).toInt = (z57 36 0).toInt := congrArg Int32.toInt (qt_off hz65 (by decide))
    have k65_1 : (z65 36 1).toInt = x64.toInt := congrArg Int32.toInt (qt_at hz65)
    have k65_2 : (z65 36 2).toInt = (z57 36 2).toInt := congrArg Int32.toInt (qt_off hz65 (by decide))
    have k65_3 : (z65 35 0).toInt = (z57 35 0).toInt := congrArg Int32.toInt (qt_ne hz65 0 (by decide))
    have k65_4 : (z65 35 1).toInt = (z57 35 1).toInt := congrArg Int32.toInt (qt_ne hz65 1 (by decide))
    have k65_5 : (z65 35 2).toInt = (z57 35 2).toInt := congrArg Int32.toInt (qt_ne hz65 2 (by decide))
    have k65_6 : (z65 0 58).toInt = (z57 0 58).toInt := congrArg Int32.toInt (qt_ne hz65 58 (by decide))
    have bt65 := bt_up bt57 hz65 ⟨by decide, by decide, by decide, fun h => absurd h (by decide)⟩
    refine lv_aload_n hx hb dX11_pours_73 rfl (lv_at hl 1 rfl) ?_
    refine qf_get hx hb hts inX11 hown hK hP (q0 := 0) (by decide) (hgM_0 ca o) rfl 55 (by decide) wq_1047 (v := .ref (o + 36)) rfl dX11_pours_74 ?_
    refine lv_iload_n hx hb dX11_pours_77 rfl (lv_at hl 4 rfl) ?_
    refine lv_aload_n hx hb dX11_pours_78 rfl (lv_at hl 1 rfl) ?_
    refine qf_get hx hb hts inX11 hown hK hP (q0 := 0) (by decide) (hgM_0 ca o) rfl 55 (by decide) wq_1047 (v := .ref (o + 36)) rfl dX11_pours_79 ?_
    refine lv_iload_n hx hb dX11_pours_82 rfl (lv_at hl 4 rfl) ?_
    refine qa_iald hx hb hK hP (q0 := 36) (by decide) 0 (N := 3) (hgM_36 ca o) rfl (gi_in (by decide) (by decide)) dX11_pours_83 ?_
    refine lv_topi (fun x66 e66 => ?_)
    have k66 : x66.toInt = (z65 36 0).toInt := congrArg Int32.toInt e66
    refine lv_iload hx hb dX11_pours_84 (lv_at hl 0 rfl) ?_
    refine lv_iadd hx hb dX11_pours_86 ?_
    refine lv_topi (fun x67 e67 => ?_)
    have t67 : x67.toInt = x66.toInt + r62.toInt := ga_add e67 rfl rfl (by omega) (by omega)
    refine qa_iast2 hx hb hK hP hS qw_Ai (q0 := 36) (by decide) 0 (N := 3) (hgM_36 ca o) rfl (i := 0) (x := x67) (gi_in (by decide) (by decide)) dX11_pours_87 (fun z68 H locs hz68 hP hS => ?_)
    have J68 := jM_36 J65 hz68
    have R35_68 : z68 35 = z 35 := (qt_row hz68 (by decide)).trans (R35_65)
    have k68_0 : (z68 36 0).toInt = x67.toInt := congrArg Int32.toInt (qt_at hz68)
    have k68_1 : (z68 36 1).toInt = (z65 36 1).toInt := congrArg Int32.toInt (qt_off hz68 (by decide))
    have k68_2 : (z68 36 2).toInt = (z65 36 2).toInt := congrArg Int32.toInt (qt_off hz68 (by decide))
    have k68_3 : (z68 35 0).toInt = (z65 35 0).toInt := congrArg Int32.toInt (qt_ne hz68 0 (by decide))
    have k68_4 : (z68 35 1).toInt = (z65 35 1).toInt := congrArg Int32.toInt (qt_ne hz68 1 (by decide))
    have k68_5 : (z68 35 2).toInt = (z65 35 2).toInt := congrArg Int32.toInt (qt_ne hz68 2 (by decide))
    have k68_6 : (z68 0 58).toInt = (z65 0 58).toInt := congrArg Int32.toInt (qt_ne hz68 58 (by decide))
    have bt68 := bt_up bt65 hz68 ⟨by decide, by decide, by decide, fun h => absurd h (by decide)⟩
    refine lv_aload_n hx hb dX11_pours_88 rfl (lv_at hl 1 rfl) ?_
    refine lv_aload_n hx hb dX11_pours_89 rfl (lv_at hl 1 rfl) ?_
    refine qf_get hx hb hts inX11 hown hK hP (q0 := 0) (by decide) (hgM_0 ca o) rfl 55 (by decide) wq_1047 (v := .ref (o + 36)) rfl dX11_pours_90 ?_
    refine lv_iconst (v := 0) hx hb dX11_pours_93 (by decide) ?_
    refine qa_iald hx hb hK hP (q0 := 36) (by decide) 0 (N := 3) (hgM_36 ca o) rfl (gi_in (by decide) (by decide)) dX11_pours_94 ?_
    refine lv_topi (fun x69 e69 => ?_)
    have k69 : x69.toInt = (z68 36 0).toInt := congrArg Int32.toInt e69
    refine lv_aload_n hx hb dX11_pours_95 rfl (lv_at hl 1 rfl) ?_
    refine qf_get hx hb hts inX11 hown hK hP (q0 := 0) (by decide) (hgM_0 ca o) rfl 55 (by decide) wq_1047 (v := .ref (o + 36)) rfl dX11_pours_96 ?_
    refine lv_iconst (v := 1) hx hb dX11_pours_99 (by decide) ?_
    refine qa_iald hx hb hK hP (q0 := 36) (by decide) 0 (N := 3) (hgM_36 ca o) rfl (gi_in (by decide) (by decide)) dX11_pours_100 ?_
    refine lv_topi (fun x70 e70 => ?_)
    have k70 : x70.toInt = (z68 36 1).toInt := congrArg Int32.toInt e70
    refine lv_aload_n hx hb dX11_pours_101 rfl (lv_at hl 1 rfl) ?_
    refine qf_get hx hb hts inX11 hown hK hP (q0 := 0) (by decide) (hgM_0 ca o) rfl 55 (by decide) wq_1047 (v := .ref (o + 36)) rfl dX11_pours_102 ?_
    refine lv_iconst (v := 2) hx hb dX11_pours_105 (by decide) ?_
    refine qa_iald hx hb hK hP (q0 := 36) (by decide) 0 (N := 3) (hgM_36 ca o) rfl (gi_in (by decide) (by decide)) dX11_pours_106 ?_
    refine lv_topi (fun x71 e71 => ?_)
    have k71 : x71.toInt = (z68 36 2).toInt := congrArg Int32.toInt e71
    refine qc_Sip (As := [.int x69, .int x70, .int x71]) (rest := [.ref (o + 0)]) (k0 := 3) (m_stateOf l D ca o b z68 y J68 x69 x70 x71 ⟨by omega, by omega⟩ ⟨by omega, by omega⟩ ⟨by omega, by omega⟩) kc_yX11_stateOf ⟨hx, hb, hml, hown, hts⟩ wq_1567 rfl rfl ⟨Nat.le_of_ble_eq_true rfl, Nat.le_of_ble_eq_true rfl⟩ wq_all hP hK hS qw_Ai rfl hl.1 rfl (Nat.le_of_ble_eq_true rfl) dX11_pours_107 ⟨Nat.zero_le _, Nat.zero_le _⟩ (fun r72 H locs h72 hP hS _ _ => ?_)
    have p72_1 : r72.toInt = x69.toInt + 21 * x70.toInt + 441 * x71.toInt := h72.2
    have b72 : (0 : Int) ≤ r72.toInt ∧ r72.toInt ≤ 9260 := h72.1
    refine lv_aload_n hx hb dX11_pours_110 rfl (lv_at hl 1 rfl) ?_
    refine qf_get hx hb hts inX11 hown hK hP (q0 := 0) (by decide) (hgM_0 ca o) rfl 57 (by decide) wq_1049 (v := .ref (o + 38)) rfl dX11_pours_111 ?_
    refine lv_iload_n hx hb dX11_pours_114 rfl (lv_at hl 2 rfl) ?_
    refine qa_iald hx hb hK hP (q0 := 38) (by decide) 0 (N := 9261) (hgM_38 ca o) rfl (gi_in (by omega) (by omega)) dX11_pours_115 ?_
    refine lv_topi (fun x73 e73 => ?_)
    have tq73 := bt68.2.1 a0.toNatClampNeg (ga_nat (by omega) (show _ < (9261 : Int) from by omega))
    rw [← e73] at tq73
    have tz73 := iM_0_58 J68 rfl
    refine lv_iconst (v := 1) hx hb dX11_pours_116 (by decide) ?_
    refine lv_iadd hx hb dX11_pours_117 ?_
    refine lv_topi (fun x74 e74 => ?_)
    have t74 : x74.toInt = x73.toInt + (1 : Int) := ga_add e74 rfl rfl (by omega) (by omega)
    refine qc_Vv2 (As := [.int r72, .int x74]) (rest := []) (k0 := 2) (m_reaches l D ca o b z68 y J68 r72 x74 ⟨by omega, by omega⟩ ((okS_of p72_1 (by omega) (by omega) (by omega) (by omega) (by omega) (by omega) (by omega) (by omega))) (bt68) (by omega)) kc_yX11_reaches ⟨hx, hb, hml, hown, hts⟩ wq_1570 rfl rfl ⟨Nat.le_of_ble_eq_true rfl, Nat.le_of_ble_eq_true rfl⟩ wq_all hP hK hS qw_Ai (q0 := 0) (by decide) (hgM_0 ca o _ _) rfl rfl hl.1 rfl (Nat.le_of_ble_eq_true rfl) dX11_pours_118 ⟨Nat.zero_le _, Nat.zero_le _⟩ (fun z75 y75 H locs h75 hP hS _ _ => ?_)
    have J75 : qJM b z75 := h75.1
    have R35_75 : z75 35 = z 35 := (h75.2.1).trans (R35_68)
    have p75_2 : btI z75 := h75.2.2
    exact W.vret hx hb hr (fun t ht hW => ⟨⟨(z75, y75), rfl, ⟨J75, R35_75, p75_2⟩, by rw [ht]; exact hP, va_K.moved hW.alike hK⟩, hS.F ht⟩) hS.2.2 dX11_pours_121
  · obtain rfl : a1 = 1 := gr_eq ha_
    obtain rfl : a2 = 2 := gr_eq hb_
    refine lv_aload_n hx hb dX11_pours_0 rfl (lv_at hl 0 rfl) ?_
    refine qf_get hx hb hts inX11 hown hK hP (q0 := 0) (by decide) (hgM_0 ca o) rfl 55 (by decide) wq_1047 (v := .ref (o + 36)) rfl dX11_pours_1 ?_
    refine lv_iconst (v := 0) hx hb dX11_pours_4 (by decide) ?_
    refine lv_iload_n hx hb dX11_pours_5 rfl (lv_at hl 1 rfl) ?_
    refine lv_bipush (v := 21) hx hb dX11_pours_6 (by decide) ?_
    refine lv_irem hx hb dX11_pours_8 (by decide) ?_
    refine lv_topi (fun x76 e76 => ?_)
    have t76 : x76.toInt = a0.toInt % 21 := ga_rem e76 rfl (by omega) (by decide)
    refine qa_iast2 hx hb hK hP hS qw_Ai (q0 := 36) (by decide) 0 (N := 3) (hgM_36 ca o) rfl (i := 0) (x := x76) (gi_in (by decide) (by decide)) dX11_pours_9 (fun z77 H locs hz77 hP hS => ?_)
    have J77 := jM_36 J0 hz77
    have R35_77 : z77 35 = z 35 := (qt_row hz77 (by decide)).trans (rfl)
    have k77_0 : (z77 36 0).toInt = x76.toInt := congrArg Int32.toInt (qt_at hz77)
    have k77_1 : (z77 36 1).toInt = (z 36 1).toInt := congrArg Int32.toInt (qt_off hz77 (by decide))
    have k77_2 : (z77 36 2).toInt = (z 36 2).toInt := congrArg Int32.toInt (qt_off hz77 (by decide))
    have k77_3 : (z77 35 0).toInt = (z 35 0).toInt := congrArg Int32.toInt (qt_ne hz77 0 (by decide))
    have k77_4 : (z77 35 1).toInt = (z 35 1).toInt := congrArg Int32.toInt (qt_ne hz77 1 (by decide))
    have k77_5 : (z77 35 2).toInt = (z 35 2).toInt := congrArg Int32.toInt (qt_ne hz77 2 (by decide))
    have k77_6 : (z77 0 58).toInt = (z 0 58).toInt := congrArg Int32.toInt (qt_ne hz77 58 (by decide))
    have bt77 := bt_up hp1 hz77 ⟨by decide, by decide, by decide, fun h => absurd h (by decide)⟩
    refine lv_aload_n hx hb dX11_pours_10 rfl (lv_at hl 0 rfl) ?_
    refine qf_get hx hb hts inX11 hown hK hP (q0 := 0) (by decide) (hgM_0 ca o) rfl 55 (by decide) wq_1047 (v := .ref (o + 36)) rfl dX11_pours_11 ?_
    refine lv_iconst (v := 1) hx hb dX11_pours_14 (by decide) ?_
    refine lv_iload_n hx hb dX11_pours_15 rfl (lv_at hl 1 rfl) ?_
    refine lv_bipush (v := 21) hx hb dX11_pours_16 (by decide) ?_
    refine lv_idiv hx hb dX11_pours_18 (by decide) ?_
    refine lv_topi (fun x78 e78 => ?_)
    have t78 : x78.toInt = a0.toInt / 21 := ga_div e78 rfl (by omega) (by decide)
    refine lv_bipush (v := 21) hx hb dX11_pours_19 (by decide) ?_
    refine lv_irem hx hb dX11_pours_21 (by decide) ?_
    refine lv_topi (fun x79 e79 => ?_)
    have t79 : x79.toInt = x78.toInt % 21 := ga_rem e79 rfl (by omega) (by decide)
    have tb79 : x79.toInt = a0.toInt / 21 % 21 := by rw [t79, t78]
    refine qa_iast2 hx hb hK hP hS qw_Ai (q0 := 36) (by decide) 0 (N := 3) (hgM_36 ca o) rfl (i := 1) (x := x79) (gi_in (by decide) (by decide)) dX11_pours_22 (fun z80 H locs hz80 hP hS => ?_)
    have J80 := jM_36 J77 hz80
    have R35_80 : z80 35 = z 35 := (qt_row hz80 (by decide)).trans (R35_77)
    have k80_0 : (z80 36 0).toInt = (z77 36 0).toInt := congrArg Int32.toInt (qt_off hz80 (by decide))
    have k80_1 : (z80 36 1).toInt = x79.toInt := congrArg Int32.toInt (qt_at hz80)
    have k80_2 : (z80 36 2).toInt = (z77 36 2).toInt := congrArg Int32.toInt (qt_off hz80 (by decide))
    have k80_3 : (z80 35 0).toInt = (z77 35 0).toInt := congrArg Int32.toInt (qt_ne hz80 0 (by decide))
    have k80_4 : (z80 35 1).toInt = (z77 35 1).toInt := congrArg Int32.toInt (qt_ne hz80 1 (by decide))
    have k80_5 : (z80 35 2).toInt = (z77 35 2).toInt := congrArg Int32.toInt (qt_ne hz80 2 (by decide))
    have k80_6 : (z80 0 58).toInt = (z77 0 58).toInt := congrArg Int32.toInt (qt_ne hz80 58 (by decide))
    have bt80 := bt_up bt77 hz80 ⟨by decide, by decide, by decide, fun h => absurd h (by decide)⟩
    refine lv_aload_n hx hb dX11_pours_23 rfl (lv_at hl 0 rfl) ?_
    refine qf_get hx hb hts inX11 hown hK hP (q0 := 0) (by decide) (hgM_0 ca o) rfl 55 (by decide) wq_1047 (v := .ref (o + 36)) rfl dX11_pours_24 ?_
    refine lv_iconst (v := 2) hx hb dX11_pours_27 (by decide) ?_
    refine lv_iload_n hx hb dX11_pours_28 rfl (lv_at hl 1 rfl) ?_
    refine lv_sipush (v := 441) hx hb dX11_pours_29 (by decide) ?_
    refine lv_idiv hx hb dX11_pours_32 (by decide) ?_
    refine lv_topi (fun x81 e81 => ?_)
    have t81 : x81.toInt = a0.toInt / 441 := ga_div e81 rfl (by omega) (by decide)
    refine qa_iast2 hx hb hK hP hS qw_Ai (q0 := 36) (by decide) 0 (N := 3) (hgM_36 ca o) rfl (i := 2) (x := x81) (gi_in (by decide) (by decide)) dX11_pours_33 (fun z82 H locs hz82 hP hS => ?_)
    have J82 := jM_36 J80 hz82
    have R35_82 : z82 35 = z 35 := (qt_row hz82 (by decide)).trans (R35_80)
    have k82_0 : (z82 36 0).toInt = (z80 36 0).toInt := congrArg Int32.toInt (qt_off hz82 (by decide))
    have k82_1 : (z82 36 1).toInt = (z80 36 1).toInt := congrArg Int32.toInt (qt_off hz82 (by decide))
    have k82_2 : (z82 36 2).toInt = x81.toInt := congrArg Int32.toInt (qt_at hz82)
    have k82_3 : (z82 35 0).toInt = (z80 35 0).toInt := congrArg Int32.toInt (qt_ne hz82 0 (by decide))
    have k82_4 : (z82 35 1).toInt = (z80 35 1).toInt := congrArg Int32.toInt (qt_ne hz82 1 (by decide))
    have k82_5 : (z82 35 2).toInt = (z80 35 2).toInt := congrArg Int32.toInt (qt_ne hz82 2 (by decide))
    have k82_6 : (z82 0 58).toInt = (z80 0 58).toInt := congrArg Int32.toInt (qt_ne hz82 58 (by decide))
    have bt82 := bt_up bt80 hz82 ⟨by decide, by decide, by decide, fun h => absurd h (by decide)⟩
    refine lv_aload_n hx hb dX11_pours_34 rfl (lv_at hl 0 rfl) ?_
    refine qf_get hx hb hts inX11 hown hK hP (q0 := 0) (by decide) (hgM_0 ca o) rfl 55 (by decide) wq_1047 (v := .ref (o + 36)) rfl dX11_pours_35 ?_
    refine lv_iload_n hx hb dX11_pours_38 rfl (lv_at hl 2 rfl) ?_
    refine qa_iald hx hb hK hP (q0 := 36) (by decide) 0 (N := 3) (hgM_36 ca o) rfl (gi_in (by decide) (by decide)) dX11_pours_39 ?_
    refine lv_topi (fun x83 e83 => ?_)
    have k83 : x83.toInt = (z82 36 1).toInt := congrArg Int32.toInt e83
    refine lv_aload_n hx hb dX11_pours_40 rfl (lv_at hl 0 rfl) ?_
    refine qf_get hx hb hts inX11 hown hK hP (q0 := 0) (by decide) (hgM_0 ca o) rfl 54 (by decide) wq_1046 (v := .ref (o + 35)) rfl dX11_pours_41 ?_
    refine lv_iload_n hx hb dX11_pours_44 rfl (lv_at hl 3 rfl) ?_
    refine qa_iald hx hb hK hP (q0 := 35) (by decide) 0 (N := 3) (hgM_35 ca o) rfl (gi_in (by decide) (by decide)) dX11_pours_45 ?_
    refine lv_topi (fun x84 e84 => ?_)
    have k84 : x84.toInt = (z82 35 2).toInt := congrArg Int32.toInt e84
    refine lv_aload_n hx hb dX11_pours_46 rfl (lv_at hl 0 rfl) ?_
    refine qf_get hx hb hts inX11 hown hK hP (q0 := 0) (by decide) (hgM_0 ca o) rfl 55 (by decide) wq_1047 (v := .ref (o + 36)) rfl dX11_pours_47 ?_
    refine lv_iload_n hx hb dX11_pours_50 rfl (lv_at hl 3 rfl) ?_
    refine qa_iald hx hb hK hP (q0 := 36) (by decide) 0 (N := 3) (hgM_36 ca o) rfl (gi_in (by decide) (by decide)) dX11_pours_51 ?_
    refine lv_topi (fun x85 e85 => ?_)
    have k85 : x85.toInt = (z82 36 2).toInt := congrArg Int32.toInt e85
    refine lv_isub hx hb dX11_pours_52 ?_
    refine lv_topi (fun x86 e86 => ?_)
    have t86 : x86.toInt = x84.toInt - x85.toInt := ga_sub e86 rfl rfl (by omega) (by omega)
    refine qc_Sip (As := [.int x83, .int x86]) (rest := []) (k0 := 2) (m_min l D ca o b z82 y J82 x83 x86) kc_yX11_min ⟨hx, hb, hml, hown, hts⟩ wq_1390 rfl rfl ⟨Nat.le_of_ble_eq_true rfl, Nat.le_of_ble_eq_true rfl⟩ wq_all hP hK hS qw_Ai rfl hl.1 rfl (Nat.le_of_ble_eq_true rfl) dX11_pours_53 ⟨Nat.zero_le _, Nat.zero_le _⟩ (fun r87 H locs h87 hP hS _ _ => ?_)
    have p87_1 : r87.toInt = min x83.toInt x86.toInt := h87.2
    refine lv_istore (lv' := [(4, .int r87), (0, .ref (o + 0)), (1, .int a0), (2, .int 1), (3, .int 2)]) hx hb dX11_pours_56 hl (by decide) rfl (fun ls hl => ?_)
    refine lv_aload_n hx hb dX11_pours_58 rfl (lv_at hl 1 rfl) ?_
    refine qf_get hx hb hts inX11 hown hK hP (q0 := 0) (by decide) (hgM_0 ca o) rfl 55 (by decide) wq_1047 (v := .ref (o + 36)) rfl dX11_pours_59 ?_
    refine lv_iload_n hx hb dX11_pours_62 rfl (lv_at hl 3 rfl) ?_
    refine lv_aload_n hx hb dX11_pours_63 rfl (lv_at hl 1 rfl) ?_
    refine qf_get hx hb hts inX11 hown hK hP (q0 := 0) (by decide) (hgM_0 ca o) rfl 55 (by decide) wq_1047 (v := .ref (o + 36)) rfl dX11_pours_64 ?_
    refine lv_iload_n hx hb dX11_pours_67 rfl (lv_at hl 3 rfl) ?_
    refine qa_iald hx hb hK hP (q0 := 36) (by decide) 0 (N := 3) (hgM_36 ca o) rfl (gi_in (by decide) (by decide)) dX11_pours_68 ?_
    refine lv_topi (fun x88 e88 => ?_)
    have k88 : x88.toInt = (z82 36 1).toInt := congrArg Int32.toInt e88
    have ag88 : x88.toInt = x83.toInt := congrArg Int32.toInt (e88.trans e83.symm)
    refine lv_iload hx hb dX11_pours_69 (lv_at hl 0 rfl) ?_
    refine lv_isub hx hb dX11_pours_71 ?_
    refine lv_topi (fun x89 e89 => ?_)
    have t89 : x89.toInt = x88.toInt - r87.toInt := ga_sub e89 rfl rfl (by omega) (by omega)
    refine qa_iast2 hx hb hK hP hS qw_Ai (q0 := 36) (by decide) 0 (N := 3) (hgM_36 ca o) rfl (i := 1) (x := x89) (gi_in (by decide) (by decide)) dX11_pours_72 (fun z90 H locs hz90 hP hS => ?_)
    have J90 := jM_36 J82 hz90
    have R35_90 : z90 35 = z 35 := (qt_row hz90 (by decide)).trans (R35_82)
    have k90_0 : (z90 36 0).toInt = (z82 36 0).toInt := congrArg Int32.toInt (qt_off hz90 (by decide))
    have k90_1 : (z90 36 1).toInt = x89.toInt := congrArg Int32.toInt (qt_at hz90)
    have k90_2 : (z90 36 2).toInt = (z82 36 2).toInt := congrArg Int32.toInt (qt_off hz90 (by decide))
    have k90_3 : (z90 35 0).toInt = (z82 35 0).toInt := congrArg Int32.toInt (qt_ne hz90 0 (by decide))
    have k90_4 : (z90 35 1).toInt = (z82 35 1).toInt := congrArg Int32.toInt (qt_ne hz90 1 (by decide))
    have k90_5 : (z90 35 2).toInt = (z82 35 2).toInt := congrArg Int32.toInt (qt_ne hz90 2 (by decide))
    have k90_6 : (z90 0 58).toInt = (z82 0 58).toInt := congrArg Int32.toInt (qt_ne hz90 58 (by decide))
    have bt90 := bt_up bt82 hz90 ⟨by decide, by decide, by decide, fun h => absurd h (by decide)⟩
    refine lv_aload_n hx hb dX11_pours_73 rfl (lv_at hl 1 rfl) ?_
    refine qf_get hx hb hts inX11 hown hK hP (q0 := 0) (by decide) (hgM_0 ca o) rfl 55 (by decide) wq_1047 (v := .ref (o + 36)) rfl dX11_pours_74 ?_
    refine lv_iload_n hx hb dX11_pours_77 rfl (lv_at hl 4 rfl) ?_
    refine lv_aload_n hx hb dX11_pours_78 rfl (lv_at hl 1 rfl) ?_
    refine qf_get hx hb hts inX11 hown hK hP (q0 := 0) (by decide) (hgM_0 ca o) rfl 55 (by decide) wq_1047 (v := .ref (o + 36)) rfl dX11_pours_79 ?_
    refine lv_iload_n hx hb dX11_pours_82 rfl (lv_at hl 4 rfl) ?_
    refine qa_iald hx hb hK hP (q0 := 36) (by decide) 0 (N := 3) (hgM_36 ca o) rfl (gi_in (by decide) (by decide)) dX11_pours_83 ?_
    refine lv_topi (fun x91 e91 => ?_)
    have k91 : x91.toInt = (z90 36 2).toInt := congrArg Int32.toInt e91
    refine lv_iload hx hb dX11_pours_84 (lv_at hl 0 rfl) ?_
    refine lv_iadd hx hb dX11_pours_86 ?_
    refine lv_topi (fun x92 e92 => ?_)
    have t92 : x92.toInt = x91.toInt + r87.toInt := ga_add e92 rfl rfl (by omega) (by omega)
    refine qa_iast2 hx hb hK hP hS qw_Ai (q0 := 36) (by decide) 0 (N := 3) (hgM_36 ca o) rfl (i := 2) (x := x92) (gi_in (by decide) (by decide)) dX11_pours_87 (fun z93 H locs hz93 hP hS => ?_)
    have J93 := jM_36 J90 hz93
    have R35_93 : z93 35 = z 35 := (qt_row hz93 (by decide)).trans (R35_90)
    have k93_0 : (z93 36 0).toInt = (z90 36 0).toInt := congrArg Int32.toInt (qt_off hz93 (by decide))
    have k93_1 : (z93 36 1).toInt = (z90 36 1).toInt := congrArg Int32.toInt (qt_off hz93 (by decide))
    have k93_2 : (z93 36 2).toInt = x92.toInt := congrArg Int32.toInt (qt_at hz93)
    have k93_3 : (z93 35 0).toInt = (z90 35 0).toInt := congrArg Int32.toInt (qt_ne hz93 0 (by decide))
    have k93_4 : (z93 35 1).toInt = (z90 35 1).toInt := congrArg Int32.toInt (qt_ne hz93 1 (by decide))
    have k93_5 : (z93 35 2).toInt = (z90 35 2).toInt := congrArg Int32.toInt (qt_ne hz93 2 (by decide))
    have k93_6 : (z93 0 58).toInt = (z90 0 58).toInt := congrArg Int32.toInt (qt_ne hz93 58 (by decide))
    have bt93 := bt_up bt90 hz93 ⟨by decide, by decide, by decide, fun h => absurd h (by decide)⟩
    refine lv_aload_n hx hb dX11_pours_88 rfl (lv_at hl 1 rfl) ?_
    refine lv_aload_n hx hb dX11_pours_89 rfl (lv_at hl 1 rfl) ?_
    refine qf_get hx hb hts inX11 hown hK hP (q0 := 0) (by decide) (hgM_0 ca o) rfl 55 (by decide) wq_1047 (v := .ref (o + 36)) rfl dX11_pours_90 ?_
    refine lv_iconst (v := 0) hx hb dX11_pours_93 (by decide) ?_
    refine qa_iald hx hb hK hP (q0 := 36) (by decide) 0 (N := 3) (hgM_36 ca o) rfl (gi_in (by decide) (by decide)) dX11_pours_94 ?_
    refine lv_topi (fun x94 e94 => ?_)
    have k94 : x94.toInt = (z93 36 0).toInt := congrArg Int32.toInt e94
    refine lv_aload_n hx hb dX11_pours_95 rfl (lv_at hl 1 rfl) ?_
    refine qf_get hx hb hts inX11 hown hK hP (q0 := 0) (by decide) (hgM_0 ca o) rfl 55 (by decide) wq_1047 (v := .ref (o + 36)) rfl dX11_pours_96 ?_
    refine lv_iconst (v := 1) hx hb dX11_pours_99 (by decide) ?_
    refine qa_iald hx hb hK hP (q0 := 36) (by decide) 0 (N := 3) (hgM_36 ca o) rfl (gi_in (by decide) (by decide)) dX11_pours_100 ?_
    refine lv_topi (fun x95 e95 => ?_)
    have k95 : x95.toInt = (z93 36 1).toInt := congrArg Int32.toInt e95
    refine lv_aload_n hx hb dX11_pours_101 rfl (lv_at hl 1 rfl) ?_
    refine qf_get hx hb hts inX11 hown hK hP (q0 := 0) (by decide) (hgM_0 ca o) rfl 55 (by decide) wq_1047 (v := .ref (o + 36)) rfl dX11_pours_102 ?_
    refine lv_iconst (v := 2) hx hb dX11_pours_105 (by decide) ?_
    refine qa_iald hx hb hK hP (q0 := 36) (by decide) 0 (N := 3) (hgM_36 ca o) rfl (gi_in (by decide) (by decide)) dX11_pours_106 ?_
    refine lv_topi (fun x96 e96 => ?_)
    have k96 : x96.toInt = (z93 36 2).toInt := congrArg Int32.toInt e96
    refine qc_Sip (As := [.int x94, .int x95, .int x96]) (rest := [.ref (o + 0)]) (k0 := 3) (m_stateOf l D ca o b z93 y J93 x94 x95 x96 ⟨by omega, by omega⟩ ⟨by omega, by omega⟩ ⟨by omega, by omega⟩) kc_yX11_stateOf ⟨hx, hb, hml, hown, hts⟩ wq_1567 rfl rfl ⟨Nat.le_of_ble_eq_true rfl, Nat.le_of_ble_eq_true rfl⟩ wq_all hP hK hS qw_Ai rfl hl.1 rfl (Nat.le_of_ble_eq_true rfl) dX11_pours_107 ⟨Nat.zero_le _, Nat.zero_le _⟩ (fun r97 H locs h97 hP hS _ _ => ?_)
    have p97_1 : r97.toInt = x94.toInt + 21 * x95.toInt + 441 * x96.toInt := h97.2
    have b97 : (0 : Int) ≤ r97.toInt ∧ r97.toInt ≤ 9260 := h97.1
    refine lv_aload_n hx hb dX11_pours_110 rfl (lv_at hl 1 rfl) ?_
    refine qf_get hx hb hts inX11 hown hK hP (q0 := 0) (by decide) (hgM_0 ca o) rfl 57 (by decide) wq_1049 (v := .ref (o + 38)) rfl dX11_pours_111 ?_
    refine lv_iload_n hx hb dX11_pours_114 rfl (lv_at hl 2 rfl) ?_
    refine qa_iald hx hb hK hP (q0 := 38) (by decide) 0 (N := 9261) (hgM_38 ca o) rfl (gi_in (by omega) (by omega)) dX11_pours_115 ?_
    refine lv_topi (fun x98 e98 => ?_)
    have tq98 := bt93.2.1 a0.toNatClampNeg (ga_nat (by omega) (show _ < (9261 : Int) from by omega))
    rw [← e98] at tq98
    have tz98 := iM_0_58 J93 rfl
    refine lv_iconst (v := 1) hx hb dX11_pours_116 (by decide) ?_
    refine lv_iadd hx hb dX11_pours_117 ?_
    refine lv_topi (fun x99 e99 => ?_)
    have t99 : x99.toInt = x98.toInt + (1 : Int) := ga_add e99 rfl rfl (by omega) (by omega)
    refine qc_Vv2 (As := [.int r97, .int x99]) (rest := []) (k0 := 2) (m_reaches l D ca o b z93 y J93 r97 x99 ⟨by omega, by omega⟩ ((okS_of p97_1 (by omega) (by omega) (by omega) (by omega) (by omega) (by omega) (by omega) (by omega))) (bt93) (by omega)) kc_yX11_reaches ⟨hx, hb, hml, hown, hts⟩ wq_1570 rfl rfl ⟨Nat.le_of_ble_eq_true rfl, Nat.le_of_ble_eq_true rfl⟩ wq_all hP hK hS qw_Ai (q0 := 0) (by decide) (hgM_0 ca o _ _) rfl rfl hl.1 rfl (Nat.le_of_ble_eq_true rfl) dX11_pours_118 ⟨Nat.zero_le _, Nat.zero_le _⟩ (fun z100 y100 H locs h100 hP hS _ _ => ?_)
    have J100 : qJM b z100 := h100.1
    have R35_100 : z100 35 = z 35 := (h100.2.1).trans (R35_93)
    have p100_2 : btI z100 := h100.2.2
    exact W.vret hx hb hr (fun t ht hW => ⟨⟨(z100, y100), rfl, ⟨J100, R35_100, p100_2⟩, by rw [ht]; exact hP, va_K.moved hW.alike hK⟩, hS.F ht⟩) hS.2.2 dX11_pours_121
  · obtain rfl : a1 = 2 := gr_eq ha_
    obtain rfl : a2 = 0 := gr_eq hb_
    refine lv_aload_n hx hb dX11_pours_0 rfl (lv_at hl 0 rfl) ?_
    refine qf_get hx hb hts inX11 hown hK hP (q0 := 0) (by decide) (hgM_0 ca o) rfl 55 (by decide) wq_1047 (v := .ref (o + 36)) rfl dX11_pours_1 ?_
    refine lv_iconst (v := 0) hx hb dX11_pours_4 (by decide) ?_
    refine lv_iload_n hx hb dX11_pours_5 rfl (lv_at hl 1 rfl) ?_
    refine lv_bipush (v := 21) hx hb dX11_pours_6 (by decide) ?_
    refine lv_irem hx hb dX11_pours_8 (by decide) ?_
    refine lv_topi (fun x101 e101 => ?_)
    have t101 : x101.toInt = a0.toInt % 21 := ga_rem e101 rfl (by omega) (by decide)
    refine qa_iast2 hx hb hK hP hS qw_Ai (q0 := 36) (by decide) 0 (N := 3) (hgM_36 ca o) rfl (i := 0) (x := x101) (gi_in (by decide) (by decide)) dX11_pours_9 (fun z102 H locs hz102 hP hS => ?_)
    have J102 := jM_36 J0 hz102
    have R35_102 : z102 35 = z 35 := (qt_row hz102 (by decide)).trans (rfl)
    have k102_0 : (z102 36 0).toInt = x101.toInt := congrArg Int32.toInt (qt_at hz102)
    have k102_1 : (z102 36 1).toInt = (z 36 1).toInt := congrArg Int32.toInt (qt_off hz102 (by decide))
    have k102_2 : (z102 36 2).toInt = (z 36 2).toInt := congrArg Int32.toInt (qt_off hz102 (by decide))
    have k102_3 : (z102 35 0).toInt = (z 35 0).toInt := congrArg Int32.toInt (qt_ne hz102 0 (by decide))
    have k102_4 : (z102 35 1).toInt = (z 35 1).toInt := congrArg Int32.toInt (qt_ne hz102 1 (by decide))
    have k102_5 : (z102 35 2).toInt = (z 35 2).toInt := congrArg Int32.toInt (qt_ne hz102 2 (by decide))
    have k102_6 : (z102 0 58).toInt = (z 0 58).toInt := congrArg Int32.toInt (qt_ne hz102 58 (by decide))
    have bt102 := bt_up hp1 hz102 ⟨by decide, by decide, by decide, fun h => absurd h (by decide)⟩
    refine lv_aload_n hx hb dX11_pours_10 rfl (lv_at hl 0 rfl) ?_
    refine qf_get hx hb hts inX11 hown hK hP (q0 := 0) (by decide) (hgM_0 ca o) rfl 55 (by decide) wq_1047 (v := .ref (o + 36)) rfl dX11_pours_11 ?_
    refine lv_iconst (v := 1) hx hb dX11_pours_14 (by decide) ?_
    refine lv_iload_n hx hb dX11_pours_15 rfl (lv_at hl 1 rfl) ?_
    refine lv_bipush (v := 21) hx hb dX11_pours_16 (by decide) ?_
    refine lv_idiv hx hb dX11_pours_18 (by decide) ?_
    refine lv_topi (fun x103 e103 => ?_)
    have t103 : x103.toInt = a0.toInt / 21 := ga_div e103 rfl (by omega) (by decide)
    refine lv_bipush (v := 21) hx hb dX11_pours_19 (by decide) ?_
    refine lv_irem hx hb dX11_pours_21 (by decide) ?_
    refine lv_topi (fun x104 e104 => ?_)
    have t104 : x104.toInt = x103.toInt % 21 := ga_rem e104 rfl (by omega) (by decide)
    have tb104 : x104.toInt = a0.toInt / 21 % 21 := by rw [t104, t103]
    refine qa_iast2 hx hb hK hP hS qw_Ai (q0 := 36) (by decide) 0 (N := 3) (hgM_36 ca o) rfl (i := 1) (x := x104) (gi_in (by decide) (by decide)) dX11_pours_22 (fun z105 H locs hz105 hP hS => ?_)
    have J105 := jM_36 J102 hz105
    have R35_105 : z105 35 = z 35 := (qt_row hz105 (by decide)).trans (R35_102)
    have k105_0 : (z105 36 0).toInt = (z102 36 0).toInt := congrArg Int32.toInt (qt_off hz105 (by decide))
    have k105_1 : (z105 36 1).toInt = x104.toInt := congrArg Int32.toInt (qt_at hz105)
    have k105_2 : (z105 36 2).toInt = (z102 36 2).toInt := congrArg Int32.toInt (qt_off hz105 (by decide))
    have k105_3 : (z105 35 0).toInt = (z102 35 0).toInt := congrArg Int32.toInt (qt_ne hz105 0 (by decide))
    have k105_4 : (z105 35 1).toInt = (z102 35 1).toInt := congrArg Int32.toInt (qt_ne hz105 1 (by decide))
    have k105_5 : (z105 35 2).toInt = (z102 35 2).toInt := congrArg Int32.toInt (qt_ne hz105 2 (by decide))
    have k105_6 : (z105 0 58).toInt = (z102 0 58).toInt := congrArg Int32.toInt (qt_ne hz105 58 (by decide))
    have bt105 := bt_up bt102 hz105 ⟨by decide, by decide, by decide, fun h => absurd h (by decide)⟩
    refine lv_aload_n hx hb dX11_pours_23 rfl (lv_at hl 0 rfl) ?_
    refine qf_get hx hb hts inX11 hown hK hP (q0 := 0) (by decide) (hgM_0 ca o) rfl 55 (by decide) wq_1047 (v := .ref (o + 36)) rfl dX11_pours_24 ?_
    refine lv_iconst (v := 2) hx hb dX11_pours_27 (by decide) ?_
    refine lv_iload_n hx hb dX11_pours_28 rfl (lv_at hl 1 rfl) ?_
    refine lv_sipush (v := 441) hx hb dX11_pours_29 (by decide) ?_
    refine lv_idiv hx hb dX11_pours_32 (by decide) ?_
    refine lv_topi (fun x106 e106 => ?_)
    have t106 : x106.toInt = a0.toInt / 441 := ga_div e106 rfl (by omega) (by decide)
    refine qa_iast2 hx hb hK hP hS qw_Ai (q0 := 36) (by decide) 0 (N := 3) (hgM_36 ca o) rfl (i := 2) (x := x106) (gi_in (by decide) (by decide)) dX11_pours_33 (fun z107 H locs hz107 hP hS => ?_)
    have J107 := jM_36 J105 hz107
    have R35_107 : z107 35 = z 35 := (qt_row hz107 (by decide)).trans (R35_105)
    have k107_0 : (z107 36 0).toInt = (z105 36 0).toInt := congrArg Int32.toInt (qt_off hz107 (by decide))
    have k107_1 : (z107 36 1).toInt = (z105 36 1).toInt := congrArg Int32.toInt (qt_off hz107 (by decide))
    have k107_2 : (z107 36 2).toInt = x106.toInt := congrArg Int32.toInt (qt_at hz107)
    have k107_3 : (z107 35 0).toInt = (z105 35 0).toInt := congrArg Int32.toInt (qt_ne hz107 0 (by decide))
    have k107_4 : (z107 35 1).toInt = (z105 35 1).toInt := congrArg Int32.toInt (qt_ne hz107 1 (by decide))
    have k107_5 : (z107 35 2).toInt = (z105 35 2).toInt := congrArg Int32.toInt (qt_ne hz107 2 (by decide))
    have k107_6 : (z107 0 58).toInt = (z105 0 58).toInt := congrArg Int32.toInt (qt_ne hz107 58 (by decide))
    have bt107 := bt_up bt105 hz107 ⟨by decide, by decide, by decide, fun h => absurd h (by decide)⟩
    refine lv_aload_n hx hb dX11_pours_34 rfl (lv_at hl 0 rfl) ?_
    refine qf_get hx hb hts inX11 hown hK hP (q0 := 0) (by decide) (hgM_0 ca o) rfl 55 (by decide) wq_1047 (v := .ref (o + 36)) rfl dX11_pours_35 ?_
    refine lv_iload_n hx hb dX11_pours_38 rfl (lv_at hl 2 rfl) ?_
    refine qa_iald hx hb hK hP (q0 := 36) (by decide) 0 (N := 3) (hgM_36 ca o) rfl (gi_in (by decide) (by decide)) dX11_pours_39 ?_
    refine lv_topi (fun x108 e108 => ?_)
    have k108 : x108.toInt = (z107 36 2).toInt := congrArg Int32.toInt e108
    refine lv_aload_n hx hb dX11_pours_40 rfl (lv_at hl 0 rfl) ?_
    refine qf_get hx hb hts inX11 hown hK hP (q0 := 0) (by decide) (hgM_0 ca o) rfl 54 (by decide) wq_1046 (v := .ref (o + 35)) rfl dX11_pours_41 ?_
    refine lv_iload_n hx hb dX11_pours_44 rfl (lv_at hl 3 rfl) ?_
    refine qa_iald hx hb hK hP (q0 := 35) (by decide) 0 (N := 3) (hgM_35 ca o) rfl (gi_in (by decide) (by decide)) dX11_pours_45 ?_
    refine lv_topi (fun x109 e109 => ?_)
    have k109 : x109.toInt = (z107 35 0).toInt := congrArg Int32.toInt e109
    refine lv_aload_n hx hb dX11_pours_46 rfl (lv_at hl 0 rfl) ?_
    refine qf_get hx hb hts inX11 hown hK hP (q0 := 0) (by decide) (hgM_0 ca o) rfl 55 (by decide) wq_1047 (v := .ref (o + 36)) rfl dX11_pours_47 ?_
    refine lv_iload_n hx hb dX11_pours_50 rfl (lv_at hl 3 rfl) ?_
    refine qa_iald hx hb hK hP (q0 := 36) (by decide) 0 (N := 3) (hgM_36 ca o) rfl (gi_in (by decide) (by decide)) dX11_pours_51 ?_
    refine lv_topi (fun x110 e110 => ?_)
    have k110 : x110.toInt = (z107 36 0).toInt := congrArg Int32.toInt e110
    refine lv_isub hx hb dX11_pours_52 ?_
    refine lv_topi (fun x111 e111 => ?_)
    have t111 : x111.toInt = x109.toInt - x110.toInt := ga_sub e111 rfl rfl (by omega) (by omega)
    refine qc_Sip (As := [.int x108, .int x111]) (rest := []) (k0 := 2) (m_min l D ca o b z107 y J107 x108 x111) kc_yX11_min ⟨hx, hb, hml, hown, hts⟩ wq_1390 rfl rfl ⟨Nat.le_of_ble_eq_true rfl, Nat.le_of_ble_eq_true rfl⟩ wq_all hP hK hS qw_Ai rfl hl.1 rfl (Nat.le_of_ble_eq_true rfl) dX11_pours_53 ⟨Nat.zero_le _, Nat.zero_le _⟩ (fun r112 H locs h112 hP hS _ _ => ?_)
    have p112_1 : r112.toInt = min x108.toInt x111.toInt := h112.2
    refine lv_istore (lv' := [(4, .int r112), (0, .ref (o + 0)), (1, .int a0), (2, .int 2), (3, .int 0)]) hx hb dX11_pours_56 hl (by decide) rfl (fun ls hl => ?_)
    refine lv_aload_n hx hb dX11_pours_58 rfl (lv_at hl 1 rfl) ?_
    refine qf_get hx hb hts inX11 hown hK hP (q0 := 0) (by decide) (hgM_0 ca o) rfl 55 (by decide) wq_1047 (v := .ref (o + 36)) rfl dX11_pours_59 ?_
    refine lv_iload_n hx hb dX11_pours_62 rfl (lv_at hl 3 rfl) ?_
    refine lv_aload_n hx hb dX11_pours_63 rfl (lv_at hl 1 rfl) ?_
    refine qf_get hx hb hts inX11 hown hK hP (q0 := 0) (by decide) (hgM_0 ca o) rfl 55 (by decide) wq_1047 (v := .ref (o + 36)) rfl dX11_pours_64 ?_
    refine lv_iload_n hx hb dX11_pours_67 rfl (lv_at hl 3 rfl) ?_
    refine qa_iald hx hb hK hP (q0 := 36) (by decide) 0 (N := 3) (hgM_36 ca o) rfl (gi_in (by decide) (by decide)) dX11_pours_68 ?_
    refine lv_topi (fun x113 e113 => ?_)
    have k113 : x113.toInt = (z107 36 2).toInt := congrArg Int32.toInt e113
    have ag113 : x113.toInt = x108.toInt := congrArg Int32.toInt (e113.trans e108.symm)
    refine lv_iload hx hb dX11_pours_69 (lv_at hl 0 rfl) ?_
    refine lv_isub hx hb dX11_pours_71 ?_
    refine lv_topi (fun x114 e114 => ?_)
    have t114 : x114.toInt = x113.toInt - r112.toInt := ga_sub e114 rfl rfl (by omega) (by omega)
    refine qa_iast2 hx hb hK hP hS qw_Ai (q0 := 36) (by decide) 0 (N := 3) (hgM_36 ca o) rfl (i := 2) (x := x114) (gi_in (by decide) (by decide)) dX11_pours_72 (fun z115 H locs hz115 hP hS => ?_)
    have J115 := jM_36 J107 hz115
    have R35_115 : z115 35 = z 35 := (qt_row hz115 (by decide)).trans (R35_107)
    have k115_0 : (z115 36 0).toInt = (z107 36 0).toInt := congrArg Int32.toInt (qt_off hz115 (by decide))
    have k115_1 : (z115 36 1).toInt = (z107 36 1).toInt := congrArg Int32.toInt (qt_off hz115 (by decide))
    have k115_2 : (z115 36 2).toInt = x114.toInt := congrArg Int32.toInt (qt_at hz115)
    have k115_3 : (z115 35 0).toInt = (z107 35 0).toInt := congrArg Int32.toInt (qt_ne hz115 0 (by decide))
    have k115_4 : (z115 35 1).toInt = (z107 35 1).toInt := congrArg Int32.toInt (qt_ne hz115 1 (by decide))
    have k115_5 : (z115 35 2).toInt = (z107 35 2).toInt := congrArg Int32.toInt (qt_ne hz115 2 (by decide))
    have k115_6 : (z115 0 58).toInt = (z107 0 58).toInt := congrArg Int32.toInt (qt_ne hz115 58 (by decide))
    have bt115 := bt_up bt107 hz115 ⟨by decide, by decide, by decide, fun h => absurd h (by decide)⟩
    refine lv_aload_n hx hb dX11_pours_73 rfl (lv_at hl 1 rfl) ?_
    refine qf_get hx hb hts inX11 hown hK hP (q0 := 0) (by decide) (hgM_0 ca o) rfl 55 (by decide) wq_1047 (v := .ref (o + 36)) rfl dX11_pours_74 ?_
    refine lv_iload_n hx hb dX11_pours_77 rfl (lv_at hl 4 rfl) ?_
    refine lv_aload_n hx hb dX11_pours_78 rfl (lv_at hl 1 rfl) ?_
    refine qf_get hx hb hts inX11 hown hK hP (q0 := 0) (by decide) (hgM_0 ca o) rfl 55 (by decide) wq_1047 (v := .ref (o + 36)) rfl dX11_pours_79 ?_
    refine lv_iload_n hx hb dX11_pours_82 rfl (lv_at hl 4 rfl) ?_
    refine qa_iald hx hb hK hP (q0 := 36) (by decide) 0 (N := 3) (hgM_36 ca o) rfl (gi_in (by decide) (by decide)) dX11_pours_83 ?_
    refine lv_topi (fun x116 e116 => ?_)
    have k116 : x116.toInt = (z115 36 0).toInt := congrArg Int32.toInt e116
    refine lv_iload hx hb dX11_pours_84 (lv_at hl 0 rfl) ?_
    refine lv_iadd hx hb dX11_pours_86 ?_
    refine lv_topi (fun x117 e117 => ?_)
    have t117 : x117.toInt = x116.toInt + r112.toInt := ga_add e117 rfl rfl (by omega) (by omega)
    refine qa_iast2 hx hb hK hP hS qw_Ai (q0 := 36) (by decide) 0 (N := 3) (hgM_36 ca o) rfl (i := 0) (x := x117) (gi_in (by decide) (by decide)) dX11_pours_87 (fun z118 H locs hz118 hP hS => ?_)
    have J118 := jM_36 J115 hz118
    have R35_118 : z118 35 = z 35 := (qt_row hz118 (by decide)).trans (R35_115)
    have k118_0 : (z118 36 0).toInt = x117.toInt := congrArg Int32.toInt (qt_at hz118)
    have k118_1 : (z118 36 1).toInt = (z115 36 1).toInt := congrArg Int32.toInt (qt_off hz118 (by decide))
    have k118_2 : (z118 36 2).toInt = (z115 36 2).toInt := congrArg Int32.toInt (qt_off hz118 (by decide))
    have k118_3 : (z118 35 0).toInt = (z115 35 0).toInt := congrArg Int32.toInt (qt_ne hz118 0 (by decide))
    have k118_4 : (z118 35 1).toInt = (z115 35 1).toInt := congrArg Int32.toInt (qt_ne hz118 1 (by decide))
    have k118_5 : (z118 35 2).toInt = (z115 35 2).toInt := congrArg Int32.toInt (qt_ne hz118 2 (by decide))
    have k118_6 : (z118 0 58).toInt = (z115 0 58).toInt := congrArg Int32.toInt (qt_ne hz118 58 (by decide))
    have bt118 := bt_up bt115 hz118 ⟨by decide, by decide, by decide, fun h => absurd h (by decide)⟩
    refine lv_aload_n hx hb dX11_pours_88 rfl (lv_at hl 1 rfl) ?_
    refine lv_aload_n hx hb dX11_pours_89 rfl (lv_at hl 1 rfl) ?_
    refine qf_get hx hb hts inX11 hown hK hP (q0 := 0) (by decide) (hgM_0 ca o) rfl 55 (by decide) wq_1047 (v := .ref (o + 36)) rfl dX11_pours_90 ?_
    refine lv_iconst (v := 0) hx hb dX11_pours_93 (by decide) ?_
    refine qa_iald hx hb hK hP (q0 := 36) (by decide) 0 (N := 3) (hgM_36 ca o) rfl (gi_in (by decide) (by decide)) dX11_pours_94 ?_
    refine lv_topi (fun x119 e119 => ?_)
    have k119 : x119.toInt = (z118 36 0).toInt := congrArg Int32.toInt e119
    refine lv_aload_n hx hb dX11_pours_95 rfl (lv_at hl 1 rfl) ?_
    refine qf_get hx hb hts inX11 hown hK hP (q0 := 0) (by decide) (hgM_0 ca o) rfl 55 (by decide) wq_1047 (v := .ref (o + 36)) rfl dX11_pours_96 ?_
    refine lv_iconst (v := 1) hx hb dX11_pours_99 (by decide) ?_
    refine qa_iald hx hb hK hP (q0 := 36) (by decide) 0 (N := 3) (hgM_36 ca o) rfl (gi_in (by decide) (by decide)) dX11_pours_100 ?_
    refine lv_topi (fun x120 e120 => ?_)
    have k120 : x120.toInt = (z118 36 1).toInt := congrArg Int32.toInt e120
    refine lv_aload_n hx hb dX11_pours_101 rfl (lv_at hl 1 rfl) ?_
    refine qf_get hx hb hts inX11 hown hK hP (q0 := 0) (by decide) (hgM_0 ca o) rfl 55 (by decide) wq_1047 (v := .ref (o + 36)) rfl dX11_pours_102 ?_
    refine lv_iconst (v := 2) hx hb dX11_pours_105 (by decide) ?_
    refine qa_iald hx hb hK hP (q0 := 36) (by decide) 0 (N := 3) (hgM_36 ca o) rfl (gi_in (by decide) (by decide)) dX11_pours_106 ?_
    refine lv_topi (fun x121 e121 => ?_)
    have k121 : x121.toInt = (z118 36 2).toInt := congrArg Int32.toInt e121
    refine qc_Sip (As := [.int x119, .int x120, .int x121]) (rest := [.ref (o + 0)]) (k0 := 3) (m_stateOf l D ca o b z118 y J118 x119 x120 x121 ⟨by omega, by omega⟩ ⟨by omega, by omega⟩ ⟨by omega, by omega⟩) kc_yX11_stateOf ⟨hx, hb, hml, hown, hts⟩ wq_1567 rfl rfl ⟨Nat.le_of_ble_eq_true rfl, Nat.le_of_ble_eq_true rfl⟩ wq_all hP hK hS qw_Ai rfl hl.1 rfl (Nat.le_of_ble_eq_true rfl) dX11_pours_107 ⟨Nat.zero_le _, Nat.zero_le _⟩ (fun r122 H locs h122 hP hS _ _ => ?_)
    have p122_1 : r122.toInt = x119.toInt + 21 * x120.toInt + 441 * x121.toInt := h122.2
    have b122 : (0 : Int) ≤ r122.toInt ∧ r122.toInt ≤ 9260 := h122.1
    refine lv_aload_n hx hb dX11_pours_110 rfl (lv_at hl 1 rfl) ?_
    refine qf_get hx hb hts inX11 hown hK hP (q0 := 0) (by decide) (hgM_0 ca o) rfl 57 (by decide) wq_1049 (v := .ref (o + 38)) rfl dX11_pours_111 ?_
    refine lv_iload_n hx hb dX11_pours_114 rfl (lv_at hl 2 rfl) ?_
    refine qa_iald hx hb hK hP (q0 := 38) (by decide) 0 (N := 9261) (hgM_38 ca o) rfl (gi_in (by omega) (by omega)) dX11_pours_115 ?_
    refine lv_topi (fun x123 e123 => ?_)
    have tq123 := bt118.2.1 a0.toNatClampNeg (ga_nat (by omega) (show _ < (9261 : Int) from by omega))
    rw [← e123] at tq123
    have tz123 := iM_0_58 J118 rfl
    refine lv_iconst (v := 1) hx hb dX11_pours_116 (by decide) ?_
    refine lv_iadd hx hb dX11_pours_117 ?_
    refine lv_topi (fun x124 e124 => ?_)
    have t124 : x124.toInt = x123.toInt + (1 : Int) := ga_add e124 rfl rfl (by omega) (by omega)
    refine qc_Vv2 (As := [.int r122, .int x124]) (rest := []) (k0 := 2) (m_reaches l D ca o b z118 y J118 r122 x124 ⟨by omega, by omega⟩ ((okS_of p122_1 (by omega) (by omega) (by omega) (by omega) (by omega) (by omega) (by omega) (by omega))) (bt118) (by omega)) kc_yX11_reaches ⟨hx, hb, hml, hown, hts⟩ wq_1570 rfl rfl ⟨Nat.le_of_ble_eq_true rfl, Nat.le_of_ble_eq_true rfl⟩ wq_all hP hK hS qw_Ai (q0 := 0) (by decide) (hgM_0 ca o _ _) rfl rfl hl.1 rfl (Nat.le_of_ble_eq_true rfl) dX11_pours_118 ⟨Nat.zero_le _, Nat.zero_le _⟩ (fun z125 y125 H locs h125 hP hS _ _ => ?_)
    have J125 : qJM b z125 := h125.1
    have R35_125 : z125 35 = z 35 := (h125.2.1).trans (R35_118)
    have p125_2 : btI z125 := h125.2.2
    exact W.vret hx hb hr (fun t ht hW => ⟨⟨(z125, y125), rfl, ⟨J125, R35_125, p125_2⟩, by rw [ht]; exact hP, va_K.moved hW.alike hK⟩, hS.F ht⟩) hS.2.2 dX11_pours_121
  · obtain rfl : a1 = 2 := gr_eq ha_
    obtain rfl : a2 = 1 := gr_eq hb_
    refine lv_aload_n hx hb dX11_pours_0 rfl (lv_at hl 0 rfl) ?_
    refine qf_get hx hb hts inX11 hown hK hP (q0 := 0) (by decide) (hgM_0 ca o) rfl 55 (by decide) wq_1047 (v := .ref (o + 36)) rfl dX11_pours_1 ?_
    refine lv_iconst (v := 0) hx hb dX11_pours_4 (by decide) ?_
    refine lv_iload_n hx hb dX11_pours_5 rfl (lv_at hl 1 rfl) ?_
    refine lv_bipush (v := 21) hx hb dX11_pours_6 (by decide) ?_
    refine lv_irem hx hb dX11_pours_8 (by decide) ?_
    refine lv_topi (fun x126 e126 => ?_)
    have t126 : x126.toInt = a0.toInt % 21 := ga_rem e126 rfl (by omega) (by decide)
    refine qa_iast2 hx hb hK hP hS qw_Ai (q0 := 36) (by decide) 0 (N := 3) (hgM_36 ca o) rfl (i := 0) (x := x126) (gi_in (by decide) (by decide)) dX11_pours_9 (fun z127 H locs hz127 hP hS => ?_)
    have J127 := jM_36 J0 hz127
    have R35_127 : z127 35 = z 35 := (qt_row hz127 (by decide)).trans (rfl)
    have k127_0 : (z127 36 0).toInt = x126.toInt := congrArg Int32.toInt (qt_at hz127)
    have k127_1 : (z127 36 1).toInt = (z 36 1).toInt := congrArg Int32.toInt (qt_off hz127 (by decide))
    have k127_2 : (z127 36 2).toInt = (z 36 2).toInt := congrArg Int32.toInt (qt_off hz127 (by decide))
    have k127_3 : (z127 35 0).toInt = (z 35 0).toInt := congrArg Int32.toInt (qt_ne hz127 0 (by decide))
    have k127_4 : (z127 35 1).toInt = (z 35 1).toInt := congrArg Int32.toInt (qt_ne hz127 1 (by decide))
    have k127_5 : (z127 35 2).toInt = (z 35 2).toInt := congrArg Int32.toInt (qt_ne hz127 2 (by decide))
    have k127_6 : (z127 0 58).toInt = (z 0 58).toInt := congrArg Int32.toInt (qt_ne hz127 58 (by decide))
    have bt127 := bt_up hp1 hz127 ⟨by decide, by decide, by decide, fun h => absurd h (by decide)⟩
    refine lv_aload_n hx hb dX11_pours_10 rfl (lv_at hl 0 rfl) ?_
    refine qf_get hx hb hts inX11 hown hK hP (q0 := 0) (by decide) (hgM_0 ca o) rfl 55 (by decide) wq_1047 (v := .ref (o + 36)) rfl dX11_pours_11 ?_
    refine lv_iconst (v := 1) hx hb dX11_pours_14 (by decide) ?_
    refine lv_iload_n hx hb dX11_pours_15 rfl (lv_at hl 1 rfl) ?_
    refine lv_bipush (v := 21) hx hb dX11_pours_16 (by decide) ?_
    refine lv_idiv hx hb dX11_pours_18 (by decide) ?_
    refine lv_topi (fun x128 e128 => ?_)
    have t128 : x128.toInt = a0.toInt / 21 := ga_div e128 rfl (by omega) (by decide)
    refine lv_bipush (v := 21) hx hb dX11_pours_19 (by decide) ?_
    refine lv_irem hx hb dX11_pours_21 (by decide) ?_
    refine lv_topi (fun x129 e129 => ?_)
    have t129 : x129.toInt = x128.toInt % 21 := ga_rem e129 rfl (by omega) (by decide)
    have tb129 : x129.toInt = a0.toInt / 21 % 21 := by rw [t129, t128]
    refine qa_iast2 hx hb hK hP hS qw_Ai (q0 := 36) (by decide) 0 (N := 3) (hgM_36 ca o) rfl (i := 1) (x := x129) (gi_in (by decide) (by decide)) dX11_pours_22 (fun z130 H locs hz130 hP hS => ?_)
    have J130 := jM_36 J127 hz130
    have R35_130 : z130 35 = z 35 := (qt_row hz130 (by decide)).trans (R35_127)
    have k130_0 : (z130 36 0).toInt = (z127 36 0).toInt := congrArg Int32.toInt (qt_off hz130 (by decide))
    have k130_1 : (z130 36 1).toInt = x129.toInt := congrArg Int32.toInt (qt_at hz130)
    have k130_2 : (z130 36 2).toInt = (z127 36 2).toInt := congrArg Int32.toInt (qt_off hz130 (by decide))
    have k130_3 : (z130 35 0).toInt = (z127 35 0).toInt := congrArg Int32.toInt (qt_ne hz130 0 (by decide))
    have k130_4 : (z130 35 1).toInt = (z127 35 1).toInt := congrArg Int32.toInt (qt_ne hz130 1 (by decide))
    have k130_5 : (z130 35 2).toInt = (z127 35 2).toInt := congrArg Int32.toInt (qt_ne hz130 2 (by decide))
    have k130_6 : (z130 0 58).toInt = (z127 0 58).toInt := congrArg Int32.toInt (qt_ne hz130 58 (by decide))
    have bt130 := bt_up bt127 hz130 ⟨by decide, by decide, by decide, fun h => absurd h (by decide)⟩
    refine lv_aload_n hx hb dX11_pours_23 rfl (lv_at hl 0 rfl) ?_
    refine qf_get hx hb hts inX11 hown hK hP (q0 := 0) (by decide) (hgM_0 ca o) rfl 55 (by decide) wq_1047 (v := .ref (o + 36)) rfl dX11_pours_24 ?_
    refine lv_iconst (v := 2) hx hb dX11_pours_27 (by decide) ?_
    refine lv_iload_n hx hb dX11_pours_28 rfl (lv_at hl 1 rfl) ?_
    refine lv_sipush (v := 441) hx hb dX11_pours_29 (by decide) ?_
    refine lv_idiv hx hb dX11_pours_32 (by decide) ?_
    refine lv_topi (fun x131 e131 => ?_)
    have t131 : x131.toInt = a0.toInt / 441 := ga_div e131 rfl (by omega) (by decide)
    refine qa_iast2 hx hb hK hP hS qw_Ai (q0 := 36) (by decide) 0 (N := 3) (hgM_36 ca o) rfl (i := 2) (x := x131) (gi_in (by decide) (by decide)) dX11_pours_33 (fun z132 H locs hz132 hP hS => ?_)
    have J132 := jM_36 J130 hz132
    have R35_132 : z132 35 = z 35 := (qt_row hz132 (by decide)).trans (R35_130)
    have k132_0 : (z132 36 0).toInt = (z130 36 0).toInt := congrArg Int32.toInt (qt_off hz132 (by decide))
    have k132_1 : (z132 36 1).toInt = (z130 36 1).toInt := congrArg Int32.toInt (qt_off hz132 (by decide))
    have k132_2 : (z132 36 2).toInt = x131.toInt := congrArg Int32.toInt (qt_at hz132)
    have k132_3 : (z132 35 0).toInt = (z130 35 0).toInt := congrArg Int32.toInt (qt_ne hz132 0 (by decide))
    have k132_4 : (z132 35 1).toInt = (z130 35 1).toInt := congrArg Int32.toInt (qt_ne hz132 1 (by decide))
    have k132_5 : (z132 35 2).toInt = (z130 35 2).toInt := congrArg Int32.toInt (qt_ne hz132 2 (by decide))
    have k132_6 : (z132 0 58).toInt = (z130 0 58).toInt := congrArg Int32.toInt (qt_ne hz132 58 (by decide))
    have bt132 := bt_up bt130 hz132 ⟨by decide, by decide, by decide, fun h => absurd h (by decide)⟩
    refine lv_aload_n hx hb dX11_pours_34 rfl (lv_at hl 0 rfl) ?_
    refine qf_get hx hb hts inX11 hown hK hP (q0 := 0) (by decide) (hgM_0 ca o) rfl 55 (by decide) wq_1047 (v := .ref (o + 36)) rfl dX11_pours_35 ?_
    refine lv_iload_n hx hb dX11_pours_38 rfl (lv_at hl 2 rfl) ?_
    refine qa_iald hx hb hK hP (q0 := 36) (by decide) 0 (N := 3) (hgM_36 ca o) rfl (gi_in (by decide) (by decide)) dX11_pours_39 ?_
    refine lv_topi (fun x133 e133 => ?_)
    have k133 : x133.toInt = (z132 36 2).toInt := congrArg Int32.toInt e133
    refine lv_aload_n hx hb dX11_pours_40 rfl (lv_at hl 0 rfl) ?_
    refine qf_get hx hb hts inX11 hown hK hP (q0 := 0) (by decide) (hgM_0 ca o) rfl 54 (by decide) wq_1046 (v := .ref (o + 35)) rfl dX11_pours_41 ?_
    refine lv_iload_n hx hb dX11_pours_44 rfl (lv_at hl 3 rfl) ?_
    refine qa_iald hx hb hK hP (q0 := 35) (by decide) 0 (N := 3) (hgM_35 ca o) rfl (gi_in (by decide) (by decide)) dX11_pours_45 ?_
    refine lv_topi (fun x134 e134 => ?_)
    have k134 : x134.toInt = (z132 35 1).toInt := congrArg Int32.toInt e134
    refine lv_aload_n hx hb dX11_pours_46 rfl (lv_at hl 0 rfl) ?_
    refine qf_get hx hb hts inX11 hown hK hP (q0 := 0) (by decide) (hgM_0 ca o) rfl 55 (by decide) wq_1047 (v := .ref (o + 36)) rfl dX11_pours_47 ?_
    refine lv_iload_n hx hb dX11_pours_50 rfl (lv_at hl 3 rfl) ?_
    refine qa_iald hx hb hK hP (q0 := 36) (by decide) 0 (N := 3) (hgM_36 ca o) rfl (gi_in (by decide) (by decide)) dX11_pours_51 ?_
    refine lv_topi (fun x135 e135 => ?_)
    have k135 : x135.toInt = (z132 36 1).toInt := congrArg Int32.toInt e135
    refine lv_isub hx hb dX11_pours_52 ?_
    refine lv_topi (fun x136 e136 => ?_)
    have t136 : x136.toInt = x134.toInt - x135.toInt := ga_sub e136 rfl rfl (by omega) (by omega)
    refine qc_Sip (As := [.int x133, .int x136]) (rest := []) (k0 := 2) (m_min l D ca o b z132 y J132 x133 x136) kc_yX11_min ⟨hx, hb, hml, hown, hts⟩ wq_1390 rfl rfl ⟨Nat.le_of_ble_eq_true rfl, Nat.le_of_ble_eq_true rfl⟩ wq_all hP hK hS qw_Ai rfl hl.1 rfl (Nat.le_of_ble_eq_true rfl) dX11_pours_53 ⟨Nat.zero_le _, Nat.zero_le _⟩ (fun r137 H locs h137 hP hS _ _ => ?_)
    have p137_1 : r137.toInt = min x133.toInt x136.toInt := h137.2
    refine lv_istore (lv' := [(4, .int r137), (0, .ref (o + 0)), (1, .int a0), (2, .int 2), (3, .int 1)]) hx hb dX11_pours_56 hl (by decide) rfl (fun ls hl => ?_)
    refine lv_aload_n hx hb dX11_pours_58 rfl (lv_at hl 1 rfl) ?_
    refine qf_get hx hb hts inX11 hown hK hP (q0 := 0) (by decide) (hgM_0 ca o) rfl 55 (by decide) wq_1047 (v := .ref (o + 36)) rfl dX11_pours_59 ?_
    refine lv_iload_n hx hb dX11_pours_62 rfl (lv_at hl 3 rfl) ?_
    refine lv_aload_n hx hb dX11_pours_63 rfl (lv_at hl 1 rfl) ?_
    refine qf_get hx hb hts inX11 hown hK hP (q0 := 0) (by decide) (hgM_0 ca o) rfl 55 (by decide) wq_1047 (v := .ref (o + 36)) rfl dX11_pours_64 ?_
    refine lv_iload_n hx hb dX11_pours_67 rfl (lv_at hl 3 rfl) ?_
    refine qa_iald hx hb hK hP (q0 := 36) (by decide) 0 (N := 3) (hgM_36 ca o) rfl (gi_in (by decide) (by decide)) dX11_pours_68 ?_
    refine lv_topi (fun x138 e138 => ?_)
    have k138 : x138.toInt = (z132 36 2).toInt := congrArg Int32.toInt e138
    have ag138 : x138.toInt = x133.toInt := congrArg Int32.toInt (e138.trans e133.symm)
    refine lv_iload hx hb dX11_pours_69 (lv_at hl 0 rfl) ?_
    refine lv_isub hx hb dX11_pours_71 ?_
    refine lv_topi (fun x139 e139 => ?_)
    have t139 : x139.toInt = x138.toInt - r137.toInt := ga_sub e139 rfl rfl (by omega) (by omega)
    refine qa_iast2 hx hb hK hP hS qw_Ai (q0 := 36) (by decide) 0 (N := 3) (hgM_36 ca o) rfl (i := 2) (x := x139) (gi_in (by decide) (by decide)) dX11_pours_72 (fun z140 H locs hz140 hP hS => ?_)
    have J140 := jM_36 J132 hz140
    have R35_140 : z140 35 = z 35 := (qt_row hz140 (by decide)).trans (R35_132)
    have k140_0 : (z140 36 0).toInt = (z132 36 0).toInt := congrArg Int32.toInt (qt_off hz140 (by decide))
    have k140_1 : (z140 36 1).toInt = (z132 36 1).toInt := congrArg Int32.toInt (qt_off hz140 (by decide))
    have k140_2 : (z140 36 2).toInt = x139.toInt := congrArg Int32.toInt (qt_at hz140)
    have k140_3 : (z140 35 0).toInt = (z132 35 0).toInt := congrArg Int32.toInt (qt_ne hz140 0 (by decide))
    have k140_4 : (z140 35 1).toInt = (z132 35 1).toInt := congrArg Int32.toInt (qt_ne hz140 1 (by decide))
    have k140_5 : (z140 35 2).toInt = (z132 35 2).toInt := congrArg Int32.toInt (qt_ne hz140 2 (by decide))
    have k140_6 : (z140 0 58).toInt = (z132 0 58).toInt := congrArg Int32.toInt (qt_ne hz140 58 (by decide))
    have bt140 := bt_up bt132 hz140 ⟨by decide, by decide, by decide, fun h => absurd h (by decide)⟩
    refine lv_aload_n hx hb dX11_pours_73 rfl (lv_at hl 1 rfl) ?_
    refine qf_get hx hb hts inX11 hown hK hP (q0 := 0) (by decide) (hgM_0 ca o) rfl 55 (by decide) wq_1047 (v := .ref (o + 36)) rfl dX11_pours_74 ?_
    refine lv_iload_n hx hb dX11_pours_77 rfl (lv_at hl 4 rfl) ?_
    refine lv_aload_n hx hb dX11_pours_78 rfl (lv_at hl 1 rfl) ?_
    refine qf_get hx hb hts inX11 hown hK hP (q0 := 0) (by decide) (hgM_0 ca o) rfl 55 (by decide) wq_1047 (v := .ref (o + 36)) rfl dX11_pours_79 ?_
    refine lv_iload_n hx hb dX11_pours_82 rfl (lv_at hl 4 rfl) ?_
    refine qa_iald hx hb hK hP (q0 := 36) (by decide) 0 (N := 3) (hgM_36 ca o) rfl (gi_in (by decide) (by decide)) dX11_pours_83 ?_
    refine lv_topi (fun x141 e141 => ?_)
    have k141 : x141.toInt = (z140 36 1).toInt := congrArg Int32.toInt e141
    refine lv_iload hx hb dX11_pours_84 (lv_at hl 0 rfl) ?_
    refine lv_iadd hx hb dX11_pours_86 ?_
    refine lv_topi (fun x142 e142 => ?_)
    have t142 : x142.toInt = x141.toInt + r137.toInt := ga_add e142 rfl rfl (by omega) (by omega)
    refine qa_iast2 hx hb hK hP hS qw_Ai (q0 := 36) (by decide) 0 (N := 3) (hgM_36 ca o) rfl (i := 1) (x := x142) (gi_in (by decide) (by decide)) dX11_pours_87 (fun z143 H locs hz143 hP hS => ?_)
    have J143 := jM_36 J140 hz143
    have R35_143 : z143 35 = z 35 := (qt_row hz143 (by decide)).trans (R35_140)
    have k143_0 : (z143 36 0).toInt = (z140 36 0).toInt := congrArg Int32.toInt (qt_off hz143 (by decide))
    have k143_1 : (z143 36 1).toInt = x142.toInt := congrArg Int32.toInt (qt_at hz143)
    have k143_2 : (z143 36 2).toInt = (z140 36 2).toInt := congrArg Int32.toInt (qt_off hz143 (by decide))
    have k143_3 : (z143 35 0).toInt = (z140 35 0).toInt := congrArg Int32.toInt (qt_ne hz143 0 (by decide))
    have k143_4 : (z143 35 1).toInt = (z140 35 1).toInt := congrArg Int32.toInt (qt_ne hz143 1 (by decide))
    have k143_5 : (z143 35 2).toInt = (z140 35 2).toInt := congrArg Int32.toInt (qt_ne hz143 2 (by decide))
    have k143_6 : (z143 0 58).toInt = (z140 0 58).toInt := congrArg Int32.toInt (qt_ne hz143 58 (by decide))
    have bt143 := bt_up bt140 hz143 ⟨by decide, by decide, by decide, fun h => absurd h (by decide)⟩
    refine lv_aload_n hx hb dX11_pours_88 rfl (lv_at hl 1 rfl) ?_
    refine lv_aload_n hx hb dX11_pours_89 rfl (lv_at hl 1 rfl) ?_
    refine qf_get hx hb hts inX11 hown hK hP (q0 := 0) (by decide) (hgM_0 ca o) rfl 55 (by decide) wq_1047 (v := .ref (o + 36)) rfl dX11_pours_90 ?_
    refine lv_iconst (v := 0) hx hb dX11_pours_93 (by decide) ?_
    refine qa_iald hx hb hK hP (q0 := 36) (by decide) 0 (N := 3) (hgM_36 ca o) rfl (gi_in (by decide) (by decide)) dX11_pours_94 ?_
    refine lv_topi (fun x144 e144 => ?_)
    have k144 : x144.toInt = (z143 36 0).toInt := congrArg Int32.toInt e144
    refine lv_aload_n hx hb dX11_pours_95 rfl (lv_at hl 1 rfl) ?_
    refine qf_get hx hb hts inX11 hown hK hP (q0 := 0) (by decide) (hgM_0 ca o) rfl 55 (by decide) wq_1047 (v := .ref (o + 36)) rfl dX11_pours_96 ?_
    refine lv_iconst (v := 1) hx hb dX11_pours_99 (by decide) ?_
    refine qa_iald hx hb hK hP (q0 := 36) (by decide) 0 (N := 3) (hgM_36 ca o) rfl (gi_in (by decide) (by decide)) dX11_pours_100 ?_
    refine lv_topi (fun x145 e145 => ?_)
    have k145 : x145.toInt = (z143 36 1).toInt := congrArg Int32.toInt e145
    refine lv_aload_n hx hb dX11_pours_101 rfl (lv_at hl 1 rfl) ?_
    refine qf_get hx hb hts inX11 hown hK hP (q0 := 0) (by decide) (hgM_0 ca o) rfl 55 (by decide) wq_1047 (v := .ref (o + 36)) rfl dX11_pours_102 ?_
    refine lv_iconst (v := 2) hx hb dX11_pours_105 (by decide) ?_
    refine qa_iald hx hb hK hP (q0 := 36) (by decide) 0 (N := 3) (hgM_36 ca o) rfl (gi_in (by decide) (by decide)) dX11_pours_106 ?_
    refine lv_topi (fun x146 e146 => ?_)
    have k146 : x146.toInt = (z143 36 2).toInt := congrArg Int32.toInt e146
    refine qc_Sip (As := [.int x144, .int x145, .int x146]) (rest := [.ref (o + 0)]) (k0 := 3) (m_stateOf l D ca o b z143 y J143 x144 x145 x146 ⟨by omega, by omega⟩ ⟨by omega, by omega⟩ ⟨by omega, by omega⟩) kc_yX11_stateOf ⟨hx, hb, hml, hown, hts⟩ wq_1567 rfl rfl ⟨Nat.le_of_ble_eq_true rfl, Nat.le_of_ble_eq_true rfl⟩ wq_all hP hK hS qw_Ai rfl hl.1 rfl (Nat.le_of_ble_eq_true rfl) dX11_pours_107 ⟨Nat.zero_le _, Nat.zero_le _⟩ (fun r147 H locs h147 hP hS _ _ => ?_)
    have p147_1 : r147.toInt = x144.toInt + 21 * x145.toInt + 441 * x146.toInt := h147.2
    have b147 : (0 : Int) ≤ r147.toInt ∧ r147.toInt ≤ 9260 := h147.1
    refine lv_aload_n hx hb dX11_pours_110 rfl (lv_at hl 1 rfl) ?_
    refine qf_get hx hb hts inX11 hown hK hP (q0 := 0) (by decide) (hgM_0 ca o) rfl 57 (by decide) wq_1049 (v := .ref (o + 38)) rfl dX11_pours_111 ?_
    refine lv_iload_n hx hb dX11_pours_114 rfl (lv_at hl 2 rfl) ?_
    refine qa_iald hx hb hK hP (q0 := 38) (by decide) 0 (N := 9261) (hgM_38 ca o) rfl (gi_in (by omega) (by omega)) dX11_pours_115 ?_
    refine lv_topi (fun x148 e148 => ?_)
    have tq148 := bt143.2.1 a0.toNatClampNeg (ga_nat (by omega) (show _ < (9261 : Int) from by omega))
    rw [← e148] at tq148
    have tz148 := iM_0_58 J143 rfl
    refine lv_iconst (v := 1) hx hb dX11_pours_116 (by decide) ?_
    refine lv_iadd hx hb dX11_pours_117 ?_
    refine lv_topi (fun x149 e149 => ?_)
    have t149 : x149.toInt = x148.toInt + (1 : Int) := ga_add e149 rfl rfl (by omega) (by omega)
    refine qc_Vv2 (As := [.int r147, .int x149]) (rest := []) (k0 := 2) (m_reaches l D ca o b z143 y J143 r147 x149 ⟨by omega, by omega⟩ ((okS_of p147_1 (by omega) (by omega) (by omega) (by omega) (by omega) (by omega) (by omega) (by omega))) (bt143) (by omega)) kc_yX11_reaches ⟨hx, hb, hml, hown, hts⟩ wq_1570 rfl rfl ⟨Nat.le_of_ble_eq_true rfl, Nat.le_of_ble_eq_true rfl⟩ wq_all hP hK hS qw_Ai (q0 := 0) (by decide) (hgM_0 ca o _ _) rfl rfl hl.1 rfl (Nat.le_of_ble_eq_true rfl) dX11_pours_118 ⟨Nat.zero_le _, Nat.zero_le _⟩ (fun z150 y150 H locs h150 hP hS _ _ => ?_)
    have J150 : qJM b z150 := h150.1
    have R35_150 : z150 35 = z 35 := (h150.2.1).trans (R35_143)
    have p150_2 : btI z150 := h150.2.2
    exact W.vret hx hb hr (fun t ht hW => ⟨⟨(z150, y150), rfl, ⟨J150, R35_150, p150_2⟩, by rw [ht]; exact hP, va_K.moved hW.alike hK⟩, hS.F ht⟩) hS.2.2 dX11_pours_121
