set_option maxRecDepth 100000 in
set_option maxHeartbeats 8000000 in
theorem m_isForm (l : Launch) (D : va_G) (ca : Nat → ClassId) (o : Nat) (b z : Nat → Nat → Int32) (y : Nat → Nat → Int64) (J0 : qJM b z) (a0 : Int32)  : qM l yX11_isForm cX11_isForm 2 (some .boolean) 2 82 (qPre D vwCl (qT6 ca) o 41 (qG (GM ca o) z y) [.ref (o + 0), .int a0]) (va_Qi (fun r (_ : Unit) => ((r = 1 ∧ (0 ≤ a0.toInt ∧ a0.toInt ≤ 5)) ∨ (r = 0))) (qB D vwCl (qT6 ca) o 41 (fun _ : Unit => qG (GM ca o) z y)) (qw_A o 41)) (qw_A o 41) := by
  refine Met.ofW (cc := cX11_isForm) (maxL := 2) (ret := (some .boolean)) (by decide) rfl ?_
  intro p e s m args below meth c s₁ B hml hv
  obtain ⟨rfl, hP, hK⟩ := hv
  have hx := B.exec
  have hb := B.bytes
  have hr := B.returns
  have hts0 := atoms_spec (ws := Cond.code yX11_isForm cX11_isForm 2 (some .boolean) :: qtbl) B.pre
  have hts : ∀ w ∈ qtbl, w.before _ s = true := fun w h => hts0 w (List.mem_cons_of_mem _ h)
  have hown : s.vm.findClass RX11 = some m.cls := findClass_of_methodNamed B.named
  have hlocks := B.notSynchronized
  have hS : va_S (qw_A o 41) s.heap s.heap [] := va_S.rf
  have hl := lv_entry ([.ref (o + 0), .int a0]) (n := 2) (Nat.le_of_ble_eq_true rfl)
  rw [lg_entry_eq]
  generalize (lg_sl ([.ref (o + 0), .int a0]) ++ List.replicate (2 - (lg_sl ([.ref (o + 0), .int a0])).length) Slot.unset).toArray = ls at hl ⊢
  have hl : lv_has ls 2 [(0, .ref (o + 0)), (1, .int a0)] := hl
  refine lv_iload_n hx hb dX11_isForm_0 rfl (lv_at hl 1 rfl) ?_
  refine lv_iconst (v := 0) hx hb dX11_isForm_1 (by decide) ?_
  refine lv_iconst (v := 5) hx hb dX11_isForm_2 (by decide) ?_
  refine qc_Sip (As := [.int a0, .int 0, .int 5]) (rest := []) (k0 := 3) (m_in l D ca o b z y J0 a0 0 5) kc_yX11_in ⟨hx, hb, hml, hown, hts⟩ wq_1187 rfl rfl ⟨Nat.le_of_ble_eq_true rfl, Nat.le_of_ble_eq_true rfl⟩ wq_all hP hK hS qw_Ai rfl hl.1 rfl (Nat.le_of_ble_eq_true rfl) dX11_isForm_3 ⟨Nat.zero_le _, Nat.zero_le _⟩ (fun r1 H locs h1 hP hS _ _ => ?_)
  rcases h1 with ⟨hr1, hf1_0⟩ | ⟨hr1, hf1_0⟩
  · subst hr1
    have hg1_0 : (0 : Int) ≤ a0.toInt ∧ a0.toInt ≤ (5 : Int) := hf1_0
    refine lv_if_eq (tgt := 27) hx hb dX11_isForm_6 (by decide) (fun q => absurd q (by decide)) (fun _ => ?_)
    refine lv_aload_n hx hb dX11_isForm_9 rfl (lv_at hl 0 rfl) ?_
    refine qf_get hx hb hts inX11 hown hK hP (q0 := 0) (by decide) (hgM_0 ca o) rfl 6 (by decide) wq_999 (v := .int (z 0 6)) rfl dX11_isForm_10 ?_
    refine lv_topi (fun x2 e2 => ?_)
    refine lv_bipush (v := 10) hx hb dX11_isForm_13 (by decide) ?_
    refine lv_iload_n hx hb dX11_isForm_15 rfl (lv_at hl 1 rfl) ?_
    refine lv_iadd hx hb dX11_isForm_16 ?_
    refine lv_topi (fun x3 e3 => ?_)
    have t3 : x3.toInt = (10 : Int) + a0.toInt := ga_add e3 rfl rfl (by omega) (by omega)
    refine qc_Sip (As := [.int x2, .int x3]) (rest := []) (k0 := 2) (m_has l D ca o b z y J0 x2 x3) kc_yX11_has ⟨hx, hb, hml, hown, hts⟩ wq_1198 rfl rfl ⟨Nat.le_of_ble_eq_true rfl, Nat.le_of_ble_eq_true rfl⟩ wq_all hP hK hS qw_Ai rfl hl.1 rfl (Nat.le_of_ble_eq_true rfl) dX11_isForm_17 ⟨Nat.zero_le _, Nat.zero_le _⟩ (fun r4 H locs h4 hP hS _ _ => ?_)
    rcases h4 with ⟨hr4, hf4_0⟩ | ⟨hr4, hf4_0⟩
    · subst hr4
      have hg4_0 : bitAt x2 x3 ≠ 0 := hf4_0
      refine lv_if_eq (tgt := 27) hx hb dX11_isForm_20 (by decide) (fun q => absurd q (by decide)) (fun _ => ?_)
      refine lv_iconst (v := 1) hx hb dX11_isForm_23 (by decide) ?_
      refine lv_goto (tgt := 28) hx hb dX11_isForm_24 (by decide) ?_
      exact W.zret (v := 1) (ty := .boolean) hx hb hr rfl (fun t ht hW => ⟨⟨1, (), rfl, Or.inl ⟨rfl, ⟨by omega, by omega⟩⟩, by rw [ht]; exact hP, va_K.moved hW.alike hK⟩, hS.F ht⟩) hS.2.2 dX11_isForm_28
    · subst hr4
      have hg4_0 : bitAt x2 x3 = 0 := hf4_0
      refine lv_if_eq (tgt := 27) hx hb dX11_isForm_20 (by decide) (fun _ => ?_) (fun q => absurd (by decide) q)
      refine lv_iconst (v := 0) hx hb dX11_isForm_27 (by decide) ?_
      exact W.zret (v := 0) (ty := .boolean) hx hb hr rfl (fun t ht hW => ⟨⟨0, (), rfl, Or.inr rfl, by rw [ht]; exact hP, va_K.moved hW.alike hK⟩, hS.F ht⟩) hS.2.2 dX11_isForm_28
  · subst hr1
    have hg1_0 : ¬ ((0 : Int) ≤ a0.toInt ∧ a0.toInt ≤ (5 : Int)) := hf1_0
    refine lv_if_eq (tgt := 27) hx hb dX11_isForm_6 (by decide) (fun _ => ?_) (fun q => absurd (by decide) q)
    refine lv_iconst (v := 0) hx hb dX11_isForm_27 (by decide) ?_
    exact W.zret (v := 0) (ty := .boolean) hx hb hr rfl (fun t ht hW => ⟨⟨0, (), rfl, Or.inr rfl, by rw [ht]; exact hP, va_K.moved hW.alike hK⟩, hS.F ht⟩) hS.2.2 dX11_isForm_28
set_option maxRecDepth 100000 in
set_option maxHeartbeats 8000000 in
theorem m_lists (l : Launch) (D : va_G) (ca : Nat → ClassId) (o : Nat) (b z : Nat → Nat → Int32) (y : Nat → Nat → Int64) (J0 : qJM b z) (a0 : Int32)  : qM l yX11_lists cX11_lists 4 (some .boolean) 4 125 (qPre D vwCl (qT6 ca) o 41 (qG (GM ca o) z y) [.ref (o + 0), .int a0]) (va_Qi (fun r u => ((0 : Int) ≤ r.toInt ∧ r.toInt ≤ 1) ∧ qJM b u.1 ∧ u.1 12 = z 12) (qB D vwCl (qT6 ca) o 41 (fun u : qZ => qG (GM ca o) u.1 u.2)) (qw_A o 41)) (qw_A o 41) := by
  refine Met.ofW (cc := cX11_lists) (maxL := 4) (ret := (some .boolean)) (by decide) rfl ?_
  intro p e s m args below meth c s₁ B hml hv
  obtain ⟨rfl, hP, hK⟩ := hv
  have hx := B.exec
  have hb := B.bytes
  have hr := B.returns
  have hts0 := atoms_spec (ws := Cond.code yX11_lists cX11_lists 4 (some .boolean) :: qtbl) B.pre
  have hts : ∀ w ∈ qtbl, w.before _ s = true := fun w h => hts0 w (List.mem_cons_of_mem _ h)
  have hown : s.vm.findClass RX11 = some m.cls := findClass_of_methodNamed B.named
  have hlocks := B.notSynchronized
  have hS : va_S (qw_A o 41) s.heap s.heap [] := va_S.rf
  have hl := lv_entry ([.ref (o + 0), .int a0]) (n := 4) (Nat.le_of_ble_eq_true rfl)
  rw [lg_entry_eq]
  generalize (lg_sl ([.ref (o + 0), .int a0]) ++ List.replicate (4 - (lg_sl ([.ref (o + 0), .int a0])).length) Slot.unset).toArray = ls at hl ⊢
  have hl : lv_has ls 4 [(0, .ref (o + 0)), (1, .int a0)] := hl
  refine lv_aload_n hx hb dX11_lists_0 rfl (lv_at hl 0 rfl) ?_
  refine lv_iconst (v := 0) hx hb dX11_lists_1 (by decide) ?_
  refine qf_put2 hx hb hts inX11 tyX11 tyX11_ok nmX11 hown hK hP hS qw_Ai (q0 := 0) (by decide) (hgM_0 ca o) rfl 41 (by decide) wq_1033 rfl (x := 0) 41 rfl rfl rfl (Nat.le_of_ble_eq_true rfl) dX11_lists_2 (fun z1 H locs hz1 hP hS => ?_)
  have J1 := jM_0_41 J0 hz1 ⟨by decide, by decide⟩
  have R12_1 : z1 12 = z 12 := (qt_row hz1 (by decide)).trans (rfl)
  have k1_0 : (z1 0 41).toInt = (0 : Int) := congrArg Int32.toInt (qt_at hz1)
  have rl1 : rl z1 = rl z := rl_up hz1 ⟨by decide, by decide, by decide, fun _ => by decide⟩
  refine lv_aload_n hx hb dX11_lists_5 rfl (lv_at hl 0 rfl) ?_
  refine qc_Vip (As := []) (rest := []) (k0 := 0) (m_rowMany l D ca o b z1 y J1) kc_yX11_rowMany ⟨hx, hb, hml, hown, hts⟩ wq_1315 rfl rfl ⟨Nat.le_of_ble_eq_true rfl, Nat.le_of_ble_eq_true rfl⟩ wq_all hP hK hS qw_Ai (q0 := 0) (by decide) (hgM_0 ca o _ _) rfl rfl hl.1 rfl (Nat.le_of_ble_eq_true rfl) dX11_lists_6 ⟨Nat.zero_le _, Nat.zero_le _⟩ (fun r2 H locs h2 hP hS _ _ => ?_)
  have p2_1 : rmI z1 6 r2 := h2.2
  refine lv_ldcw (v := 200000) hx hb hown (hts _ wq_1319) dX11_lists_9 ?_
  refine lv_icmp_le (tgt := 17) hx hb dX11_lists_12 (by decide) (fun c3 => ?_) (fun c3 => ?_)
  · have t3 : r2.toInt ≤ (200000 : Int) := gl_le c3
    refine lv_aload_n hx hb dX11_lists_17 rfl (lv_at hl 0 rfl) ?_
    refine qc_Vv2 (As := []) (rest := []) (k0 := 0) (m_firstRow l D ca o b z1 y J1) kc_yX11_firstRow ⟨hx, hb, hml, hown, hts⟩ wq_1336 rfl rfl ⟨Nat.le_of_ble_eq_true rfl, Nat.le_of_ble_eq_true rfl⟩ wq_all hP hK hS qw_Ai (q0 := 0) (by decide) (hgM_0 ca o _ _) rfl rfl hl.1 rfl (Nat.le_of_ble_eq_true rfl) dX11_lists_18 ⟨Nat.zero_le _, Nat.zero_le _⟩ (fun z4 y4 H locs h4 hP hS _ _ => ?_)
    have J4 : qJM b z4 := h4.1
    have R12_4 : z4 12 = z 12 := (h4.2.1).trans (R12_1)
    have p4_3 : rl z4 + 1 = rwp z1 6 := h4.2.2.2
    refine lv_iconst (v := 1) hx hb dX11_lists_21 (by decide) ?_
    refine lv_istore_n (lv' := [(2, .int 1), (0, .ref (o + 0)), (1, .int a0)]) hx hb dX11_lists_22 rfl hl (by decide) rfl (fun ls hl => ?_)
    have loop5 : ∀ (n : Nat) (w5_2 : Int32) (z5 : Nat → Nat → Int32) (y5 : Nat → Nat → Int64), (((rl z5 : Int) : Int) < (n : Int)) → ((1 : Int) ≤ w5_2.toInt ∧ w5_2.toInt ≤ 1) → (qJM b z5) → (z5 12 = z 12) → ∀ (H : Heap) (locs : List Loc), qw_P D vwCl o 41 (qG (GM ca o) z5 y5) H → va_S (qw_A o 41) s.heap H locs → ∀ (ls : Array Slot), lv_has ls 4 [(2, .int w5_2), (0, .ref (o + 0)), (1, .int a0)] → W p l e (headSpec (Cond.code yX11_lists cX11_lists 4 (some .boolean) :: qtbl) ({ frames := 4, cells := 0, slots := 0, locals := 125 })).room s m (([.ref (o + 0), .int a0] : List Value).toArray) below meth c H locs 0 0 (MQ below (va_Qi (fun r u => ((0 : Int) ≤ r.toInt ∧ r.toInt ≤ 1) ∧ qJM b u.1 ∧ u.1 12 = z 12) (qB D vwCl (qT6 ca) o 41 (fun u : qZ => qG (GM ca o) u.1 u.2)) (qw_A o 41)) (([.ref (o + 0), .int a0] : List Value).toArray) s 0 0 (qw_A o 41)) (F0 m 23 ls []) := by
      intro n
      induction n with
      | zero => intro w5_2 z5 y5 hb5 hv5_2 J5 v5_0; exfalso; omega
      | succ n5 ih5 =>
        intro w5_2 z5 y5 hb5 hv5_2 J5 v5_0 H locs hP hS ls hl
        refine lv_iload_n hx hb dX11_lists_23 rfl (lv_at hl 0 rfl) ?_
        refine lv_if_eq (tgt := 100) hx hb dX11_lists_24 (by decide) (fun c6 => ?_) (fun c6 => ?_)
        · have t6 : w5_2.toInt = (0 : Int) := gl_eq c6
          exfalso; omega
        · have t6 : w5_2.toInt ≠ (0 : Int) := gl_ne c6
          refine lv_aload_n hx hb dX11_lists_27 rfl (lv_at hl 1 rfl) ?_
          refine lv_iload_n hx hb dX11_lists_28 rfl (lv_at hl 2 rfl) ?_
          refine qc_Vip (As := [.int a0]) (rest := []) (k0 := 1) (m_fitsAll l D ca o b z5 y5 J5 a0) kc_yX11_fitsAll ⟨hx, hb, hml, hown, hts⟩ wq_1340 rfl rfl ⟨Nat.le_of_ble_eq_true rfl, Nat.le_of_ble_eq_true rfl⟩ wq_all hP hK hS qw_Ai (q0 := 0) (by decide) (hgM_0 ca o _ _) rfl rfl hl.1 rfl (Nat.le_of_ble_eq_true rfl) dX11_lists_29 ⟨Nat.zero_le _, Nat.zero_le _⟩ (fun r7 H locs h7 hP hS _ _ => ?_)
          have b7 : (0 : Int) ≤ r7.toInt ∧ r7.toInt ≤ 1 := h7
          refine lv_if_eq (tgt := 92) hx hb dX11_lists_32 (by decide) (fun c8 => ?_) (fun c8 => ?_)
          · have t8 : r7.toInt = (0 : Int) := gl_eq c8
            refine lv_aload_n hx hb dX11_lists_92 rfl (lv_at hl 1 rfl) ?_
            refine qc_Vi2 (As := []) (rest := []) (k0 := 0) (m_nextRow l D ca o b z5 y5 J5) kc_yX11_nextRow ⟨hx, hb, hml, hown, hts⟩ wq_1352 rfl rfl ⟨Nat.le_of_ble_eq_true rfl, Nat.le_of_ble_eq_true rfl⟩ wq_all hP hK hS qw_Ai (q0 := 0) (by decide) (hgM_0 ca o _ _) rfl rfl hl.1 rfl (Nat.le_of_ble_eq_true rfl) dX11_lists_93 ⟨Nat.zero_le _, Nat.zero_le _⟩ (fun r9 z9 y9 H locs h9 hP hS _ _ => ?_)
            have J9 : qJM b z9 := h9.2.1
            have R12_9 : z9 12 = z 12 := (h9.2.2.1).trans (v5_0)
            have p9_4 : (z9 0 41).toInt = (z5 0 41).toInt := h9.2.2.2.2
            rcases h9.1 with ⟨hr9, hf9_0⟩ | hr9
            · subst hr9
              have hg9_0 : rl z9 + 1 ≤ rl z5 := hf9_0
              refine lv_istore_n (lv' := [(2, .int 1), (0, .ref (o + 0)), (1, .int a0)]) hx hb dX11_lists_96 rfl hl (by decide) rfl (fun ls hl => ?_)
              refine lv_goto (tgt := 23) hx hb dX11_lists_97 (by decide) ?_
              exact ih5 1 z9 y9 (show ((rl z9 : Int) : Int) < (n5 : Int) from by omega) ⟨by decide, by decide⟩ J9 (R12_9) _ _ hP hS _ (lv_sub hl [0, 1, 2] rfl)
            · subst hr9
              refine lv_istore_n (lv' := [(2, .int 0), (0, .ref (o + 0)), (1, .int a0)]) hx hb dX11_lists_96 rfl hl (by decide) rfl (fun ls hl => ?_)
              refine lv_goto (tgt := 23) hx hb dX11_lists_97 (by decide) ?_
              refine lv_iload_n hx hb dX11_lists_23 rfl (lv_at hl 0 rfl) ?_
              refine lv_if_eq (tgt := 100) hx hb dX11_lists_24 (by decide) (fun _ => ?_) (fun q => absurd (by decide) q)
              refine lv_iconst (v := 1) hx hb dX11_lists_100 (by decide) ?_
              exact W.zret (v := 1) (ty := .boolean) hx hb hr rfl (fun t ht hW => ⟨⟨1, (z9, y9), rfl, ⟨⟨by decide, by decide⟩, J9, R12_9⟩, by rw [ht]; exact hP, va_K.moved hW.alike hK⟩, hS.F ht⟩) hS.2.2 dX11_lists_101
          · have t8 : r7.toInt ≠ (0 : Int) := gl_ne c8
            refine lv_aload_n hx hb dX11_lists_35 rfl (lv_at hl 1 rfl) ?_
            refine qf_get hx hb hts inX11 hown hK hP (q0 := 0) (by decide) (hgM_0 ca o) rfl 41 (by decide) wq_1033 (v := .int (z5 0 41)) rfl dX11_lists_36 ?_
            refine lv_topi (fun x10 e10 => ?_)
            have b10 := iM_0_41 J5 e10
            have k10 : x10.toInt = (z5 0 41).toInt := congrArg Int32.toInt e10
            refine lv_sipush (v := 2000) hx hb dX11_lists_39 (by decide) ?_
            refine lv_icmp_ne (tgt := 47) hx hb dX11_lists_42 (by decide) (fun c11 => ?_) (fun c11 => ?_)
            · have t11 : x10.toInt ≠ (2000 : Int) := gl_ne c11
              refine lv_iconst (v := 0) hx hb dX11_lists_47 (by decide) ?_
              refine lv_istore_n (lv' := [(3, .int 0), (2, .int w5_2), (0, .ref (o + 0)), (1, .int a0)]) hx hb dX11_lists_48 rfl hl (by decide) rfl (fun ls hl => ?_)
              have loop12 : ∀ (n : Nat) (w12_3 : Int32) (z12 : Nat → Nat → Int32) (y12 : Nat → Nat → Int64), ((6 - w12_3.toInt : Int) < (n : Int)) → ((0 : Int) ≤ w12_3.toInt ∧ w12_3.toInt ≤ 6) → (qJM b z12) → (rl z12 = rl z5) → ((z12 0 41).toInt = (z5 0 41).toInt) → (z12 12 = z 12) → ∀ (H : Heap) (locs : List Loc), qw_P D vwCl o 41 (qG (GM ca o) z12 y12) H → va_S (qw_A o 41) s.heap H locs → ∀ (ls : Array Slot), lv_has ls 4 [(3, .int w12_3), (2, .int w5_2), (0, .ref (o + 0)), (1, .int a0)] → W p l e (headSpec (Cond.code yX11_lists cX11_lists 4 (some .boolean) :: qtbl) ({ frames := 4, cells := 0, slots := 0, locals := 125 })).room s m (([.ref (o + 0), .int a0] : List Value).toArray) below meth c H locs 0 0 (MQ below (va_Qi (fun r u => ((0 : Int) ≤ r.toInt ∧ r.toInt ≤ 1) ∧ qJM b u.1 ∧ u.1 12 = z 12) (qB D vwCl (qT6 ca) o 41 (fun u : qZ => qG (GM ca o) u.1 u.2)) (qw_A o 41)) (([.ref (o + 0), .int a0] : List Value).toArray) s 0 0 (qw_A o 41)) (F0 m 49 ls []) := by
                intro n
                induction n with
                | zero => intro w12_3 z12 y12 hb12 hv12_3 J12 v12_0 v12_1 v12_2; exfalso; omega
                | succ n12 ih12 =>
                  intro w12_3 z12 y12 hb12 hv12_3 J12 v12_0 v12_1 v12_2 H locs hP hS ls hl
                  refine lv_iload_n hx hb dX11_lists_49 rfl (lv_at hl 0 rfl) ?_
                  refine lv_bipush (v := 6) hx hb dX11_lists_50 (by decide) ?_
                  refine lv_icmp_ge (tgt := 82) hx hb dX11_lists_52 (by decide) (fun c13 => ?_) (fun c13 => ?_)
                  · have t13 : w12_3.toInt ≥ (6 : Int) := gl_le c13
                    refine lv_aload_n hx hb dX11_lists_82 rfl (lv_at hl 2 rfl) ?_
                    refine lv_aload_n hx hb dX11_lists_83 rfl (lv_at hl 2 rfl) ?_
                    refine qf_get hx hb hts inX11 hown hK hP (q0 := 0) (by decide) (hgM_0 ca o) rfl 41 (by decide) wq_1033 (v := .int (z12 0 41)) rfl dX11_lists_84 ?_
                    refine lv_topi (fun x14 e14 => ?_)
                    have b14 := iM_0_41 J12 e14
                    have k14 : x14.toInt = (z12 0 41).toInt := congrArg Int32.toInt e14
                    refine lv_iconst (v := 1) hx hb dX11_lists_87 (by decide) ?_
                    refine lv_iadd hx hb dX11_lists_88 ?_
                    refine lv_topi (fun x15 e15 => ?_)
                    have t15 : x15.toInt = x14.toInt + (1 : Int) := ga_add e15 rfl rfl (by omega) (by omega)
                    refine qf_put2 hx hb hts inX11 tyX11 tyX11_ok nmX11 hown hK hP hS qw_Ai (q0 := 0) (by decide) (hgM_0 ca o) rfl 41 (by decide) wq_1033 rfl (x := x15) 41 rfl rfl rfl (Nat.le_of_ble_eq_true rfl) dX11_lists_89 (fun z16 H locs hz16 hP hS => ?_)
                    have J16 := jM_0_41 J12 hz16 ⟨by omega, by omega⟩
                    have R12_16 : z16 12 = z 12 := (qt_row hz16 (by decide)).trans (v12_2)
                    have k16_0 : (z16 0 41).toInt = x15.toInt := congrArg Int32.toInt (qt_at hz16)
                    have rl16 : rl z16 = rl z12 := rl_up hz16 ⟨by decide, by decide, by decide, fun _ => by decide⟩
                    refine lv_aload_n hx hb dX11_lists_92 rfl (lv_at hl 2 rfl) ?_
                    refine qc_Vi2 (As := []) (rest := []) (k0 := 0) (m_nextRow l D ca o b z16 y12 J16) kc_yX11_nextRow ⟨hx, hb, hml, hown, hts⟩ wq_1352 rfl rfl ⟨Nat.le_of_ble_eq_true rfl, Nat.le_of_ble_eq_true rfl⟩ wq_all hP hK hS qw_Ai (q0 := 0) (by decide) (hgM_0 ca o _ _) rfl rfl hl.1 rfl (Nat.le_of_ble_eq_true rfl) dX11_lists_93 ⟨Nat.zero_le _, Nat.zero_le _⟩ (fun r17 z17 y17 H locs h17 hP hS _ _ => ?_)
                    have J17 : qJM b z17 := h17.2.1
                    have R12_17 : z17 12 = z 12 := (h17.2.2.1).trans (R12_16)
                    have p17_4 : (z17 0 41).toInt = (z16 0 41).toInt := h17.2.2.2.2
                    rcases h17.1 with ⟨hr17, hf17_0⟩ | hr17
                    · subst hr17
                      have hg17_0 : rl z17 + 1 ≤ rl z16 := hf17_0
                      refine lv_istore_n (lv' := [(2, .int 1), (3, .int w12_3), (0, .ref (o + 0)), (1, .int a0)]) hx hb dX11_lists_96 rfl hl (by decide) rfl (fun ls hl => ?_)
                      refine lv_goto (tgt := 23) hx hb dX11_lists_97 (by decide) ?_
                      exact ih5 1 z17 y17 (show ((rl z17 : Int) : Int) < (n5 : Int) from by omega) ⟨by decide, by decide⟩ J17 (R12_17) _ _ hP hS _ (lv_sub hl [0, 2, 3] rfl)
                    · subst hr17
                      refine lv_istore_n (lv' := [(2, .int 0), (3, .int w12_3), (0, .ref (o + 0)), (1, .int a0)]) hx hb dX11_lists_96 rfl hl (by decide) rfl (fun ls hl => ?_)
                      refine lv_goto (tgt := 23) hx hb dX11_lists_97 (by decide) ?_
                      refine lv_iload_n hx hb dX11_lists_23 rfl (lv_at hl 0 rfl) ?_
                      refine lv_if_eq (tgt := 100) hx hb dX11_lists_24 (by decide) (fun _ => ?_) (fun q => absurd (by decide) q)
                      refine lv_iconst (v := 1) hx hb dX11_lists_100 (by decide) ?_
                      exact W.zret (v := 1) (ty := .boolean) hx hb hr rfl (fun t ht hW => ⟨⟨1, (z17, y17), rfl, ⟨⟨by decide, by decide⟩, J17, R12_17⟩, by rw [ht]; exact hP, va_K.moved hW.alike hK⟩, hS.F ht⟩) hS.2.2 dX11_lists_101
                  · have t13 : w12_3.toInt < (6 : Int) := gl_nle c13
                    refine lv_aload_n hx hb dX11_lists_55 rfl (lv_at hl 2 rfl) ?_
                    refine qf_get hx hb hts inX11 hown hK hP (q0 := 0) (by decide) (hgM_0 ca o) rfl 39 (by decide) wq_1031 (v := .ref (o + 26)) rfl dX11_lists_56 ?_
                    refine lv_bipush (v := 6) hx hb dX11_lists_59 (by decide) ?_
                    refine lv_aload_n hx hb dX11_lists_61 rfl (lv_at hl 2 rfl) ?_
                    refine qf_get hx hb hts inX11 hown hK hP (q0 := 0) (by decide) (hgM_0 ca o) rfl 41 (by decide) wq_1033 (v := .int (z12 0 41)) rfl dX11_lists_62 ?_
                    refine lv_topi (fun x18 e18 => ?_)
                    have b18 := iM_0_41 J12 e18
                    have k18 : x18.toInt = (z12 0 41).toInt := congrArg Int32.toInt e18
                    refine lv_imul hx hb dX11_lists_65 ?_
                    refine lv_topi (fun x19 e19 => ?_)
                    have t19 : x19.toInt = (6 : Int) * x18.toInt := ga_mul e19 rfl rfl (by omega) (by omega)
                    refine lv_iload_n hx hb dX11_lists_66 rfl (lv_at hl 0 rfl) ?_
                    refine lv_iadd hx hb dX11_lists_67 ?_
                    refine lv_topi (fun x20 e20 => ?_)
                    have t20 : x20.toInt = x19.toInt + w12_3.toInt := ga_add e20 rfl rfl (by omega) (by omega)
                    refine lv_aload_n hx hb dX11_lists_68 rfl (lv_at hl 2 rfl) ?_
                    refine qf_get hx hb hts inX11 hown hK hP (q0 := 0) (by decide) (hgM_0 ca o) rfl 36 (by decide) wq_1028 (v := .ref (o + 23)) rfl dX11_lists_69 ?_
                    refine lv_iload_n hx hb dX11_lists_72 rfl (lv_at hl 0 rfl) ?_
                    refine qa_iald hx hb hK hP (q0 := 23) (by decide) 0 (N := 6) (hgM_23 ca o) rfl (gi_in (by omega) (by omega)) dX11_lists_73 ?_
                    refine lv_topi (fun x21 e21 => ?_)
                    have b21 := iM_23 J12 e21
                    refine lv_i2b (v := x21) hx hb dX11_lists_74 (nby_ok ⟨by omega, by omega⟩) ?_
                    refine qa_bast2 hx hb hK hP hS qw_Ai (q0 := 26) (by decide) 3 (N := 12000) (hgM_26 ca o) rfl (i := x20) (x := x21) (gi_in (by omega) (by omega)) dX11_lists_75 (fun z22 H locs hz22 hP hS => ?_)
                    rw [nby_nar ⟨by omega, by omega⟩] at hz22
                    have J22 := jM_26 J12 hz22 ⟨by omega, by omega⟩
                    have R12_22 : z22 12 = z 12 := (qt_row hz22 (by decide)).trans (v12_2)
                    have k22_0 : (z22 0 41).toInt = (z12 0 41).toInt := congrArg Int32.toInt (qt_ne hz22 41 (by decide))
                    have rl22 : rl z22 = rl z12 := rl_up hz22 ⟨by decide, by decide, by decide, fun h => absurd h (by decide)⟩
                    obtain ⟨x23, e23⟩ : ∃ t : Int32, t = w12_3 + 1 := ⟨_, rfl⟩
                    refine lv_iinc (v := x23) (lv' := [(3, .int x23), (2, .int w5_2), (0, .ref (o + 0)), (1, .int a0)]) hx hb dX11_lists_76 hl (k := 0) rfl (by rw [e23]; rfl) (by decide) rfl (fun ls hl => ?_)
                    have t23 : x23.toInt = w12_3.toInt + (1 : Int) := ga_add e23 rfl rfl (by omega) (by omega)
                    refine lv_goto (tgt := 49) hx hb dX11_lists_79 (by decide) ?_
                    exact ih12 x23 z22 y12 (show (6 - x23.toInt : Int) < (n12 : Int) from by omega) ⟨by omega, by omega⟩ J22 ((rl22.trans v12_0)) (show (z22 0 41).toInt = (z5 0 41).toInt from by omega) (R12_22) _ _ hP hS _ (lv_sub hl [0, 1, 2, 3] rfl)
              exact loop12 7 0 z5 y5 (show (6 - (0 : Int) : Int) < ((7 : Nat) : Int) from by omega) ⟨by decide, by decide⟩ J5 (rfl) (show (z5 0 41).toInt = (z5 0 41).toInt from by omega) (v5_0) _ _ hP hS _ (lv_sub hl [0, 1, 2, 3] rfl)
            · have t11 : x10.toInt = (2000 : Int) := gl_eq c11
              refine lv_iconst (v := 0) hx hb dX11_lists_45 (by decide) ?_
              exact W.zret (v := 0) (ty := .boolean) hx hb hr rfl (fun t ht hW => ⟨⟨0, (z5, y5), rfl, ⟨⟨by decide, by decide⟩, J5, v5_0⟩, by rw [ht]; exact hP, va_K.moved hW.alike hK⟩, hS.F ht⟩) hS.2.2 dX11_lists_46
    exact loop5 (rl z4 + 1) 1 z4 y4 (show ((rl z4 : Int) : Int) < (((rl z4 + 1) : Nat) : Int) from by omega) ⟨by decide, by decide⟩ J4 (R12_4) _ _ hP hS _ (lv_sub hl [0, 1, 2] rfl)
  · have t3 : r2.toInt > (200000 : Int) := gl_nle c3
    refine lv_iconst (v := 0) hx hb dX11_lists_15 (by decide) ?_
    exact W.zret (v := 0) (ty := .boolean) hx hb hr rfl (fun t ht hW => ⟨⟨0, (z1, y), rfl, ⟨⟨by decide, by decide⟩, J1, R12_1⟩, by rw [ht]; exact hP, va_K.moved hW.alike hK⟩, hS.F ht⟩) hS.2.2 dX11_lists_16
set_option maxRecDepth 100000 in
set_option maxHeartbeats 8000000 in
theorem m_takesRow (l : Launch) (D : va_G) (ca : Nat → ClassId) (o : Nat) (b z : Nat → Nat → Int32) (y : Nat → Nat → Int64) (J0 : qJM b z) (a0 : Int32) (ha0 : (0 : Int) ≤ a0.toInt ∧ a0.toInt ≤ 1999) : qM l yX11_takesRow cX11_takesRow 3 none 1 60 (qPre D vwCl (qT6 ca) o 41 (qG (GM ca o) z y) [.ref (o + 0), .int a0]) (va_Qv (fun u => qJM b u.1 ∧ u.1 12 = z 12) (qB D vwCl (qT6 ca) o 41 (fun u : qZ => qG (GM ca o) u.1 u.2)) (qw_A o 41)) (qw_A o 41) := by
  refine Met.ofW (cc := cX11_takesRow) (maxL := 3) (ret := none) (by decide) rfl ?_
  intro p e s m args below meth c s₁ B hml hv
  obtain ⟨rfl, hP, hK⟩ := hv
  have hx := B.exec
  have hb := B.bytes
  have hr := B.returns
  have hts0 := atoms_spec (ws := Cond.code yX11_takesRow cX11_takesRow 3 none :: qtbl) B.pre
  have hts : ∀ w ∈ qtbl, w.before _ s = true := fun w h => hts0 w (List.mem_cons_of_mem _ h)
  have hown : s.vm.findClass RX11 = some m.cls := findClass_of_methodNamed B.named
  have hlocks := B.notSynchronized
  have hS : va_S (qw_A o 41) s.heap s.heap [] := va_S.rf
  have hl := lv_entry ([.ref (o + 0), .int a0]) (n := 3) (Nat.le_of_ble_eq_true rfl)
  rw [lg_entry_eq]
  generalize (lg_sl ([.ref (o + 0), .int a0]) ++ List.replicate (3 - (lg_sl ([.ref (o + 0), .int a0])).length) Slot.unset).toArray = ls at hl ⊢
  have hl : lv_has ls 3 [(0, .ref (o + 0)), (1, .int a0)] := hl
  refine lv_iconst (v := 0) hx hb dX11_takesRow_0 (by decide) ?_
  refine lv_istore_n (lv' := [(2, .int 0), (0, .ref (o + 0)), (1, .int a0)]) hx hb dX11_takesRow_1 rfl hl (by decide) rfl (fun ls hl => ?_)
  have loop1 : ∀ (n : Nat) (w1_2 : Int32) (z1 : Nat → Nat → Int32) (y1 : Nat → Nat → Int64), ((6 - w1_2.toInt : Int) < (n : Int)) → ((0 : Int) ≤ w1_2.toInt ∧ w1_2.toInt ≤ 6) → (qJM b z1) → (z1 12 = z 12) → ∀ (H : Heap) (locs : List Loc), qw_P D vwCl o 41 (qG (GM ca o) z1 y1) H → va_S (qw_A o 41) s.heap H locs → ∀ (ls : Array Slot), lv_has ls 3 [(2, .int w1_2), (0, .ref (o + 0)), (1, .int a0)] → W p l e (headSpec (Cond.code yX11_takesRow cX11_takesRow 3 none :: qtbl) ({ frames := 1, cells := 0, slots := 0, locals := 60 })).room s m (([.ref (o + 0), .int a0] : List Value).toArray) below meth c H locs 0 0 (MQ below (va_Qv (fun u => qJM b u.1 ∧ u.1 12 = z 12) (qB D vwCl (qT6 ca) o 41 (fun u : qZ => qG (GM ca o) u.1 u.2)) (qw_A o 41)) (([.ref (o + 0), .int a0] : List Value).toArray) s 0 0 (qw_A o 41)) (F0 m 2 ls []) := by
    intro n
    induction n with
    | zero => intro w1_2 z1 y1 hb1 hv1_2 J1 v1_0; exfalso; omega
    | succ n1 ih1 =>
      intro w1_2 z1 y1 hb1 hv1_2 J1 v1_0 H locs hP hS ls hl
      refine lv_iload_n hx hb dX11_takesRow_2 rfl (lv_at hl 0 rfl) ?_
      refine lv_bipush (v := 6) hx hb dX11_takesRow_3 (by decide) ?_
      refine lv_icmp_ge (tgt := 31) hx hb dX11_takesRow_5 (by decide) (fun c2 => ?_) (fun c2 => ?_)
      · have t2 : w1_2.toInt ≥ (6 : Int) := gl_le c2
        exact W.vret hx hb hr (fun t ht hW => ⟨⟨(z1, y1), rfl, ⟨J1, v1_0⟩, by rw [ht]; exact hP, va_K.moved hW.alike hK⟩, hS.F ht⟩) hS.2.2 dX11_takesRow_31
      · have t2 : w1_2.toInt < (6 : Int) := gl_nle c2
        refine lv_aload_n hx hb dX11_takesRow_8 rfl (lv_at hl 1 rfl) ?_
        refine qf_get hx hb hts inX11 hown hK hP (q0 := 0) (by decide) (hgM_0 ca o) rfl 36 (by decide) wq_1028 (v := .ref (o + 23)) rfl dX11_takesRow_9 ?_
        refine lv_iload_n hx hb dX11_takesRow_12 rfl (lv_at hl 0 rfl) ?_
        refine lv_aload_n hx hb dX11_takesRow_13 rfl (lv_at hl 1 rfl) ?_
        refine qf_get hx hb hts inX11 hown hK hP (q0 := 0) (by decide) (hgM_0 ca o) rfl 39 (by decide) wq_1031 (v := .ref (o + 26)) rfl dX11_takesRow_14 ?_
        refine lv_bipush (v := 6) hx hb dX11_takesRow_17 (by decide) ?_
        refine lv_iload_n hx hb dX11_takesRow_19 rfl (lv_at hl 2 rfl) ?_
        refine lv_imul hx hb dX11_takesRow_20 ?_
        refine lv_topi (fun x3 e3 => ?_)
        have t3 : x3.toInt = (6 : Int) * a0.toInt := ga_mul e3 rfl rfl (by omega) (by omega)
        refine lv_iload_n hx hb dX11_takesRow_21 rfl (lv_at hl 0 rfl) ?_
        refine lv_iadd hx hb dX11_takesRow_22 ?_
        refine lv_topi (fun x4 e4 => ?_)
        have t4 : x4.toInt = x3.toInt + w1_2.toInt := ga_add e4 rfl rfl (by omega) (by omega)
        refine qa_bald hx hb hK hP (q0 := 26) (by decide) 3 (N := 12000) (hgM_26 ca o) rfl (gi_in (by omega) (by omega)) dX11_takesRow_23 ?_
        refine lv_topi (fun x5 e5 => ?_)
        have b5 := iM_26 J1 e5
        refine qa_iast2 hx hb hK hP hS qw_Ai (q0 := 23) (by decide) 0 (N := 6) (hgM_23 ca o) rfl (i := w1_2) (x := x5) (gi_in (by omega) (by omega)) dX11_takesRow_24 (fun z6 H locs hz6 hP hS => ?_)
        have J6 := jM_23 J1 hz6 ⟨by omega, by omega⟩
        have R12_6 : z6 12 = z 12 := (qt_row hz6 (by decide)).trans (v1_0)
        obtain ⟨x7, e7⟩ : ∃ t : Int32, t = w1_2 + 1 := ⟨_, rfl⟩
        refine lv_iinc (v := x7) (lv' := [(2, .int x7), (0, .ref (o + 0)), (1, .int a0)]) hx hb dX11_takesRow_25 hl (k := 0) rfl (by rw [e7]; rfl) (by decide) rfl (fun ls hl => ?_)
        have t7 : x7.toInt = w1_2.toInt + (1 : Int) := ga_add e7 rfl rfl (by omega) (by omega)
        refine lv_goto (tgt := 2) hx hb dX11_takesRow_28 (by decide) ?_
        exact ih1 x7 z6 y1 (show (6 - x7.toInt : Int) < (n1 : Int) from by omega) ⟨by omega, by omega⟩ J6 (R12_6) _ _ hP hS _ (lv_sub hl [0, 1, 2] rfl)
  exact loop1 7 0 z y (show (6 - (0 : Int) : Int) < ((7 : Nat) : Int) from by omega) ⟨by decide, by decide⟩ J0 (rfl) _ _ hP hS _ (lv_sub hl [0, 1, 2] rfl)
set_option maxRecDepth 100000 in
set_option maxHeartbeats 8000000 in
theorem m_hears (l : Launch) (D : va_G) (ca : Nat → ClassId) (o : Nat) (b z : Nat → Nat → Int32) (y : Nat → Nat → Int64) (J0 : qJM b z) (a0 : Int32) (ha0 : (0 : Int) ≤ a0.toInt ∧ a0.toInt ≤ 15) : qM l yX11_hears cX11_hears 3 none 2 83 (qPre D vwCl (qT6 ca) o 41 (qG (GM ca o) z y) [.ref (o + 0), .int a0]) (va_Qv (fun u => qJM b u.1 ∧ u.1 12 = z 12) (qB D vwCl (qT6 ca) o 41 (fun u : qZ => qG (GM ca o) u.1 u.2)) (qw_A o 41)) (qw_A o 41) := by
  refine Met.ofW (cc := cX11_hears) (maxL := 3) (ret := none) (by decide) rfl ?_
  intro p e s m args below meth c s₁ B hml hv
  obtain ⟨rfl, hP, hK⟩ := hv
  have hx := B.exec
  have hb := B.bytes
  have hr := B.returns
  have hts0 := atoms_spec (ws := Cond.code yX11_hears cX11_hears 3 none :: qtbl) B.pre
  have hts : ∀ w ∈ qtbl, w.before _ s = true := fun w h => hts0 w (List.mem_cons_of_mem _ h)
  have hown : s.vm.findClass RX11 = some m.cls := findClass_of_methodNamed B.named
  have hlocks := B.notSynchronized
  have hS : va_S (qw_A o 41) s.heap s.heap [] := va_S.rf
  have hl := lv_entry ([.ref (o + 0), .int a0]) (n := 3) (Nat.le_of_ble_eq_true rfl)
  rw [lg_entry_eq]
  generalize (lg_sl ([.ref (o + 0), .int a0]) ++ List.replicate (3 - (lg_sl ([.ref (o + 0), .int a0])).length) Slot.unset).toArray = ls at hl ⊢
  have hl : lv_has ls 3 [(0, .ref (o + 0)), (1, .int a0)] := hl
  refine lv_iconst (v := 0) hx hb dX11_hears_0 (by decide) ?_
  refine lv_istore_n (lv' := [(2, .int 0), (0, .ref (o + 0)), (1, .int a0)]) hx hb dX11_hears_1 rfl hl (by decide) rfl (fun ls hl => ?_)
  have loop1 : ∀ (n : Nat) (w1_2 : Int32) (z1 : Nat → Nat → Int32) (y1 : Nat → Nat → Int64), ((2000 - w1_2.toInt : Int) < (n : Int)) → ((0 : Int) ≤ w1_2.toInt ∧ w1_2.toInt ≤ 2000) → (qJM b z1) → (z1 12 = z 12) → ∀ (H : Heap) (locs : List Loc), qw_P D vwCl o 41 (qG (GM ca o) z1 y1) H → va_S (qw_A o 41) s.heap H locs → ∀ (ls : Array Slot), lv_has ls 3 [(2, .int w1_2), (0, .ref (o + 0)), (1, .int a0)] → W p l e (headSpec (Cond.code yX11_hears cX11_hears 3 none :: qtbl) ({ frames := 2, cells := 0, slots := 0, locals := 83 })).room s m (([.ref (o + 0), .int a0] : List Value).toArray) below meth c H locs 0 0 (MQ below (va_Qv (fun u => qJM b u.1 ∧ u.1 12 = z 12) (qB D vwCl (qT6 ca) o 41 (fun u : qZ => qG (GM ca o) u.1 u.2)) (qw_A o 41)) (([.ref (o + 0), .int a0] : List Value).toArray) s 0 0 (qw_A o 41)) (F0 m 2 ls []) := by
    intro n
    induction n with
    | zero => intro w1_2 z1 y1 hb1 hv1_2 J1 v1_0; exfalso; omega
    | succ n1 ih1 =>
      intro w1_2 z1 y1 hb1 hv1_2 J1 v1_0 H locs hP hS ls hl
      refine lv_iload_n hx hb dX11_hears_2 rfl (lv_at hl 0 rfl) ?_
      refine lv_aload_n hx hb dX11_hears_3 rfl (lv_at hl 1 rfl) ?_
      refine qf_get hx hb hts inX11 hown hK hP (q0 := 0) (by decide) (hgM_0 ca o) rfl 41 (by decide) wq_1033 (v := .int (z1 0 41)) rfl dX11_hears_4 ?_
      refine lv_topi (fun x2 e2 => ?_)
      have b2 := iM_0_41 J1 e2
      refine lv_icmp_ge (tgt := 32) hx hb dX11_hears_7 (by decide) (fun c3 => ?_) (fun c3 => ?_)
      · have t3 : w1_2.toInt ≥ x2.toInt := gl_le c3
        exact W.vret hx hb hr (fun t ht hW => ⟨⟨(z1, y1), rfl, ⟨J1, v1_0⟩, by rw [ht]; exact hP, va_K.moved hW.alike hK⟩, hS.F ht⟩) hS.2.2 dX11_hears_32
      · have t3 : w1_2.toInt < x2.toInt := gl_nle c3
        refine lv_aload_n hx hb dX11_hears_10 rfl (lv_at hl 1 rfl) ?_
        refine lv_iload_n hx hb dX11_hears_11 rfl (lv_at hl 0 rfl) ?_
        refine qc_Vv2 (As := [.int w1_2]) (rest := []) (k0 := 1) (m_takesRow l D ca o b z1 y1 J1 w1_2 ⟨by omega, by omega⟩) kc_yX11_takesRow ⟨hx, hb, hml, hown, hts⟩ wq_1445 rfl rfl ⟨Nat.le_of_ble_eq_true rfl, Nat.le_of_ble_eq_true rfl⟩ wq_all hP hK hS qw_Ai (q0 := 0) (by decide) (hgM_0 ca o _ _) rfl rfl hl.1 rfl (Nat.le_of_ble_eq_true rfl) dX11_hears_12 ⟨Nat.zero_le _, Nat.zero_le _⟩ (fun z4 y4 H locs h4 hP hS _ _ => ?_)
        have J4 : qJM b z4 := h4.1
        have R12_4 : z4 12 = z 12 := (h4.2).trans (v1_0)
        refine lv_aload_n hx hb dX11_hears_15 rfl (lv_at hl 1 rfl) ?_
        refine qf_get hx hb hts inX11 hown hK hP (q0 := 0) (by decide) (hgM_0 ca o) rfl 40 (by decide) wq_1032 (v := .ref (o + 27)) rfl dX11_hears_16 ?_
        refine lv_iload_n hx hb dX11_hears_19 rfl (lv_at hl 0 rfl) ?_
        refine lv_aload_n hx hb dX11_hears_20 rfl (lv_at hl 1 rfl) ?_
        refine lv_iload_n hx hb dX11_hears_21 rfl (lv_at hl 2 rfl) ?_
        refine qc_Vip (As := [.int a0]) (rest := [.int w1_2, .ref (o + 27)]) (k0 := 1) (m_valueOf l D ca o b z4 y4 J4 a0 ⟨by omega, by omega⟩) kc_yX11_valueOf ⟨hx, hb, hml, hown, hts⟩ wq_1344 rfl rfl ⟨Nat.le_of_ble_eq_true rfl, Nat.le_of_ble_eq_true rfl⟩ wq_all hP hK hS qw_Ai (q0 := 0) (by decide) (hgM_0 ca o _ _) rfl rfl hl.1 rfl (Nat.le_of_ble_eq_true rfl) dX11_hears_22 ⟨Nat.zero_le _, Nat.zero_le _⟩ (fun r5 H locs h5 hP hS _ _ => ?_)
        refine qa_iast2 hx hb hK hP hS qw_Ai (q0 := 27) (by decide) 0 (N := 2000) (hgM_27 ca o) rfl (i := w1_2) (x := r5) (gi_in (by omega) (by omega)) dX11_hears_25 (fun z6 H locs hz6 hP hS => ?_)
        have J6 := jM_27 J4 hz6
        have R12_6 : z6 12 = z 12 := (qt_row hz6 (by decide)).trans (R12_4)
        obtain ⟨x7, e7⟩ : ∃ t : Int32, t = w1_2 + 1 := ⟨_, rfl⟩
        refine lv_iinc (v := x7) (lv' := [(2, .int x7), (0, .ref (o + 0)), (1, .int a0)]) hx hb dX11_hears_26 hl (k := 0) rfl (by rw [e7]; rfl) (by decide) rfl (fun ls hl => ?_)
        have t7 : x7.toInt = w1_2.toInt + (1 : Int) := ga_add e7 rfl rfl (by omega) (by omega)
        refine lv_goto (tgt := 2) hx hb dX11_hears_29 (by decide) ?_
        exact ih1 x7 z6 y4 (show (2000 - x7.toInt : Int) < (n1 : Int) from by omega) ⟨by omega, by omega⟩ J6 (R12_6) _ _ hP hS _ (lv_sub hl [0, 1, 2] rfl)
  exact loop1 2001 0 z y (show (2000 - (0 : Int) : Int) < ((2001 : Nat) : Int) from by omega) ⟨by decide, by decide⟩ J0 (rfl) _ _ hP hS _ (lv_sub hl [0, 1, 2] rfl)
set_option maxRecDepth 100000 in
set_option maxHeartbeats 8000000 in
theorem m_alikeTo (l : Launch) (D : va_G) (ca : Nat → ClassId) (o : Nat) (b z : Nat → Nat → Int32) (y : Nat → Nat → Int64) (J0 : qJM b z) (a0 : Int32) (ha0 : (0 : Int) ≤ a0.toInt ∧ a0.toInt ≤ 1999) : qM l yX11_alikeTo cX11_alikeTo 4 (some .int) 1 60 (qPre D vwCl (qT6 ca) o 41 (qG (GM ca o) z y) [.ref (o + 0), .int a0]) (va_Qi (fun r (_ : Unit) => True) (qB D vwCl (qT6 ca) o 41 (fun _ : Unit => qG (GM ca o) z y)) (qw_A o 41)) (qw_A o 41) := by
  refine Met.ofW (cc := cX11_alikeTo) (maxL := 4) (ret := (some .int)) (by decide) rfl ?_
  intro p e s m args below meth c s₁ B hml hv
  obtain ⟨rfl, hP, hK⟩ := hv
  have hx := B.exec
  have hb := B.bytes
  have hr := B.returns
  have hts0 := atoms_spec (ws := Cond.code yX11_alikeTo cX11_alikeTo 4 (some .int) :: qtbl) B.pre
  have hts : ∀ w ∈ qtbl, w.before _ s = true := fun w h => hts0 w (List.mem_cons_of_mem _ h)
  have hown : s.vm.findClass RX11 = some m.cls := findClass_of_methodNamed B.named
  have hlocks := B.notSynchronized
  have hS : va_S (qw_A o 41) s.heap s.heap [] := va_S.rf
  have hl := lv_entry ([.ref (o + 0), .int a0]) (n := 4) (Nat.le_of_ble_eq_true rfl)
  rw [lg_entry_eq]
  generalize (lg_sl ([.ref (o + 0), .int a0]) ++ List.replicate (4 - (lg_sl ([.ref (o + 0), .int a0])).length) Slot.unset).toArray = ls at hl ⊢
  have hl : lv_has ls 4 [(0, .ref (o + 0)), (1, .int a0)] := hl
  refine lv_iconst (v := 0) hx hb dX11_alikeTo_0 (by decide) ?_
  refine lv_istore_n (lv' := [(2, .int 0), (0, .ref (o + 0)), (1, .int a0)]) hx hb dX11_alikeTo_1 rfl hl (by decide) rfl (fun ls hl => ?_)
  refine lv_iconst (v := 0) hx hb dX11_alikeTo_2 (by decide) ?_
  refine lv_istore_n (lv' := [(3, .int 0), (2, .int 0), (0, .ref (o + 0)), (1, .int a0)]) hx hb dX11_alikeTo_3 rfl hl (by decide) rfl (fun ls hl => ?_)
  have loop1 : ∀ (n : Nat) (w1_3 : Int32) (w1_2 : Int32), ((2000 - w1_3.toInt : Int) < (n : Int)) → ((0 : Int) ≤ w1_3.toInt ∧ w1_3.toInt ≤ 2000) → ∀ (H : Heap) (locs : List Loc), qw_P D vwCl o 41 (qG (GM ca o) z y) H → va_S (qw_A o 41) s.heap H locs → ∀ (ls : Array Slot), lv_has ls 4 [(3, .int w1_3), (2, .int w1_2), (0, .ref (o + 0)), (1, .int a0)] → W p l e (headSpec (Cond.code yX11_alikeTo cX11_alikeTo 4 (some .int) :: qtbl) ({ frames := 1, cells := 0, slots := 0, locals := 60 })).room s m (([.ref (o + 0), .int a0] : List Value).toArray) below meth c H locs 0 0 (MQ below (va_Qi (fun r (_ : Unit) => True) (qB D vwCl (qT6 ca) o 41 (fun _ : Unit => qG (GM ca o) z y)) (qw_A o 41)) (([.ref (o + 0), .int a0] : List Value).toArray) s 0 0 (qw_A o 41)) (F0 m 4 ls []) := by
    intro n
    induction n with
    | zero => intro w1_3 w1_2 hb1 hv1_3; exfalso; omega
    | succ n1 ih1 =>
      intro w1_3 w1_2 hb1 hv1_3 H locs hP hS ls hl
      refine lv_iload_n hx hb dX11_alikeTo_4 rfl (lv_at hl 0 rfl) ?_
      refine lv_aload_n hx hb dX11_alikeTo_5 rfl (lv_at hl 2 rfl) ?_
      refine qf_get hx hb hts inX11 hown hK hP (q0 := 0) (by decide) (hgM_0 ca o) rfl 41 (by decide) wq_1033 (v := .int (z 0 41)) rfl dX11_alikeTo_6 ?_
      refine lv_topi (fun x2 e2 => ?_)
      have b2 := iM_0_41 J0 e2
      refine lv_icmp_ge (tgt := 41) hx hb dX11_alikeTo_9 (by decide) (fun c3 => ?_) (fun c3 => ?_)
      · have t3 : w1_3.toInt ≥ x2.toInt := gl_le c3
        refine lv_iload_n hx hb dX11_alikeTo_41 rfl (lv_at hl 1 rfl) ?_
        exact W.iret (v := w1_2) hx hb hr (fun t ht hW => ⟨⟨w1_2, (), rfl, trivial, by rw [ht]; exact hP, va_K.moved hW.alike hK⟩, hS.F ht⟩) hS.2.2 dX11_alikeTo_42
      · have t3 : w1_3.toInt < x2.toInt := gl_nle c3
        refine lv_iload_n hx hb dX11_alikeTo_12 rfl (lv_at hl 1 rfl) ?_
        refine lv_aload_n hx hb dX11_alikeTo_13 rfl (lv_at hl 2 rfl) ?_
        refine qf_get hx hb hts inX11 hown hK hP (q0 := 0) (by decide) (hgM_0 ca o) rfl 40 (by decide) wq_1032 (v := .ref (o + 27)) rfl dX11_alikeTo_14 ?_
        refine lv_iload_n hx hb dX11_alikeTo_17 rfl (lv_at hl 0 rfl) ?_
        refine qa_iald hx hb hK hP (q0 := 27) (by decide) 0 (N := 2000) (hgM_27 ca o) rfl (gi_in (by omega) (by omega)) dX11_alikeTo_18 ?_
        refine lv_topi (fun x4 e4 => ?_)
        refine lv_aload_n hx hb dX11_alikeTo_19 rfl (lv_at hl 2 rfl) ?_
        refine qf_get hx hb hts inX11 hown hK hP (q0 := 0) (by decide) (hgM_0 ca o) rfl 40 (by decide) wq_1032 (v := .ref (o + 27)) rfl dX11_alikeTo_20 ?_
        refine lv_iload_n hx hb dX11_alikeTo_23 rfl (lv_at hl 3 rfl) ?_
        refine qa_iald hx hb hK hP (q0 := 27) (by decide) 0 (N := 2000) (hgM_27 ca o) rfl (gi_in (by omega) (by omega)) dX11_alikeTo_24 ?_
        refine lv_topi (fun x5 e5 => ?_)
        refine lv_icmp_ne (tgt := 32) hx hb dX11_alikeTo_25 (by decide) (fun c6 => ?_) (fun c6 => ?_)
        · have t6 : x4.toInt ≠ x5.toInt := gl_ne c6
          refine lv_iconst (v := 0) hx hb dX11_alikeTo_32 (by decide) ?_
          refine lv_iadd hx hb dX11_alikeTo_33 ?_
          refine lv_topi (fun x7 e7 => ?_)
          have gb7_0 := gl_b w1_2
          have gb7_1 := gl_b w1_3
          have gb7_2 := gl_b x2
          have gb7_3 := gl_b x4
          have gb7_4 := gl_b x5
          have t7 : x7.toInt = w1_2.toInt + (0 : Int) := ga_add e7 rfl rfl (by omega) (by omega)
          refine lv_istore_n (lv' := [(2, .int x7), (3, .int w1_3), (0, .ref (o + 0)), (1, .int a0)]) hx hb dX11_alikeTo_34 rfl hl (by decide) rfl (fun ls hl => ?_)
          obtain ⟨x8, e8⟩ : ∃ t : Int32, t = w1_3 + 1 := ⟨_, rfl⟩
          refine lv_iinc (v := x8) (lv' := [(3, .int x8), (2, .int x7), (0, .ref (o + 0)), (1, .int a0)]) hx hb dX11_alikeTo_35 hl (k := 1) rfl (by rw [e8]; rfl) (by decide) rfl (fun ls hl => ?_)
          have t8 : x8.toInt = w1_3.toInt + (1 : Int) := ga_add e8 rfl rfl (by omega) (by omega)
          refine lv_goto (tgt := 4) hx hb dX11_alikeTo_38 (by decide) ?_
          exact ih1 x8 x7 (show (2000 - x8.toInt : Int) < (n1 : Int) from by omega) ⟨by omega, by omega⟩ _ _ hP hS _ (lv_sub hl [0, 1, 2, 3] rfl)
        · have t6 : x4.toInt = x5.toInt := gl_eq c6
          refine lv_iconst (v := 1) hx hb dX11_alikeTo_28 (by decide) ?_
          refine lv_goto (tgt := 33) hx hb dX11_alikeTo_29 (by decide) ?_
          refine lv_iadd hx hb dX11_alikeTo_33 ?_
          refine lv_topi (fun x9 e9 => ?_)
          refine lv_istore_n (lv' := [(2, .int x9), (3, .int w1_3), (0, .ref (o + 0)), (1, .int a0)]) hx hb dX11_alikeTo_34 rfl hl (by decide) rfl (fun ls hl => ?_)
          obtain ⟨x10, e10⟩ : ∃ t : Int32, t = w1_3 + 1 := ⟨_, rfl⟩
          refine lv_iinc (v := x10) (lv' := [(3, .int x10), (2, .int x9), (0, .ref (o + 0)), (1, .int a0)]) hx hb dX11_alikeTo_35 hl (k := 1) rfl (by rw [e10]; rfl) (by decide) rfl (fun ls hl => ?_)
          have t10 : x10.toInt = w1_3.toInt + (1 : Int) := ga_add e10 rfl rfl (by omega) (by omega)
          refine lv_goto (tgt := 4) hx hb dX11_alikeTo_38 (by decide) ?_
          exact ih1 x10 x9 (show (2000 - x10.toInt : Int) < (n1 : Int) from by omega) ⟨by omega, by omega⟩ _ _ hP hS _ (lv_sub hl [0, 1, 2, 3] rfl)
  exact loop1 2001 0 0 (show (2000 - (0 : Int) : Int) < ((2001 : Nat) : Int) from by omega) ⟨by decide, by decide⟩ _ _ hP hS _ (lv_sub hl [0, 1, 2, 3] rfl)
set_option maxRecDepth 100000 in
set_option maxHeartbeats 8000000 in
theorem m_known (l : Launch) (D : va_G) (ca : Nat → ClassId) (o : Nat) (b z : Nat → Nat → Int32) (y : Nat → Nat → Int64) (J0 : qJM b z) (a0 : Int32) (a1 : Int32)  : qM l yX11_known cX11_known 5 (some .int) 5 148 (qPre D vwCl (qT6 ca) o 41 (qG (GM ca o) z y) [.ref (o + 0), .int a0, .int a1]) (va_Qi (fun r u => True ∧ qJM b u.1) (qB D vwCl (qT6 ca) o 41 (fun u : qZ => qG (GM ca o) u.1 u.2)) (qw_A o 41)) (qw_A o 41) := by
  refine Met.ofW (cc := cX11_known) (maxL := 5) (ret := (some .int)) (by decide) rfl ?_
  intro p e s m args below meth c s₁ B hml hv
  obtain ⟨rfl, hP, hK⟩ := hv
  have hx := B.exec
  have hb := B.bytes
  have hr := B.returns
  have hts0 := atoms_spec (ws := Cond.code yX11_known cX11_known 5 (some .int) :: qtbl) B.pre
  have hts : ∀ w ∈ qtbl, w.before _ s = true := fun w h => hts0 w (List.mem_cons_of_mem _ h)
  have hown : s.vm.findClass RX11 = some m.cls := findClass_of_methodNamed B.named
  have hlocks := B.notSynchronized
  have hS : va_S (qw_A o 41) s.heap s.heap [] := va_S.rf
  have hl := lv_entry ([.ref (o + 0), .int a0, .int a1]) (n := 5) (Nat.le_of_ble_eq_true rfl)
  rw [lg_entry_eq]
  generalize (lg_sl ([.ref (o + 0), .int a0, .int a1]) ++ List.replicate (5 - (lg_sl ([.ref (o + 0), .int a0, .int a1])).length) Slot.unset).toArray = ls at hl ⊢
  have hl : lv_has ls 5 [(0, .ref (o + 0)), (1, .int a0), (2, .int a1)] := hl
  refine lv_aload_n hx hb dX11_known_0 rfl (lv_at hl 0 rfl) ?_
  refine lv_iload_n hx hb dX11_known_1 rfl (lv_at hl 1 rfl) ?_
  refine qc_Vip (As := [.int a0]) (rest := []) (k0 := 1) (m_areRemarks l D ca o b z y J0 a0) kc_yX11_areRemarks ⟨hx, hb, hml, hown, hts⟩ wq_1324 rfl rfl ⟨Nat.le_of_ble_eq_true rfl, Nat.le_of_ble_eq_true rfl⟩ wq_all hP hK hS qw_Ai (q0 := 0) (by decide) (hgM_0 ca o _ _) rfl rfl hl.1 rfl (Nat.le_of_ble_eq_true rfl) dX11_known_2 ⟨Nat.zero_le _, Nat.zero_le _⟩ (fun r1 H locs h1 hP hS _ _ => ?_)
  have b1 : (0 : Int) ≤ r1.toInt ∧ r1.toInt ≤ 1 := h1
  refine lv_if_eq (tgt := 16) hx hb dX11_known_5 (by decide) (fun c2 => ?_) (fun c2 => ?_)
  · have t2 : r1.toInt = (0 : Int) := gl_eq c2
    refine lv_iconst (v := (-1)) hx hb dX11_known_16 (by decide) ?_
    exact W.iret (v := (-1)) hx hb hr (fun t ht hW => ⟨⟨(-1), (z, y), rfl, ⟨trivial, J0⟩, by rw [ht]; exact hP, va_K.moved hW.alike hK⟩, hS.F ht⟩) hS.2.2 dX11_known_17
  · have t2 : r1.toInt ≠ (0 : Int) := gl_ne c2
    refine lv_aload_n hx hb dX11_known_8 rfl (lv_at hl 0 rfl) ?_
    refine lv_iload_n hx hb dX11_known_9 rfl (lv_at hl 2 rfl) ?_
    refine qc_Vip (As := [.int a1]) (rest := []) (k0 := 1) (m_isForm l D ca o b z y J0 a1) kc_yX11_isForm ⟨hx, hb, hml, hown, hts⟩ wq_1433 rfl rfl ⟨Nat.le_of_ble_eq_true rfl, Nat.le_of_ble_eq_true rfl⟩ wq_all hP hK hS qw_Ai (q0 := 0) (by decide) (hgM_0 ca o _ _) rfl rfl hl.1 rfl (Nat.le_of_ble_eq_true rfl) dX11_known_10 ⟨Nat.zero_le _, Nat.zero_le _⟩ (fun r3 H locs h3 hP hS _ _ => ?_)
    rcases h3 with ⟨hr3, hf3_0⟩ | hr3
    · subst hr3
      have hg3_0 : 0 ≤ a1.toInt ∧ a1.toInt ≤ 5 := hf3_0
      refine lv_if_ne (tgt := 18) hx hb dX11_known_13 (by decide) (fun _ => ?_) (fun q => absurd q (by decide))
      refine lv_aload_n hx hb dX11_known_18 rfl (lv_at hl 0 rfl) ?_
      refine lv_iload_n hx hb dX11_known_19 rfl (lv_at hl 1 rfl) ?_
      refine qc_Vi2 (As := [.int a0]) (rest := []) (k0 := 1) (m_lists l D ca o b z y J0 a0) kc_yX11_lists ⟨hx, hb, hml, hown, hts⟩ wq_1437 rfl rfl ⟨Nat.le_of_ble_eq_true rfl, Nat.le_of_ble_eq_true rfl⟩ wq_all hP hK hS qw_Ai (q0 := 0) (by decide) (hgM_0 ca o _ _) rfl rfl hl.1 rfl (Nat.le_of_ble_eq_true rfl) dX11_known_20 ⟨Nat.zero_le _, Nat.zero_le _⟩ (fun r4 z4 y4 H locs h4 hP hS _ _ => ?_)
      have J4 : qJM b z4 := h4.2.1
      have b4 : (0 : Int) ≤ r4.toInt ∧ r4.toInt ≤ 1 := h4.1
      refine lv_if_ne (tgt := 29) hx hb dX11_known_23 (by decide) (fun c5 => ?_) (fun c5 => ?_)
      · have t5 : r4.toInt ≠ (0 : Int) := gl_ne c5
        refine lv_aload_n hx hb dX11_known_29 rfl (lv_at hl 0 rfl) ?_
        refine lv_bipush (v := 10) hx hb dX11_known_30 (by decide) ?_
        refine lv_iload_n hx hb dX11_known_32 rfl (lv_at hl 2 rfl) ?_
        refine lv_iadd hx hb dX11_known_33 ?_
        refine lv_topi (fun x6 e6 => ?_)
        have t6 : x6.toInt = (10 : Int) + a1.toInt := ga_add e6 rfl rfl (by omega) (by omega)
        refine qc_Vv2 (As := [.int x6]) (rest := []) (k0 := 1) (m_hears l D ca o b z4 y4 J4 x6 ⟨by omega, by omega⟩) kc_yX11_hears ⟨hx, hb, hml, hown, hts⟩ wq_1441 rfl rfl ⟨Nat.le_of_ble_eq_true rfl, Nat.le_of_ble_eq_true rfl⟩ wq_all hP hK hS qw_Ai (q0 := 0) (by decide) (hgM_0 ca o _ _) rfl rfl hl.1 rfl (Nat.le_of_ble_eq_true rfl) dX11_known_34 ⟨Nat.zero_le _, Nat.zero_le _⟩ (fun z7 y7 H locs h7 hP hS _ _ => ?_)
        have J7 : qJM b z7 := h7.1
        refine lv_iconst (v := 0) hx hb dX11_known_37 (by decide) ?_
        refine lv_istore_n (lv' := [(3, .int 0), (0, .ref (o + 0)), (1, .int a0), (2, .int a1)]) hx hb dX11_known_38 rfl hl (by decide) rfl (fun ls hl => ?_)
        refine lv_iconst (v := 0) hx hb dX11_known_39 (by decide) ?_
        refine lv_istore (lv' := [(4, .int 0), (3, .int 0), (0, .ref (o + 0)), (1, .int a0), (2, .int a1)]) hx hb dX11_known_40 hl (by decide) rfl (fun ls hl => ?_)
        have loop8 : ∀ (n : Nat) (w8_4 : Int32) (w8_3 : Int32), ((2000 - w8_4.toInt : Int) < (n : Int)) → ((0 : Int) ≤ w8_4.toInt ∧ w8_4.toInt ≤ 2000) → ∀ (H : Heap) (locs : List Loc), qw_P D vwCl o 41 (qG (GM ca o) z7 y7) H → va_S (qw_A o 41) s.heap H locs → ∀ (ls : Array Slot), lv_has ls 5 [(4, .int w8_4), (3, .int w8_3), (0, .ref (o + 0)), (1, .int a0), (2, .int a1)] → W p l e (headSpec (Cond.code yX11_known cX11_known 5 (some .int) :: qtbl) ({ frames := 5, cells := 0, slots := 0, locals := 148 })).room s m (([.ref (o + 0), .int a0, .int a1] : List Value).toArray) below meth c H locs 0 0 (MQ below (va_Qi (fun r u => True ∧ qJM b u.1) (qB D vwCl (qT6 ca) o 41 (fun u : qZ => qG (GM ca o) u.1 u.2)) (qw_A o 41)) (([.ref (o + 0), .int a0, .int a1] : List Value).toArray) s 0 0 (qw_A o 41)) (F0 m 42 ls []) := by
          intro n
          induction n with
          | zero => intro w8_4 w8_3 hb8 hv8_4; exfalso; omega
          | succ n8 ih8 =>
            intro w8_4 w8_3 hb8 hv8_4 H locs hP hS ls hl
            refine lv_iload hx hb dX11_known_42 (lv_at hl 0 rfl) ?_
            refine lv_aload_n hx hb dX11_known_44 rfl (lv_at hl 2 rfl) ?_
            refine qf_get hx hb hts inX11 hown hK hP (q0 := 0) (by decide) (hgM_0 ca o) rfl 41 (by decide) wq_1033 (v := .int (z7 0 41)) rfl dX11_known_45 ?_
            refine lv_topi (fun x9 e9 => ?_)
            have b9 := iM_0_41 J7 e9
            refine lv_icmp_ge (tgt := 75) hx hb dX11_known_48 (by decide) (fun c10 => ?_) (fun c10 => ?_)
            · have t10 : w8_4.toInt ≥ x9.toInt := gl_le c10
              refine lv_iload_n hx hb dX11_known_75 rfl (lv_at hl 1 rfl) ?_
              exact W.iret (v := w8_3) hx hb hr (fun t ht hW => ⟨⟨w8_3, (z7, y7), rfl, ⟨trivial, J7⟩, by rw [ht]; exact hP, va_K.moved hW.alike hK⟩, hS.F ht⟩) hS.2.2 dX11_known_76
            · have t10 : w8_4.toInt < x9.toInt := gl_nle c10
              refine lv_iload_n hx hb dX11_known_51 rfl (lv_at hl 1 rfl) ?_
              refine lv_aload_n hx hb dX11_known_52 rfl (lv_at hl 2 rfl) ?_
              refine lv_iload hx hb dX11_known_53 (lv_at hl 0 rfl) ?_
              refine qc_Vip (As := [.int w8_4]) (rest := [.int w8_3]) (k0 := 1) (m_alikeTo l D ca o b z7 y7 J7 w8_4 ⟨by omega, by omega⟩) kc_yX11_alikeTo ⟨hx, hb, hml, hown, hts⟩ wq_1449 rfl rfl ⟨Nat.le_of_ble_eq_true rfl, Nat.le_of_ble_eq_true rfl⟩ wq_all hP hK hS qw_Ai (q0 := 0) (by decide) (hgM_0 ca o _ _) rfl rfl hl.1 rfl (Nat.le_of_ble_eq_true rfl) dX11_known_55 ⟨Nat.zero_le _, Nat.zero_le _⟩ (fun r11 H locs h11 hP hS _ _ => ?_)
              refine lv_iconst (v := 1) hx hb dX11_known_58 (by decide) ?_
              refine lv_icmp_ne (tgt := 66) hx hb dX11_known_59 (by decide) (fun c12 => ?_) (fun c12 => ?_)
              · have t12 : r11.toInt ≠ (1 : Int) := gl_ne c12
                refine lv_iconst (v := 0) hx hb dX11_known_66 (by decide) ?_
                refine lv_iadd hx hb dX11_known_67 ?_
                refine lv_topi (fun x13 e13 => ?_)
                have gb13_0 := gl_b w8_3
                have gb13_1 := gl_b r1
                have gb13_2 := gl_b r4
                have gb13_3 := gl_b w8_4
                have gb13_4 := gl_b x9
                have gb13_5 := gl_b r11
                have t13 : x13.toInt = w8_3.toInt + (0 : Int) := ga_add e13 rfl rfl (by omega) (by omega)
                refine lv_istore_n (lv' := [(3, .int x13), (4, .int w8_4), (0, .ref (o + 0)), (1, .int a0), (2, .int a1)]) hx hb dX11_known_68 rfl hl (by decide) rfl (fun ls hl => ?_)
                obtain ⟨x14, e14⟩ : ∃ t : Int32, t = w8_4 + 1 := ⟨_, rfl⟩
                refine lv_iinc (v := x14) (lv' := [(4, .int x14), (3, .int x13), (0, .ref (o + 0)), (1, .int a0), (2, .int a1)]) hx hb dX11_known_69 hl (k := 1) rfl (by rw [e14]; rfl) (by decide) rfl (fun ls hl => ?_)
                have t14 : x14.toInt = w8_4.toInt + (1 : Int) := ga_add e14 rfl rfl (by omega) (by omega)
                refine lv_goto (tgt := 42) hx hb dX11_known_72 (by decide) ?_
                exact ih8 x14 x13 (show (2000 - x14.toInt : Int) < (n8 : Int) from by omega) ⟨by omega, by omega⟩ _ _ hP hS _ (lv_sub hl [0, 1, 2, 3, 4] rfl)
              · have t12 : r11.toInt = (1 : Int) := gl_eq c12
                refine lv_iconst (v := 1) hx hb dX11_known_62 (by decide) ?_
                refine lv_goto (tgt := 67) hx hb dX11_known_63 (by decide) ?_
                refine lv_iadd hx hb dX11_known_67 ?_
                refine lv_topi (fun x15 e15 => ?_)
                refine lv_istore_n (lv' := [(3, .int x15), (4, .int w8_4), (0, .ref (o + 0)), (1, .int a0), (2, .int a1)]) hx hb dX11_known_68 rfl hl (by decide) rfl (fun ls hl => ?_)
                obtain ⟨x16, e16⟩ : ∃ t : Int32, t = w8_4 + 1 := ⟨_, rfl⟩
                refine lv_iinc (v := x16) (lv' := [(4, .int x16), (3, .int x15), (0, .ref (o + 0)), (1, .int a0), (2, .int a1)]) hx hb dX11_known_69 hl (k := 1) rfl (by rw [e16]; rfl) (by decide) rfl (fun ls hl => ?_)
                have t16 : x16.toInt = w8_4.toInt + (1 : Int) := ga_add e16 rfl rfl (by omega) (by omega)
                refine lv_goto (tgt := 42) hx hb dX11_known_72 (by decide) ?_
                exact ih8 x16 x15 (show (2000 - x16.toInt : Int) < (n8 : Int) from by omega) ⟨by omega, by omega⟩ _ _ hP hS _ (lv_sub hl [0, 1, 2, 3, 4] rfl)
        exact loop8 2001 0 0 (show (2000 - (0 : Int) : Int) < ((2001 : Nat) : Int) from by omega) ⟨by decide, by decide⟩ _ _ hP hS _ (lv_sub hl [0, 1, 2, 3, 4] rfl)
      · have t5 : r4.toInt = (0 : Int) := gl_eq c5
        refine lv_bipush (v := (-3)) hx hb dX11_known_26 (by decide) ?_
        exact W.iret (v := (-3)) hx hb hr (fun t ht hW => ⟨⟨(-3), (z4, y4), rfl, ⟨trivial, J4⟩, by rw [ht]; exact hP, va_K.moved hW.alike hK⟩, hS.F ht⟩) hS.2.2 dX11_known_28
    · subst hr3
      refine lv_if_ne (tgt := 18) hx hb dX11_known_13 (by decide) (fun q => absurd q (by decide)) (fun _ => ?_)
      refine lv_iconst (v := (-1)) hx hb dX11_known_16 (by decide) ?_
      exact W.iret (v := (-1)) hx hb hr (fun t ht hW => ⟨⟨(-1), (z, y), rfl, ⟨trivial, J0⟩, by rw [ht]; exact hP, va_K.moved hW.alike hK⟩, hS.F ht⟩) hS.2.2 dX11_known_17
set_option maxRecDepth 100000 in
set_option maxHeartbeats 8000000 in
theorem m_readsSayings (l : Launch) (D : va_G) (ca : Nat → ClassId) (o : Nat) (b z : Nat → Nat → Int32) (y : Nat → Nat → Int64) (J0 : qJM b z) (a0 : Int32) (ha0 : (1 : Int) ≤ a0.toInt ∧ a0.toInt ≤ 20) : qM l yX11_readsSayings cX11_readsSayings 4 (some .boolean) 3 103 (qPre D vwCl (qT6 ca) o 41 (qG (GM ca o) z y) [.ref (o + 0), .int a0]) (va_Qi (fun r u => ((r = 1 ∧ (sayI (z 12) a0)) ∨ (r = 0)) ∧ qJM b u.1 ∧ u.1 12 = z 12) (qB D vwCl (qT6 ca) o 41 (fun u : qZ => qG (GM ca o) u.1 u.2)) (qw_A o 41)) (qw_A o 41) := by
  refine Met.ofW (cc := cX11_readsSayings) (maxL := 4) (ret := (some .boolean)) (by decide) rfl ?_
  intro p e s m args below meth c s₁ B hml hv
  obtain ⟨rfl, hP, hK⟩ := hv
  have hx := B.exec
  have hb := B.bytes
  have hr := B.returns
  have hts0 := atoms_spec (ws := Cond.code yX11_readsSayings cX11_readsSayings 4 (some .boolean) :: qtbl) B.pre
  have hts : ∀ w ∈ qtbl, w.before _ s = true := fun w h => hts0 w (List.mem_cons_of_mem _ h)
  have hown : s.vm.findClass RX11 = some m.cls := findClass_of_methodNamed B.named
  have hlocks := B.notSynchronized
  have hS : va_S (qw_A o 41) s.heap s.heap [] := va_S.rf
  have hl := lv_entry ([.ref (o + 0), .int a0]) (n := 4) (Nat.le_of_ble_eq_true rfl)
  rw [lg_entry_eq]
  generalize (lg_sl ([.ref (o + 0), .int a0]) ++ List.replicate (4 - (lg_sl ([.ref (o + 0), .int a0])).length) Slot.unset).toArray = ls at hl ⊢
  have hl : lv_has ls 4 [(0, .ref (o + 0)), (1, .int a0)] := hl
  refine lv_aload_n hx hb dX11_readsSayings_0 rfl (lv_at hl 0 rfl) ?_
  refine lv_iconst (v := 0) hx hb dX11_readsSayings_1 (by decide) ?_
  refine qf_put2 hx hb hts inX11 tyX11 tyX11_ok nmX11 hown hK hP hS qw_Ai (q0 := 0) (by decide) (hgM_0 ca o) rfl 16 (by decide) wq_1009 rfl (x := 0) 16 rfl rfl rfl (Nat.le_of_ble_eq_true rfl) dX11_readsSayings_2 (fun z1 H locs hz1 hP hS => ?_)
  have J1 := jM_0_16 J0 hz1 ⟨by decide, by decide⟩
  have R12_1 : z1 12 = z 12 := (qt_row hz1 (by decide)).trans (rfl)
  have k1_0 : (z1 0 16).toInt = (0 : Int) := congrArg Int32.toInt (qt_at hz1)
  have k1_1 : (z1 0 17).toInt = (z 0 17).toInt := congrArg Int32.toInt (qt_off hz1 (by decide))
  refine lv_aload_n hx hb dX11_readsSayings_5 rfl (lv_at hl 0 rfl) ?_
  refine lv_iload_n hx hb dX11_readsSayings_6 rfl (lv_at hl 1 rfl) ?_
  refine qf_put2 hx hb hts inX11 tyX11 tyX11_ok nmX11 hown hK hP hS qw_Ai (q0 := 0) (by decide) (hgM_0 ca o) rfl 17 (by decide) wq_1010 rfl (x := a0) 17 rfl rfl rfl (Nat.le_of_ble_eq_true rfl) dX11_readsSayings_7 (fun z2 H locs hz2 hP hS => ?_)
  have J2 := jM_0_17 J1 hz2 ⟨by omega, by omega⟩
  have R12_2 : z2 12 = z 12 := (qt_row hz2 (by decide)).trans (R12_1)
  have k2_0 : (z2 0 16).toInt = (z1 0 16).toInt := congrArg Int32.toInt (qt_off hz2 (by decide))
  have k2_1 : (z2 0 17).toInt = a0.toInt := congrArg Int32.toInt (qt_at hz2)
  refine lv_iconst (v := 1) hx hb dX11_readsSayings_10 (by decide) ?_
  refine lv_istore_n (lv' := [(2, .int 1), (0, .ref (o + 0)), (1, .int a0)]) hx hb dX11_readsSayings_11 rfl hl (by decide) rfl (fun ls hl => ?_)
  have loop3 : ∀ (n : Nat) (w3_2 : Int32) (z3 : Nat → Nat → Int32) (y3 : Nat → Nat → Int64), ((260 - (z3 0 16).toInt : Int) < (n : Int)) → ((1 : Int) ≤ w3_2.toInt ∧ w3_2.toInt ≤ 1) → (qJM b z3) → (sayI (z 12) (z3 0 16) ∧ (z3 0 16).toInt % 2 = 0 ∧ 0 ≤ (z3 0 16).toInt ∧ (z3 0 17).toInt = a0.toInt) → ((z3 0 16).toInt ≤ 260) → (z3 12 = z 12) → ∀ (H : Heap) (locs : List Loc), qw_P D vwCl o 41 (qG (GM ca o) z3 y3) H → va_S (qw_A o 41) s.heap H locs → ∀ (ls : Array Slot), lv_has ls 4 [(2, .int w3_2), (0, .ref (o + 0)), (1, .int a0)] → W p l e (headSpec (Cond.code yX11_readsSayings cX11_readsSayings 4 (some .boolean) :: qtbl) ({ frames := 3, cells := 0, slots := 0, locals := 103 })).room s m (([.ref (o + 0), .int a0] : List Value).toArray) below meth c H locs 0 0 (MQ below (va_Qi (fun r u => ((r = 1 ∧ (sayI (z 12) a0)) ∨ (r = 0)) ∧ qJM b u.1 ∧ u.1 12 = z 12) (qB D vwCl (qT6 ca) o 41 (fun u : qZ => qG (GM ca o) u.1 u.2)) (qw_A o 41)) (([.ref (o + 0), .int a0] : List Value).toArray) s 0 0 (qw_A o 41)) (F0 m 12 ls []) := by
    intro n
    induction n with
    | zero => intro w3_2 z3 y3 hb3 hv3_2 J3 v3_0 v3_1 v3_2; exfalso; omega
    | succ n3 ih3 =>
      intro w3_2 z3 y3 hb3 hv3_2 J3 v3_0 v3_1 v3_2 H locs hP hS ls hl
      refine lv_iload_n hx hb dX11_readsSayings_12 rfl (lv_at hl 0 rfl) ?_
      refine lv_if_eq (tgt := 130) hx hb dX11_readsSayings_13 (by decide) (fun c4 => ?_) (fun c4 => ?_)
      · have t4 : w3_2.toInt = (0 : Int) := gl_eq c4
        exfalso; omega
      · have t4 : w3_2.toInt ≠ (0 : Int) := gl_ne c4
        refine lv_aload_n hx hb dX11_readsSayings_16 rfl (lv_at hl 1 rfl) ?_
        refine qc_Vip (As := []) (rest := []) (k0 := 0) (m_here l D ca o b z3 y3 J3) kc_yX11_here ⟨hx, hb, hml, hown, hts⟩ wq_1233 rfl rfl ⟨Nat.le_of_ble_eq_true rfl, Nat.le_of_ble_eq_true rfl⟩ wq_all hP hK hS qw_Ai (q0 := 0) (by decide) (hgM_0 ca o _ _) rfl rfl hl.1 rfl (Nat.le_of_ble_eq_true rfl) dX11_readsSayings_17 ⟨Nat.zero_le _, Nat.zero_le _⟩ (fun r5 H locs h5 hP hS _ _ => ?_)
        have p5_1 : r5.toInt = (hereV z3).toInt := h5.2.1
        have p5_2 : (r5.toInt = -1 ∨ (0 ≤ r5.toInt ∧ (z3 0 16).toInt ≤ 259)) := h5.2.2
        have b5 : (-1 : Int) ≤ r5.toInt ∧ r5.toInt ≤ 255 := h5.1
        refine lv_bipush (v := 65) hx hb dX11_readsSayings_20 (by decide) ?_
        refine lv_isub hx hb dX11_readsSayings_22 ?_
        refine lv_topi (fun x6 e6 => ?_)
        have t6 : x6.toInt = r5.toInt - (65 : Int) := ga_sub e6 rfl rfl (by omega) (by omega)
        refine lv_istore_n (lv' := [(3, .int x6), (2, .int w3_2), (0, .ref (o + 0)), (1, .int a0)]) hx hb dX11_readsSayings_23 rfl hl (by decide) rfl (fun ls hl => ?_)
        refine lv_iload_n hx hb dX11_readsSayings_24 rfl (lv_at hl 0 rfl) ?_
        refine lv_iconst (v := 0) hx hb dX11_readsSayings_25 (by decide) ?_
        refine lv_iconst (v := 5) hx hb dX11_readsSayings_26 (by decide) ?_
        refine qc_Sip (As := [.int x6, .int 0, .int 5]) (rest := []) (k0 := 3) (m_in l D ca o b z3 y3 J3 x6 0 5) kc_yX11_in ⟨hx, hb, hml, hown, hts⟩ wq_1187 rfl rfl ⟨Nat.le_of_ble_eq_true rfl, Nat.le_of_ble_eq_true rfl⟩ wq_all hP hK hS qw_Ai rfl hl.1 rfl (Nat.le_of_ble_eq_true rfl) dX11_readsSayings_27 ⟨Nat.zero_le _, Nat.zero_le _⟩ (fun r7 H locs h7 hP hS _ _ => ?_)
        rcases h7 with ⟨hr7, hf7_0⟩ | ⟨hr7, hf7_0⟩
        · subst hr7
          have hg7_0 : (0 : Int) ≤ x6.toInt ∧ x6.toInt ≤ (5 : Int) := hf7_0
          refine lv_if_ne (tgt := 43) hx hb dX11_readsSayings_30 (by decide) (fun _ => ?_) (fun q => absurd q (by decide))
          refine lv_aload_n hx hb dX11_readsSayings_43 rfl (lv_at hl 2 rfl) ?_
          refine lv_iload_n hx hb dX11_readsSayings_44 rfl (lv_at hl 0 rfl) ?_
          refine qc_Vip (As := [.int x6]) (rest := []) (k0 := 1) (m_isForm l D ca o b z3 y3 J3 x6) kc_yX11_isForm ⟨hx, hb, hml, hown, hts⟩ wq_1433 rfl rfl ⟨Nat.le_of_ble_eq_true rfl, Nat.le_of_ble_eq_true rfl⟩ wq_all hP hK hS qw_Ai (q0 := 0) (by decide) (hgM_0 ca o _ _) rfl rfl hl.1 rfl (Nat.le_of_ble_eq_true rfl) dX11_readsSayings_45 ⟨Nat.zero_le _, Nat.zero_le _⟩ (fun r8 H locs h8 hP hS _ _ => ?_)
          rcases h8 with ⟨hr8, hf8_0⟩ | hr8
          · subst hr8
            have hg8_0 : 0 ≤ x6.toInt ∧ x6.toInt ≤ 5 := hf8_0
            refine lv_if_ne (tgt := 62) hx hb dX11_readsSayings_48 (by decide) (fun _ => ?_) (fun q => absurd q (by decide))
            refine lv_aload_n hx hb dX11_readsSayings_62 rfl (lv_at hl 2 rfl) ?_
            refine lv_aload_n hx hb dX11_readsSayings_63 rfl (lv_at hl 2 rfl) ?_
            refine qf_get hx hb hts inX11 hown hK hP (q0 := 0) (by decide) (hgM_0 ca o) rfl 16 (by decide) wq_1009 (v := .int (z3 0 16)) rfl dX11_readsSayings_64 ?_
            refine lv_topi (fun x9 e9 => ?_)
            have b9 := iM_0_16 J3 e9
            have k9 : x9.toInt = (z3 0 16).toInt := congrArg Int32.toInt e9
            refine lv_iconst (v := 1) hx hb dX11_readsSayings_67 (by decide) ?_
            refine lv_iadd hx hb dX11_readsSayings_68 ?_
            refine lv_topi (fun x10 e10 => ?_)
            have t10 : x10.toInt = x9.toInt + (1 : Int) := ga_add e10 rfl rfl (by omega) (by omega)
            refine qf_put2 hx hb hts inX11 tyX11 tyX11_ok nmX11 hown hK hP hS qw_Ai (q0 := 0) (by decide) (hgM_0 ca o) rfl 16 (by decide) wq_1009 rfl (x := x10) 16 rfl rfl rfl (Nat.le_of_ble_eq_true rfl) dX11_readsSayings_69 (fun z11 H locs hz11 hP hS => ?_)
            have J11 := jM_0_16 J3 hz11 ⟨by omega, by omega⟩
            have R12_11 : z11 12 = z 12 := (qt_row hz11 (by decide)).trans (v3_2)
            have k11_0 : (z11 0 16).toInt = x10.toInt := congrArg Int32.toInt (qt_at hz11)
            have k11_1 : (z11 0 17).toInt = (z3 0 17).toInt := congrArg Int32.toInt (qt_off hz11 (by decide))
            refine lv_aload_n hx hb dX11_readsSayings_72 rfl (lv_at hl 2 rfl) ?_
            refine qc_Vip (As := []) (rest := []) (k0 := 0) (m_here l D ca o b z11 y3 J11) kc_yX11_here ⟨hx, hb, hml, hown, hts⟩ wq_1233 rfl rfl ⟨Nat.le_of_ble_eq_true rfl, Nat.le_of_ble_eq_true rfl⟩ wq_all hP hK hS qw_Ai (q0 := 0) (by decide) (hgM_0 ca o _ _) rfl rfl hl.1 rfl (Nat.le_of_ble_eq_true rfl) dX11_readsSayings_73 ⟨Nat.zero_le _, Nat.zero_le _⟩ (fun r12 H locs h12 hP hS _ _ => ?_)
            have p12_1 : r12.toInt = (hereV z11).toInt := h12.2.1
            have p12_2 : (r12.toInt = -1 ∨ (0 ≤ r12.toInt ∧ (z11 0 16).toInt ≤ 259)) := h12.2.2
            have b12 : (-1 : Int) ≤ r12.toInt ∧ r12.toInt ≤ 255 := h12.1
            refine lv_bipush (v := 43) hx hb dX11_readsSayings_76 (by decide) ?_
            refine lv_icmp_eq (tgt := 100) hx hb dX11_readsSayings_78 (by decide) (fun c13 => ?_) (fun c13 => ?_)
            · have t13 : r12.toInt = (43 : Int) := gl_eq c13
              refine lv_aload_n hx hb dX11_readsSayings_100 rfl (lv_at hl 2 rfl) ?_
              refine lv_aload_n hx hb dX11_readsSayings_101 rfl (lv_at hl 2 rfl) ?_
              refine qf_get hx hb hts inX11 hown hK hP (q0 := 0) (by decide) (hgM_0 ca o) rfl 16 (by decide) wq_1009 (v := .int (z11 0 16)) rfl dX11_readsSayings_102 ?_
              refine lv_topi (fun x14 e14 => ?_)
              have b14 := iM_0_16 J11 e14
              have k14 : x14.toInt = (z11 0 16).toInt := congrArg Int32.toInt e14
              refine lv_iconst (v := 1) hx hb dX11_readsSayings_105 (by decide) ?_
              refine lv_iadd hx hb dX11_readsSayings_106 ?_
              refine lv_topi (fun x15 e15 => ?_)
              have t15 : x15.toInt = x14.toInt + (1 : Int) := ga_add e15 rfl rfl (by omega) (by omega)
              refine qf_put2 hx hb hts inX11 tyX11 tyX11_ok nmX11 hown hK hP hS qw_Ai (q0 := 0) (by decide) (hgM_0 ca o) rfl 16 (by decide) wq_1009 rfl (x := x15) 16 rfl rfl rfl (Nat.le_of_ble_eq_true rfl) dX11_readsSayings_107 (fun z16 H locs hz16 hP hS => ?_)
              have J16 := jM_0_16 J11 hz16 ⟨by omega, by omega⟩
              have R12_16 : z16 12 = z 12 := (qt_row hz16 (by decide)).trans (R12_11)
              have k16_0 : (z16 0 16).toInt = x15.toInt := congrArg Int32.toInt (qt_at hz16)
              have k16_1 : (z16 0 17).toInt = (z11 0 17).toInt := congrArg Int32.toInt (qt_off hz16 (by decide))
              refine lv_aload_n hx hb dX11_readsSayings_110 rfl (lv_at hl 2 rfl) ?_
              refine qf_get hx hb hts inX11 hown hK hP (q0 := 0) (by decide) (hgM_0 ca o) rfl 16 (by decide) wq_1009 (v := .int (z16 0 16)) rfl dX11_readsSayings_111 ?_
              refine lv_topi (fun x17 e17 => ?_)
              have b17 := iM_0_16 J16 e17
              have k17 : x17.toInt = (z16 0 16).toInt := congrArg Int32.toInt e17
              refine lv_aload_n hx hb dX11_readsSayings_114 rfl (lv_at hl 2 rfl) ?_
              refine qf_get hx hb hts inX11 hown hK hP (q0 := 0) (by decide) (hgM_0 ca o) rfl 17 (by decide) wq_1010 (v := .int (z16 0 17)) rfl dX11_readsSayings_115 ?_
              refine lv_topi (fun x18 e18 => ?_)
              have b18 := iM_0_17 J16 e18
              have k18 : x18.toInt = (z16 0 17).toInt := congrArg Int32.toInt e18
              refine lv_icmp_ge (tgt := 125) hx hb dX11_readsSayings_118 (by decide) (fun c19 => ?_) (fun c19 => ?_)
              · have t19 : x17.toInt ≥ x18.toInt := gl_le c19
                refine lv_iconst (v := 0) hx hb dX11_readsSayings_125 (by decide) ?_
                refine lv_istore_n (lv' := [(2, .int 0), (3, .int x6), (0, .ref (o + 0)), (1, .int a0)]) hx hb dX11_readsSayings_126 rfl hl (by decide) rfl (fun ls hl => ?_)
                refine lv_goto (tgt := 12) hx hb dX11_readsSayings_127 (by decide) ?_
                refine lv_iload_n hx hb dX11_readsSayings_12 rfl (lv_at hl 0 rfl) ?_
                refine lv_if_eq (tgt := 130) hx hb dX11_readsSayings_13 (by decide) (fun _ => ?_) (fun q => absurd (by decide) q)
                refine lv_iconst (v := 1) hx hb dX11_readsSayings_130 (by decide) ?_
                exact W.zret (v := 1) (ty := .boolean) hx hb hr rfl (fun t ht hW => ⟨⟨1, (z16, y3), rfl, ⟨Or.inl ⟨rfl, (say_le (p := z16 0 16) (say_step (z := z3) (p := z3 0 16) (d := (hereV z3).toInt) v3_0.1 (v3_2) rfl (by omega) (by omega) (by omega) rfl (by omega) (by omega)) (by omega))⟩, J16, R12_16⟩, by rw [ht]; exact hP, va_K.moved hW.alike hK⟩, hS.F ht⟩) hS.2.2 dX11_readsSayings_131
              · have t19 : x17.toInt < x18.toInt := gl_nle c19
                refine lv_iconst (v := 1) hx hb dX11_readsSayings_121 (by decide) ?_
                refine lv_goto (tgt := 126) hx hb dX11_readsSayings_122 (by decide) ?_
                refine lv_istore_n (lv' := [(2, .int 1), (3, .int x6), (0, .ref (o + 0)), (1, .int a0)]) hx hb dX11_readsSayings_126 rfl hl (by decide) rfl (fun ls hl => ?_)
                refine lv_goto (tgt := 12) hx hb dX11_readsSayings_127 (by decide) ?_
                exact ih3 1 z16 y3 (show (260 - (z16 0 16).toInt : Int) < (n3 : Int) from by omega) ⟨by decide, by decide⟩ J16 (⟨say_step (z := z3) (p := z3 0 16) (d := (hereV z3).toInt) v3_0.1 (v3_2) rfl (by omega) (by omega) (by omega) rfl (by omega) (by omega), by omega, by omega, by omega⟩) ((iM_0_16 J16 rfl).2) (R12_16) _ _ hP hS _ (lv_sub hl [0, 2, 3] rfl)
            · have t13 : r12.toInt ≠ (43 : Int) := gl_ne c13
              refine lv_aload_n hx hb dX11_readsSayings_81 rfl (lv_at hl 2 rfl) ?_
              refine qc_Vip (As := []) (rest := []) (k0 := 0) (m_here l D ca o b z11 y3 J11) kc_yX11_here ⟨hx, hb, hml, hown, hts⟩ wq_1233 rfl rfl ⟨Nat.le_of_ble_eq_true rfl, Nat.le_of_ble_eq_true rfl⟩ wq_all hP hK hS qw_Ai (q0 := 0) (by decide) (hgM_0 ca o _ _) rfl rfl hl.1 rfl (Nat.le_of_ble_eq_true rfl) dX11_readsSayings_82 ⟨Nat.zero_le _, Nat.zero_le _⟩ (fun r20 H locs h20 hP hS _ _ => ?_)
              have p20_1 : r20.toInt = (hereV z11).toInt := h20.2.1
              have p20_2 : (r20.toInt = -1 ∨ (0 ≤ r20.toInt ∧ (z11 0 16).toInt ≤ 259)) := h20.2.2
              have b20 : (-1 : Int) ≤ r20.toInt ∧ r20.toInt ≤ 255 := h20.1
              refine lv_bipush (v := 45) hx hb dX11_readsSayings_85 (by decide) ?_
              refine lv_icmp_eq (tgt := 100) hx hb dX11_readsSayings_87 (by decide) (fun c21 => ?_) (fun c21 => ?_)
              · have t21 : r20.toInt = (45 : Int) := gl_eq c21
                refine lv_aload_n hx hb dX11_readsSayings_100 rfl (lv_at hl 2 rfl) ?_
                refine lv_aload_n hx hb dX11_readsSayings_101 rfl (lv_at hl 2 rfl) ?_
                refine qf_get hx hb hts inX11 hown hK hP (q0 := 0) (by decide) (hgM_0 ca o) rfl 16 (by decide) wq_1009 (v := .int (z11 0 16)) rfl dX11_readsSayings_102 ?_
                refine lv_topi (fun x22 e22 => ?_)
                have b22 := iM_0_16 J11 e22
                have k22 : x22.toInt = (z11 0 16).toInt := congrArg Int32.toInt e22
                refine lv_iconst (v := 1) hx hb dX11_readsSayings_105 (by decide) ?_
                refine lv_iadd hx hb dX11_readsSayings_106 ?_
                refine lv_topi (fun x23 e23 => ?_)
                have t23 : x23.toInt = x22.toInt + (1 : Int) := ga_add e23 rfl rfl (by omega) (by omega)
                refine qf_put2 hx hb hts inX11 tyX11 tyX11_ok nmX11 hown hK hP hS qw_Ai (q0 := 0) (by decide) (hgM_0 ca o) rfl 16 (by decide) wq_1009 rfl (x := x23) 16 rfl rfl rfl (Nat.le_of_ble_eq_true rfl) dX11_readsSayings_107 (fun z24 H locs hz24 hP hS => ?_)
                have J24 := jM_0_16 J11 hz24 ⟨by omega, by omega⟩
                have R12_24 : z24 12 = z 12 := (qt_row hz24 (by decide)).trans (R12_11)
                have k24_0 : (z24 0 16).toInt = x23.toInt := congrArg Int32.toInt (qt_at hz24)
                have k24_1 : (z24 0 17).toInt = (z11 0 17).toInt := congrArg Int32.toInt (qt_off hz24 (by decide))
                refine lv_aload_n hx hb dX11_readsSayings_110 rfl (lv_at hl 2 rfl) ?_
                refine qf_get hx hb hts inX11 hown hK hP (q0 := 0) (by decide) (hgM_0 ca o) rfl 16 (by decide) wq_1009 (v := .int (z24 0 16)) rfl dX11_readsSayings_111 ?_
                refine lv_topi (fun x25 e25 => ?_)
                have b25 := iM_0_16 J24 e25
                have k25 : x25.toInt = (z24 0 16).toInt := congrArg Int32.toInt e25
                refine lv_aload_n hx hb dX11_readsSayings_114 rfl (lv_at hl 2 rfl) ?_
                refine qf_get hx hb hts inX11 hown hK hP (q0 := 0) (by decide) (hgM_0 ca o) rfl 17 (by decide) wq_1010 (v := .int (z24 0 17)) rfl dX11_readsSayings_115 ?_
                refine lv_topi (fun x26 e26 => ?_)
                have b26 := iM_0_17 J24 e26
                have k26 : x26.toInt = (z24 0 17).toInt := congrArg Int32.toInt e26
                refine lv_icmp_ge (tgt := 125) hx hb dX11_readsSayings_118 (by decide) (fun c27 => ?_) (fun c27 => ?_)
                · have t27 : x25.toInt ≥ x26.toInt := gl_le c27
                  refine lv_iconst (v := 0) hx hb dX11_readsSayings_125 (by decide) ?_
                  refine lv_istore_n (lv' := [(2, .int 0), (3, .int x6), (0, .ref (o + 0)), (1, .int a0)]) hx hb dX11_readsSayings_126 rfl hl (by decide) rfl (fun ls hl => ?_)
                  refine lv_goto (tgt := 12) hx hb dX11_readsSayings_127 (by decide) ?_
                  refine lv_iload_n hx hb dX11_readsSayings_12 rfl (lv_at hl 0 rfl) ?_
                  refine lv_if_eq (tgt := 130) hx hb dX11_readsSayings_13 (by decide) (fun _ => ?_) (fun q => absurd (by decide) q)
                  refine lv_iconst (v := 1) hx hb dX11_readsSayings_130 (by decide) ?_
                  exact W.zret (v := 1) (ty := .boolean) hx hb hr rfl (fun t ht hW => ⟨⟨1, (z24, y3), rfl, ⟨Or.inl ⟨rfl, (say_le (p := z24 0 16) (say_step (z := z3) (p := z3 0 16) (d := (hereV z3).toInt) v3_0.1 (v3_2) rfl (by omega) (by omega) (by omega) rfl (by omega) (by omega)) (by omega))⟩, J24, R12_24⟩, by rw [ht]; exact hP, va_K.moved hW.alike hK⟩, hS.F ht⟩) hS.2.2 dX11_readsSayings_131
                · have t27 : x25.toInt < x26.toInt := gl_nle c27
                  refine lv_iconst (v := 1) hx hb dX11_readsSayings_121 (by decide) ?_
                  refine lv_goto (tgt := 126) hx hb dX11_readsSayings_122 (by decide) ?_
                  refine lv_istore_n (lv' := [(2, .int 1), (3, .int x6), (0, .ref (o + 0)), (1, .int a0)]) hx hb dX11_readsSayings_126 rfl hl (by decide) rfl (fun ls hl => ?_)
                  refine lv_goto (tgt := 12) hx hb dX11_readsSayings_127 (by decide) ?_
                  exact ih3 1 z24 y3 (show (260 - (z24 0 16).toInt : Int) < (n3 : Int) from by omega) ⟨by decide, by decide⟩ J24 (⟨say_step (z := z3) (p := z3 0 16) (d := (hereV z3).toInt) v3_0.1 (v3_2) rfl (by omega) (by omega) (by omega) rfl (by omega) (by omega), by omega, by omega, by omega⟩) ((iM_0_16 J24 rfl).2) (R12_24) _ _ hP hS _ (lv_sub hl [0, 2, 3] rfl)
              · have t21 : r20.toInt ≠ (45 : Int) := gl_ne c21
                refine lv_aload_n hx hb dX11_readsSayings_90 rfl (lv_at hl 2 rfl) ?_
                refine lv_iconst (v := 1) hx hb dX11_readsSayings_91 (by decide) ?_
                refine lv_aload_n hx hb dX11_readsSayings_92 rfl (lv_at hl 2 rfl) ?_
                refine qf_get hx hb hts inX11 hown hK hP (q0 := 0) (by decide) (hgM_0 ca o) rfl 16 (by decide) wq_1009 (v := .int (z11 0 16)) rfl dX11_readsSayings_93 ?_
                refine lv_topi (fun x28 e28 => ?_)
                have b28 := iM_0_16 J11 e28
                have k28 : x28.toInt = (z11 0 16).toInt := congrArg Int32.toInt e28
                refine qc_Vi2 (As := [.int 1, .int x28]) (rest := []) (k0 := 2) (m_wrongAt l D ca o b z11 y3 J11 1 x28) kc_yX11_wrongAt ⟨hx, hb, hml, hown, hts⟩ wq_1249 rfl rfl ⟨Nat.le_of_ble_eq_true rfl, Nat.le_of_ble_eq_true rfl⟩ wq_all hP hK hS qw_Ai (q0 := 0) (by decide) (hgM_0 ca o _ _) rfl rfl hl.1 rfl (Nat.le_of_ble_eq_true rfl) dX11_readsSayings_96 ⟨Nat.zero_le _, Nat.zero_le _⟩ (fun r29 z29 y29 H locs h29 hP hS _ _ => ?_)
                have J29 : qJM b z29 := h29.2.1
                have R12_29 : z29 12 = z 12 := (h29.2.2.1).trans (R12_11)
                have p29_5 : (z29 0 16).toInt = (z11 0 16).toInt := h29.2.2.2.2.2.1
                have p29_6 : (z29 0 29).toInt = (z11 0 29).toInt := h29.2.2.2.2.2.2.1
                have p29_7 : (z29 0 19).toInt = (z11 0 19).toInt := h29.2.2.2.2.2.2.2.1
                have p29_8 : (z29 0 33).toInt = (z11 0 33).toInt := h29.2.2.2.2.2.2.2.2.1
                have p29_9 : (z29 0 34).toInt = (z11 0 34).toInt := h29.2.2.2.2.2.2.2.2.2
                have b29 : (0 : Int) ≤ r29.toInt ∧ r29.toInt ≤ 0 := h29.1
                obtain rfl : r29 = 0 := lit_eq (k := 0) (K := 0) rfl (by omega) (by omega)
                exact W.zret (v := 0) (ty := .boolean) hx hb hr rfl (fun t ht hW => ⟨⟨0, (z29, y29), rfl, ⟨Or.inr rfl, J29, R12_29⟩, by rw [ht]; exact hP, va_K.moved hW.alike hK⟩, hS.F ht⟩) hS.2.2 dX11_readsSayings_99
          · subst hr8
            refine lv_if_ne (tgt := 62) hx hb dX11_readsSayings_48 (by decide) (fun q => absurd q (by decide)) (fun _ => ?_)
            refine lv_aload_n hx hb dX11_readsSayings_51 rfl (lv_at hl 2 rfl) ?_
            refine lv_bipush (v := 7) hx hb dX11_readsSayings_52 (by decide) ?_
            refine lv_aload_n hx hb dX11_readsSayings_54 rfl (lv_at hl 2 rfl) ?_
            refine qf_get hx hb hts inX11 hown hK hP (q0 := 0) (by decide) (hgM_0 ca o) rfl 16 (by decide) wq_1009 (v := .int (z3 0 16)) rfl dX11_readsSayings_55 ?_
            refine lv_topi (fun x30 e30 => ?_)
            have b30 := iM_0_16 J3 e30
            have k30 : x30.toInt = (z3 0 16).toInt := congrArg Int32.toInt e30
            refine qc_Vi2 (As := [.int 7, .int x30]) (rest := []) (k0 := 2) (m_wrongAt l D ca o b z3 y3 J3 7 x30) kc_yX11_wrongAt ⟨hx, hb, hml, hown, hts⟩ wq_1249 rfl rfl ⟨Nat.le_of_ble_eq_true rfl, Nat.le_of_ble_eq_true rfl⟩ wq_all hP hK hS qw_Ai (q0 := 0) (by decide) (hgM_0 ca o _ _) rfl rfl hl.1 rfl (Nat.le_of_ble_eq_true rfl) dX11_readsSayings_58 ⟨Nat.zero_le _, Nat.zero_le _⟩ (fun r31 z31 y31 H locs h31 hP hS _ _ => ?_)
            have J31 : qJM b z31 := h31.2.1
            have R12_31 : z31 12 = z 12 := (h31.2.2.1).trans (v3_2)
            have p31_5 : (z31 0 16).toInt = (z3 0 16).toInt := h31.2.2.2.2.2.1
            have p31_6 : (z31 0 29).toInt = (z3 0 29).toInt := h31.2.2.2.2.2.2.1
            have p31_7 : (z31 0 19).toInt = (z3 0 19).toInt := h31.2.2.2.2.2.2.2.1
            have p31_8 : (z31 0 33).toInt = (z3 0 33).toInt := h31.2.2.2.2.2.2.2.2.1
            have p31_9 : (z31 0 34).toInt = (z3 0 34).toInt := h31.2.2.2.2.2.2.2.2.2
            have b31 : (0 : Int) ≤ r31.toInt ∧ r31.toInt ≤ 0 := h31.1
            obtain rfl : r31 = 0 := lit_eq (k := 0) (K := 0) rfl (by omega) (by omega)
            exact W.zret (v := 0) (ty := .boolean) hx hb hr rfl (fun t ht hW => ⟨⟨0, (z31, y31), rfl, ⟨Or.inr rfl, J31, R12_31⟩, by rw [ht]; exact hP, va_K.moved hW.alike hK⟩, hS.F ht⟩) hS.2.2 dX11_readsSayings_61
        · subst hr7
          have hg7_0 : ¬ ((0 : Int) ≤ x6.toInt ∧ x6.toInt ≤ (5 : Int)) := hf7_0
          refine lv_if_ne (tgt := 43) hx hb dX11_readsSayings_30 (by decide) (fun q => absurd q (by decide)) (fun _ => ?_)
          refine lv_aload_n hx hb dX11_readsSayings_33 rfl (lv_at hl 2 rfl) ?_
          refine lv_iconst (v := 1) hx hb dX11_readsSayings_34 (by decide) ?_
          refine lv_aload_n hx hb dX11_readsSayings_35 rfl (lv_at hl 2 rfl) ?_
          refine qf_get hx hb hts inX11 hown hK hP (q0 := 0) (by decide) (hgM_0 ca o) rfl 16 (by decide) wq_1009 (v := .int (z3 0 16)) rfl dX11_readsSayings_36 ?_
          refine lv_topi (fun x32 e32 => ?_)
          have b32 := iM_0_16 J3 e32
          have k32 : x32.toInt = (z3 0 16).toInt := congrArg Int32.toInt e32
          refine qc_Vi2 (As := [.int 1, .int x32]) (rest := []) (k0 := 2) (m_wrongAt l D ca o b z3 y3 J3 1 x32) kc_yX11_wrongAt ⟨hx, hb, hml, hown, hts⟩ wq_1249 rfl rfl ⟨Nat.le_of_ble_eq_true rfl, Nat.le_of_ble_eq_true rfl⟩ wq_all hP hK hS qw_Ai (q0 := 0) (by decide) (hgM_0 ca o _ _) rfl rfl hl.1 rfl (Nat.le_of_ble_eq_true rfl) dX11_readsSayings_39 ⟨Nat.zero_le _, Nat.zero_le _⟩ (fun r33 z33 y33 H locs h33 hP hS _ _ => ?_)
          have J33 : qJM b z33 := h33.2.1
          have R12_33 : z33 12 = z 12 := (h33.2.2.1).trans (v3_2)
          have p33_5 : (z33 0 16).toInt = (z3 0 16).toInt := h33.2.2.2.2.2.1
          have p33_6 : (z33 0 29).toInt = (z3 0 29).toInt := h33.2.2.2.2.2.2.1
          have p33_7 : (z33 0 19).toInt = (z3 0 19).toInt := h33.2.2.2.2.2.2.2.1
          have p33_8 : (z33 0 33).toInt = (z3 0 33).toInt := h33.2.2.2.2.2.2.2.2.1
          have p33_9 : (z33 0 34).toInt = (z3 0 34).toInt := h33.2.2.2.2.2.2.2.2.2
          have b33 : (0 : Int) ≤ r33.toInt ∧ r33.toInt ≤ 0 := h33.1
          obtain rfl : r33 = 0 := lit_eq (k := 0) (K := 0) rfl (by omega) (by omega)
          exact W.zret (v := 0) (ty := .boolean) hx hb hr rfl (fun t ht hW => ⟨⟨0, (z33, y33), rfl, ⟨Or.inr rfl, J33, R12_33⟩, by rw [ht]; exact hP, va_K.moved hW.alike hK⟩, hS.F ht⟩) hS.2.2 dX11_readsSayings_42
  exact loop3 300 1 z2 y (show (260 - (z2 0 16).toInt : Int) < ((300 : Nat) : Int) from by omega) ⟨by decide, by decide⟩ J2 (⟨(show sayI _ (z2 0 16) from by rw [gr_eq (y := 0) (show (z2 0 16).toInt = 0 from by omega)]; exact say_0 _), by omega, by omega, by omega⟩) ((iM_0_16 J2 rfl).2) (R12_2) _ _ hP hS _ (lv_sub hl [0, 1, 2] rfl)
set_option maxRecDepth 100000 in
set_option maxHeartbeats 8000000 in
theorem m_says (l : Launch) (D : va_G) (ca : Nat → ClassId) (o : Nat) (b z : Nat → Nat → Int32) (y : Nat → Nat → Int64) (J0 : qJM b z) (a0 : Int32) (a1 : Int32) (ha0 : (0 : Int) ≤ a0.toInt ∧ a0.toInt ≤ 15) : qM l yX11_says cX11_says 6 none 3 105 (qPre D vwCl (qT6 ca) o 41 (qG (GM ca o) z y) [.ref (o + 0), .int a0, .int a1]) (va_Qv (fun u => qJM b u.1 ∧ u.1 12 = z 12) (qB D vwCl (qT6 ca) o 41 (fun u : qZ => qG (GM ca o) u.1 u.2)) (qw_A o 41)) (qw_A o 41) := by
  refine Met.ofW (cc := cX11_says) (maxL := 6) (ret := none) (by decide) rfl ?_
  intro p e s m args below meth c s₁ B hml hv
  obtain ⟨rfl, hP, hK⟩ := hv
  have hx := B.exec
  have hb := B.bytes
  have hr := B.returns
  have hts0 := atoms_spec (ws := Cond.code yX11_says cX11_says 6 none :: qtbl) B.pre
  have hts : ∀ w ∈ qtbl, w.before _ s = true := fun w h => hts0 w (List.mem_cons_of_mem _ h)
  have hown : s.vm.findClass RX11 = some m.cls := findClass_of_methodNamed B.named
  have hlocks := B.notSynchronized
  have hS : va_S (qw_A o 41) s.heap s.heap [] := va_S.rf
  have hl := lv_entry ([.ref (o + 0), .int a0, .int a1]) (n := 6) (Nat.le_of_ble_eq_true rfl)
  rw [lg_entry_eq]
  generalize (lg_sl ([.ref (o + 0), .int a0, .int a1]) ++ List.replicate (6 - (lg_sl ([.ref (o + 0), .int a0, .int a1])).length) Slot.unset).toArray = ls at hl ⊢
  have hl : lv_has ls 6 [(0, .ref (o + 0)), (1, .int a0), (2, .int a1)] := hl
  refine lv_aload_n hx hb dX11_says_0 rfl (lv_at hl 0 rfl) ?_
  refine lv_iload_n hx hb dX11_says_1 rfl (lv_at hl 1 rfl) ?_
  refine qc_Vv2 (As := [.int a0]) (rest := []) (k0 := 1) (m_hears l D ca o b z y J0 a0 ⟨by omega, by omega⟩) kc_yX11_hears ⟨hx, hb, hml, hown, hts⟩ wq_1441 rfl rfl ⟨Nat.le_of_ble_eq_true rfl, Nat.le_of_ble_eq_true rfl⟩ wq_all hP hK hS qw_Ai (q0 := 0) (by decide) (hgM_0 ca o _ _) rfl rfl hl.1 rfl (Nat.le_of_ble_eq_true rfl) dX11_says_2 ⟨Nat.zero_le _, Nat.zero_le _⟩ (fun z1 y1 H locs h1 hP hS _ _ => ?_)
  have J1 : qJM b z1 := h1.1
  have R12_1 : z1 12 = z 12 := (h1.2).trans (rfl)
  refine lv_iconst (v := 0) hx hb dX11_says_5 (by decide) ?_
  refine lv_istore_n (lv' := [(3, .int 0), (0, .ref (o + 0)), (1, .int a0), (2, .int a1)]) hx hb dX11_says_6 rfl hl (by decide) rfl (fun ls hl => ?_)
  have loop2 : ∀ (n : Nat) (w2_3 : Int32) (z2 : Nat → Nat → Int32) (y2 : Nat → Nat → Int64), ((2000 - w2_3.toInt : Int) < (n : Int)) → ((0 : Int) ≤ w2_3.toInt ∧ w2_3.toInt ≤ 2000) → (qJM b z2) → (z2 12 = z 12) → ∀ (H : Heap) (locs : List Loc), qw_P D vwCl o 41 (qG (GM ca o) z2 y2) H → va_S (qw_A o 41) s.heap H locs → ∀ (ls : Array Slot), lv_has ls 6 [(3, .int w2_3), (0, .ref (o + 0)), (1, .int a0), (2, .int a1)] → W p l e (headSpec (Cond.code yX11_says cX11_says 6 none :: qtbl) ({ frames := 3, cells := 0, slots := 0, locals := 105 })).room s m (([.ref (o + 0), .int a0, .int a1] : List Value).toArray) below meth c H locs 0 0 (MQ below (va_Qv (fun u => qJM b u.1 ∧ u.1 12 = z 12) (qB D vwCl (qT6 ca) o 41 (fun u : qZ => qG (GM ca o) u.1 u.2)) (qw_A o 41)) (([.ref (o + 0), .int a0, .int a1] : List Value).toArray) s 0 0 (qw_A o 41)) (F0 m 7 ls []) := by
    intro n
    induction n with
    | zero => intro w2_3 z2 y2 hb2 hv2_3 J2 v2_0; exfalso; omega
    | succ n2 ih2 =>
      intro w2_3 z2 y2 hb2 hv2_3 J2 v2_0 H locs hP hS ls hl
      refine lv_iload_n hx hb dX11_says_7 rfl (lv_at hl 0 rfl) ?_
      refine lv_aload_n hx hb dX11_says_8 rfl (lv_at hl 1 rfl) ?_
      refine qf_get hx hb hts inX11 hown hK hP (q0 := 0) (by decide) (hgM_0 ca o) rfl 41 (by decide) wq_1033 (v := .int (z2 0 41)) rfl dX11_says_9 ?_
      refine lv_topi (fun x3 e3 => ?_)
      have b3 := iM_0_41 J2 e3
      refine lv_icmp_ge (tgt := 50) hx hb dX11_says_12 (by decide) (fun c4 => ?_) (fun c4 => ?_)
      · have t4 : w2_3.toInt ≥ x3.toInt := gl_le c4
        refine lv_iconst (v := 0) hx hb dX11_says_50 (by decide) ?_
        refine lv_istore_n (lv' := [(3, .int 0), (0, .ref (o + 0)), (1, .int a0), (2, .int a1)]) hx hb dX11_says_51 rfl hl (by decide) rfl (fun ls hl => ?_)
        refine lv_iconst (v := 0) hx hb dX11_says_52 (by decide) ?_
        refine lv_istore (lv' := [(4, .int 0), (3, .int 0), (0, .ref (o + 0)), (1, .int a0), (2, .int a1)]) hx hb dX11_says_53 hl (by decide) rfl (fun ls hl => ?_)
        have loop5 : ∀ (n : Nat) (w5_4 : Int32) (w5_3 : Int32) (z5 : Nat → Nat → Int32) (y5 : Nat → Nat → Int64), ((2000 - w5_4.toInt : Int) < (n : Int)) → ((0 : Int) ≤ w5_4.toInt ∧ w5_4.toInt ≤ 2000) → ((0 : Int) ≤ w5_3.toInt ∧ w5_3.toInt ≤ 2000) → (qJM b z5) → (w5_3.toInt ≤ w5_4.toInt) → (z5 12 = z 12) → ∀ (H : Heap) (locs : List Loc), qw_P D vwCl o 41 (qG (GM ca o) z5 y5) H → va_S (qw_A o 41) s.heap H locs → ∀ (ls : Array Slot), lv_has ls 6 [(4, .int w5_4), (3, .int w5_3), (0, .ref (o + 0)), (1, .int a0), (2, .int a1)] → W p l e (headSpec (Cond.code yX11_says cX11_says 6 none :: qtbl) ({ frames := 3, cells := 0, slots := 0, locals := 105 })).room s m (([.ref (o + 0), .int a0, .int a1] : List Value).toArray) below meth c H locs 0 0 (MQ below (va_Qv (fun u => qJM b u.1 ∧ u.1 12 = z 12) (qB D vwCl (qT6 ca) o 41 (fun u : qZ => qG (GM ca o) u.1 u.2)) (qw_A o 41)) (([.ref (o + 0), .int a0, .int a1] : List Value).toArray) s 0 0 (qw_A o 41)) (F0 m 55 ls []) := by
          intro n
          induction n with
          | zero => intro w5_4 w5_3 z5 y5 hb5 hv5_4 hv5_3 J5 v5_0 v5_1; exfalso; omega
          | succ n5 ih5 =>
            intro w5_4 w5_3 z5 y5 hb5 hv5_4 hv5_3 J5 v5_0 v5_1 H locs hP hS ls hl
            refine lv_iload hx hb dX11_says_55 (lv_at hl 0 rfl) ?_
            refine lv_aload_n hx hb dX11_says_57 rfl (lv_at hl 2 rfl) ?_
            refine qf_get hx hb hts inX11 hown hK hP (q0 := 0) (by decide) (hgM_0 ca o) rfl 41 (by decide) wq_1033 (v := .int (z5 0 41)) rfl dX11_says_58 ?_
            refine lv_topi (fun x6 e6 => ?_)
            have b6 := iM_0_41 J5 e6
            refine lv_icmp_ge (tgt := 128) hx hb dX11_says_61 (by decide) (fun c7 => ?_) (fun c7 => ?_)
            · have t7 : w5_4.toInt ≥ x6.toInt := gl_le c7
              refine lv_aload_n hx hb dX11_says_128 rfl (lv_at hl 2 rfl) ?_
              refine lv_iload_n hx hb dX11_says_129 rfl (lv_at hl 1 rfl) ?_
              refine qf_put2 hx hb hts inX11 tyX11 tyX11_ok nmX11 hown hK hP hS qw_Ai (q0 := 0) (by decide) (hgM_0 ca o) rfl 41 (by decide) wq_1033 rfl (x := w5_3) 41 rfl rfl rfl (Nat.le_of_ble_eq_true rfl) dX11_says_130 (fun z8 H locs hz8 hP hS => ?_)
              have J8 := jM_0_41 J5 hz8 ⟨by omega, by omega⟩
              have R12_8 : z8 12 = z 12 := (qt_row hz8 (by decide)).trans (v5_1)
              exact W.vret hx hb hr (fun t ht hW => ⟨⟨(z8, y5), rfl, ⟨J8, R12_8⟩, by rw [ht]; exact hP, va_K.moved hW.alike hK⟩, hS.F ht⟩) hS.2.2 dX11_says_133
            · have t7 : w5_4.toInt < x6.toInt := gl_nle c7
              refine lv_aload_n hx hb dX11_says_64 rfl (lv_at hl 2 rfl) ?_
              refine qf_get hx hb hts inX11 hown hK hP (q0 := 0) (by decide) (hgM_0 ca o) rfl 42 (by decide) wq_1034 (v := .ref (o + 28)) rfl dX11_says_65 ?_
              refine lv_iload hx hb dX11_says_68 (lv_at hl 0 rfl) ?_
              refine qa_zald hx hb hK hP (q0 := 28) (by decide) 2 (N := 2000) (hgM_28 ca o) rfl (gi_in (by omega) (by omega)) dX11_says_70 ?_
              refine lv_topi (fun x9 e9 => ?_)
              refine lv_if_ne (tgt := 77) hx hb dX11_says_71 (by decide) (fun c10 => ?_) (fun c10 => ?_)
              · have t10 : x9.toInt ≠ (0 : Int) := gl_ne c10
                refine lv_iconst (v := 0) hx hb dX11_says_77 (by decide) ?_
                refine lv_istore (lv' := [(5, .int 0), (4, .int w5_4), (3, .int w5_3), (0, .ref (o + 0)), (1, .int a0), (2, .int a1)]) hx hb dX11_says_78 hl (by decide) rfl (fun ls hl => ?_)
                have loop11 : ∀ (n : Nat) (w11_5 : Int32) (z11 : Nat → Nat → Int32) (y11 : Nat → Nat → Int64), ((6 - w11_5.toInt : Int) < (n : Int)) → ((0 : Int) ≤ w11_5.toInt ∧ w11_5.toInt ≤ 6) → (qJM b z11) → (z11 12 = z 12) → ∀ (H : Heap) (locs : List Loc), qw_P D vwCl o 41 (qG (GM ca o) z11 y11) H → va_S (qw_A o 41) s.heap H locs → ∀ (ls : Array Slot), lv_has ls 6 [(5, .int w11_5), (4, .int w5_4), (3, .int w5_3), (0, .ref (o + 0)), (1, .int a0), (2, .int a1)] → W p l e (headSpec (Cond.code yX11_says cX11_says 6 none :: qtbl) ({ frames := 3, cells := 0, slots := 0, locals := 105 })).room s m (([.ref (o + 0), .int a0, .int a1] : List Value).toArray) below meth c H locs 0 0 (MQ below (va_Qv (fun u => qJM b u.1 ∧ u.1 12 = z 12) (qB D vwCl (qT6 ca) o 41 (fun u : qZ => qG (GM ca o) u.1 u.2)) (qw_A o 41)) (([.ref (o + 0), .int a0, .int a1] : List Value).toArray) s 0 0 (qw_A o 41)) (F0 m 80 ls []) := by
                  intro n
                  induction n with
                  | zero => intro w11_5 z11 y11 hb11 hv11_5 J11 v11_0; exfalso; omega
                  | succ n11 ih11 =>
                    intro w11_5 z11 y11 hb11 hv11_5 J11 v11_0 H locs hP hS ls hl
                    refine lv_iload hx hb dX11_says_80 (lv_at hl 0 rfl) ?_
                    refine lv_bipush (v := 6) hx hb dX11_says_82 (by decide) ?_
                    refine lv_icmp_ge (tgt := 118) hx hb dX11_says_84 (by decide) (fun c12 => ?_) (fun c12 => ?_)
                    · have t12 : w11_5.toInt ≥ (6 : Int) := gl_le c12
                      refine lv_iload_n hx hb dX11_says_118 rfl (lv_at hl 2 rfl) ?_
                      refine lv_iconst (v := 1) hx hb dX11_says_119 (by decide) ?_
                      refine lv_iadd hx hb dX11_says_120 ?_
                      refine lv_topi (fun x13 e13 => ?_)
                      have t13 : x13.toInt = w5_3.toInt + (1 : Int) := ga_add e13 rfl rfl (by omega) (by omega)
                      refine lv_istore_n (lv' := [(3, .int x13), (5, .int w11_5), (4, .int w5_4), (0, .ref (o + 0)), (1, .int a0), (2, .int a1)]) hx hb dX11_says_121 rfl hl (by decide) rfl (fun ls hl => ?_)
                      obtain ⟨x14, e14⟩ : ∃ t : Int32, t = w5_4 + 1 := ⟨_, rfl⟩
                      refine lv_iinc (v := x14) (lv' := [(4, .int x14), (3, .int x13), (5, .int w11_5), (0, .ref (o + 0)), (1, .int a0), (2, .int a1)]) hx hb dX11_says_122 hl (k := 2) rfl (by rw [e14]; rfl) (by decide) rfl (fun ls hl => ?_)
                      have t14 : x14.toInt = w5_4.toInt + (1 : Int) := ga_add e14 rfl rfl (by omega) (by omega)
                      refine lv_goto (tgt := 55) hx hb dX11_says_125 (by decide) ?_
                      exact ih5 x14 x13 z11 y11 (show (2000 - x14.toInt : Int) < (n5 : Int) from by omega) ⟨by omega, by omega⟩ ⟨by omega, by omega⟩ J11 (show x13.toInt ≤ x14.toInt from by omega) (v11_0) _ _ hP hS _ (lv_sub hl [0, 1, 3, 4, 5] rfl)
                    · have t12 : w11_5.toInt < (6 : Int) := gl_nle c12
                      refine lv_aload_n hx hb dX11_says_87 rfl (lv_at hl 3 rfl) ?_
                      refine qf_get hx hb hts inX11 hown hK hP (q0 := 0) (by decide) (hgM_0 ca o) rfl 39 (by decide) wq_1031 (v := .ref (o + 26)) rfl dX11_says_88 ?_
                      refine lv_bipush (v := 6) hx hb dX11_says_91 (by decide) ?_
                      refine lv_iload_n hx hb dX11_says_93 rfl (lv_at hl 2 rfl) ?_
                      refine lv_imul hx hb dX11_says_94 ?_
                      refine lv_topi (fun x15 e15 => ?_)
                      have t15 : x15.toInt = (6 : Int) * w5_3.toInt := ga_mul e15 rfl rfl (by omega) (by omega)
                      refine lv_iload hx hb dX11_says_95 (lv_at hl 0 rfl) ?_
                      refine lv_iadd hx hb dX11_says_97 ?_
                      refine lv_topi (fun x16 e16 => ?_)
                      have t16 : x16.toInt = x15.toInt + w11_5.toInt := ga_add e16 rfl rfl (by omega) (by omega)
                      refine lv_aload_n hx hb dX11_says_98 rfl (lv_at hl 3 rfl) ?_
                      refine qf_get hx hb hts inX11 hown hK hP (q0 := 0) (by decide) (hgM_0 ca o) rfl 39 (by decide) wq_1031 (v := .ref (o + 26)) rfl dX11_says_99 ?_
                      refine lv_bipush (v := 6) hx hb dX11_says_102 (by decide) ?_
                      refine lv_iload hx hb dX11_says_104 (lv_at hl 1 rfl) ?_
                      refine lv_imul hx hb dX11_says_106 ?_
                      refine lv_topi (fun x17 e17 => ?_)
                      have t17 : x17.toInt = (6 : Int) * w5_4.toInt := ga_mul e17 rfl rfl (by omega) (by omega)
                      refine lv_iload hx hb dX11_says_107 (lv_at hl 0 rfl) ?_
                      refine lv_iadd hx hb dX11_says_109 ?_
                      refine lv_topi (fun x18 e18 => ?_)
                      have t18 : x18.toInt = x17.toInt + w11_5.toInt := ga_add e18 rfl rfl (by omega) (by omega)
                      refine qa_bald hx hb hK hP (q0 := 26) (by decide) 3 (N := 12000) (hgM_26 ca o) rfl (gi_in (by omega) (by omega)) dX11_says_110 ?_
                      refine lv_topi (fun x19 e19 => ?_)
                      have b19 := iM_26 J11 e19
                      refine qa_bast2 hx hb hK hP hS qw_Ai (q0 := 26) (by decide) 3 (N := 12000) (hgM_26 ca o) rfl (i := x16) (x := x19) (gi_in (by omega) (by omega)) dX11_says_111 (fun z20 H locs hz20 hP hS => ?_)
                      rw [nby_nar ⟨by omega, by omega⟩] at hz20
                      have J20 := jM_26 J11 hz20 ⟨by omega, by omega⟩
                      have R12_20 : z20 12 = z 12 := (qt_row hz20 (by decide)).trans (v11_0)
                      obtain ⟨x21, e21⟩ : ∃ t : Int32, t = w11_5 + 1 := ⟨_, rfl⟩
                      refine lv_iinc (v := x21) (lv' := [(5, .int x21), (4, .int w5_4), (3, .int w5_3), (0, .ref (o + 0)), (1, .int a0), (2, .int a1)]) hx hb dX11_says_112 hl (k := 0) rfl (by rw [e21]; rfl) (by decide) rfl (fun ls hl => ?_)
                      have t21 : x21.toInt = w11_5.toInt + (1 : Int) := ga_add e21 rfl rfl (by omega) (by omega)
                      refine lv_goto (tgt := 80) hx hb dX11_says_115 (by decide) ?_
                      exact ih11 x21 z20 y11 (show (6 - x21.toInt : Int) < (n11 : Int) from by omega) ⟨by omega, by omega⟩ J20 (R12_20) _ _ hP hS _ (lv_sub hl [0, 1, 2, 3, 4, 5] rfl)
                exact loop11 7 0 z5 y5 (show (6 - (0 : Int) : Int) < ((7 : Nat) : Int) from by omega) ⟨by decide, by decide⟩ J5 (v5_1) _ _ hP hS _ (lv_sub hl [0, 1, 2, 3, 4, 5] rfl)
              · have t10 : x9.toInt = (0 : Int) := gl_eq c10
                refine lv_goto (tgt := 122) hx hb dX11_says_74 (by decide) ?_
                obtain ⟨x22, e22⟩ : ∃ t : Int32, t = w5_4 + 1 := ⟨_, rfl⟩
                refine lv_iinc (v := x22) (lv' := [(4, .int x22), (3, .int w5_3), (0, .ref (o + 0)), (1, .int a0), (2, .int a1)]) hx hb dX11_says_122 hl (k := 0) rfl (by rw [e22]; rfl) (by decide) rfl (fun ls hl => ?_)
                have t22 : x22.toInt = w5_4.toInt + (1 : Int) := ga_add e22 rfl rfl (by omega) (by omega)
                refine lv_goto (tgt := 55) hx hb dX11_says_125 (by decide) ?_
                exact ih5 x22 w5_3 z5 y5 (show (2000 - x22.toInt : Int) < (n5 : Int) from by omega) ⟨by omega, by omega⟩ ⟨by omega, by omega⟩ J5 (show w5_3.toInt ≤ x22.toInt from by omega) (v5_1) _ _ hP hS _ (lv_sub hl [0, 1, 2, 3, 4] rfl)
        exact loop5 2001 0 0 z2 y2 (show (2000 - (0 : Int) : Int) < ((2001 : Nat) : Int) from by omega) ⟨by decide, by decide⟩ ⟨by decide, by decide⟩ J2 (show (0 : Int) ≤ (0 : Int) from by omega) (v2_0) _ _ hP hS _ (lv_sub hl [0, 1, 2, 3, 4] rfl)
      · have t4 : w2_3.toInt < x3.toInt := gl_nle c4
        refine lv_aload_n hx hb dX11_says_15 rfl (lv_at hl 1 rfl) ?_
        refine qf_get hx hb hts inX11 hown hK hP (q0 := 0) (by decide) (hgM_0 ca o) rfl 42 (by decide) wq_1034 (v := .ref (o + 28)) rfl dX11_says_16 ?_
        refine lv_iload_n hx hb dX11_says_19 rfl (lv_at hl 0 rfl) ?_
        refine lv_aload_n hx hb dX11_says_20 rfl (lv_at hl 1 rfl) ?_
        refine lv_iload_n hx hb dX11_says_21 rfl (lv_at hl 0 rfl) ?_
        refine qc_Vip (As := [.int w2_3]) (rest := [.int w2_3, .ref (o + 28)]) (k0 := 1) (m_alikeTo l D ca o b z2 y2 J2 w2_3 ⟨by omega, by omega⟩) kc_yX11_alikeTo ⟨hx, hb, hml, hown, hts⟩ wq_1449 rfl rfl ⟨Nat.le_of_ble_eq_true rfl, Nat.le_of_ble_eq_true rfl⟩ wq_all hP hK hS qw_Ai (q0 := 0) (by decide) (hgM_0 ca o _ _) rfl rfl hl.1 rfl (Nat.le_of_ble_eq_true rfl) dX11_says_22 ⟨Nat.zero_le _, Nat.zero_le _⟩ (fun r23 H locs h23 hP hS _ _ => ?_)
        refine lv_iconst (v := 1) hx hb dX11_says_25 (by decide) ?_
        refine lv_icmp_ne (tgt := 33) hx hb dX11_says_26 (by decide) (fun c24 => ?_) (fun c24 => ?_)
        · have t24 : r23.toInt ≠ (1 : Int) := gl_ne c24
          refine lv_iconst (v := 0) hx hb dX11_says_33 (by decide) ?_
          refine lv_iload_n hx hb dX11_says_34 rfl (lv_at hl 3 rfl) ?_
          refine lv_icmp_ne (tgt := 42) hx hb dX11_says_35 (by decide) (fun c25 => ?_) (fun c25 => ?_)
          · have t25 : (0 : Int) ≠ a1.toInt := gl_ne c25
            refine lv_iconst (v := 0) hx hb dX11_says_42 (by decide) ?_
            refine qa_zast2 hx hb hK hP hS qw_Ai (q0 := 28) (by decide) 2 (N := 2000) (hgM_28 ca o) rfl (i := w2_3) (x := 0) (gi_in (by omega) (by omega)) dX11_says_43 (fun z26 H locs hz26 hP hS => ?_)
            have J26 := jM_28 J2 hz26
            have R12_26 : z26 12 = z 12 := (qt_row hz26 (by decide)).trans (v2_0)
            obtain ⟨x27, e27⟩ : ∃ t : Int32, t = w2_3 + 1 := ⟨_, rfl⟩
            refine lv_iinc (v := x27) (lv' := [(3, .int x27), (0, .ref (o + 0)), (1, .int a0), (2, .int a1)]) hx hb dX11_says_44 hl (k := 0) rfl (by rw [e27]; rfl) (by decide) rfl (fun ls hl => ?_)
            have t27 : x27.toInt = w2_3.toInt + (1 : Int) := ga_add e27 rfl rfl (by omega) (by omega)
            refine lv_goto (tgt := 7) hx hb dX11_says_47 (by decide) ?_
            exact ih2 x27 z26 y2 (show (2000 - x27.toInt : Int) < (n2 : Int) from by omega) ⟨by omega, by omega⟩ J26 (R12_26) _ _ hP hS _ (lv_sub hl [0, 1, 2, 3] rfl)
          · have t25 : (0 : Int) = a1.toInt := gl_eq c25
            refine lv_iconst (v := 1) hx hb dX11_says_38 (by decide) ?_
            refine lv_goto (tgt := 43) hx hb dX11_says_39 (by decide) ?_
            refine qa_zast2 hx hb hK hP hS qw_Ai (q0 := 28) (by decide) 2 (N := 2000) (hgM_28 ca o) rfl (i := w2_3) (x := 1) (gi_in (by omega) (by omega)) dX11_says_43 (fun z28 H locs hz28 hP hS => ?_)
            have J28 := jM_28 J2 hz28
            have R12_28 : z28 12 = z 12 := (qt_row hz28 (by decide)).trans (v2_0)
            obtain ⟨x29, e29⟩ : ∃ t : Int32, t = w2_3 + 1 := ⟨_, rfl⟩
            refine lv_iinc (v := x29) (lv' := [(3, .int x29), (0, .ref (o + 0)), (1, .int a0), (2, .int a1)]) hx hb dX11_says_44 hl (k := 0) rfl (by rw [e29]; rfl) (by decide) rfl (fun ls hl => ?_)
            have t29 : x29.toInt = w2_3.toInt + (1 : Int) := ga_add e29 rfl rfl (by omega) (by omega)
            refine lv_goto (tgt := 7) hx hb dX11_says_47 (by decide) ?_
            exact ih2 x29 z28 y2 (show (2000 - x29.toInt : Int) < (n2 : Int) from by omega) ⟨by omega, by omega⟩ J28 (R12_28) _ _ hP hS _ (lv_sub hl [0, 1, 2, 3] rfl)
        · have t24 : r23.toInt = (1 : Int) := gl_eq c24
          refine lv_iconst (v := 1) hx hb dX11_says_29 (by decide) ?_
          refine lv_goto (tgt := 34) hx hb dX11_says_30 (by decide) ?_
          refine lv_iload_n hx hb dX11_says_34 rfl (lv_at hl 3 rfl) ?_
          refine lv_icmp_ne (tgt := 42) hx hb dX11_says_35 (by decide) (fun c30 => ?_) (fun c30 => ?_)
          · have t30 : (1 : Int) ≠ a1.toInt := gl_ne c30
            refine lv_iconst (v := 0) hx hb dX11_says_42 (by decide) ?_
            refine qa_zast2 hx hb hK hP hS qw_Ai (q0 := 28) (by decide) 2 (N := 2000) (hgM_28 ca o) rfl (i := w2_3) (x := 0) (gi_in (by omega) (by omega)) dX11_says_43 (fun z31 H locs hz31 hP hS => ?_)
            have J31 := jM_28 J2 hz31
            have R12_31 : z31 12 = z 12 := (qt_row hz31 (by decide)).trans (v2_0)
            obtain ⟨x32, e32⟩ : ∃ t : Int32, t = w2_3 + 1 := ⟨_, rfl⟩
            refine lv_iinc (v := x32) (lv' := [(3, .int x32), (0, .ref (o + 0)), (1, .int a0), (2, .int a1)]) hx hb dX11_says_44 hl (k := 0) rfl (by rw [e32]; rfl) (by decide) rfl (fun ls hl => ?_)
            have t32 : x32.toInt = w2_3.toInt + (1 : Int) := ga_add e32 rfl rfl (by omega) (by omega)
            refine lv_goto (tgt := 7) hx hb dX11_says_47 (by decide) ?_
            exact ih2 x32 z31 y2 (show (2000 - x32.toInt : Int) < (n2 : Int) from by omega) ⟨by omega, by omega⟩ J31 (R12_31) _ _ hP hS _ (lv_sub hl [0, 1, 2, 3] rfl)
          · have t30 : (1 : Int) = a1.toInt := gl_eq c30
            refine lv_iconst (v := 1) hx hb dX11_says_38 (by decide) ?_
            refine lv_goto (tgt := 43) hx hb dX11_says_39 (by decide) ?_
            refine qa_zast2 hx hb hK hP hS qw_Ai (q0 := 28) (by decide) 2 (N := 2000) (hgM_28 ca o) rfl (i := w2_3) (x := 1) (gi_in (by omega) (by omega)) dX11_says_43 (fun z33 H locs hz33 hP hS => ?_)
            have J33 := jM_28 J2 hz33
            have R12_33 : z33 12 = z 12 := (qt_row hz33 (by decide)).trans (v2_0)
            obtain ⟨x34, e34⟩ : ∃ t : Int32, t = w2_3 + 1 := ⟨_, rfl⟩
            refine lv_iinc (v := x34) (lv' := [(3, .int x34), (0, .ref (o + 0)), (1, .int a0), (2, .int a1)]) hx hb dX11_says_44 hl (k := 0) rfl (by rw [e34]; rfl) (by decide) rfl (fun ls hl => ?_)
            have t34 : x34.toInt = w2_3.toInt + (1 : Int) := ga_add e34 rfl rfl (by omega) (by omega)
            refine lv_goto (tgt := 7) hx hb dX11_says_47 (by decide) ?_
            exact ih2 x34 z33 y2 (show (2000 - x34.toInt : Int) < (n2 : Int) from by omega) ⟨by omega, by omega⟩ J33 (R12_33) _ _ hP hS _ (lv_sub hl [0, 1, 2, 3] rfl)
  exact loop2 2001 0 z1 y1 (show (2000 - (0 : Int) : Int) < ((2001 : Nat) : Int) from by omega) ⟨by decide, by decide⟩ J1 (R12_1) _ _ hP hS _ (lv_sub hl [0, 1, 2, 3] rfl)
set_option maxRecDepth 100000 in
set_option maxHeartbeats 8000000 in
theorem m_sayings (l : Launch) (D : va_G) (ca : Nat → ClassId) (o : Nat) (b z : Nat → Nat → Int32) (y : Nat → Nat → Int64) (J0 : qJM b z) (a0 : Int32) (a1 : Int32) (a2 : Int32)  : qM l yX11_sayings cX11_sayings 6 (some .int) 5 148 (qPre D vwCl (qT6 ca) o 41 (qG (GM ca o) z y) [.ref (o + 0), .int a0, .int a1, .int a2]) (va_Qi (fun r u => True ∧ qJM b u.1 ∧ u.1 12 = z 12) (qB D vwCl (qT6 ca) o 41 (fun u : qZ => qG (GM ca o) u.1 u.2)) (qw_A o 41)) (qw_A o 41) := by
  refine Met.ofW (cc := cX11_sayings) (maxL := 6) (ret := (some .int)) (by decide) rfl ?_
  intro p e s m args below meth c s₁ B hml hv
  obtain ⟨rfl, hP, hK⟩ := hv
  have hx := B.exec
  have hb := B.bytes
  have hr := B.returns
  have hts0 := atoms_spec (ws := Cond.code yX11_sayings cX11_sayings 6 (some .int) :: qtbl) B.pre
  have hts : ∀ w ∈ qtbl, w.before _ s = true := fun w h => hts0 w (List.mem_cons_of_mem _ h)
  have hown : s.vm.findClass RX11 = some m.cls := findClass_of_methodNamed B.named
  have hlocks := B.notSynchronized
  have hS : va_S (qw_A o 41) s.heap s.heap [] := va_S.rf
  have hl := lv_entry ([.ref (o + 0), .int a0, .int a1, .int a2]) (n := 6) (Nat.le_of_ble_eq_true rfl)
  rw [lg_entry_eq]
  generalize (lg_sl ([.ref (o + 0), .int a0, .int a1, .int a2]) ++ List.replicate (6 - (lg_sl ([.ref (o + 0), .int a0, .int a1, .int a2])).length) Slot.unset).toArray = ls at hl ⊢
  have hl : lv_has ls 6 [(0, .ref (o + 0)), (1, .int a0), (2, .int a1), (3, .int a2)] := hl
  refine lv_aload_n hx hb dX11_sayings_0 rfl (lv_at hl 0 rfl) ?_
  refine lv_iload_n hx hb dX11_sayings_1 rfl (lv_at hl 1 rfl) ?_
  refine qc_Vip (As := [.int a0]) (rest := []) (k0 := 1) (m_areRemarks l D ca o b z y J0 a0) kc_yX11_areRemarks ⟨hx, hb, hml, hown, hts⟩ wq_1324 rfl rfl ⟨Nat.le_of_ble_eq_true rfl, Nat.le_of_ble_eq_true rfl⟩ wq_all hP hK hS qw_Ai (q0 := 0) (by decide) (hgM_0 ca o _ _) rfl rfl hl.1 rfl (Nat.le_of_ble_eq_true rfl) dX11_sayings_2 ⟨Nat.zero_le _, Nat.zero_le _⟩ (fun r1 H locs h1 hP hS _ _ => ?_)
  have b1 : (0 : Int) ≤ r1.toInt ∧ r1.toInt ≤ 1 := h1
  refine lv_if_eq (tgt := 40) hx hb dX11_sayings_5 (by decide) (fun c2 => ?_) (fun c2 => ?_)
  · have t2 : r1.toInt = (0 : Int) := gl_eq c2
    refine lv_iconst (v := (-1)) hx hb dX11_sayings_40 (by decide) ?_
    exact W.iret (v := (-1)) hx hb hr (fun t ht hW => ⟨⟨(-1), (z, y), rfl, ⟨trivial, J0, rfl⟩, by rw [ht]; exact hP, va_K.moved hW.alike hK⟩, hS.F ht⟩) hS.2.2 dX11_sayings_41
  · have t2 : r1.toInt ≠ (0 : Int) := gl_ne c2
    refine lv_iload_n hx hb dX11_sayings_8 rfl (lv_at hl 2 rfl) ?_
    refine lv_iconst (v := 1) hx hb dX11_sayings_9 (by decide) ?_
    refine lv_bipush (v := 20) hx hb dX11_sayings_10 (by decide) ?_
    refine qc_Sip (As := [.int a1, .int 1, .int 20]) (rest := []) (k0 := 3) (m_in l D ca o b z y J0 a1 1 20) kc_yX11_in ⟨hx, hb, hml, hown, hts⟩ wq_1187 rfl rfl ⟨Nat.le_of_ble_eq_true rfl, Nat.le_of_ble_eq_true rfl⟩ wq_all hP hK hS qw_Ai rfl hl.1 rfl (Nat.le_of_ble_eq_true rfl) dX11_sayings_12 ⟨Nat.zero_le _, Nat.zero_le _⟩ (fun r3 H locs h3 hP hS _ _ => ?_)
    rcases h3 with ⟨hr3, hf3_0⟩ | ⟨hr3, hf3_0⟩
    · subst hr3
      have hg3_0 : (1 : Int) ≤ a1.toInt ∧ a1.toInt ≤ (20 : Int) := hf3_0
      refine lv_if_eq (tgt := 40) hx hb dX11_sayings_15 (by decide) (fun q => absurd q (by decide)) (fun _ => ?_)
      refine lv_iload_n hx hb dX11_sayings_18 rfl (lv_at hl 3 rfl) ?_
      refine lv_bipush (v := 100) hx hb dX11_sayings_19 (by decide) ?_
      refine lv_icmp_eq (tgt := 32) hx hb dX11_sayings_21 (by decide) (fun c4 => ?_) (fun c4 => ?_)
      · have t4 : a2.toInt = (100 : Int) := gl_eq c4
        refine lv_iload_n hx hb dX11_sayings_32 rfl (lv_at hl 2 rfl) ?_
        refine lv_aload_n hx hb dX11_sayings_33 rfl (lv_at hl 0 rfl) ?_
        refine qf_get hx hb hts inX11 hown hK hP (q0 := 0) (by decide) (hgM_0 ca o) rfl 15 (by decide) wq_1008 (v := .int (z 0 15)) rfl dX11_sayings_34 ?_
        refine lv_topi (fun x5 e5 => ?_)
        have b5 := iM_0_15 J0 e5
        refine lv_icmp_le (tgt := 42) hx hb dX11_sayings_37 (by decide) (fun c6 => ?_) (fun c6 => ?_)
        · have t6 : a1.toInt ≤ x5.toInt := gl_le c6
          refine lv_aload_n hx hb dX11_sayings_42 rfl (lv_at hl 0 rfl) ?_
          refine lv_iload_n hx hb dX11_sayings_43 rfl (lv_at hl 2 rfl) ?_
          refine qc_Vi2 (As := [.int a1]) (rest := []) (k0 := 1) (m_readsSayings l D ca o b z y J0 a1 ⟨by omega, by omega⟩) kc_yX11_readsSayings ⟨hx, hb, hml, hown, hts⟩ wq_1457 rfl rfl ⟨Nat.le_of_ble_eq_true rfl, Nat.le_of_ble_eq_true rfl⟩ wq_all hP hK hS qw_Ai (q0 := 0) (by decide) (hgM_0 ca o _ _) rfl rfl hl.1 rfl (Nat.le_of_ble_eq_true rfl) dX11_sayings_44 ⟨Nat.zero_le _, Nat.zero_le _⟩ (fun r7 z7 y7 H locs h7 hP hS _ _ => ?_)
          have J7 : qJM b z7 := h7.2.1
          have R12_7 : z7 12 = z 12 := (h7.2.2).trans (rfl)
          rcases h7.1 with ⟨hr7, hf7_0⟩ | hr7
          · subst hr7
            have hg7_0 : sayI (z 12) a1 := hf7_0
            refine lv_istore (lv' := [(4, .int 1), (0, .ref (o + 0)), (1, .int a0), (2, .int a1), (3, .int a2)]) hx hb dX11_sayings_47 hl (by decide) rfl (fun ls hl => ?_)
            refine lv_aload_n hx hb dX11_sayings_49 rfl (lv_at hl 1 rfl) ?_
            refine lv_iconst (v := 0) hx hb dX11_sayings_50 (by decide) ?_
            refine qf_put2 hx hb hts inX11 tyX11 tyX11_ok nmX11 hown hK hP hS qw_Ai (q0 := 0) (by decide) (hgM_0 ca o) rfl 15 (by decide) wq_1008 rfl (x := 0) 15 rfl rfl rfl (Nat.le_of_ble_eq_true rfl) dX11_sayings_51 (fun z8 H locs hz8 hP hS => ?_)
            have J8 := jM_0_15 J7 hz8 ⟨by decide, by decide⟩
            have R12_8 : z8 12 = z 12 := (qt_row hz8 (by decide)).trans (R12_7)
            refine lv_iload hx hb dX11_sayings_54 (lv_at hl 0 rfl) ?_
            refine lv_if_ne (tgt := 64) hx hb dX11_sayings_56 (by decide) (fun _ => ?_) (fun q => absurd q (by decide))
            refine lv_aload_n hx hb dX11_sayings_64 rfl (lv_at hl 1 rfl) ?_
            refine lv_iload_n hx hb dX11_sayings_65 rfl (lv_at hl 2 rfl) ?_
            refine qc_Vi2 (As := [.int a0]) (rest := []) (k0 := 1) (m_lists l D ca o b z8 y7 J8 a0) kc_yX11_lists ⟨hx, hb, hml, hown, hts⟩ wq_1437 rfl rfl ⟨Nat.le_of_ble_eq_true rfl, Nat.le_of_ble_eq_true rfl⟩ wq_all hP hK hS qw_Ai (q0 := 0) (by decide) (hgM_0 ca o _ _) rfl rfl hl.1 rfl (Nat.le_of_ble_eq_true rfl) dX11_sayings_66 ⟨Nat.zero_le _, Nat.zero_le _⟩ (fun r9 z9 y9 H locs h9 hP hS _ _ => ?_)
            have J9 : qJM b z9 := h9.2.1
            have R12_9 : z9 12 = z 12 := (h9.2.2).trans (R12_8)
            have b9 : (0 : Int) ≤ r9.toInt ∧ r9.toInt ≤ 1 := h9.1
            refine lv_if_ne (tgt := 75) hx hb dX11_sayings_69 (by decide) (fun c10 => ?_) (fun c10 => ?_)
            · have t10 : r9.toInt ≠ (0 : Int) := gl_ne c10
              refine lv_iconst (v := 0) hx hb dX11_sayings_75 (by decide) ?_
              refine lv_istore (lv' := [(5, .int 0), (4, .int 1), (0, .ref (o + 0)), (1, .int a0), (2, .int a1), (3, .int a2)]) hx hb dX11_sayings_76 hl (by decide) rfl (fun ls hl => ?_)
              have loop11 : ∀ (n : Nat) (w11_5 : Int32) (z11 : Nat → Nat → Int32) (y11 : Nat → Nat → Int64), ((21 - w11_5.toInt : Int) < (n : Int)) → ((0 : Int) ≤ w11_5.toInt ∧ w11_5.toInt ≤ 21) → (qJM b z11) → (w11_5.toInt % 2 = 0) → (z11 12 = z 12) → ∀ (H : Heap) (locs : List Loc), qw_P D vwCl o 41 (qG (GM ca o) z11 y11) H → va_S (qw_A o 41) s.heap H locs → ∀ (ls : Array Slot), lv_has ls 6 [(5, .int w11_5), (4, .int 1), (0, .ref (o + 0)), (1, .int a0), (2, .int a1), (3, .int a2)] → W p l e (headSpec (Cond.code yX11_sayings cX11_sayings 6 (some .int) :: qtbl) ({ frames := 5, cells := 0, slots := 0, locals := 148 })).room s m (([.ref (o + 0), .int a0, .int a1, .int a2] : List Value).toArray) below meth c H locs 0 0 (MQ below (va_Qi (fun r u => True ∧ qJM b u.1 ∧ u.1 12 = z 12) (qB D vwCl (qT6 ca) o 41 (fun u : qZ => qG (GM ca o) u.1 u.2)) (qw_A o 41)) (([.ref (o + 0), .int a0, .int a1, .int a2] : List Value).toArray) s 0 0 (qw_A o 41)) (F0 m 78 ls []) := by
                intro n
                induction n with
                | zero => intro w11_5 z11 y11 hb11 hv11_5 J11 v11_0 v11_1; exfalso; omega
                | succ n11 ih11 =>
                  intro w11_5 z11 y11 hb11 hv11_5 J11 v11_0 v11_1 H locs hP hS ls hl
                  refine lv_iload hx hb dX11_sayings_78 (lv_at hl 0 rfl) ?_
                  refine lv_iload_n hx hb dX11_sayings_80 rfl (lv_at hl 4 rfl) ?_
                  refine lv_icmp_ge (tgt := 127) hx hb dX11_sayings_81 (by decide) (fun c12 => ?_) (fun c12 => ?_)
                  · have t12 : w11_5.toInt ≥ a1.toInt := gl_le c12
                    refine lv_iload_n hx hb dX11_sayings_127 rfl (lv_at hl 5 rfl) ?_
                    refine lv_bipush (v := 100) hx hb dX11_sayings_128 (by decide) ?_
                    refine lv_icmp_ne (tgt := 138) hx hb dX11_sayings_130 (by decide) (fun c13 => ?_) (fun c13 => ?_)
                    · have t13 : a2.toInt ≠ (100 : Int) := gl_ne c13
                      exfalso; omega
                    · have t13 : a2.toInt = (100 : Int) := gl_eq c13
                      refine lv_aload_n hx hb dX11_sayings_133 rfl (lv_at hl 2 rfl) ?_
                      refine qf_get hx hb hts inX11 hown hK hP (q0 := 0) (by decide) (hgM_0 ca o) rfl 41 (by decide) wq_1033 (v := .int (z11 0 41)) rfl dX11_sayings_134 ?_
                      refine lv_topi (fun x14 e14 => ?_)
                      have b14 := iM_0_41 J11 e14
                      exact W.iret (v := x14) hx hb hr (fun t ht hW => ⟨⟨x14, (z11, y11), rfl, ⟨trivial, J11, v11_1⟩, by rw [ht]; exact hP, va_K.moved hW.alike hK⟩, hS.F ht⟩) hS.2.2 dX11_sayings_137
                  · have t12 : w11_5.toInt < a1.toInt := gl_nle c12
                    refine lv_aload_n hx hb dX11_sayings_84 rfl (lv_at hl 2 rfl) ?_
                    refine lv_bipush (v := 10) hx hb dX11_sayings_85 (by decide) ?_
                    refine lv_aload_n hx hb dX11_sayings_87 rfl (lv_at hl 2 rfl) ?_
                    refine lv_iload hx hb dX11_sayings_88 (lv_at hl 0 rfl) ?_
                    refine qc_Vip (As := [.int w11_5]) (rest := [.int 10, .ref (o + 0)]) (k0 := 1) (m_octet l D ca o b z11 y11 J11 w11_5 ⟨by omega, by omega⟩) kc_yX11_octet ⟨hx, hb, hml, hown, hts⟩ wq_1237 rfl rfl ⟨Nat.le_of_ble_eq_true rfl, Nat.le_of_ble_eq_true rfl⟩ wq_all hP hK hS qw_Ai (q0 := 0) (by decide) (hgM_0 ca o _ _) rfl rfl hl.1 rfl (Nat.le_of_ble_eq_true rfl) dX11_sayings_90 ⟨Nat.zero_le _, Nat.zero_le _⟩ (fun r15 H locs h15 hP hS _ _ => ?_)
                    have p15_1 : r15 = z11 12 w11_5.toNatClampNeg &&& 255 := h15.2
                    have sg15 := say_get hg7_0 (v11_1) (by omega) (by omega) (by omega) p15_1
                    have b15 : (0 : Int) ≤ r15.toInt ∧ r15.toInt ≤ 255 := h15.1
                    refine lv_iadd hx hb dX11_sayings_93 ?_
                    refine lv_topi (fun x16 e16 => ?_)
                    have t16 : x16.toInt = (10 : Int) + r15.toInt := ga_add e16 rfl rfl (by omega) (by omega)
                    refine lv_bipush (v := 65) hx hb dX11_sayings_94 (by decide) ?_
                    refine lv_isub hx hb dX11_sayings_96 ?_
                    refine lv_topi (fun x17 e17 => ?_)
                    have t17 : x17.toInt = x16.toInt - (65 : Int) := ga_sub e17 rfl rfl (by omega) (by omega)
                    refine lv_aload_n hx hb dX11_sayings_97 rfl (lv_at hl 2 rfl) ?_
                    refine lv_iload hx hb dX11_sayings_98 (lv_at hl 0 rfl) ?_
                    refine lv_iconst (v := 1) hx hb dX11_sayings_100 (by decide) ?_
                    refine lv_iadd hx hb dX11_sayings_101 ?_
                    refine lv_topi (fun x18 e18 => ?_)
                    have t18 : x18.toInt = w11_5.toInt + (1 : Int) := ga_add e18 rfl rfl (by omega) (by omega)
                    refine qc_Vip (As := [.int x18]) (rest := [.int x17, .ref (o + 0)]) (k0 := 1) (m_octet l D ca o b z11 y11 J11 x18 ⟨by omega, by omega⟩) kc_yX11_octet ⟨hx, hb, hml, hown, hts⟩ wq_1237 rfl rfl ⟨Nat.le_of_ble_eq_true rfl, Nat.le_of_ble_eq_true rfl⟩ wq_all hP hK hS qw_Ai (q0 := 0) (by decide) (hgM_0 ca o _ _) rfl rfl hl.1 rfl (Nat.le_of_ble_eq_true rfl) dX11_sayings_102 ⟨Nat.zero_le _, Nat.zero_le _⟩ (fun r19 H locs h19 hP hS _ _ => ?_)
                    have p19_1 : r19 = z11 12 x18.toNatClampNeg &&& 255 := h19.2
                    have b19 : (0 : Int) ≤ r19.toInt ∧ r19.toInt ≤ 255 := h19.1
                    refine lv_bipush (v := 43) hx hb dX11_sayings_105 (by decide) ?_
                    refine lv_icmp_ne (tgt := 114) hx hb dX11_sayings_107 (by decide) (fun c20 => ?_) (fun c20 => ?_)
                    · have t20 : r19.toInt ≠ (43 : Int) := gl_ne c20
                      refine lv_iconst (v := 0) hx hb dX11_sayings_114 (by decide) ?_
                      refine qc_Vv2 (As := [.int x17, .int 0]) (rest := []) (k0 := 2) (m_says l D ca o b z11 y11 J11 x17 0 ⟨by omega, by omega⟩) kc_yX11_says ⟨hx, hb, hml, hown, hts⟩ wq_1461 rfl rfl ⟨Nat.le_of_ble_eq_true rfl, Nat.le_of_ble_eq_true rfl⟩ wq_all hP hK hS qw_Ai (q0 := 0) (by decide) (hgM_0 ca o _ _) rfl rfl hl.1 rfl (Nat.le_of_ble_eq_true rfl) dX11_sayings_115 ⟨Nat.zero_le _, Nat.zero_le _⟩ (fun z21 y21 H locs h21 hP hS _ _ => ?_)
                      have J21 : qJM b z21 := h21.1
                      have R12_21 : z21 12 = z 12 := (h21.2).trans (v11_1)
                      refine lv_iload hx hb dX11_sayings_118 (lv_at hl 0 rfl) ?_
                      refine lv_iconst (v := 2) hx hb dX11_sayings_120 (by decide) ?_
                      refine lv_iadd hx hb dX11_sayings_121 ?_
                      refine lv_topi (fun x22 e22 => ?_)
                      have t22 : x22.toInt = w11_5.toInt + (2 : Int) := ga_add e22 rfl rfl (by omega) (by omega)
                      refine lv_istore (lv' := [(5, .int x22), (4, .int 1), (0, .ref (o + 0)), (1, .int a0), (2, .int a1), (3, .int a2)]) hx hb dX11_sayings_122 hl (by decide) rfl (fun ls hl => ?_)
                      refine lv_goto (tgt := 78) hx hb dX11_sayings_124 (by decide) ?_
                      exact ih11 x22 z21 y21 (show (21 - x22.toInt : Int) < (n11 : Int) from by omega) ⟨by omega, by omega⟩ J21 (show x22.toInt % 2 = 0 from by omega) (R12_21) _ _ hP hS _ (lv_sub hl [0, 1, 2, 3, 4, 5] rfl)
                    · have t20 : r19.toInt = (43 : Int) := gl_eq c20
                      refine lv_iconst (v := 1) hx hb dX11_sayings_110 (by decide) ?_
                      refine lv_goto (tgt := 115) hx hb dX11_sayings_111 (by decide) ?_
                      refine qc_Vv2 (As := [.int x17, .int 1]) (rest := []) (k0 := 2) (m_says l D ca o b z11 y11 J11 x17 1 ⟨by omega, by omega⟩) kc_yX11_says ⟨hx, hb, hml, hown, hts⟩ wq_1461 rfl rfl ⟨Nat.le_of_ble_eq_true rfl, Nat.le_of_ble_eq_true rfl⟩ wq_all hP hK hS qw_Ai (q0 := 0) (by decide) (hgM_0 ca o _ _) rfl rfl hl.1 rfl (Nat.le_of_ble_eq_true rfl) dX11_sayings_115 ⟨Nat.zero_le _, Nat.zero_le _⟩ (fun z23 y23 H locs h23 hP hS _ _ => ?_)
                      have J23 : qJM b z23 := h23.1
                      have R12_23 : z23 12 = z 12 := (h23.2).trans (v11_1)
                      refine lv_iload hx hb dX11_sayings_118 (lv_at hl 0 rfl) ?_
                      refine lv_iconst (v := 2) hx hb dX11_sayings_120 (by decide) ?_
                      refine lv_iadd hx hb dX11_sayings_121 ?_
                      refine lv_topi (fun x24 e24 => ?_)
                      have t24 : x24.toInt = w11_5.toInt + (2 : Int) := ga_add e24 rfl rfl (by omega) (by omega)
                      refine lv_istore (lv' := [(5, .int x24), (4, .int 1), (0, .ref (o + 0)), (1, .int a0), (2, .int a1), (3, .int a2)]) hx hb dX11_sayings_122 hl (by decide) rfl (fun ls hl => ?_)
                      refine lv_goto (tgt := 78) hx hb dX11_sayings_124 (by decide) ?_
                      exact ih11 x24 z23 y23 (show (21 - x24.toInt : Int) < (n11 : Int) from by omega) ⟨by omega, by omega⟩ J23 (show x24.toInt % 2 = 0 from by omega) (R12_23) _ _ hP hS _ (lv_sub hl [0, 1, 2, 3, 4, 5] rfl)
              exact loop11 22 0 z9 y9 (show (21 - (0 : Int) : Int) < ((22 : Nat) : Int) from by omega) ⟨by decide, by decide⟩ J9 (show (0 : Int) % 2 = 0 from by omega) (R12_9) _ _ hP hS _ (lv_sub hl [0, 1, 2, 3, 4, 5] rfl)
            · have t10 : r9.toInt = (0 : Int) := gl_eq c10
              refine lv_bipush (v := (-3)) hx hb dX11_sayings_72 (by decide) ?_
              exact W.iret (v := (-3)) hx hb hr (fun t ht hW => ⟨⟨(-3), (z9, y9), rfl, ⟨trivial, J9, R12_9⟩, by rw [ht]; exact hP, va_K.moved hW.alike hK⟩, hS.F ht⟩) hS.2.2 dX11_sayings_74
          · subst hr7
            refine lv_istore (lv' := [(4, .int 0), (0, .ref (o + 0)), (1, .int a0), (2, .int a1), (3, .int a2)]) hx hb dX11_sayings_47 hl (by decide) rfl (fun ls hl => ?_)
            refine lv_aload_n hx hb dX11_sayings_49 rfl (lv_at hl 1 rfl) ?_
            refine lv_iconst (v := 0) hx hb dX11_sayings_50 (by decide) ?_
            refine qf_put2 hx hb hts inX11 tyX11 tyX11_ok nmX11 hown hK hP hS qw_Ai (q0 := 0) (by decide) (hgM_0 ca o) rfl 15 (by decide) wq_1008 rfl (x := 0) 15 rfl rfl rfl (Nat.le_of_ble_eq_true rfl) dX11_sayings_51 (fun z25 H locs hz25 hP hS => ?_)
            have J25 := jM_0_15 J7 hz25 ⟨by decide, by decide⟩
            have R12_25 : z25 12 = z 12 := (qt_row hz25 (by decide)).trans (R12_7)
            refine lv_iload hx hb dX11_sayings_54 (lv_at hl 0 rfl) ?_
            refine lv_if_ne (tgt := 64) hx hb dX11_sayings_56 (by decide) (fun q => absurd q (by decide)) (fun _ => ?_)
            refine lv_aload_n hx hb dX11_sayings_59 rfl (lv_at hl 1 rfl) ?_
            refine qf_get hx hb hts inX11 hown hK hP (q0 := 0) (by decide) (hgM_0 ca o) rfl 18 (by decide) wq_1011 (v := .int (z25 0 18)) rfl dX11_sayings_60 ?_
            refine lv_topi (fun x26 e26 => ?_)
            exact W.iret (v := x26) hx hb hr (fun t ht hW => ⟨⟨x26, (z25, y7), rfl, ⟨trivial, J25, R12_25⟩, by rw [ht]; exact hP, va_K.moved hW.alike hK⟩, hS.F ht⟩) hS.2.2 dX11_sayings_63
        · have t6 : a1.toInt > x5.toInt := gl_nle c6
          refine lv_iconst (v := (-1)) hx hb dX11_sayings_40 (by decide) ?_
          exact W.iret (v := (-1)) hx hb hr (fun t ht hW => ⟨⟨(-1), (z, y), rfl, ⟨trivial, J0, rfl⟩, by rw [ht]; exact hP, va_K.moved hW.alike hK⟩, hS.F ht⟩) hS.2.2 dX11_sayings_41
      · have t4 : a2.toInt ≠ (100 : Int) := gl_ne c4
        refine lv_aload_n hx hb dX11_sayings_24 rfl (lv_at hl 0 rfl) ?_
        refine lv_iload_n hx hb dX11_sayings_25 rfl (lv_at hl 3 rfl) ?_
        refine qc_Vip (As := [.int a2]) (rest := []) (k0 := 1) (m_isPerson l D ca o b z y J0 a2) kc_yX11_isPerson ⟨hx, hb, hml, hown, hts⟩ wq_1194 rfl rfl ⟨Nat.le_of_ble_eq_true rfl, Nat.le_of_ble_eq_true rfl⟩ wq_all hP hK hS qw_Ai (q0 := 0) (by decide) (hgM_0 ca o _ _) rfl rfl hl.1 rfl (Nat.le_of_ble_eq_true rfl) dX11_sayings_26 ⟨Nat.zero_le _, Nat.zero_le _⟩ (fun r27 H locs h27 hP hS _ _ => ?_)
        rcases h27 with ⟨hr27, hf27_0, hf27_1⟩ | ⟨hr27, hf27_0⟩
        · subst hr27
          have hg27_0 : pHas (z 0 4) a2 := hf27_0
          have hg27_1 : 0 ≤ a2.toInt ∧ a2.toInt ≤ 5 := hf27_1
          refine lv_if_eq (tgt := 40) hx hb dX11_sayings_29 (by decide) (fun q => absurd q (by decide)) (fun _ => ?_)
          refine lv_iload_n hx hb dX11_sayings_32 rfl (lv_at hl 2 rfl) ?_
          refine lv_aload_n hx hb dX11_sayings_33 rfl (lv_at hl 0 rfl) ?_
          refine qf_get hx hb hts inX11 hown hK hP (q0 := 0) (by decide) (hgM_0 ca o) rfl 15 (by decide) wq_1008 (v := .int (z 0 15)) rfl dX11_sayings_34 ?_
          refine lv_topi (fun x28 e28 => ?_)
          have b28 := iM_0_15 J0 e28
          refine lv_icmp_le (tgt := 42) hx hb dX11_sayings_37 (by decide) (fun c29 => ?_) (fun c29 => ?_)
          · have t29 : a1.toInt ≤ x28.toInt := gl_le c29
            refine lv_aload_n hx hb dX11_sayings_42 rfl (lv_at hl 0 rfl) ?_
            refine lv_iload_n hx hb dX11_sayings_43 rfl (lv_at hl 2 rfl) ?_
            refine qc_Vi2 (As := [.int a1]) (rest := []) (k0 := 1) (m_readsSayings l D ca o b z y J0 a1 ⟨by omega, by omega⟩) kc_yX11_readsSayings ⟨hx, hb, hml, hown, hts⟩ wq_1457 rfl rfl ⟨Nat.le_of_ble_eq_true rfl, Nat.le_of_ble_eq_true rfl⟩ wq_all hP hK hS qw_Ai (q0 := 0) (by decide) (hgM_0 ca o _ _) rfl rfl hl.1 rfl (Nat.le_of_ble_eq_true rfl) dX11_sayings_44 ⟨Nat.zero_le _, Nat.zero_le _⟩ (fun r30 z30 y30 H locs h30 hP hS _ _ => ?_)
            have J30 : qJM b z30 := h30.2.1
            have R12_30 : z30 12 = z 12 := (h30.2.2).trans (rfl)
            rcases h30.1 with ⟨hr30, hf30_0⟩ | hr30
            · subst hr30
              have hg30_0 : sayI (z 12) a1 := hf30_0
              refine lv_istore (lv' := [(4, .int 1), (0, .ref (o + 0)), (1, .int a0), (2, .int a1), (3, .int a2)]) hx hb dX11_sayings_47 hl (by decide) rfl (fun ls hl => ?_)
              refine lv_aload_n hx hb dX11_sayings_49 rfl (lv_at hl 1 rfl) ?_
              refine lv_iconst (v := 0) hx hb dX11_sayings_50 (by decide) ?_
              refine qf_put2 hx hb hts inX11 tyX11 tyX11_ok nmX11 hown hK hP hS qw_Ai (q0 := 0) (by decide) (hgM_0 ca o) rfl 15 (by decide) wq_1008 rfl (x := 0) 15 rfl rfl rfl (Nat.le_of_ble_eq_true rfl) dX11_sayings_51 (fun z31 H locs hz31 hP hS => ?_)
              have J31 := jM_0_15 J30 hz31 ⟨by decide, by decide⟩
              have R12_31 : z31 12 = z 12 := (qt_row hz31 (by decide)).trans (R12_30)
              refine lv_iload hx hb dX11_sayings_54 (lv_at hl 0 rfl) ?_
              refine lv_if_ne (tgt := 64) hx hb dX11_sayings_56 (by decide) (fun _ => ?_) (fun q => absurd q (by decide))
              refine lv_aload_n hx hb dX11_sayings_64 rfl (lv_at hl 1 rfl) ?_
              refine lv_iload_n hx hb dX11_sayings_65 rfl (lv_at hl 2 rfl) ?_
              refine qc_Vi2 (As := [.int a0]) (rest := []) (k0 := 1) (m_lists l D ca o b z31 y30 J31 a0) kc_yX11_lists ⟨hx, hb, hml, hown, hts⟩ wq_1437 rfl rfl ⟨Nat.le_of_ble_eq_true rfl, Nat.le_of_ble_eq_true rfl⟩ wq_all hP hK hS qw_Ai (q0 := 0) (by decide) (hgM_0 ca o _ _) rfl rfl hl.1 rfl (Nat.le_of_ble_eq_true rfl) dX11_sayings_66 ⟨Nat.zero_le _, Nat.zero_le _⟩ (fun r32 z32 y32 H locs h32 hP hS _ _ => ?_)
              have J32 : qJM b z32 := h32.2.1
              have R12_32 : z32 12 = z 12 := (h32.2.2).trans (R12_31)
              have b32 : (0 : Int) ≤ r32.toInt ∧ r32.toInt ≤ 1 := h32.1
              refine lv_if_ne (tgt := 75) hx hb dX11_sayings_69 (by decide) (fun c33 => ?_) (fun c33 => ?_)
              · have t33 : r32.toInt ≠ (0 : Int) := gl_ne c33
                refine lv_iconst (v := 0) hx hb dX11_sayings_75 (by decide) ?_
                refine lv_istore (lv' := [(5, .int 0), (4, .int 1), (0, .ref (o + 0)), (1, .int a0), (2, .int a1), (3, .int a2)]) hx hb dX11_sayings_76 hl (by decide) rfl (fun ls hl => ?_)
                have loop34 : ∀ (n : Nat) (w34_5 : Int32) (z34 : Nat → Nat → Int32) (y34 : Nat → Nat → Int64), ((21 - w34_5.toInt : Int) < (n : Int)) → ((0 : Int) ≤ w34_5.toInt ∧ w34_5.toInt ≤ 21) → (qJM b z34) → (w34_5.toInt % 2 = 0) → (z34 12 = z 12) → ∀ (H : Heap) (locs : List Loc), qw_P D vwCl o 41 (qG (GM ca o) z34 y34) H → va_S (qw_A o 41) s.heap H locs → ∀ (ls : Array Slot), lv_has ls 6 [(5, .int w34_5), (4, .int 1), (0, .ref (o + 0)), (1, .int a0), (2, .int a1), (3, .int a2)] → W p l e (headSpec (Cond.code yX11_sayings cX11_sayings 6 (some .int) :: qtbl) ({ frames := 5, cells := 0, slots := 0, locals := 148 })).room s m (([.ref (o + 0), .int a0, .int a1, .int a2] : List Value).toArray) below meth c H locs 0 0 (MQ below (va_Qi (fun r u => True ∧ qJM b u.1 ∧ u.1 12 = z 12) (qB D vwCl (qT6 ca) o 41 (fun u : qZ => qG (GM ca o) u.1 u.2)) (qw_A o 41)) (([.ref (o + 0), .int a0, .int a1, .int a2] : List Value).toArray) s 0 0 (qw_A o 41)) (F0 m 78 ls []) := by
                  intro n
                  induction n with
                  | zero => intro w34_5 z34 y34 hb34 hv34_5 J34 v34_0 v34_1; exfalso; omega
                  | succ n34 ih34 =>
                    intro w34_5 z34 y34 hb34 hv34_5 J34 v34_0 v34_1 H locs hP hS ls hl
                    refine lv_iload hx hb dX11_sayings_78 (lv_at hl 0 rfl) ?_
                    refine lv_iload_n hx hb dX11_sayings_80 rfl (lv_at hl 4 rfl) ?_
                    refine lv_icmp_ge (tgt := 127) hx hb dX11_sayings_81 (by decide) (fun c35 => ?_) (fun c35 => ?_)
                    · have t35 : w34_5.toInt ≥ a1.toInt := gl_le c35
                      refine lv_iload_n hx hb dX11_sayings_127 rfl (lv_at hl 5 rfl) ?_
                      refine lv_bipush (v := 100) hx hb dX11_sayings_128 (by decide) ?_
                      refine lv_icmp_ne (tgt := 138) hx hb dX11_sayings_130 (by decide) (fun c36 => ?_) (fun c36 => ?_)
                      · have t36 : a2.toInt ≠ (100 : Int) := gl_ne c36
                        refine lv_aload_n hx hb dX11_sayings_138 rfl (lv_at hl 2 rfl) ?_
                        refine qf_get hx hb hts inX11 hown hK hP (q0 := 0) (by decide) (hgM_0 ca o) rfl 41 (by decide) wq_1033 (v := .int (z34 0 41)) rfl dX11_sayings_139 ?_
                        refine lv_topi (fun x37 e37 => ?_)
                        have b37 := iM_0_41 J34 e37
                        refine lv_if_ne (tgt := 150) hx hb dX11_sayings_142 (by decide) (fun c38 => ?_) (fun c38 => ?_)
                        · have t38 : x37.toInt ≠ (0 : Int) := gl_ne c38
                          refine lv_aload_n hx hb dX11_sayings_150 rfl (lv_at hl 2 rfl) ?_
                          refine qf_get hx hb hts inX11 hown hK hP (q0 := 0) (by decide) (hgM_0 ca o) rfl 39 (by decide) wq_1031 (v := .ref (o + 26)) rfl dX11_sayings_151 ?_
                          refine lv_iload_n hx hb dX11_sayings_154 rfl (lv_at hl 5 rfl) ?_
                          refine qa_bald hx hb hK hP (q0 := 26) (by decide) 3 (N := 12000) (hgM_26 ca o) rfl (gi_in (by omega) (by omega)) dX11_sayings_155 ?_
                          refine lv_topi (fun x39 e39 => ?_)
                          have b39 := iM_26 J34 e39
                          exact W.iret (v := x39) hx hb hr (fun t ht hW => ⟨⟨x39, (z34, y34), rfl, ⟨trivial, J34, v34_1⟩, by rw [ht]; exact hP, va_K.moved hW.alike hK⟩, hS.F ht⟩) hS.2.2 dX11_sayings_156
                        · have t38 : x37.toInt = (0 : Int) := gl_eq c38
                          refine lv_bipush (v := (-2)) hx hb dX11_sayings_145 (by decide) ?_
                          refine lv_goto (tgt := 156) hx hb dX11_sayings_147 (by decide) ?_
                          exact W.iret (v := (-2)) hx hb hr (fun t ht hW => ⟨⟨(-2), (z34, y34), rfl, ⟨trivial, J34, v34_1⟩, by rw [ht]; exact hP, va_K.moved hW.alike hK⟩, hS.F ht⟩) hS.2.2 dX11_sayings_156
                      · have t36 : a2.toInt = (100 : Int) := gl_eq c36
                        exfalso; omega
                    · have t35 : w34_5.toInt < a1.toInt := gl_nle c35
                      refine lv_aload_n hx hb dX11_sayings_84 rfl (lv_at hl 2 rfl) ?_
                      refine lv_bipush (v := 10) hx hb dX11_sayings_85 (by decide) ?_
                      refine lv_aload_n hx hb dX11_sayings_87 rfl (lv_at hl 2 rfl) ?_
                      refine lv_iload hx hb dX11_sayings_88 (lv_at hl 0 rfl) ?_
                      refine qc_Vip (As := [.int w34_5]) (rest := [.int 10, .ref (o + 0)]) (k0 := 1) (m_octet l D ca o b z34 y34 J34 w34_5 ⟨by omega, by omega⟩) kc_yX11_octet ⟨hx, hb, hml, hown, hts⟩ wq_1237 rfl rfl ⟨Nat.le_of_ble_eq_true rfl, Nat.le_of_ble_eq_true rfl⟩ wq_all hP hK hS qw_Ai (q0 := 0) (by decide) (hgM_0 ca o _ _) rfl rfl hl.1 rfl (Nat.le_of_ble_eq_true rfl) dX11_sayings_90 ⟨Nat.zero_le _, Nat.zero_le _⟩ (fun r40 H locs h40 hP hS _ _ => ?_)
                      have p40_1 : r40 = z34 12 w34_5.toNatClampNeg &&& 255 := h40.2
                      have sg40 := say_get hg30_0 (v34_1) (by omega) (by omega) (by omega) p40_1
                      have b40 : (0 : Int) ≤ r40.toInt ∧ r40.toInt ≤ 255 := h40.1
                      refine lv_iadd hx hb dX11_sayings_93 ?_
                      refine lv_topi (fun x41 e41 => ?_)
                      have t41 : x41.toInt = (10 : Int) + r40.toInt := ga_add e41 rfl rfl (by omega) (by omega)
                      refine lv_bipush (v := 65) hx hb dX11_sayings_94 (by decide) ?_
                      refine lv_isub hx hb dX11_sayings_96 ?_
                      refine lv_topi (fun x42 e42 => ?_)
                      have t42 : x42.toInt = x41.toInt - (65 : Int) := ga_sub e42 rfl rfl (by omega) (by omega)
                      refine lv_aload_n hx hb dX11_sayings_97 rfl (lv_at hl 2 rfl) ?_
                      refine lv_iload hx hb dX11_sayings_98 (lv_at hl 0 rfl) ?_
                      refine lv_iconst (v := 1) hx hb dX11_sayings_100 (by decide) ?_
                      refine lv_iadd hx hb dX11_sayings_101 ?_
                      refine lv_topi (fun x43 e43 => ?_)
                      have t43 : x43.toInt = w34_5.toInt + (1 : Int) := ga_add e43 rfl rfl (by omega) (by omega)
                      refine qc_Vip (As := [.int x43]) (rest := [.int x42, .ref (o + 0)]) (k0 := 1) (m_octet l D ca o b z34 y34 J34 x43 ⟨by omega, by omega⟩) kc_yX11_octet ⟨hx, hb, hml, hown, hts⟩ wq_1237 rfl rfl ⟨Nat.le_of_ble_eq_true rfl, Nat.le_of_ble_eq_true rfl⟩ wq_all hP hK hS qw_Ai (q0 := 0) (by decide) (hgM_0 ca o _ _) rfl rfl hl.1 rfl (Nat.le_of_ble_eq_true rfl) dX11_sayings_102 ⟨Nat.zero_le _, Nat.zero_le _⟩ (fun r44 H locs h44 hP hS _ _ => ?_)
                      have p44_1 : r44 = z34 12 x43.toNatClampNeg &&& 255 := h44.2
                      have b44 : (0 : Int) ≤ r44.toInt ∧ r44.toInt ≤ 255 := h44.1
                      refine lv_bipush (v := 43) hx hb dX11_sayings_105 (by decide) ?_
                      refine lv_icmp_ne (tgt := 114) hx hb dX11_sayings_107 (by decide) (fun c45 => ?_) (fun c45 => ?_)
                      · have t45 : r44.toInt ≠ (43 : Int) := gl_ne c45
                        refine lv_iconst (v := 0) hx hb dX11_sayings_114 (by decide) ?_
                        refine qc_Vv2 (As := [.int x42, .int 0]) (rest := []) (k0 := 2) (m_says l D ca o b z34 y34 J34 x42 0 ⟨by omega, by omega⟩) kc_yX11_says ⟨hx, hb, hml, hown, hts⟩ wq_1461 rfl rfl ⟨Nat.le_of_ble_eq_true rfl, Nat.le_of_ble_eq_true rfl⟩ wq_all hP hK hS qw_Ai (q0 := 0) (by decide) (hgM_0 ca o _ _) rfl rfl hl.1 rfl (Nat.le_of_ble_eq_true rfl) dX11_sayings_115 ⟨Nat.zero_le _, Nat.zero_le _⟩ (fun z46 y46 H locs h46 hP hS _ _ => ?_)
                        have J46 : qJM b z46 := h46.1
                        have R12_46 : z46 12 = z 12 := (h46.2).trans (v34_1)
                        refine lv_iload hx hb dX11_sayings_118 (lv_at hl 0 rfl) ?_
                        refine lv_iconst (v := 2) hx hb dX11_sayings_120 (by decide) ?_
                        refine lv_iadd hx hb dX11_sayings_121 ?_
                        refine lv_topi (fun x47 e47 => ?_)
                        have t47 : x47.toInt = w34_5.toInt + (2 : Int) := ga_add e47 rfl rfl (by omega) (by omega)
                        refine lv_istore (lv' := [(5, .int x47), (4, .int 1), (0, .ref (o + 0)), (1, .int a0), (2, .int a1), (3, .int a2)]) hx hb dX11_sayings_122 hl (by decide) rfl (fun ls hl => ?_)
                        refine lv_goto (tgt := 78) hx hb dX11_sayings_124 (by decide) ?_
                        exact ih34 x47 z46 y46 (show (21 - x47.toInt : Int) < (n34 : Int) from by omega) ⟨by omega, by omega⟩ J46 (show x47.toInt % 2 = 0 from by omega) (R12_46) _ _ hP hS _ (lv_sub hl [0, 1, 2, 3, 4, 5] rfl)
                      · have t45 : r44.toInt = (43 : Int) := gl_eq c45
                        refine lv_iconst (v := 1) hx hb dX11_sayings_110 (by decide) ?_
                        refine lv_goto (tgt := 115) hx hb dX11_sayings_111 (by decide) ?_
                        refine qc_Vv2 (As := [.int x42, .int 1]) (rest := []) (k0 := 2) (m_says l D ca o b z34 y34 J34 x42 1 ⟨by omega, by omega⟩) kc_yX11_says ⟨hx, hb, hml, hown, hts⟩ wq_1461 rfl rfl ⟨Nat.le_of_ble_eq_true rfl, Nat.le_of_ble_eq_true rfl⟩ wq_all hP hK hS qw_Ai (q0 := 0) (by decide) (hgM_0 ca o _ _) rfl rfl hl.1 rfl (Nat.le_of_ble_eq_true rfl) dX11_sayings_115 ⟨Nat.zero_le _, Nat.zero_le _⟩ (fun z48 y48 H locs h48 hP hS _ _ => ?_)
                        have J48 : qJM b z48 := h48.1
                        have R12_48 : z48 12 = z 12 := (h48.2).trans (v34_1)
                        refine lv_iload hx hb dX11_sayings_118 (lv_at hl 0 rfl) ?_
                        refine lv_iconst (v := 2) hx hb dX11_sayings_120 (by decide) ?_
                        refine lv_iadd hx hb dX11_sayings_121 ?_
                        refine lv_topi (fun x49 e49 => ?_)
                        have t49 : x49.toInt = w34_5.toInt + (2 : Int) := ga_add e49 rfl rfl (by omega) (by omega)
                        refine lv_istore (lv' := [(5, .int x49), (4, .int 1), (0, .ref (o + 0)), (1, .int a0), (2, .int a1), (3, .int a2)]) hx hb dX11_sayings_122 hl (by decide) rfl (fun ls hl => ?_)
                        refine lv_goto (tgt := 78) hx hb dX11_sayings_124 (by decide) ?_
                        exact ih34 x49 z48 y48 (show (21 - x49.toInt : Int) < (n34 : Int) from by omega) ⟨by omega, by omega⟩ J48 (show x49.toInt % 2 = 0 from by omega) (R12_48) _ _ hP hS _ (lv_sub hl [0, 1, 2, 3, 4, 5] rfl)
                exact loop34 22 0 z32 y32 (show (21 - (0 : Int) : Int) < ((22 : Nat) : Int) from by omega) ⟨by decide, by decide⟩ J32 (show (0 : Int) % 2 = 0 from by omega) (R12_32) _ _ hP hS _ (lv_sub hl [0, 1, 2, 3, 4, 5] rfl)
              · have t33 : r32.toInt = (0 : Int) := gl_eq c33
                refine lv_bipush (v := (-3)) hx hb dX11_sayings_72 (by decide) ?_
                exact W.iret (v := (-3)) hx hb hr (fun t ht hW => ⟨⟨(-3), (z32, y32), rfl, ⟨trivial, J32, R12_32⟩, by rw [ht]; exact hP, va_K.moved hW.alike hK⟩, hS.F ht⟩) hS.2.2 dX11_sayings_74
            · subst hr30
              refine lv_istore (lv' := [(4, .int 0), (0, .ref (o + 0)), (1, .int a0), (2, .int a1), (3, .int a2)]) hx hb dX11_sayings_47 hl (by decide) rfl (fun ls hl => ?_)
              refine lv_aload_n hx hb dX11_sayings_49 rfl (lv_at hl 1 rfl) ?_
              refine lv_iconst (v := 0) hx hb dX11_sayings_50 (by decide) ?_
              refine qf_put2 hx hb hts inX11 tyX11 tyX11_ok nmX11 hown hK hP hS qw_Ai (q0 := 0) (by decide) (hgM_0 ca o) rfl 15 (by decide) wq_1008 rfl (x := 0) 15 rfl rfl rfl (Nat.le_of_ble_eq_true rfl) dX11_sayings_51 (fun z50 H locs hz50 hP hS => ?_)
              have J50 := jM_0_15 J30 hz50 ⟨by decide, by decide⟩
              have R12_50 : z50 12 = z 12 := (qt_row hz50 (by decide)).trans (R12_30)
              refine lv_iload hx hb dX11_sayings_54 (lv_at hl 0 rfl) ?_
              refine lv_if_ne (tgt := 64) hx hb dX11_sayings_56 (by decide) (fun q => absurd q (by decide)) (fun _ => ?_)
              refine lv_aload_n hx hb dX11_sayings_59 rfl (lv_at hl 1 rfl) ?_
              refine qf_get hx hb hts inX11 hown hK hP (q0 := 0) (by decide) (hgM_0 ca o) rfl 18 (by decide) wq_1011 (v := .int (z50 0 18)) rfl dX11_sayings_60 ?_
              refine lv_topi (fun x51 e51 => ?_)
              exact W.iret (v := x51) hx hb hr (fun t ht hW => ⟨⟨x51, (z50, y30), rfl, ⟨trivial, J50, R12_50⟩, by rw [ht]; exact hP, va_K.moved hW.alike hK⟩, hS.F ht⟩) hS.2.2 dX11_sayings_63
          · have t29 : a1.toInt > x28.toInt := gl_nle c29
            refine lv_iconst (v := (-1)) hx hb dX11_sayings_40 (by decide) ?_
            exact W.iret (v := (-1)) hx hb hr (fun t ht hW => ⟨⟨(-1), (z, y), rfl, ⟨trivial, J0, rfl⟩, by rw [ht]; exact hP, va_K.moved hW.alike hK⟩, hS.F ht⟩) hS.2.2 dX11_sayings_41
        · subst hr27
          have hg27_0 : ¬ pHas (z 0 4) a2 := hf27_0
          refine lv_if_eq (tgt := 40) hx hb dX11_sayings_29 (by decide) (fun _ => ?_) (fun q => absurd (by decide) q)
          refine lv_iconst (v := (-1)) hx hb dX11_sayings_40 (by decide) ?_
          exact W.iret (v := (-1)) hx hb hr (fun t ht hW => ⟨⟨(-1), (z, y), rfl, ⟨trivial, J0, rfl⟩, by rw [ht]; exact hP, va_K.moved hW.alike hK⟩, hS.F ht⟩) hS.2.2 dX11_sayings_41
    · subst hr3
      have hg3_0 : ¬ ((1 : Int) ≤ a1.toInt ∧ a1.toInt ≤ (20 : Int)) := hf3_0
      refine lv_if_eq (tgt := 40) hx hb dX11_sayings_15 (by decide) (fun _ => ?_) (fun q => absurd (by decide) q)
      refine lv_iconst (v := (-1)) hx hb dX11_sayings_40 (by decide) ?_
      exact W.iret (v := (-1)) hx hb hr (fun t ht hW => ⟨⟨(-1), (z, y), rfl, ⟨trivial, J0, rfl⟩, by rw [ht]; exact hP, va_K.moved hW.alike hK⟩, hS.F ht⟩) hS.2.2 dX11_sayings_41
set_option maxRecDepth 100000 in
set_option maxHeartbeats 8000000 in
theorem m_isTrue (l : Launch) (D : va_G) (ca : Nat → ClassId) (o : Nat) (b z : Nat → Nat → Int32) (y : Nat → Nat → Int64) (J0 : qJM b z) (a0 : Int32) (a1 : Int32) (a2 : Int32)  : qM l yX11_isTrue cX11_isTrue 10 (some .int) 5 146 (qPre D vwCl (qT6 ca) o 41 (qG (GM ca o) z y) [.ref (o + 0), .int a0, .int a1, .int a2]) (va_Qi (fun r u => True ∧ qJM b u.1) (qB D vwCl (qT6 ca) o 41 (fun u : qZ => qG (GM ca o) u.1 u.2)) (qw_A o 41)) (qw_A o 41) := by
  refine Met.ofW (cc := cX11_isTrue) (maxL := 10) (ret := (some .int)) (by decide) rfl ?_
  intro p e s m args below meth c s₁ B hml hv
  obtain ⟨rfl, hP, hK⟩ := hv
  have hx := B.exec
  have hb := B.bytes
  have hr := B.returns
  have hts0 := atoms_spec (ws := Cond.code yX11_isTrue cX11_isTrue 10 (some .int) :: qtbl) B.pre
  have hts : ∀ w ∈ qtbl, w.before _ s = true := fun w h => hts0 w (List.mem_cons_of_mem _ h)
  have hown : s.vm.findClass RX11 = some m.cls := findClass_of_methodNamed B.named
  have hlocks := B.notSynchronized
  have hS : va_S (qw_A o 41) s.heap s.heap [] := va_S.rf
  have hl := lv_entry ([.ref (o + 0), .int a0, .int a1, .int a2]) (n := 10) (Nat.le_of_ble_eq_true rfl)
  rw [lg_entry_eq]
  generalize (lg_sl ([.ref (o + 0), .int a0, .int a1, .int a2]) ++ List.replicate (10 - (lg_sl ([.ref (o + 0), .int a0, .int a1, .int a2])).length) Slot.unset).toArray = ls at hl ⊢
  have hl : lv_has ls 10 [(0, .ref (o + 0)), (1, .int a0), (2, .int a1), (3, .int a2)] := hl
  refine lv_aload_n hx hb dX11_isTrue_0 rfl (lv_at hl 0 rfl) ?_
  refine lv_iload_n hx hb dX11_isTrue_1 rfl (lv_at hl 1 rfl) ?_
  refine qc_Vip (As := [.int a0]) (rest := []) (k0 := 1) (m_areRemarks l D ca o b z y J0 a0) kc_yX11_areRemarks ⟨hx, hb, hml, hown, hts⟩ wq_1324 rfl rfl ⟨Nat.le_of_ble_eq_true rfl, Nat.le_of_ble_eq_true rfl⟩ wq_all hP hK hS qw_Ai (q0 := 0) (by decide) (hgM_0 ca o _ _) rfl rfl hl.1 rfl (Nat.le_of_ble_eq_true rfl) dX11_isTrue_2 ⟨Nat.zero_le _, Nat.zero_le _⟩ (fun r1 H locs h1 hP hS _ _ => ?_)
  have b1 : (0 : Int) ≤ r1.toInt ∧ r1.toInt ≤ 1 := h1
  refine lv_if_eq (tgt := 25) hx hb dX11_isTrue_5 (by decide) (fun c2 => ?_) (fun c2 => ?_)
  · have t2 : r1.toInt = (0 : Int) := gl_eq c2
    refine lv_sipush (v := (-204)) hx hb dX11_isTrue_25 (by decide) ?_
    exact W.iret (v := (-204)) hx hb hr (fun t ht hW => ⟨⟨(-204), (z, y), rfl, ⟨trivial, J0⟩, by rw [ht]; exact hP, va_K.moved hW.alike hK⟩, hS.F ht⟩) hS.2.2 dX11_isTrue_28
  · have t2 : r1.toInt ≠ (0 : Int) := gl_ne c2
    refine lv_aload_n hx hb dX11_isTrue_8 rfl (lv_at hl 0 rfl) ?_
    refine lv_iload_n hx hb dX11_isTrue_9 rfl (lv_at hl 2 rfl) ?_
    refine qc_Vip (As := [.int a1]) (rest := []) (k0 := 1) (m_isRemark l D ca o b z y J0 a1) kc_yX11_isRemark ⟨hx, hb, hml, hown, hts⟩ wq_1307 rfl rfl ⟨Nat.le_of_ble_eq_true rfl, Nat.le_of_ble_eq_true rfl⟩ wq_all hP hK hS qw_Ai (q0 := 0) (by decide) (hgM_0 ca o _ _) rfl rfl hl.1 rfl (Nat.le_of_ble_eq_true rfl) dX11_isTrue_10 ⟨Nat.zero_le _, Nat.zero_le _⟩ (fun r3 H locs h3 hP hS _ _ => ?_)
    rcases h3 with ⟨hr3, hf3_0⟩ | hr3
    · subst hr3
      have hg3_0 : 0 ≤ a1.toInt ∧ a1.toInt ≤ 9 := hf3_0
      refine lv_if_eq (tgt := 25) hx hb dX11_isTrue_13 (by decide) (fun q => absurd q (by decide)) (fun _ => ?_)
      refine lv_iload_n hx hb dX11_isTrue_16 rfl (lv_at hl 3 rfl) ?_
      refine lv_iconst (v := 0) hx hb dX11_isTrue_17 (by decide) ?_
      refine lv_iconst (v := 2) hx hb dX11_isTrue_18 (by decide) ?_
      refine qc_Sip (As := [.int a2, .int 0, .int 2]) (rest := []) (k0 := 3) (m_in l D ca o b z y J0 a2 0 2) kc_yX11_in ⟨hx, hb, hml, hown, hts⟩ wq_1187 rfl rfl ⟨Nat.le_of_ble_eq_true rfl, Nat.le_of_ble_eq_true rfl⟩ wq_all hP hK hS qw_Ai rfl hl.1 rfl (Nat.le_of_ble_eq_true rfl) dX11_isTrue_19 ⟨Nat.zero_le _, Nat.zero_le _⟩ (fun r4 H locs h4 hP hS _ _ => ?_)
      rcases h4 with ⟨hr4, hf4_0⟩ | ⟨hr4, hf4_0⟩
      · subst hr4
        have hg4_0 : (0 : Int) ≤ a2.toInt ∧ a2.toInt ≤ (2 : Int) := hf4_0
        refine lv_if_ne (tgt := 29) hx hb dX11_isTrue_22 (by decide) (fun _ => ?_) (fun q => absurd q (by decide))
        refine lv_aload_n hx hb dX11_isTrue_29 rfl (lv_at hl 0 rfl) ?_
        refine qc_Vip (As := []) (rest := []) (k0 := 0) (m_rowMany l D ca o b z y J0) kc_yX11_rowMany ⟨hx, hb, hml, hown, hts⟩ wq_1315 rfl rfl ⟨Nat.le_of_ble_eq_true rfl, Nat.le_of_ble_eq_true rfl⟩ wq_all hP hK hS qw_Ai (q0 := 0) (by decide) (hgM_0 ca o _ _) rfl rfl hl.1 rfl (Nat.le_of_ble_eq_true rfl) dX11_isTrue_30 ⟨Nat.zero_le _, Nat.zero_le _⟩ (fun r5 H locs h5 hP hS _ _ => ?_)
        have p5_1 : rmI z 6 r5 := h5.2
        refine lv_ldcw (v := 200000) hx hb hown (hts _ wq_1319) dX11_isTrue_33 ?_
        refine lv_icmp_le (tgt := 43) hx hb dX11_isTrue_36 (by decide) (fun c6 => ?_) (fun c6 => ?_)
        · have t6 : r5.toInt ≤ (200000 : Int) := gl_le c6
          refine lv_aload_n hx hb dX11_isTrue_43 rfl (lv_at hl 0 rfl) ?_
          refine lv_iload_n hx hb dX11_isTrue_44 rfl (lv_at hl 1 rfl) ?_
          refine qc_Vi2 (As := [.int a0]) (rest := []) (k0 := 1) (m_findsRow l D ca o b z y J0 a0) kc_yX11_findsRow ⟨hx, hb, hml, hown, hts⟩ wq_1332 rfl rfl ⟨Nat.le_of_ble_eq_true rfl, Nat.le_of_ble_eq_true rfl⟩ wq_all hP hK hS qw_Ai (q0 := 0) (by decide) (hgM_0 ca o _ _) rfl rfl hl.1 rfl (Nat.le_of_ble_eq_true rfl) dX11_isTrue_45 ⟨Nat.zero_le _, Nat.zero_le _⟩ (fun r7 z7 y7 H locs h7 hP hS _ _ => ?_)
          have J7 : qJM b z7 := h7.2
          have b7 : (0 : Int) ≤ r7.toInt ∧ r7.toInt ≤ 1 := h7.1
          refine lv_if_ne (tgt := 55) hx hb dX11_isTrue_48 (by decide) (fun c8 => ?_) (fun c8 => ?_)
          · have t8 : r7.toInt ≠ (0 : Int) := gl_ne c8
            refine lv_iconst (v := 0) hx hb dX11_isTrue_55 (by decide) ?_
            refine lv_istore (lv' := [(4, .int 0), (0, .ref (o + 0)), (1, .int a0), (2, .int a1), (3, .int a2)]) hx hb dX11_isTrue_56 hl (by decide) rfl (fun ls hl => ?_)
            refine lv_sipush (v := (-200)) hx hb dX11_isTrue_58 (by decide) ?_
            refine lv_istore (lv' := [(5, .int ((-200))), (4, .int 0), (0, .ref (o + 0)), (1, .int a0), (2, .int a1), (3, .int a2)]) hx hb dX11_isTrue_61 hl (by decide) rfl (fun ls hl => ?_)
            refine lv_sipush (v := (-200)) hx hb dX11_isTrue_63 (by decide) ?_
            refine lv_istore (lv' := [(6, .int ((-200))), (5, .int ((-200))), (4, .int 0), (0, .ref (o + 0)), (1, .int a0), (2, .int a1), (3, .int a2)]) hx hb dX11_isTrue_66 hl (by decide) rfl (fun ls hl => ?_)
            refine lv_bipush (v := (-99)) hx hb dX11_isTrue_68 (by decide) ?_
            refine lv_istore (lv' := [(7, .int ((-99))), (6, .int ((-200))), (5, .int ((-200))), (4, .int 0), (0, .ref (o + 0)), (1, .int a0), (2, .int a1), (3, .int a2)]) hx hb dX11_isTrue_70 hl (by decide) rfl (fun ls hl => ?_)
            have loop9 : ∀ (n : Nat) (w9_7 : Int32) (w9_6 : Int32) (w9_5 : Int32) (w9_4 : Int32), ((100 - w9_7.toInt : Int) < (n : Int)) → ((-99 : Int) ≤ w9_7.toInt ∧ w9_7.toInt ≤ 100) → ((-200 : Int) ≤ w9_6.toInt ∧ w9_6.toInt ≤ 99) → ((-200 : Int) ≤ w9_5.toInt ∧ w9_5.toInt ≤ 0) → ∀ (H : Heap) (locs : List Loc), qw_P D vwCl o 41 (qG (GM ca o) z7 y7) H → va_S (qw_A o 41) s.heap H locs → ∀ (ls : Array Slot), lv_has ls 10 [(7, .int w9_7), (6, .int w9_6), (5, .int w9_5), (4, .int w9_4), (0, .ref (o + 0)), (1, .int a0), (2, .int a1), (3, .int a2)] → W p l e (headSpec (Cond.code yX11_isTrue cX11_isTrue 10 (some .int) :: qtbl) ({ frames := 5, cells := 0, slots := 0, locals := 146 })).room s m (([.ref (o + 0), .int a0, .int a1, .int a2] : List Value).toArray) below meth c H locs 0 0 (MQ below (va_Qi (fun r u => True ∧ qJM b u.1) (qB D vwCl (qT6 ca) o 41 (fun u : qZ => qG (GM ca o) u.1 u.2)) (qw_A o 41)) (([.ref (o + 0), .int a0, .int a1, .int a2] : List Value).toArray) s 0 0 (qw_A o 41)) (F0 m 72 ls []) := by
              intro n
              induction n with
              | zero => intro w9_7 w9_6 w9_5 w9_4 hb9 hv9_7 hv9_6 hv9_5; exfalso; omega
              | succ n9 ih9 =>
                intro w9_7 w9_6 w9_5 w9_4 hb9 hv9_7 hv9_6 hv9_5 H locs hP hS ls hl
                refine lv_iload hx hb dX11_isTrue_72 (lv_at hl 0 rfl) ?_
                refine lv_bipush (v := 99) hx hb dX11_isTrue_74 (by decide) ?_
                refine lv_icmp_gt (tgt := 187) hx hb dX11_isTrue_76 (by decide) (fun c10 => ?_) (fun c10 => ?_)
                · have t10 : w9_7.toInt > (99 : Int) := gl_lt c10
                  refine lv_iload_n hx hb dX11_isTrue_187 rfl (lv_at hl 7 rfl) ?_
                  refine lv_if_ne (tgt := 196) hx hb dX11_isTrue_188 (by decide) (fun c11 => ?_) (fun c11 => ?_)
                  · have t11 : a2.toInt ≠ (0 : Int) := gl_ne c11
                    refine lv_iload_n hx hb dX11_isTrue_196 rfl (lv_at hl 7 rfl) ?_
                    refine lv_iconst (v := 1) hx hb dX11_isTrue_197 (by decide) ?_
                    refine lv_icmp_ne (tgt := 206) hx hb dX11_isTrue_198 (by decide) (fun c12 => ?_) (fun c12 => ?_)
                    · have t12 : a2.toInt ≠ (1 : Int) := gl_ne c12
                      refine lv_iload hx hb dX11_isTrue_206 (lv_at hl 1 rfl) ?_
                      exact W.iret (v := w9_6) hx hb hr (fun t ht hW => ⟨⟨w9_6, (z7, y7), rfl, ⟨trivial, J7⟩, by rw [ht]; exact hP, va_K.moved hW.alike hK⟩, hS.F ht⟩) hS.2.2 dX11_isTrue_208
                    · have t12 : a2.toInt = (1 : Int) := gl_eq c12
                      refine lv_iload hx hb dX11_isTrue_201 (lv_at hl 2 rfl) ?_
                      refine lv_goto (tgt := 208) hx hb dX11_isTrue_203 (by decide) ?_
                      exact W.iret (v := w9_5) hx hb hr (fun t ht hW => ⟨⟨w9_5, (z7, y7), rfl, ⟨trivial, J7⟩, by rw [ht]; exact hP, va_K.moved hW.alike hK⟩, hS.F ht⟩) hS.2.2 dX11_isTrue_208
                  · have t11 : a2.toInt = (0 : Int) := gl_eq c11
                    refine lv_iload hx hb dX11_isTrue_191 (lv_at hl 3 rfl) ?_
                    refine lv_goto (tgt := 208) hx hb dX11_isTrue_193 (by decide) ?_
                    exact W.iret (v := w9_4) hx hb hr (fun t ht hW => ⟨⟨w9_4, (z7, y7), rfl, ⟨trivial, J7⟩, by rw [ht]; exact hP, va_K.moved hW.alike hK⟩, hS.F ht⟩) hS.2.2 dX11_isTrue_208
                · have t10 : w9_7.toInt ≤ (99 : Int) := gl_nlt c10
                  refine lv_aload_n hx hb dX11_isTrue_79 rfl (lv_at hl 4 rfl) ?_
                  refine qf_get hx hb hts inX11 hown hK hP (q0 := 0) (by decide) (hgM_0 ca o) rfl 8 (by decide) wq_1001 (v := .ref (o + 6)) rfl dX11_isTrue_80 ?_
                  refine lv_iload_n hx hb dX11_isTrue_83 rfl (lv_at hl 6 rfl) ?_
                  refine qa_iald hx hb hK hP (q0 := 6) (by decide) 0 (N := 16) (hgM_6 ca o) rfl (gi_in (by omega) (by omega)) dX11_isTrue_84 ?_
                  refine lv_topi (fun x13 e13 => ?_)
                  refine lv_istore (lv' := [(8, .int x13), (7, .int w9_7), (6, .int w9_6), (5, .int w9_5), (4, .int w9_4), (0, .ref (o + 0)), (1, .int a0), (2, .int a1), (3, .int a2)]) hx hb dX11_isTrue_85 hl (by decide) rfl (fun ls hl => ?_)
                  refine lv_iconst (v := 0) hx hb dX11_isTrue_87 (by decide) ?_
                  refine lv_istore (lv' := [(9, .int 0), (8, .int x13), (7, .int w9_7), (6, .int w9_6), (5, .int w9_5), (4, .int w9_4), (0, .ref (o + 0)), (1, .int a0), (2, .int a1), (3, .int a2)]) hx hb dX11_isTrue_88 hl (by decide) rfl (fun ls hl => ?_)
                  have loop14 : ∀ (n : Nat) (w14_9 : Int32) (w14_8 : Int32), ((6 - w14_9.toInt : Int) < (n : Int)) → ((0 : Int) ≤ w14_9.toInt ∧ w14_9.toInt ≤ 6) → ∀ (H : Heap) (locs : List Loc), qw_P D vwCl o 41 (qG (GM ca o) z7 y7) H → va_S (qw_A o 41) s.heap H locs → ∀ (ls : Array Slot), lv_has ls 10 [(9, .int w14_9), (8, .int w14_8), (7, .int w9_7), (6, .int w9_6), (5, .int w9_5), (4, .int w9_4), (0, .ref (o + 0)), (1, .int a0), (2, .int a1), (3, .int a2)] → W p l e (headSpec (Cond.code yX11_isTrue cX11_isTrue 10 (some .int) :: qtbl) ({ frames := 5, cells := 0, slots := 0, locals := 146 })).room s m (([.ref (o + 0), .int a0, .int a1, .int a2] : List Value).toArray) below meth c H locs 0 0 (MQ below (va_Qi (fun r u => True ∧ qJM b u.1) (qB D vwCl (qT6 ca) o 41 (fun u : qZ => qG (GM ca o) u.1 u.2)) (qw_A o 41)) (([.ref (o + 0), .int a0, .int a1, .int a2] : List Value).toArray) s 0 0 (qw_A o 41)) (F0 m 90 ls []) := by
                    intro n
                    induction n with
                    | zero => intro w14_9 w14_8 hb14 hv14_9; exfalso; omega
                    | succ n14 ih14 =>
                      intro w14_9 w14_8 hb14 hv14_9 H locs hP hS ls hl
                      refine lv_iload hx hb dX11_isTrue_90 (lv_at hl 0 rfl) ?_
                      refine lv_bipush (v := 6) hx hb dX11_isTrue_92 (by decide) ?_
                      refine lv_icmp_ge (tgt := 136) hx hb dX11_isTrue_94 (by decide) (fun c15 => ?_) (fun c15 => ?_)
                      · have t15 : w14_9.toInt ≥ (6 : Int) := gl_le c15
                        refine lv_aload_n hx hb dX11_isTrue_136 rfl (lv_at hl 6 rfl) ?_
                        refine lv_iload_n hx hb dX11_isTrue_137 rfl (lv_at hl 8 rfl) ?_
                        refine lv_iload hx hb dX11_isTrue_138 (lv_at hl 1 rfl) ?_
                        refine qc_Vip (As := [.int a1, .int w14_8]) (rest := []) (k0 := 2) (m_isSo l D ca o b z7 y7 J7 a1 w14_8 ⟨by omega, by omega⟩) kc_yX11_isSo ⟨hx, hb, hml, hown, hts⟩ wq_1348 rfl rfl ⟨Nat.le_of_ble_eq_true rfl, Nat.le_of_ble_eq_true rfl⟩ wq_all hP hK hS qw_Ai (q0 := 0) (by decide) (hgM_0 ca o _ _) rfl rfl hl.1 rfl (Nat.le_of_ble_eq_true rfl) dX11_isTrue_140 ⟨Nat.zero_le _, Nat.zero_le _⟩ (fun r16 H locs h16 hP hS _ _ => ?_)
                        have b16 : (0 : Int) ≤ r16.toInt ∧ r16.toInt ≤ 1 := h16
                        refine lv_if_ne (tgt := 149) hx hb dX11_isTrue_143 (by decide) (fun c17 => ?_) (fun c17 => ?_)
                        · have t17 : r16.toInt ≠ (0 : Int) := gl_ne c17
                          refine lv_iload hx hb dX11_isTrue_149 (lv_at hl 5 rfl) ?_
                          refine lv_iconst (v := 1) hx hb dX11_isTrue_151 (by decide) ?_
                          refine lv_iadd hx hb dX11_isTrue_152 ?_
                          refine lv_topi (fun x18 e18 => ?_)
                          refine lv_istore (lv' := [(4, .int x18), (9, .int w14_9), (8, .int w14_8), (7, .int w9_7), (6, .int w9_6), (5, .int w9_5), (0, .ref (o + 0)), (1, .int a0), (2, .int a1), (3, .int a2)]) hx hb dX11_isTrue_153 hl (by decide) rfl (fun ls hl => ?_)
                          refine lv_iload hx hb dX11_isTrue_155 (lv_at hl 3 rfl) ?_
                          refine lv_if_gt (tgt := 164) hx hb dX11_isTrue_157 (by decide) (fun c19 => ?_) (fun c19 => ?_)
                          · have t19 : w9_7.toInt > (0 : Int) := gl_lt c19
                            refine lv_iload hx hb dX11_isTrue_164 (lv_at hl 3 rfl) ?_
                            refine lv_if_le (tgt := 181) hx hb dX11_isTrue_166 (by decide) (fun c20 => ?_) (fun c20 => ?_)
                            · have t20 : w9_7.toInt ≤ (0 : Int) := gl_le c20
                              exfalso; omega
                            · have t20 : w9_7.toInt > (0 : Int) := gl_nle c20
                              refine lv_iload hx hb dX11_isTrue_169 (lv_at hl 4 rfl) ?_
                              refine lv_sipush (v := (-200)) hx hb dX11_isTrue_171 (by decide) ?_
                              refine lv_icmp_ne (tgt := 181) hx hb dX11_isTrue_174 (by decide) (fun c21 => ?_) (fun c21 => ?_)
                              · have t21 : w9_6.toInt ≠ (-200 : Int) := gl_ne c21
                                obtain ⟨x22, e22⟩ : ∃ t : Int32, t = w9_7 + 1 := ⟨_, rfl⟩
                                refine lv_iinc (v := x22) (lv' := [(7, .int x22), (4, .int x18), (9, .int w14_9), (8, .int w14_8), (6, .int w9_6), (5, .int w9_5), (0, .ref (o + 0)), (1, .int a0), (2, .int a1), (3, .int a2)]) hx hb dX11_isTrue_181 hl (k := 3) rfl (by rw [e22]; rfl) (by decide) rfl (fun ls hl => ?_)
                                have t22 : x22.toInt = w9_7.toInt + (1 : Int) := ga_add e22 rfl rfl (by omega) (by omega)
                                refine lv_goto (tgt := 72) hx hb dX11_isTrue_184 (by decide) ?_
                                exact ih9 x22 w9_6 w9_5 x18 (show (100 - x22.toInt : Int) < (n9 : Int) from by omega) ⟨by omega, by omega⟩ ⟨by omega, by omega⟩ ⟨by omega, by omega⟩ _ _ hP hS _ (lv_sub hl [0, 4, 5, 1, 6, 7, 8, 9] rfl)
                              · have t21 : w9_6.toInt = (-200 : Int) := gl_eq c21
                                refine lv_iload hx hb dX11_isTrue_177 (lv_at hl 3 rfl) ?_
                                refine lv_istore (lv' := [(6, .int w9_7), (4, .int x18), (9, .int w14_9), (8, .int w14_8), (7, .int w9_7), (5, .int w9_5), (0, .ref (o + 0)), (1, .int a0), (2, .int a1), (3, .int a2)]) hx hb dX11_isTrue_179 hl (by decide) rfl (fun ls hl => ?_)
                                obtain ⟨x23, e23⟩ : ∃ t : Int32, t = w9_7 + 1 := ⟨_, rfl⟩
                                refine lv_iinc (v := x23) (lv' := [(7, .int x23), (6, .int w9_7), (4, .int x18), (9, .int w14_9), (8, .int w14_8), (5, .int w9_5), (0, .ref (o + 0)), (1, .int a0), (2, .int a1), (3, .int a2)]) hx hb dX11_isTrue_181 hl (k := 4) rfl (by rw [e23]; rfl) (by decide) rfl (fun ls hl => ?_)
                                have t23 : x23.toInt = w9_7.toInt + (1 : Int) := ga_add e23 rfl rfl (by omega) (by omega)
                                refine lv_goto (tgt := 72) hx hb dX11_isTrue_184 (by decide) ?_
                                exact ih9 x23 w9_7 w9_5 x18 (show (100 - x23.toInt : Int) < (n9 : Int) from by omega) ⟨by omega, by omega⟩ ⟨by omega, by omega⟩ ⟨by omega, by omega⟩ _ _ hP hS _ (lv_sub hl [0, 1, 5, 2, 6, 7, 8, 9] rfl)
                          · have t19 : w9_7.toInt ≤ (0 : Int) := gl_nlt c19
                            refine lv_iload hx hb dX11_isTrue_160 (lv_at hl 3 rfl) ?_
                            refine lv_istore (lv' := [(5, .int w9_7), (4, .int x18), (9, .int w14_9), (8, .int w14_8), (7, .int w9_7), (6, .int w9_6), (0, .ref (o + 0)), (1, .int a0), (2, .int a1), (3, .int a2)]) hx hb dX11_isTrue_162 hl (by decide) rfl (fun ls hl => ?_)
                            refine lv_iload hx hb dX11_isTrue_164 (lv_at hl 4 rfl) ?_
                            refine lv_if_le (tgt := 181) hx hb dX11_isTrue_166 (by decide) (fun c24 => ?_) (fun c24 => ?_)
                            · have t24 : w9_7.toInt ≤ (0 : Int) := gl_le c24
                              obtain ⟨x25, e25⟩ : ∃ t : Int32, t = w9_7 + 1 := ⟨_, rfl⟩
                              refine lv_iinc (v := x25) (lv' := [(7, .int x25), (5, .int w9_7), (4, .int x18), (9, .int w14_9), (8, .int w14_8), (6, .int w9_6), (0, .ref (o + 0)), (1, .int a0), (2, .int a1), (3, .int a2)]) hx hb dX11_isTrue_181 hl (k := 4) rfl (by rw [e25]; rfl) (by decide) rfl (fun ls hl => ?_)
                              have t25 : x25.toInt = w9_7.toInt + (1 : Int) := ga_add e25 rfl rfl (by omega) (by omega)
                              refine lv_goto (tgt := 72) hx hb dX11_isTrue_184 (by decide) ?_
                              exact ih9 x25 w9_6 w9_7 x18 (show (100 - x25.toInt : Int) < (n9 : Int) from by omega) ⟨by omega, by omega⟩ ⟨by omega, by omega⟩ ⟨by omega, by omega⟩ _ _ hP hS _ (lv_sub hl [0, 5, 1, 2, 6, 7, 8, 9] rfl)
                            · have t24 : w9_7.toInt > (0 : Int) := gl_nle c24
                              exfalso; omega
                        · have t17 : r16.toInt = (0 : Int) := gl_eq c17
                          refine lv_goto (tgt := 181) hx hb dX11_isTrue_146 (by decide) ?_
                          obtain ⟨x26, e26⟩ : ∃ t : Int32, t = w9_7 + 1 := ⟨_, rfl⟩
                          refine lv_iinc (v := x26) (lv' := [(7, .int x26), (9, .int w14_9), (8, .int w14_8), (6, .int w9_6), (5, .int w9_5), (4, .int w9_4), (0, .ref (o + 0)), (1, .int a0), (2, .int a1), (3, .int a2)]) hx hb dX11_isTrue_181 hl (k := 2) rfl (by rw [e26]; rfl) (by decide) rfl (fun ls hl => ?_)
                          have t26 : x26.toInt = w9_7.toInt + (1 : Int) := ga_add e26 rfl rfl (by omega) (by omega)
                          refine lv_goto (tgt := 72) hx hb dX11_isTrue_184 (by decide) ?_
                          exact ih9 x26 w9_6 w9_5 w9_4 (show (100 - x26.toInt : Int) < (n9 : Int) from by omega) ⟨by omega, by omega⟩ ⟨by omega, by omega⟩ ⟨by omega, by omega⟩ _ _ hP hS _ (lv_sub hl [0, 3, 4, 5, 6, 7, 8, 9] rfl)
                      · have t15 : w14_9.toInt < (6 : Int) := gl_nle c15
                        refine lv_iload hx hb dX11_isTrue_97 (lv_at hl 1 rfl) ?_
                        refine lv_aload_n hx hb dX11_isTrue_99 rfl (lv_at hl 6 rfl) ?_
                        refine qf_get hx hb hts inX11 hown hK hP (q0 := 0) (by decide) (hgM_0 ca o) rfl 7 (by decide) wq_1000 (v := .ref (o + 5)) rfl dX11_isTrue_100 ?_
                        refine lv_bipush (v := 6) hx hb dX11_isTrue_103 (by decide) ?_
                        refine lv_iload_n hx hb dX11_isTrue_105 rfl (lv_at hl 8 rfl) ?_
                        refine lv_imul hx hb dX11_isTrue_106 ?_
                        refine lv_topi (fun x27 e27 => ?_)
                        have t27 : x27.toInt = (6 : Int) * a1.toInt := ga_mul e27 rfl rfl (by omega) (by omega)
                        refine lv_iload hx hb dX11_isTrue_107 (lv_at hl 0 rfl) ?_
                        refine lv_iadd hx hb dX11_isTrue_109 ?_
                        refine lv_topi (fun x28 e28 => ?_)
                        have t28 : x28.toInt = x27.toInt + w14_9.toInt := ga_add e28 rfl rfl (by omega) (by omega)
                        refine qa_iald hx hb hK hP (q0 := 5) (by decide) 0 (N := 96) (hgM_5 ca o) rfl (gi_in (by omega) (by omega)) dX11_isTrue_110 ?_
                        refine lv_topi (fun x29 e29 => ?_)
                        refine lv_aload_n hx hb dX11_isTrue_111 rfl (lv_at hl 6 rfl) ?_
                        refine qf_get hx hb hts inX11 hown hK hP (q0 := 0) (by decide) (hgM_0 ca o) rfl 36 (by decide) wq_1028 (v := .ref (o + 23)) rfl dX11_isTrue_112 ?_
                        refine lv_iload hx hb dX11_isTrue_115 (lv_at hl 0 rfl) ?_
                        refine qa_iald hx hb hK hP (q0 := 23) (by decide) 0 (N := 6) (hgM_23 ca o) rfl (gi_in (by omega) (by omega)) dX11_isTrue_117 ?_
                        refine lv_topi (fun x30 e30 => ?_)
                        have b30 := iM_23 J7 e30
                        refine lv_aload_n hx hb dX11_isTrue_118 rfl (lv_at hl 6 rfl) ?_
                        refine qf_get hx hb hts inX11 hown hK hP (q0 := 0) (by decide) (hgM_0 ca o) rfl 5 (by decide) wq_998 (v := .int (z7 0 5)) rfl dX11_isTrue_119 ?_
                        refine lv_topi (fun x31 e31 => ?_)
                        have b31 := iM_0_5 J7 e31
                        refine lv_iadd hx hb dX11_isTrue_122 ?_
                        refine lv_topi (fun x32 e32 => ?_)
                        have t32 : x32.toInt = x30.toInt + x31.toInt := ga_add e32 rfl rfl (by omega) (by omega)
                        refine lv_iload hx hb dX11_isTrue_123 (lv_at hl 2 rfl) ?_
                        refine lv_iadd hx hb dX11_isTrue_125 ?_
                        refine lv_topi (fun x33 e33 => ?_)
                        have t33 : x33.toInt = x32.toInt + w9_7.toInt := ga_add e33 rfl rfl (by omega) (by omega)
                        refine lv_imul hx hb dX11_isTrue_126 ?_
                        refine lv_topi (fun x34 e34 => ?_)
                        refine lv_iadd hx hb dX11_isTrue_127 ?_
                        refine lv_topi (fun x35 e35 => ?_)
                        refine lv_istore (lv' := [(8, .int x35), (9, .int w14_9), (7, .int w9_7), (6, .int w9_6), (5, .int w9_5), (4, .int w9_4), (0, .ref (o + 0)), (1, .int a0), (2, .int a1), (3, .int a2)]) hx hb dX11_isTrue_128 hl (by decide) rfl (fun ls hl => ?_)
                        obtain ⟨x36, e36⟩ : ∃ t : Int32, t = w14_9 + 1 := ⟨_, rfl⟩
                        refine lv_iinc (v := x36) (lv' := [(9, .int x36), (8, .int x35), (7, .int w9_7), (6, .int w9_6), (5, .int w9_5), (4, .int w9_4), (0, .ref (o + 0)), (1, .int a0), (2, .int a1), (3, .int a2)]) hx hb dX11_isTrue_130 hl (k := 1) rfl (by rw [e36]; rfl) (by decide) rfl (fun ls hl => ?_)
                        have t36 : x36.toInt = w14_9.toInt + (1 : Int) := ga_add e36 rfl rfl (by omega) (by omega)
                        refine lv_goto (tgt := 90) hx hb dX11_isTrue_133 (by decide) ?_
                        exact ih14 x36 x35 (show (6 - x36.toInt : Int) < (n14 : Int) from by omega) ⟨by omega, by omega⟩ _ _ hP hS _ (lv_sub hl [0, 1, 2, 3, 4, 5, 6, 7, 8, 9] rfl)
                  exact loop14 7 0 x13 (show (6 - (0 : Int) : Int) < ((7 : Nat) : Int) from by omega) ⟨by decide, by decide⟩ _ _ hP hS _ (lv_sub hl [0, 1, 2, 3, 4, 5, 6, 7, 8, 9] rfl)
            exact loop9 200 (-99) (-200) (-200) 0 (show (100 - (-99 : Int) : Int) < ((200 : Nat) : Int) from by omega) ⟨by decide, by decide⟩ ⟨by decide, by decide⟩ ⟨by decide, by decide⟩ _ _ hP hS _ (lv_sub hl [0, 1, 2, 3, 4, 5, 6, 7] rfl)
          · have t8 : r7.toInt = (0 : Int) := gl_eq c8
            refine lv_sipush (v := (-201)) hx hb dX11_isTrue_51 (by decide) ?_
            exact W.iret (v := (-201)) hx hb hr (fun t ht hW => ⟨⟨(-201), (z7, y7), rfl, ⟨trivial, J7⟩, by rw [ht]; exact hP, va_K.moved hW.alike hK⟩, hS.F ht⟩) hS.2.2 dX11_isTrue_54
        · have t6 : r5.toInt > (200000 : Int) := gl_nle c6
          refine lv_sipush (v := (-203)) hx hb dX11_isTrue_39 (by decide) ?_
          exact W.iret (v := (-203)) hx hb hr (fun t ht hW => ⟨⟨(-203), (z, y), rfl, ⟨trivial, J0⟩, by rw [ht]; exact hP, va_K.moved hW.alike hK⟩, hS.F ht⟩) hS.2.2 dX11_isTrue_42
      · subst hr4
        have hg4_0 : ¬ ((0 : Int) ≤ a2.toInt ∧ a2.toInt ≤ (2 : Int)) := hf4_0
        refine lv_if_ne (tgt := 29) hx hb dX11_isTrue_22 (by decide) (fun q => absurd q (by decide)) (fun _ => ?_)
        refine lv_sipush (v := (-204)) hx hb dX11_isTrue_25 (by decide) ?_
        exact W.iret (v := (-204)) hx hb hr (fun t ht hW => ⟨⟨(-204), (z, y), rfl, ⟨trivial, J0⟩, by rw [ht]; exact hP, va_K.moved hW.alike hK⟩, hS.F ht⟩) hS.2.2 dX11_isTrue_28
    · subst hr3
      refine lv_if_eq (tgt := 25) hx hb dX11_isTrue_13 (by decide) (fun _ => ?_) (fun q => absurd (by decide) q)
      refine lv_sipush (v := (-204)) hx hb dX11_isTrue_25 (by decide) ?_
      exact W.iret (v := (-204)) hx hb hr (fun t ht hW => ⟨⟨(-204), (z, y), rfl, ⟨trivial, J0⟩, by rw [ht]; exact hP, va_K.moved hW.alike hK⟩, hS.F ht⟩) hS.2.2 dX11_isTrue_28
