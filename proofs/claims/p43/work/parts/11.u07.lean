set_option maxRecDepth 100000 in
set_option maxHeartbeats 8000000 in
theorem u_aged (l : Launch) (D : va_G) (ca : Nat → ClassId) (o : Nat) (b z : Nat → Nat → Int32) (y : Nat → Nat → Int64) (J0 : qJU b z) (a0 : Int32) (a1 : Int32) (a2 : Int32)  : qM l yX10_aged cX10_aged 5 (some .int) 6 169 (qPre D vwCl (qT6 ca) o 132 (qG (GU ca o) z y) [.ref (o + 0), .int a0, .int a1, .int a2]) (va_Qi (fun r u => True ∧ qJU b u.1) (qB D vwCl (qT6 ca) o 132 (fun u : qZ => qG (GU ca o) u.1 u.2)) (qw_A o 132)) (qw_A o 132) := by
  refine Met.ofW (cc := cX10_aged) (maxL := 5) (ret := (some .int)) (by decide) rfl ?_
  intro p e s m args below meth c s₁ B hml hv
  obtain ⟨rfl, hP, hK⟩ := hv
  have hx := B.exec
  have hb := B.bytes
  have hr := B.returns
  have hts0 := atoms_spec (ws := Cond.code yX10_aged cX10_aged 5 (some .int) :: qtbl) B.pre
  have hts : ∀ w ∈ qtbl, w.before _ s = true := fun w h => hts0 w (List.mem_cons_of_mem _ h)
  have hown : s.vm.findClass RX10 = some m.cls := findClass_of_methodNamed B.named
  have hlocks := B.notSynchronized
  have hS : va_S (qw_A o 132) s.heap s.heap [] := va_S.rf
  have hl := lv_entry ([.ref (o + 0), .int a0, .int a1, .int a2]) (n := 5) (Nat.le_of_ble_eq_true rfl)
  rw [lg_entry_eq]
  generalize (lg_sl ([.ref (o + 0), .int a0, .int a1, .int a2]) ++ List.replicate (5 - (lg_sl ([.ref (o + 0), .int a0, .int a1, .int a2])).length) Slot.unset).toArray = ls at hl ⊢
  have hl : lv_has ls 5 [(0, .ref (o + 0)), (1, .int a0), (2, .int a1), (3, .int a2)] := hl
  refine lv_aload_n hx hb dX10_aged_0 rfl (lv_at hl 0 rfl) ?_
  refine lv_iload_n hx hb dX10_aged_1 rfl (lv_at hl 1 rfl) ?_
  refine qc_Vip (As := [.int a0]) (rest := []) (k0 := 1) (u_areRemarks l D ca o b z y J0 a0) kc_yX10_areRemarks ⟨hx, hb, hml, hown, hts⟩ wq_583 rfl rfl ⟨Nat.le_of_ble_eq_true rfl, Nat.le_of_ble_eq_true rfl⟩ wq_all hP hK hS qw_Ai (q0 := 0) (by decide) (hgU_0 ca o _ _) rfl rfl hl.1 rfl (Nat.le_of_ble_eq_true rfl) dX10_aged_2 ⟨Nat.zero_le _, Nat.zero_le _⟩ (fun r1 H locs h1 hP hS _ _ => ?_)
  have b1 : (0 : Int) ≤ r1.toInt ∧ r1.toInt ≤ 1 := h1
  refine lv_if_eq (tgt := 29) hx hb dX10_aged_5 (by decide) (fun c2 => ?_) (fun c2 => ?_)
  · have t2 : r1.toInt = (0 : Int) := gl_eq c2
    refine lv_iconst (v := (-1)) hx hb dX10_aged_29 (by decide) ?_
    exact W.iret (v := (-1)) hx hb hr (fun t ht hW => ⟨⟨(-1), (z, y), rfl, ⟨trivial, J0⟩, by rw [ht]; exact hP, va_K.moved hW.alike hK⟩, hS.F ht⟩) hS.2.2 dX10_aged_30
  · have t2 : r1.toInt ≠ (0 : Int) := gl_ne c2
    refine lv_aload_n hx hb dX10_aged_8 rfl (lv_at hl 0 rfl) ?_
    refine qf_get hx hb hts inX10 hown hK hP (q0 := 0) (by decide) (hgU_0 ca o) rfl 0 (by decide) wq_353 (v := .ref (o + 1)) rfl dX10_aged_9 ?_
    refine lv_iload_n hx hb dX10_aged_12 rfl (lv_at hl 2 rfl) ?_
    refine qc_Vip (As := [.int a1]) (rest := []) (k0 := 1) (u_Told_hasPerson l D ca o b z y J0 a1) kc_yX9_hasPerson ⟨hx, hb, hml, hown, hts⟩ wq_411 rfl rfl ⟨Nat.le_of_ble_eq_true rfl, Nat.le_of_ble_eq_true rfl⟩ wq_all hP hK hS qw_Ai (q0 := 1) (by decide) (hgU_1 ca o _ _) rfl rfl hl.1 rfl (Nat.le_of_ble_eq_true rfl) dX10_aged_13 ⟨Nat.zero_le _, Nat.zero_le _⟩ (fun r3 H locs h3 hP hS _ _ => ?_)
    rcases h3 with ⟨hr3, hf3_0, hf3_1⟩ | ⟨hr3, hf3_0⟩
    · subst hr3
      have hg3_0 : pHas (z 1 5) a1 := hf3_0
      have hg3_1 : 0 ≤ a1.toInt ∧ a1.toInt ≤ 5 := hf3_1
      refine lv_if_eq (tgt := 29) hx hb dX10_aged_16 (by decide) (fun q => absurd q (by decide)) (fun _ => ?_)
      refine lv_iload_n hx hb dX10_aged_19 rfl (lv_at hl 3 rfl) ?_
      refine lv_if_lt (tgt := 29) hx hb dX10_aged_20 (by decide) (fun c4 => ?_) (fun c4 => ?_)
      · have t4 : a2.toInt < (0 : Int) := gl_lt c4
        refine lv_iconst (v := (-1)) hx hb dX10_aged_29 (by decide) ?_
        exact W.iret (v := (-1)) hx hb hr (fun t ht hW => ⟨⟨(-1), (z, y), rfl, ⟨trivial, J0⟩, by rw [ht]; exact hP, va_K.moved hW.alike hK⟩, hS.F ht⟩) hS.2.2 dX10_aged_30
      · have t4 : a2.toInt ≥ (0 : Int) := gl_nlt c4
        refine lv_iload_n hx hb dX10_aged_23 rfl (lv_at hl 3 rfl) ?_
        refine lv_bipush (v := 99) hx hb dX10_aged_24 (by decide) ?_
        refine lv_icmp_le (tgt := 31) hx hb dX10_aged_26 (by decide) (fun c5 => ?_) (fun c5 => ?_)
        · have t5 : a2.toInt ≤ (99 : Int) := gl_le c5
          refine lv_aload_n hx hb dX10_aged_31 rfl (lv_at hl 0 rfl) ?_
          refine lv_iload_n hx hb dX10_aged_32 rfl (lv_at hl 1 rfl) ?_
          refine lv_iload_n hx hb dX10_aged_33 rfl (lv_at hl 2 rfl) ?_
          refine qc_Vi2 (As := [.int a0, .int a1]) (rest := []) (k0 := 2) (u_countAges l D ca o b z y J0 a0 a1 ⟨by omega, by omega⟩) kc_yX10_countAges ⟨hx, hb, hml, hown, hts⟩ wq_657 rfl rfl ⟨Nat.le_of_ble_eq_true rfl, Nat.le_of_ble_eq_true rfl⟩ wq_all hP hK hS qw_Ai (q0 := 0) (by decide) (hgU_0 ca o _ _) rfl rfl hl.1 rfl (Nat.le_of_ble_eq_true rfl) dX10_aged_34 ⟨Nat.zero_le _, Nat.zero_le _⟩ (fun r6 z6 y6 H locs h6 hP hS _ _ => ?_)
          have J6 : qJU b z6 := h6.2
          refine lv_istore (lv' := [(4, .int r6), (0, .ref (o + 0)), (1, .int a0), (2, .int a1), (3, .int a2)]) hx hb dX10_aged_37 hl (by decide) rfl (fun ls hl => ?_)
          refine lv_iload hx hb dX10_aged_39 (lv_at hl 0 rfl) ?_
          refine lv_if_ge (tgt := 49) hx hb dX10_aged_41 (by decide) (fun c7 => ?_) (fun c7 => ?_)
          · have t7 : r6.toInt ≥ (0 : Int) := gl_le c7
            refine lv_aload_n hx hb dX10_aged_49 rfl (lv_at hl 1 rfl) ?_
            refine qf_get hx hb hts inX10 hown hK hP (q0 := 0) (by decide) (hgU_0 ca o) rfl 13 (by decide) wq_366 (v := .ref (o + 130)) rfl dX10_aged_50 ?_
            refine lv_iload_n hx hb dX10_aged_53 rfl (lv_at hl 4 rfl) ?_
            refine qa_iald hx hb hK hP (q0 := 130) (by decide) 0 (N := 100) (hgU_130 ca o) rfl (gi_in (by omega) (by omega)) dX10_aged_54 ?_
            refine lv_topi (fun x8 e8 => ?_)
            exact W.iret (v := x8) hx hb hr (fun t ht hW => ⟨⟨x8, (z6, y6), rfl, ⟨trivial, J6⟩, by rw [ht]; exact hP, va_K.moved hW.alike hK⟩, hS.F ht⟩) hS.2.2 dX10_aged_55
          · have t7 : r6.toInt < (0 : Int) := gl_nle c7
            refine lv_iload hx hb dX10_aged_44 (lv_at hl 0 rfl) ?_
            refine lv_goto (tgt := 55) hx hb dX10_aged_46 (by decide) ?_
            exact W.iret (v := r6) hx hb hr (fun t ht hW => ⟨⟨r6, (z6, y6), rfl, ⟨trivial, J6⟩, by rw [ht]; exact hP, va_K.moved hW.alike hK⟩, hS.F ht⟩) hS.2.2 dX10_aged_55
        · have t5 : a2.toInt > (99 : Int) := gl_nle c5
          refine lv_iconst (v := (-1)) hx hb dX10_aged_29 (by decide) ?_
          exact W.iret (v := (-1)) hx hb hr (fun t ht hW => ⟨⟨(-1), (z, y), rfl, ⟨trivial, J0⟩, by rw [ht]; exact hP, va_K.moved hW.alike hK⟩, hS.F ht⟩) hS.2.2 dX10_aged_30
    · subst hr3
      have hg3_0 : ¬ pHas (z 1 5) a1 := hf3_0
      refine lv_if_eq (tgt := 29) hx hb dX10_aged_16 (by decide) (fun _ => ?_) (fun q => absurd (by decide) q)
      refine lv_iconst (v := (-1)) hx hb dX10_aged_29 (by decide) ?_
      exact W.iret (v := (-1)) hx hb hr (fun t ht hW => ⟨⟨(-1), (z, y), rfl, ⟨trivial, J0⟩, by rw [ht]; exact hP, va_K.moved hW.alike hK⟩, hS.F ht⟩) hS.2.2 dX10_aged_30
set_option maxRecDepth 100000 in
set_option maxHeartbeats 8000000 in
theorem u_follows (l : Launch) (D : va_G) (ca : Nat → ClassId) (o : Nat) (b z : Nat → Nat → Int32) (y : Nat → Nat → Int64) (J0 : qJU b z) (a0 : Int32) (a1 : Int32)  : qM l yX10_follows cX10_follows 6 (some .int) 6 169 (qPre D vwCl (qT6 ca) o 132 (qG (GU ca o) z y) [.ref (o + 0), .int a0, .int a1]) (va_Qi (fun r u => True ∧ qJU b u.1) (qB D vwCl (qT6 ca) o 132 (fun u : qZ => qG (GU ca o) u.1 u.2)) (qw_A o 132)) (qw_A o 132) := by
  refine Met.ofW (cc := cX10_follows) (maxL := 6) (ret := (some .int)) (by decide) rfl ?_
  intro p e s m args below meth c s₁ B hml hv
  obtain ⟨rfl, hP, hK⟩ := hv
  have hx := B.exec
  have hb := B.bytes
  have hr := B.returns
  have hts0 := atoms_spec (ws := Cond.code yX10_follows cX10_follows 6 (some .int) :: qtbl) B.pre
  have hts : ∀ w ∈ qtbl, w.before _ s = true := fun w h => hts0 w (List.mem_cons_of_mem _ h)
  have hown : s.vm.findClass RX10 = some m.cls := findClass_of_methodNamed B.named
  have hlocks := B.notSynchronized
  have hS : va_S (qw_A o 132) s.heap s.heap [] := va_S.rf
  have hl := lv_entry ([.ref (o + 0), .int a0, .int a1]) (n := 6) (Nat.le_of_ble_eq_true rfl)
  rw [lg_entry_eq]
  generalize (lg_sl ([.ref (o + 0), .int a0, .int a1]) ++ List.replicate (6 - (lg_sl ([.ref (o + 0), .int a0, .int a1])).length) Slot.unset).toArray = ls at hl ⊢
  have hl : lv_has ls 6 [(0, .ref (o + 0)), (1, .int a0), (2, .int a1)] := hl
  refine lv_aload_n hx hb dX10_follows_0 rfl (lv_at hl 0 rfl) ?_
  refine lv_iload_n hx hb dX10_follows_1 rfl (lv_at hl 1 rfl) ?_
  refine qc_Vip (As := [.int a0]) (rest := []) (k0 := 1) (u_areRemarks l D ca o b z y J0 a0) kc_yX10_areRemarks ⟨hx, hb, hml, hown, hts⟩ wq_583 rfl rfl ⟨Nat.le_of_ble_eq_true rfl, Nat.le_of_ble_eq_true rfl⟩ wq_all hP hK hS qw_Ai (q0 := 0) (by decide) (hgU_0 ca o _ _) rfl rfl hl.1 rfl (Nat.le_of_ble_eq_true rfl) dX10_follows_2 ⟨Nat.zero_le _, Nat.zero_le _⟩ (fun r1 H locs h1 hP hS _ _ => ?_)
  have b1 : (0 : Int) ≤ r1.toInt ∧ r1.toInt ≤ 1 := h1
  refine lv_if_eq (tgt := 17) hx hb dX10_follows_5 (by decide) (fun c2 => ?_) (fun c2 => ?_)
  · have t2 : r1.toInt = (0 : Int) := gl_eq c2
    refine lv_iconst (v := (-1)) hx hb dX10_follows_17 (by decide) ?_
    exact W.iret (v := (-1)) hx hb hr (fun t ht hW => ⟨⟨(-1), (z, y), rfl, ⟨trivial, J0⟩, by rw [ht]; exact hP, va_K.moved hW.alike hK⟩, hS.F ht⟩) hS.2.2 dX10_follows_18
  · have t2 : r1.toInt ≠ (0 : Int) := gl_ne c2
    refine lv_iload_n hx hb dX10_follows_8 rfl (lv_at hl 2 rfl) ?_
    refine lv_if_lt (tgt := 17) hx hb dX10_follows_9 (by decide) (fun c3 => ?_) (fun c3 => ?_)
    · have t3 : a1.toInt < (0 : Int) := gl_lt c3
      refine lv_iconst (v := (-1)) hx hb dX10_follows_17 (by decide) ?_
      exact W.iret (v := (-1)) hx hb hr (fun t ht hW => ⟨⟨(-1), (z, y), rfl, ⟨trivial, J0⟩, by rw [ht]; exact hP, va_K.moved hW.alike hK⟩, hS.F ht⟩) hS.2.2 dX10_follows_18
    · have t3 : a1.toInt ≥ (0 : Int) := gl_nlt c3
      refine lv_iload_n hx hb dX10_follows_12 rfl (lv_at hl 2 rfl) ?_
      refine lv_iconst (v := 1) hx hb dX10_follows_13 (by decide) ?_
      refine lv_icmp_le (tgt := 19) hx hb dX10_follows_14 (by decide) (fun c4 => ?_) (fun c4 => ?_)
      · have t4 : a1.toInt ≤ (1 : Int) := gl_le c4
        refine lv_aload_n hx hb dX10_follows_19 rfl (lv_at hl 0 rfl) ?_
        refine qf_get hx hb hts inX10 hown hK hP (q0 := 0) (by decide) (hgU_0 ca o) rfl 7 (by decide) wq_360 (v := .ref (o + 108)) rfl dX10_follows_20 ?_
        refine lv_aload_n hx hb dX10_follows_23 rfl (lv_at hl 0 rfl) ?_
        refine qf_get hx hb hts inX10 hown hK hP (q0 := 0) (by decide) (hgU_0 ca o) rfl 6 (by decide) wq_359 (v := .ref (o + 104)) rfl dX10_follows_24 ?_
        refine qc_Vi2 (As := [.ref (o + 104)]) (rest := []) (k0 := 1) (u_Fits_isCounted l D ca o b z y J0) kc_yX3_isCounted ⟨hx, hb, hml, hown, hts⟩ wq_627 rfl rfl ⟨Nat.le_of_ble_eq_true rfl, Nat.le_of_ble_eq_true rfl⟩ wq_all hP hK hS qw_Ai (q0 := 108) (by decide) (hgU_108 ca o _ _) rfl rfl hl.1 rfl (Nat.le_of_ble_eq_true rfl) dX10_follows_27 ⟨Nat.zero_le _, Nat.zero_le _⟩ (fun r5 z5 y5 H locs h5 hP hS _ _ => ?_)
        have J5 : qJU b z5 := h5.2
        have b5 : (0 : Int) ≤ r5.toInt ∧ r5.toInt ≤ 1 := h5.1
        refine lv_if_ne (tgt := 36) hx hb dX10_follows_30 (by decide) (fun c6 => ?_) (fun c6 => ?_)
        · have t6 : r5.toInt ≠ (0 : Int) := gl_ne c6
          refine lv_iload_n hx hb dX10_follows_36 rfl (lv_at hl 2 rfl) ?_
          refine lv_if_ne (tgt := 51) hx hb dX10_follows_37 (by decide) (fun c7 => ?_) (fun c7 => ?_)
          · have t7 : a1.toInt ≠ (0 : Int) := gl_ne c7
            refine lv_iconst (v := 0) hx hb dX10_follows_51 (by decide) ?_
            refine lv_istore_n (lv' := [(3, .int 0), (0, .ref (o + 0)), (1, .int a0), (2, .int a1)]) hx hb dX10_follows_52 rfl hl (by decide) rfl (fun ls hl => ?_)
            refine lv_iconst (v := 0) hx hb dX10_follows_53 (by decide) ?_
            refine lv_istore (lv' := [(4, .int 0), (3, .int 0), (0, .ref (o + 0)), (1, .int a0), (2, .int a1)]) hx hb dX10_follows_54 hl (by decide) rfl (fun ls hl => ?_)
            refine lv_iconst (v := 0) hx hb dX10_follows_56 (by decide) ?_
            refine lv_istore (lv' := [(5, .int 0), (4, .int 0), (3, .int 0), (0, .ref (o + 0)), (1, .int a0), (2, .int a1)]) hx hb dX10_follows_57 hl (by decide) rfl (fun ls hl => ?_)
            have loop8 : ∀ (n : Nat) (w8_5 : Int32) (w8_4 : Int32), ((10 - w8_5.toInt : Int) < (n : Int)) → ((0 : Int) ≤ w8_5.toInt ∧ w8_5.toInt ≤ 10) → ∀ (H : Heap) (locs : List Loc), qw_P D vwCl o 132 (qG (GU ca o) z5 y5) H → va_S (qw_A o 132) s.heap H locs → ∀ (ls : Array Slot), lv_has ls 6 [(5, .int w8_5), (4, .int w8_4), (3, .int 0), (0, .ref (o + 0)), (1, .int a0), (2, .int a1)] → W p l e (headSpec (Cond.code yX10_follows cX10_follows 6 (some .int) :: qtbl) ({ frames := 6, cells := 0, slots := 0, locals := 169 })).room s m (([.ref (o + 0), .int a0, .int a1] : List Value).toArray) below meth c H locs 0 0 (MQ below (va_Qi (fun r u => True ∧ qJU b u.1) (qB D vwCl (qT6 ca) o 132 (fun u : qZ => qG (GU ca o) u.1 u.2)) (qw_A o 132)) (([.ref (o + 0), .int a0, .int a1] : List Value).toArray) s 0 0 (qw_A o 132)) (F0 m 59 ls []) := by
              intro n
              induction n with
              | zero => intro w8_5 w8_4 hb8 hv8_5; exfalso; omega
              | succ n8 ih8 =>
                intro w8_5 w8_4 hb8 hv8_5 H locs hP hS ls hl
                refine lv_iload hx hb dX10_follows_59 (lv_at hl 0 rfl) ?_
                refine lv_bipush (v := 10) hx hb dX10_follows_61 (by decide) ?_
                refine lv_icmp_ge (tgt := 110) hx hb dX10_follows_63 (by decide) (fun c9 => ?_) (fun c9 => ?_)
                · have t9 : w8_5.toInt ≥ (10 : Int) := gl_le c9
                  refine lv_iload hx hb dX10_follows_110 (lv_at hl 1 rfl) ?_
                  exact W.iret (v := w8_4) hx hb hr (fun t ht hW => ⟨⟨w8_4, (z5, y5), rfl, ⟨trivial, J5⟩, by rw [ht]; exact hP, va_K.moved hW.alike hK⟩, hS.F ht⟩) hS.2.2 dX10_follows_112
                · have t9 : w8_5.toInt < (10 : Int) := gl_nle c9
                  refine lv_aload_n hx hb dX10_follows_66 rfl (lv_at hl 3 rfl) ?_
                  refine qf_get hx hb hts inX10 hown hK hP (q0 := 0) (by decide) (hgU_0 ca o) rfl 0 (by decide) wq_353 (v := .ref (o + 1)) rfl dX10_follows_67 ?_
                  refine lv_iload hx hb dX10_follows_70 (lv_at hl 0 rfl) ?_
                  refine qc_Vip (As := [.int w8_5]) (rest := []) (k0 := 1) (u_Told_hasRemark l D ca o b z5 y5 J5 w8_5) kc_yX9_hasRemark ⟨hx, hb, hml, hown, hts⟩ wq_527 rfl rfl ⟨Nat.le_of_ble_eq_true rfl, Nat.le_of_ble_eq_true rfl⟩ wq_all hP hK hS qw_Ai (q0 := 1) (by decide) (hgU_1 ca o _ _) rfl rfl hl.1 rfl (Nat.le_of_ble_eq_true rfl) dX10_follows_72 ⟨Nat.zero_le _, Nat.zero_le _⟩ (fun r10 H locs h10 hP hS _ _ => ?_)
                  rcases h10 with ⟨hr10, hf10_0⟩ | hr10
                  · subst hr10
                    have hg10_0 : 0 ≤ w8_5.toInt ∧ w8_5.toInt ≤ 9 := hf10_0
                    refine lv_if_eq (tgt := 104) hx hb dX10_follows_75 (by decide) (fun q => absurd q (by decide)) (fun _ => ?_)
                    refine lv_aload_n hx hb dX10_follows_78 rfl (lv_at hl 3 rfl) ?_
                    refine qf_get hx hb hts inX10 hown hK hP (q0 := 0) (by decide) (hgU_0 ca o) rfl 7 (by decide) wq_360 (v := .ref (o + 108)) rfl dX10_follows_79 ?_
                    refine lv_iload_n hx hb dX10_follows_82 rfl (lv_at hl 4 rfl) ?_
                    refine lv_iconst (v := 1) hx hb dX10_follows_83 (by decide) ?_
                    refine lv_iload hx hb dX10_follows_84 (lv_at hl 0 rfl) ?_
                    refine lv_ishl hx hb dX10_follows_86 ?_
                    refine lv_topi (fun x11 e11 => ?_)
                    have t11 : 1 ≤ x11.toInt ∧ x11.toInt ≤ 512 := ga_shl 9 512 e11 (by decide) (by decide) (by omega) (by omega)
                    refine lv_ior hx hb dX10_follows_87 ?_
                    refine lv_topi (fun x12 e12 => ?_)
                    refine qc_Vip (As := [.int x12]) (rest := []) (k0 := 1) (u_Fits_of l D ca o b z5 y5 J5 x12) kc_yX3_of ⟨hx, hb, hml, hown, hts⟩ wq_644 rfl rfl ⟨Nat.le_of_ble_eq_true rfl, Nat.le_of_ble_eq_true rfl⟩ wq_all hP hK hS qw_Ai (q0 := 108) (by decide) (hgU_108 ca o _ _) rfl rfl hl.1 rfl (Nat.le_of_ble_eq_true rfl) dX10_follows_88 ⟨Nat.zero_le _, Nat.zero_le _⟩ (fun r13 H locs h13 hP hS _ _ => ?_)
                    refine lv_iload_n hx hb dX10_follows_91 rfl (lv_at hl 2 rfl) ?_
                    refine lv_icmp_ne (tgt := 104) hx hb dX10_follows_92 (by decide) (fun c14 => ?_) (fun c14 => ?_)
                    · have t14 : r13.toInt ≠ (0 : Int) := gl_ne c14
                      obtain ⟨x15, e15⟩ : ∃ t : Int32, t = w8_5 + 1 := ⟨_, rfl⟩
                      refine lv_iinc (v := x15) (lv' := [(5, .int x15), (4, .int w8_4), (3, .int 0), (0, .ref (o + 0)), (1, .int a0), (2, .int a1)]) hx hb dX10_follows_104 hl (k := 0) rfl (by rw [e15]; rfl) (by decide) rfl (fun ls hl => ?_)
                      have t15 : x15.toInt = w8_5.toInt + (1 : Int) := ga_add e15 rfl rfl (by omega) (by omega)
                      refine lv_goto (tgt := 59) hx hb dX10_follows_107 (by decide) ?_
                      exact ih8 x15 w8_4 (show (10 - x15.toInt : Int) < (n8 : Int) from by omega) ⟨by omega, by omega⟩ _ _ hP hS _ (lv_sub hl [0, 1, 2, 3, 4, 5] rfl)
                    · have t14 : r13.toInt = (0 : Int) := gl_eq c14
                      refine lv_iload hx hb dX10_follows_95 (lv_at hl 1 rfl) ?_
                      refine lv_iconst (v := 1) hx hb dX10_follows_97 (by decide) ?_
                      refine lv_iload hx hb dX10_follows_98 (lv_at hl 0 rfl) ?_
                      refine lv_ishl hx hb dX10_follows_100 ?_
                      refine lv_topi (fun x16 e16 => ?_)
                      have t16 : x16.toInt = x11.toInt := congrArg Int32.toInt (e16.trans e11.symm)
                      refine lv_ior hx hb dX10_follows_101 ?_
                      refine lv_topi (fun x17 e17 => ?_)
                      refine lv_istore (lv' := [(4, .int x17), (5, .int w8_5), (3, .int 0), (0, .ref (o + 0)), (1, .int a0), (2, .int a1)]) hx hb dX10_follows_102 hl (by decide) rfl (fun ls hl => ?_)
                      obtain ⟨x18, e18⟩ : ∃ t : Int32, t = w8_5 + 1 := ⟨_, rfl⟩
                      refine lv_iinc (v := x18) (lv' := [(5, .int x18), (4, .int x17), (3, .int 0), (0, .ref (o + 0)), (1, .int a0), (2, .int a1)]) hx hb dX10_follows_104 hl (k := 1) rfl (by rw [e18]; rfl) (by decide) rfl (fun ls hl => ?_)
                      have t18 : x18.toInt = w8_5.toInt + (1 : Int) := ga_add e18 rfl rfl (by omega) (by omega)
                      refine lv_goto (tgt := 59) hx hb dX10_follows_107 (by decide) ?_
                      exact ih8 x18 x17 (show (10 - x18.toInt : Int) < (n8 : Int) from by omega) ⟨by omega, by omega⟩ _ _ hP hS _ (lv_sub hl [0, 1, 2, 3, 4, 5] rfl)
                  · subst hr10
                    refine lv_if_eq (tgt := 104) hx hb dX10_follows_75 (by decide) (fun _ => ?_) (fun q => absurd (by decide) q)
                    obtain ⟨x19, e19⟩ : ∃ t : Int32, t = w8_5 + 1 := ⟨_, rfl⟩
                    refine lv_iinc (v := x19) (lv' := [(5, .int x19), (4, .int w8_4), (3, .int 0), (0, .ref (o + 0)), (1, .int a0), (2, .int a1)]) hx hb dX10_follows_104 hl (k := 0) rfl (by rw [e19]; rfl) (by decide) rfl (fun ls hl => ?_)
                    have t19 : x19.toInt = w8_5.toInt + (1 : Int) := ga_add e19 rfl rfl (by omega) (by omega)
                    refine lv_goto (tgt := 59) hx hb dX10_follows_107 (by decide) ?_
                    exact ih8 x19 w8_4 (show (10 - x19.toInt : Int) < (n8 : Int) from by omega) ⟨by omega, by omega⟩ _ _ hP hS _ (lv_sub hl [0, 1, 2, 3, 4, 5] rfl)
            exact loop8 11 0 0 (show (10 - (0 : Int) : Int) < ((11 : Nat) : Int) from by omega) ⟨by decide, by decide⟩ _ _ hP hS _ (lv_sub hl [0, 1, 2, 3, 4, 5] rfl)
          · have t7 : a1.toInt = (0 : Int) := gl_eq c7
            refine lv_aload_n hx hb dX10_follows_40 rfl (lv_at hl 0 rfl) ?_
            refine qf_get hx hb hts inX10 hown hK hP (q0 := 0) (by decide) (hgU_0 ca o) rfl 7 (by decide) wq_360 (v := .ref (o + 108)) rfl dX10_follows_41 ?_
            refine lv_iload_n hx hb dX10_follows_44 rfl (lv_at hl 1 rfl) ?_
            refine qc_Vip (As := [.int a0]) (rest := []) (k0 := 1) (u_Fits_of l D ca o b z5 y5 J5 a0) kc_yX3_of ⟨hx, hb, hml, hown, hts⟩ wq_644 rfl rfl ⟨Nat.le_of_ble_eq_true rfl, Nat.le_of_ble_eq_true rfl⟩ wq_all hP hK hS qw_Ai (q0 := 108) (by decide) (hgU_108 ca o _ _) rfl rfl hl.1 rfl (Nat.le_of_ble_eq_true rfl) dX10_follows_45 ⟨Nat.zero_le _, Nat.zero_le _⟩ (fun r20 H locs h20 hP hS _ _ => ?_)
            refine lv_goto (tgt := 52) hx hb dX10_follows_48 (by decide) ?_
            refine lv_istore_n (lv' := [(3, .int r20), (0, .ref (o + 0)), (1, .int a0), (2, .int a1)]) hx hb dX10_follows_52 rfl hl (by decide) rfl (fun ls hl => ?_)
            refine lv_iconst (v := 0) hx hb dX10_follows_53 (by decide) ?_
            refine lv_istore (lv' := [(4, .int 0), (3, .int r20), (0, .ref (o + 0)), (1, .int a0), (2, .int a1)]) hx hb dX10_follows_54 hl (by decide) rfl (fun ls hl => ?_)
            refine lv_iconst (v := 0) hx hb dX10_follows_56 (by decide) ?_
            refine lv_istore (lv' := [(5, .int 0), (4, .int 0), (3, .int r20), (0, .ref (o + 0)), (1, .int a0), (2, .int a1)]) hx hb dX10_follows_57 hl (by decide) rfl (fun ls hl => ?_)
            have loop21 : ∀ (n : Nat) (w21_5 : Int32) (w21_4 : Int32), ((10 - w21_5.toInt : Int) < (n : Int)) → ((0 : Int) ≤ w21_5.toInt ∧ w21_5.toInt ≤ 10) → ∀ (H : Heap) (locs : List Loc), qw_P D vwCl o 132 (qG (GU ca o) z5 y5) H → va_S (qw_A o 132) s.heap H locs → ∀ (ls : Array Slot), lv_has ls 6 [(5, .int w21_5), (4, .int w21_4), (3, .int r20), (0, .ref (o + 0)), (1, .int a0), (2, .int a1)] → W p l e (headSpec (Cond.code yX10_follows cX10_follows 6 (some .int) :: qtbl) ({ frames := 6, cells := 0, slots := 0, locals := 169 })).room s m (([.ref (o + 0), .int a0, .int a1] : List Value).toArray) below meth c H locs 0 0 (MQ below (va_Qi (fun r u => True ∧ qJU b u.1) (qB D vwCl (qT6 ca) o 132 (fun u : qZ => qG (GU ca o) u.1 u.2)) (qw_A o 132)) (([.ref (o + 0), .int a0, .int a1] : List Value).toArray) s 0 0 (qw_A o 132)) (F0 m 59 ls []) := by
              intro n
              induction n with
              | zero => intro w21_5 w21_4 hb21 hv21_5; exfalso; omega
              | succ n21 ih21 =>
                intro w21_5 w21_4 hb21 hv21_5 H locs hP hS ls hl
                refine lv_iload hx hb dX10_follows_59 (lv_at hl 0 rfl) ?_
                refine lv_bipush (v := 10) hx hb dX10_follows_61 (by decide) ?_
                refine lv_icmp_ge (tgt := 110) hx hb dX10_follows_63 (by decide) (fun c22 => ?_) (fun c22 => ?_)
                · have t22 : w21_5.toInt ≥ (10 : Int) := gl_le c22
                  refine lv_iload hx hb dX10_follows_110 (lv_at hl 1 rfl) ?_
                  exact W.iret (v := w21_4) hx hb hr (fun t ht hW => ⟨⟨w21_4, (z5, y5), rfl, ⟨trivial, J5⟩, by rw [ht]; exact hP, va_K.moved hW.alike hK⟩, hS.F ht⟩) hS.2.2 dX10_follows_112
                · have t22 : w21_5.toInt < (10 : Int) := gl_nle c22
                  refine lv_aload_n hx hb dX10_follows_66 rfl (lv_at hl 3 rfl) ?_
                  refine qf_get hx hb hts inX10 hown hK hP (q0 := 0) (by decide) (hgU_0 ca o) rfl 0 (by decide) wq_353 (v := .ref (o + 1)) rfl dX10_follows_67 ?_
                  refine lv_iload hx hb dX10_follows_70 (lv_at hl 0 rfl) ?_
                  refine qc_Vip (As := [.int w21_5]) (rest := []) (k0 := 1) (u_Told_hasRemark l D ca o b z5 y5 J5 w21_5) kc_yX9_hasRemark ⟨hx, hb, hml, hown, hts⟩ wq_527 rfl rfl ⟨Nat.le_of_ble_eq_true rfl, Nat.le_of_ble_eq_true rfl⟩ wq_all hP hK hS qw_Ai (q0 := 1) (by decide) (hgU_1 ca o _ _) rfl rfl hl.1 rfl (Nat.le_of_ble_eq_true rfl) dX10_follows_72 ⟨Nat.zero_le _, Nat.zero_le _⟩ (fun r23 H locs h23 hP hS _ _ => ?_)
                  rcases h23 with ⟨hr23, hf23_0⟩ | hr23
                  · subst hr23
                    have hg23_0 : 0 ≤ w21_5.toInt ∧ w21_5.toInt ≤ 9 := hf23_0
                    refine lv_if_eq (tgt := 104) hx hb dX10_follows_75 (by decide) (fun q => absurd q (by decide)) (fun _ => ?_)
                    refine lv_aload_n hx hb dX10_follows_78 rfl (lv_at hl 3 rfl) ?_
                    refine qf_get hx hb hts inX10 hown hK hP (q0 := 0) (by decide) (hgU_0 ca o) rfl 7 (by decide) wq_360 (v := .ref (o + 108)) rfl dX10_follows_79 ?_
                    refine lv_iload_n hx hb dX10_follows_82 rfl (lv_at hl 4 rfl) ?_
                    refine lv_iconst (v := 1) hx hb dX10_follows_83 (by decide) ?_
                    refine lv_iload hx hb dX10_follows_84 (lv_at hl 0 rfl) ?_
                    refine lv_ishl hx hb dX10_follows_86 ?_
                    refine lv_topi (fun x24 e24 => ?_)
                    have t24 : 1 ≤ x24.toInt ∧ x24.toInt ≤ 512 := ga_shl 9 512 e24 (by decide) (by decide) (by omega) (by omega)
                    refine lv_ior hx hb dX10_follows_87 ?_
                    refine lv_topi (fun x25 e25 => ?_)
                    refine qc_Vip (As := [.int x25]) (rest := []) (k0 := 1) (u_Fits_of l D ca o b z5 y5 J5 x25) kc_yX3_of ⟨hx, hb, hml, hown, hts⟩ wq_644 rfl rfl ⟨Nat.le_of_ble_eq_true rfl, Nat.le_of_ble_eq_true rfl⟩ wq_all hP hK hS qw_Ai (q0 := 108) (by decide) (hgU_108 ca o _ _) rfl rfl hl.1 rfl (Nat.le_of_ble_eq_true rfl) dX10_follows_88 ⟨Nat.zero_le _, Nat.zero_le _⟩ (fun r26 H locs h26 hP hS _ _ => ?_)
                    refine lv_iload_n hx hb dX10_follows_91 rfl (lv_at hl 2 rfl) ?_
                    refine lv_icmp_ne (tgt := 104) hx hb dX10_follows_92 (by decide) (fun c27 => ?_) (fun c27 => ?_)
                    · have t27 : r26.toInt ≠ r20.toInt := gl_ne c27
                      obtain ⟨x28, e28⟩ : ∃ t : Int32, t = w21_5 + 1 := ⟨_, rfl⟩
                      refine lv_iinc (v := x28) (lv' := [(5, .int x28), (4, .int w21_4), (3, .int r20), (0, .ref (o + 0)), (1, .int a0), (2, .int a1)]) hx hb dX10_follows_104 hl (k := 0) rfl (by rw [e28]; rfl) (by decide) rfl (fun ls hl => ?_)
                      have t28 : x28.toInt = w21_5.toInt + (1 : Int) := ga_add e28 rfl rfl (by omega) (by omega)
                      refine lv_goto (tgt := 59) hx hb dX10_follows_107 (by decide) ?_
                      exact ih21 x28 w21_4 (show (10 - x28.toInt : Int) < (n21 : Int) from by omega) ⟨by omega, by omega⟩ _ _ hP hS _ (lv_sub hl [0, 1, 2, 3, 4, 5] rfl)
                    · have t27 : r26.toInt = r20.toInt := gl_eq c27
                      refine lv_iload hx hb dX10_follows_95 (lv_at hl 1 rfl) ?_
                      refine lv_iconst (v := 1) hx hb dX10_follows_97 (by decide) ?_
                      refine lv_iload hx hb dX10_follows_98 (lv_at hl 0 rfl) ?_
                      refine lv_ishl hx hb dX10_follows_100 ?_
                      refine lv_topi (fun x29 e29 => ?_)
                      have t29 : x29.toInt = x24.toInt := congrArg Int32.toInt (e29.trans e24.symm)
                      refine lv_ior hx hb dX10_follows_101 ?_
                      refine lv_topi (fun x30 e30 => ?_)
                      refine lv_istore (lv' := [(4, .int x30), (5, .int w21_5), (3, .int r20), (0, .ref (o + 0)), (1, .int a0), (2, .int a1)]) hx hb dX10_follows_102 hl (by decide) rfl (fun ls hl => ?_)
                      obtain ⟨x31, e31⟩ : ∃ t : Int32, t = w21_5 + 1 := ⟨_, rfl⟩
                      refine lv_iinc (v := x31) (lv' := [(5, .int x31), (4, .int x30), (3, .int r20), (0, .ref (o + 0)), (1, .int a0), (2, .int a1)]) hx hb dX10_follows_104 hl (k := 1) rfl (by rw [e31]; rfl) (by decide) rfl (fun ls hl => ?_)
                      have t31 : x31.toInt = w21_5.toInt + (1 : Int) := ga_add e31 rfl rfl (by omega) (by omega)
                      refine lv_goto (tgt := 59) hx hb dX10_follows_107 (by decide) ?_
                      exact ih21 x31 x30 (show (10 - x31.toInt : Int) < (n21 : Int) from by omega) ⟨by omega, by omega⟩ _ _ hP hS _ (lv_sub hl [0, 1, 2, 3, 4, 5] rfl)
                  · subst hr23
                    refine lv_if_eq (tgt := 104) hx hb dX10_follows_75 (by decide) (fun _ => ?_) (fun q => absurd (by decide) q)
                    obtain ⟨x32, e32⟩ : ∃ t : Int32, t = w21_5 + 1 := ⟨_, rfl⟩
                    refine lv_iinc (v := x32) (lv' := [(5, .int x32), (4, .int w21_4), (3, .int r20), (0, .ref (o + 0)), (1, .int a0), (2, .int a1)]) hx hb dX10_follows_104 hl (k := 0) rfl (by rw [e32]; rfl) (by decide) rfl (fun ls hl => ?_)
                    have t32 : x32.toInt = w21_5.toInt + (1 : Int) := ga_add e32 rfl rfl (by omega) (by omega)
                    refine lv_goto (tgt := 59) hx hb dX10_follows_107 (by decide) ?_
                    exact ih21 x32 w21_4 (show (10 - x32.toInt : Int) < (n21 : Int) from by omega) ⟨by omega, by omega⟩ _ _ hP hS _ (lv_sub hl [0, 1, 2, 3, 4, 5] rfl)
            exact loop21 11 0 0 (show (10 - (0 : Int) : Int) < ((11 : Nat) : Int) from by omega) ⟨by decide, by decide⟩ _ _ hP hS _ (lv_sub hl [0, 1, 2, 3, 4, 5] rfl)
        · have t6 : r5.toInt = (0 : Int) := gl_eq c6
          refine lv_bipush (v := (-3)) hx hb dX10_follows_33 (by decide) ?_
          exact W.iret (v := (-3)) hx hb hr (fun t ht hW => ⟨⟨(-3), (z5, y5), rfl, ⟨trivial, J5⟩, by rw [ht]; exact hP, va_K.moved hW.alike hK⟩, hS.F ht⟩) hS.2.2 dX10_follows_35
      · have t4 : a1.toInt > (1 : Int) := gl_nle c4
        refine lv_iconst (v := (-1)) hx hb dX10_follows_17 (by decide) ?_
        exact W.iret (v := (-1)) hx hb hr (fun t ht hW => ⟨⟨(-1), (z, y), rfl, ⟨trivial, J0⟩, by rw [ht]; exact hP, va_K.moved hW.alike hK⟩, hS.F ht⟩) hS.2.2 dX10_follows_18
set_option maxRecDepth 100000 in
set_option maxHeartbeats 8000000 in
theorem u_isFewer (l : Launch) (D : va_G) (ca : Nat → ClassId) (o : Nat) (b z : Nat → Nat → Int32) (y : Nat → Nat → Int64) (J0 : qJU b z) (a0 : Int32) (a1 : Int32)  : qM l yX10_isFewer cX10_isFewer 4 (some .boolean) 2 80 (qPre D vwCl (qT6 ca) o 132 (qG (GU ca o) z y) [.int a0, .int a1]) (va_Qi (fun r (_ : Unit) => ((0 : Int) ≤ r.toInt ∧ r.toInt ≤ 1)) (qB D vwCl (qT6 ca) o 132 (fun _ : Unit => qG (GU ca o) z y)) (qw_A o 132)) (qw_A o 132) := by
  refine Met.ofW (cc := cX10_isFewer) (maxL := 4) (ret := (some .boolean)) (by decide) rfl ?_
  intro p e s m args below meth c s₁ B hml hv
  obtain ⟨rfl, hP, hK⟩ := hv
  have hx := B.exec
  have hb := B.bytes
  have hr := B.returns
  have hts0 := atoms_spec (ws := Cond.code yX10_isFewer cX10_isFewer 4 (some .boolean) :: qtbl) B.pre
  have hts : ∀ w ∈ qtbl, w.before _ s = true := fun w h => hts0 w (List.mem_cons_of_mem _ h)
  have hown : s.vm.findClass RX10 = some m.cls := findClass_of_methodNamed B.named
  have hlocks := B.notSynchronized
  have hS : va_S (qw_A o 132) s.heap s.heap [] := va_S.rf
  have hl := lv_entry ([.int a0, .int a1]) (n := 4) (Nat.le_of_ble_eq_true rfl)
  rw [lg_entry_eq]
  generalize (lg_sl ([.int a0, .int a1]) ++ List.replicate (4 - (lg_sl ([.int a0, .int a1])).length) Slot.unset).toArray = ls at hl ⊢
  have hl : lv_has ls 4 [(0, .int a0), (1, .int a1)] := hl
  refine lv_iload_n hx hb dX10_isFewer_0 rfl (lv_at hl 0 rfl) ?_
  refine qc_Sip (As := [.int a0]) (rest := []) (k0 := 1) (u_Integer_bitCount l D ca o b z y J0 a0) kc_yJ6_bitCount_0f7a4 ⟨hx, hb, hml, hown, hts⟩ wq_513 rfl rfl ⟨Nat.le_of_ble_eq_true rfl, Nat.le_of_ble_eq_true rfl⟩ wq_all hP hK hS qw_Ai rfl hl.1 rfl (Nat.le_of_ble_eq_true rfl) dX10_isFewer_1 ⟨Nat.zero_le _, Nat.zero_le _⟩ (fun r1 H locs h1 hP hS _ _ => ?_)
  have b1 : (0 : Int) ≤ r1.toInt ∧ r1.toInt ≤ 63 := h1
  refine lv_istore_n (lv' := [(2, .int r1), (0, .int a0), (1, .int a1)]) hx hb dX10_isFewer_4 rfl hl (by decide) rfl (fun ls hl => ?_)
  refine lv_iload_n hx hb dX10_isFewer_5 rfl (lv_at hl 2 rfl) ?_
  refine qc_Sip (As := [.int a1]) (rest := []) (k0 := 1) (u_Integer_bitCount l D ca o b z y J0 a1) kc_yJ6_bitCount_0f7a4 ⟨hx, hb, hml, hown, hts⟩ wq_513 rfl rfl ⟨Nat.le_of_ble_eq_true rfl, Nat.le_of_ble_eq_true rfl⟩ wq_all hP hK hS qw_Ai rfl hl.1 rfl (Nat.le_of_ble_eq_true rfl) dX10_isFewer_6 ⟨Nat.zero_le _, Nat.zero_le _⟩ (fun r2 H locs h2 hP hS _ _ => ?_)
  have b2 : (0 : Int) ≤ r2.toInt ∧ r2.toInt ≤ 63 := h2
  refine lv_istore_n (lv' := [(3, .int r2), (2, .int r1), (0, .int a0), (1, .int a1)]) hx hb dX10_isFewer_9 rfl hl (by decide) rfl (fun ls hl => ?_)
  refine lv_iload_n hx hb dX10_isFewer_10 rfl (lv_at hl 1 rfl) ?_
  refine lv_iload_n hx hb dX10_isFewer_11 rfl (lv_at hl 0 rfl) ?_
  refine lv_icmp_lt (tgt := 25) hx hb dX10_isFewer_12 (by decide) (fun c3 => ?_) (fun c3 => ?_)
  · have t3 : r1.toInt < r2.toInt := gl_lt c3
    refine lv_iconst (v := 1) hx hb dX10_isFewer_25 (by decide) ?_
    refine lv_goto (tgt := 30) hx hb dX10_isFewer_26 (by decide) ?_
    exact W.zret (v := 1) (ty := .boolean) hx hb hr rfl (fun t ht hW => ⟨⟨1, (), rfl, ⟨by decide, by decide⟩, by rw [ht]; exact hP, va_K.moved hW.alike hK⟩, hS.F ht⟩) hS.2.2 dX10_isFewer_30
  · have t3 : r1.toInt ≥ r2.toInt := gl_nlt c3
    refine lv_iload_n hx hb dX10_isFewer_15 rfl (lv_at hl 1 rfl) ?_
    refine lv_iload_n hx hb dX10_isFewer_16 rfl (lv_at hl 0 rfl) ?_
    refine lv_icmp_ne (tgt := 29) hx hb dX10_isFewer_17 (by decide) (fun c4 => ?_) (fun c4 => ?_)
    · have t4 : r1.toInt ≠ r2.toInt := gl_ne c4
      refine lv_iconst (v := 0) hx hb dX10_isFewer_29 (by decide) ?_
      exact W.zret (v := 0) (ty := .boolean) hx hb hr rfl (fun t ht hW => ⟨⟨0, (), rfl, ⟨by decide, by decide⟩, by rw [ht]; exact hP, va_K.moved hW.alike hK⟩, hS.F ht⟩) hS.2.2 dX10_isFewer_30
    · have t4 : r1.toInt = r2.toInt := gl_eq c4
      refine lv_iload_n hx hb dX10_isFewer_20 rfl (lv_at hl 2 rfl) ?_
      refine lv_iload_n hx hb dX10_isFewer_21 rfl (lv_at hl 3 rfl) ?_
      refine lv_icmp_ge (tgt := 29) hx hb dX10_isFewer_22 (by decide) (fun c5 => ?_) (fun c5 => ?_)
      · have t5 : a0.toInt ≥ a1.toInt := gl_le c5
        refine lv_iconst (v := 0) hx hb dX10_isFewer_29 (by decide) ?_
        exact W.zret (v := 0) (ty := .boolean) hx hb hr rfl (fun t ht hW => ⟨⟨0, (), rfl, ⟨by decide, by decide⟩, by rw [ht]; exact hP, va_K.moved hW.alike hK⟩, hS.F ht⟩) hS.2.2 dX10_isFewer_30
      · have t5 : a0.toInt < a1.toInt := gl_nle c5
        refine lv_iconst (v := 1) hx hb dX10_isFewer_25 (by decide) ?_
        refine lv_goto (tgt := 30) hx hb dX10_isFewer_26 (by decide) ?_
        exact W.zret (v := 1) (ty := .boolean) hx hb hr rfl (fun t ht hW => ⟨⟨1, (), rfl, ⟨by decide, by decide⟩, by rw [ht]; exact hP, va_K.moved hW.alike hK⟩, hS.F ht⟩) hS.2.2 dX10_isFewer_30
set_option maxRecDepth 100000 in
set_option maxHeartbeats 8000000 in
theorem u_clash (l : Launch) (D : va_G) (ca : Nat → ClassId) (o : Nat) (b z : Nat → Nat → Int32) (y : Nat → Nat → Int64) (J0 : qJU b z) (a0 : Int32) (a1 : Int32)  : qM l yX10_clash cX10_clash 5 (some .int) 6 169 (qPre D vwCl (qT6 ca) o 132 (qG (GU ca o) z y) [.ref (o + 0), .int a0, .int a1]) (va_Qi (fun r u => True ∧ qJU b u.1) (qB D vwCl (qT6 ca) o 132 (fun u : qZ => qG (GU ca o) u.1 u.2)) (qw_A o 132)) (qw_A o 132) := by
  refine Met.ofW (cc := cX10_clash) (maxL := 5) (ret := (some .int)) (by decide) rfl ?_
  intro p e s m args below meth c s₁ B hml hv
  obtain ⟨rfl, hP, hK⟩ := hv
  have hx := B.exec
  have hb := B.bytes
  have hr := B.returns
  have hts0 := atoms_spec (ws := Cond.code yX10_clash cX10_clash 5 (some .int) :: qtbl) B.pre
  have hts : ∀ w ∈ qtbl, w.before _ s = true := fun w h => hts0 w (List.mem_cons_of_mem _ h)
  have hown : s.vm.findClass RX10 = some m.cls := findClass_of_methodNamed B.named
  have hlocks := B.notSynchronized
  have hS : va_S (qw_A o 132) s.heap s.heap [] := va_S.rf
  have hl := lv_entry ([.ref (o + 0), .int a0, .int a1]) (n := 5) (Nat.le_of_ble_eq_true rfl)
  rw [lg_entry_eq]
  generalize (lg_sl ([.ref (o + 0), .int a0, .int a1]) ++ List.replicate (5 - (lg_sl ([.ref (o + 0), .int a0, .int a1])).length) Slot.unset).toArray = ls at hl ⊢
  have hl : lv_has ls 5 [(0, .ref (o + 0)), (1, .int a0), (2, .int a1)] := hl
  refine lv_aload_n hx hb dX10_clash_0 rfl (lv_at hl 0 rfl) ?_
  refine lv_iload_n hx hb dX10_clash_1 rfl (lv_at hl 1 rfl) ?_
  refine qc_Vip (As := [.int a0]) (rest := []) (k0 := 1) (u_areRemarks l D ca o b z y J0 a0) kc_yX10_areRemarks ⟨hx, hb, hml, hown, hts⟩ wq_583 rfl rfl ⟨Nat.le_of_ble_eq_true rfl, Nat.le_of_ble_eq_true rfl⟩ wq_all hP hK hS qw_Ai (q0 := 0) (by decide) (hgU_0 ca o _ _) rfl rfl hl.1 rfl (Nat.le_of_ble_eq_true rfl) dX10_clash_2 ⟨Nat.zero_le _, Nat.zero_le _⟩ (fun r1 H locs h1 hP hS _ _ => ?_)
  have b1 : (0 : Int) ≤ r1.toInt ∧ r1.toInt ≤ 1 := h1
  refine lv_if_eq (tgt := 17) hx hb dX10_clash_5 (by decide) (fun c2 => ?_) (fun c2 => ?_)
  · have t2 : r1.toInt = (0 : Int) := gl_eq c2
    refine lv_iconst (v := (-1)) hx hb dX10_clash_17 (by decide) ?_
    exact W.iret (v := (-1)) hx hb hr (fun t ht hW => ⟨⟨(-1), (z, y), rfl, ⟨trivial, J0⟩, by rw [ht]; exact hP, va_K.moved hW.alike hK⟩, hS.F ht⟩) hS.2.2 dX10_clash_18
  · have t2 : r1.toInt ≠ (0 : Int) := gl_ne c2
    refine lv_iload_n hx hb dX10_clash_8 rfl (lv_at hl 2 rfl) ?_
    refine lv_if_lt (tgt := 17) hx hb dX10_clash_9 (by decide) (fun c3 => ?_) (fun c3 => ?_)
    · have t3 : a1.toInt < (0 : Int) := gl_lt c3
      refine lv_iconst (v := (-1)) hx hb dX10_clash_17 (by decide) ?_
      exact W.iret (v := (-1)) hx hb hr (fun t ht hW => ⟨⟨(-1), (z, y), rfl, ⟨trivial, J0⟩, by rw [ht]; exact hP, va_K.moved hW.alike hK⟩, hS.F ht⟩) hS.2.2 dX10_clash_18
    · have t3 : a1.toInt ≥ (0 : Int) := gl_nlt c3
      refine lv_iload_n hx hb dX10_clash_12 rfl (lv_at hl 2 rfl) ?_
      refine lv_iconst (v := 1) hx hb dX10_clash_13 (by decide) ?_
      refine lv_icmp_le (tgt := 19) hx hb dX10_clash_14 (by decide) (fun c4 => ?_) (fun c4 => ?_)
      · have t4 : a1.toInt ≤ (1 : Int) := gl_le c4
        refine lv_aload_n hx hb dX10_clash_19 rfl (lv_at hl 0 rfl) ?_
        refine qf_get hx hb hts inX10 hown hK hP (q0 := 0) (by decide) (hgU_0 ca o) rfl 7 (by decide) wq_360 (v := .ref (o + 108)) rfl dX10_clash_20 ?_
        refine lv_aload_n hx hb dX10_clash_23 rfl (lv_at hl 0 rfl) ?_
        refine qf_get hx hb hts inX10 hown hK hP (q0 := 0) (by decide) (hgU_0 ca o) rfl 6 (by decide) wq_359 (v := .ref (o + 104)) rfl dX10_clash_24 ?_
        refine qc_Vi2 (As := [.ref (o + 104)]) (rest := []) (k0 := 1) (u_Fits_isCounted l D ca o b z y J0) kc_yX3_isCounted ⟨hx, hb, hml, hown, hts⟩ wq_627 rfl rfl ⟨Nat.le_of_ble_eq_true rfl, Nat.le_of_ble_eq_true rfl⟩ wq_all hP hK hS qw_Ai (q0 := 108) (by decide) (hgU_108 ca o _ _) rfl rfl hl.1 rfl (Nat.le_of_ble_eq_true rfl) dX10_clash_27 ⟨Nat.zero_le _, Nat.zero_le _⟩ (fun r5 z5 y5 H locs h5 hP hS _ _ => ?_)
        have J5 : qJU b z5 := h5.2
        have b5 : (0 : Int) ≤ r5.toInt ∧ r5.toInt ≤ 1 := h5.1
        refine lv_if_ne (tgt := 36) hx hb dX10_clash_30 (by decide) (fun c6 => ?_) (fun c6 => ?_)
        · have t6 : r5.toInt ≠ (0 : Int) := gl_ne c6
          refine lv_aload_n hx hb dX10_clash_36 rfl (lv_at hl 0 rfl) ?_
          refine qf_get hx hb hts inX10 hown hK hP (q0 := 0) (by decide) (hgU_0 ca o) rfl 7 (by decide) wq_360 (v := .ref (o + 108)) rfl dX10_clash_37 ?_
          refine lv_iload_n hx hb dX10_clash_40 rfl (lv_at hl 1 rfl) ?_
          refine qc_Vip (As := [.int a0]) (rest := []) (k0 := 1) (u_Fits_of l D ca o b z5 y5 J5 a0) kc_yX3_of ⟨hx, hb, hml, hown, hts⟩ wq_644 rfl rfl ⟨Nat.le_of_ble_eq_true rfl, Nat.le_of_ble_eq_true rfl⟩ wq_all hP hK hS qw_Ai (q0 := 108) (by decide) (hgU_108 ca o _ _) rfl rfl hl.1 rfl (Nat.le_of_ble_eq_true rfl) dX10_clash_41 ⟨Nat.zero_le _, Nat.zero_le _⟩ (fun r7 H locs h7 hP hS _ _ => ?_)
          refine lv_if_le (tgt := 50) hx hb dX10_clash_44 (by decide) (fun c8 => ?_) (fun c8 => ?_)
          · have t8 : r7.toInt ≤ (0 : Int) := gl_le c8
            refine lv_iload_n hx hb dX10_clash_50 rfl (lv_at hl 1 rfl) ?_
            refine lv_istore_n (lv' := [(3, .int a0), (0, .ref (o + 0)), (1, .int a0), (2, .int a1)]) hx hb dX10_clash_51 rfl hl (by decide) rfl (fun ls hl => ?_)
            refine lv_iconst (v := 0) hx hb dX10_clash_52 (by decide) ?_
            refine lv_istore (lv' := [(4, .int 0), (3, .int a0), (0, .ref (o + 0)), (1, .int a0), (2, .int a1)]) hx hb dX10_clash_53 hl (by decide) rfl (fun ls hl => ?_)
            have loop9 : ∀ (n : Nat) (w9_4 : Int32) (w9_3 : Int32), ((1024 - w9_4.toInt : Int) < (n : Int)) → ((0 : Int) ≤ w9_4.toInt ∧ w9_4.toInt ≤ 1024) → ∀ (H : Heap) (locs : List Loc), qw_P D vwCl o 132 (qG (GU ca o) z5 y5) H → va_S (qw_A o 132) s.heap H locs → ∀ (ls : Array Slot), lv_has ls 5 [(4, .int w9_4), (3, .int w9_3), (0, .ref (o + 0)), (1, .int a0), (2, .int a1)] → W p l e (headSpec (Cond.code yX10_clash cX10_clash 5 (some .int) :: qtbl) ({ frames := 6, cells := 0, slots := 0, locals := 169 })).room s m (([.ref (o + 0), .int a0, .int a1] : List Value).toArray) below meth c H locs 0 0 (MQ below (va_Qi (fun r u => True ∧ qJU b u.1) (qB D vwCl (qT6 ca) o 132 (fun u : qZ => qG (GU ca o) u.1 u.2)) (qw_A o 132)) (([.ref (o + 0), .int a0, .int a1] : List Value).toArray) s 0 0 (qw_A o 132)) (F0 m 55 ls []) := by
              intro n
              induction n with
              | zero => intro w9_4 w9_3 hb9 hv9_4; exfalso; omega
              | succ n9 ih9 =>
                intro w9_4 w9_3 hb9 hv9_4 H locs hP hS ls hl
                refine lv_iload hx hb dX10_clash_55 (lv_at hl 0 rfl) ?_
                refine lv_sipush (v := 1024) hx hb dX10_clash_57 (by decide) ?_
                refine lv_icmp_ge (tgt := 102) hx hb dX10_clash_60 (by decide) (fun c10 => ?_) (fun c10 => ?_)
                · have t10 : w9_4.toInt ≥ (1024 : Int) := gl_le c10
                  refine lv_iload_n hx hb dX10_clash_102 rfl (lv_at hl 4 rfl) ?_
                  refine lv_if_ne (tgt := 113) hx hb dX10_clash_103 (by decide) (fun c11 => ?_) (fun c11 => ?_)
                  · have t11 : a1.toInt ≠ (0 : Int) := gl_ne c11
                    refine lv_iload_n hx hb dX10_clash_113 rfl (lv_at hl 1 rfl) ?_
                    exact W.iret (v := w9_3) hx hb hr (fun t ht hW => ⟨⟨w9_3, (z5, y5), rfl, ⟨trivial, J5⟩, by rw [ht]; exact hP, va_K.moved hW.alike hK⟩, hS.F ht⟩) hS.2.2 dX10_clash_114
                  · have t11 : a1.toInt = (0 : Int) := gl_eq c11
                    refine lv_iload_n hx hb dX10_clash_106 rfl (lv_at hl 1 rfl) ?_
                    refine qc_Sip (As := [.int w9_3]) (rest := []) (k0 := 1) (u_Integer_bitCount l D ca o b z5 y5 J5 w9_3) kc_yJ6_bitCount_0f7a4 ⟨hx, hb, hml, hown, hts⟩ wq_513 rfl rfl ⟨Nat.le_of_ble_eq_true rfl, Nat.le_of_ble_eq_true rfl⟩ wq_all hP hK hS qw_Ai rfl hl.1 rfl (Nat.le_of_ble_eq_true rfl) dX10_clash_107 ⟨Nat.zero_le _, Nat.zero_le _⟩ (fun r12 H locs h12 hP hS _ _ => ?_)
                    have b12 : (0 : Int) ≤ r12.toInt ∧ r12.toInt ≤ 63 := h12
                    refine lv_goto (tgt := 114) hx hb dX10_clash_110 (by decide) ?_
                    exact W.iret (v := r12) hx hb hr (fun t ht hW => ⟨⟨r12, (z5, y5), rfl, ⟨trivial, J5⟩, by rw [ht]; exact hP, va_K.moved hW.alike hK⟩, hS.F ht⟩) hS.2.2 dX10_clash_114
                · have t10 : w9_4.toInt < (1024 : Int) := gl_nle c10
                  refine lv_iload hx hb dX10_clash_63 (lv_at hl 0 rfl) ?_
                  refine lv_iload_n hx hb dX10_clash_65 rfl (lv_at hl 3 rfl) ?_
                  refine lv_iconst (v := (-1)) hx hb dX10_clash_66 (by decide) ?_
                  refine lv_ixor hx hb dX10_clash_67 ?_
                  refine lv_topi (fun x13 e13 => ?_)
                  refine lv_iand hx hb dX10_clash_68 ?_
                  refine lv_topi (fun x14 e14 => ?_)
                  have t14 : 0 ≤ x14.toInt ∧ x14.toInt ≤ w9_4.toInt := ga_and' e14 rfl (by omega)
                  refine lv_if_ne (tgt := 96) hx hb dX10_clash_69 (by decide) (fun c15 => ?_) (fun c15 => ?_)
                  · have t15 : x14.toInt ≠ (0 : Int) := gl_ne c15
                    obtain ⟨x16, e16⟩ : ∃ t : Int32, t = w9_4 + 1 := ⟨_, rfl⟩
                    refine lv_iinc (v := x16) (lv' := [(4, .int x16), (3, .int w9_3), (0, .ref (o + 0)), (1, .int a0), (2, .int a1)]) hx hb dX10_clash_96 hl (k := 0) rfl (by rw [e16]; rfl) (by decide) rfl (fun ls hl => ?_)
                    have t16 : x16.toInt = w9_4.toInt + (1 : Int) := ga_add e16 rfl rfl (by omega) (by omega)
                    refine lv_goto (tgt := 55) hx hb dX10_clash_99 (by decide) ?_
                    exact ih9 x16 w9_3 (show (1024 - x16.toInt : Int) < (n9 : Int) from by omega) ⟨by omega, by omega⟩ _ _ hP hS _ (lv_sub hl [0, 1, 2, 3, 4] rfl)
                  · have t15 : x14.toInt = (0 : Int) := gl_eq c15
                    refine lv_aload_n hx hb dX10_clash_72 rfl (lv_at hl 2 rfl) ?_
                    refine qf_get hx hb hts inX10 hown hK hP (q0 := 0) (by decide) (hgU_0 ca o) rfl 7 (by decide) wq_360 (v := .ref (o + 108)) rfl dX10_clash_73 ?_
                    refine lv_iload hx hb dX10_clash_76 (lv_at hl 0 rfl) ?_
                    refine qc_Vip (As := [.int w9_4]) (rest := []) (k0 := 1) (u_Fits_of l D ca o b z5 y5 J5 w9_4) kc_yX3_of ⟨hx, hb, hml, hown, hts⟩ wq_644 rfl rfl ⟨Nat.le_of_ble_eq_true rfl, Nat.le_of_ble_eq_true rfl⟩ wq_all hP hK hS qw_Ai (q0 := 108) (by decide) (hgU_108 ca o _ _) rfl rfl hl.1 rfl (Nat.le_of_ble_eq_true rfl) dX10_clash_78 ⟨Nat.zero_le _, Nat.zero_le _⟩ (fun r17 H locs h17 hP hS _ _ => ?_)
                    refine lv_if_ne (tgt := 96) hx hb dX10_clash_81 (by decide) (fun c18 => ?_) (fun c18 => ?_)
                    · have t18 : r17.toInt ≠ (0 : Int) := gl_ne c18
                      obtain ⟨x19, e19⟩ : ∃ t : Int32, t = w9_4 + 1 := ⟨_, rfl⟩
                      refine lv_iinc (v := x19) (lv' := [(4, .int x19), (3, .int w9_3), (0, .ref (o + 0)), (1, .int a0), (2, .int a1)]) hx hb dX10_clash_96 hl (k := 0) rfl (by rw [e19]; rfl) (by decide) rfl (fun ls hl => ?_)
                      have t19 : x19.toInt = w9_4.toInt + (1 : Int) := ga_add e19 rfl rfl (by omega) (by omega)
                      refine lv_goto (tgt := 55) hx hb dX10_clash_99 (by decide) ?_
                      exact ih9 x19 w9_3 (show (1024 - x19.toInt : Int) < (n9 : Int) from by omega) ⟨by omega, by omega⟩ _ _ hP hS _ (lv_sub hl [0, 1, 2, 3, 4] rfl)
                    · have t18 : r17.toInt = (0 : Int) := gl_eq c18
                      refine lv_iload hx hb dX10_clash_84 (lv_at hl 0 rfl) ?_
                      refine lv_iload_n hx hb dX10_clash_86 rfl (lv_at hl 1 rfl) ?_
                      refine qc_Sip (As := [.int w9_4, .int w9_3]) (rest := []) (k0 := 2) (u_isFewer l D ca o b z5 y5 J5 w9_4 w9_3) kc_yX10_isFewer ⟨hx, hb, hml, hown, hts⟩ wq_698 rfl rfl ⟨Nat.le_of_ble_eq_true rfl, Nat.le_of_ble_eq_true rfl⟩ wq_all hP hK hS qw_Ai rfl hl.1 rfl (Nat.le_of_ble_eq_true rfl) dX10_clash_87 ⟨Nat.zero_le _, Nat.zero_le _⟩ (fun r20 H locs h20 hP hS _ _ => ?_)
                      have b20 : (0 : Int) ≤ r20.toInt ∧ r20.toInt ≤ 1 := h20
                      refine lv_if_eq (tgt := 96) hx hb dX10_clash_90 (by decide) (fun c21 => ?_) (fun c21 => ?_)
                      · have t21 : r20.toInt = (0 : Int) := gl_eq c21
                        obtain ⟨x22, e22⟩ : ∃ t : Int32, t = w9_4 + 1 := ⟨_, rfl⟩
                        refine lv_iinc (v := x22) (lv' := [(4, .int x22), (3, .int w9_3), (0, .ref (o + 0)), (1, .int a0), (2, .int a1)]) hx hb dX10_clash_96 hl (k := 0) rfl (by rw [e22]; rfl) (by decide) rfl (fun ls hl => ?_)
                        have t22 : x22.toInt = w9_4.toInt + (1 : Int) := ga_add e22 rfl rfl (by omega) (by omega)
                        refine lv_goto (tgt := 55) hx hb dX10_clash_99 (by decide) ?_
                        exact ih9 x22 w9_3 (show (1024 - x22.toInt : Int) < (n9 : Int) from by omega) ⟨by omega, by omega⟩ _ _ hP hS _ (lv_sub hl [0, 1, 2, 3, 4] rfl)
                      · have t21 : r20.toInt ≠ (0 : Int) := gl_ne c21
                        refine lv_iload hx hb dX10_clash_93 (lv_at hl 0 rfl) ?_
                        refine lv_istore_n (lv' := [(3, .int w9_4), (4, .int w9_4), (0, .ref (o + 0)), (1, .int a0), (2, .int a1)]) hx hb dX10_clash_95 rfl hl (by decide) rfl (fun ls hl => ?_)
                        obtain ⟨x23, e23⟩ : ∃ t : Int32, t = w9_4 + 1 := ⟨_, rfl⟩
                        refine lv_iinc (v := x23) (lv' := [(4, .int x23), (3, .int w9_4), (0, .ref (o + 0)), (1, .int a0), (2, .int a1)]) hx hb dX10_clash_96 hl (k := 1) rfl (by rw [e23]; rfl) (by decide) rfl (fun ls hl => ?_)
                        have t23 : x23.toInt = w9_4.toInt + (1 : Int) := ga_add e23 rfl rfl (by omega) (by omega)
                        refine lv_goto (tgt := 55) hx hb dX10_clash_99 (by decide) ?_
                        exact ih9 x23 w9_4 (show (1024 - x23.toInt : Int) < (n9 : Int) from by omega) ⟨by omega, by omega⟩ _ _ hP hS _ (lv_sub hl [0, 1, 2, 3, 4] rfl)
            exact loop9 1025 0 a0 (show (1024 - (0 : Int) : Int) < ((1025 : Nat) : Int) from by omega) ⟨by decide, by decide⟩ _ _ hP hS _ (lv_sub hl [0, 1, 2, 3, 4] rfl)
          · have t8 : r7.toInt > (0 : Int) := gl_nle c8
            refine lv_bipush (v := (-2)) hx hb dX10_clash_47 (by decide) ?_
            exact W.iret (v := (-2)) hx hb hr (fun t ht hW => ⟨⟨(-2), (z5, y5), rfl, ⟨trivial, J5⟩, by rw [ht]; exact hP, va_K.moved hW.alike hK⟩, hS.F ht⟩) hS.2.2 dX10_clash_49
        · have t6 : r5.toInt = (0 : Int) := gl_eq c6
          refine lv_bipush (v := (-3)) hx hb dX10_clash_33 (by decide) ?_
          exact W.iret (v := (-3)) hx hb hr (fun t ht hW => ⟨⟨(-3), (z5, y5), rfl, ⟨trivial, J5⟩, by rw [ht]; exact hP, va_K.moved hW.alike hK⟩, hS.F ht⟩) hS.2.2 dX10_clash_35
      · have t4 : a1.toInt > (1 : Int) := gl_nle c4
        refine lv_iconst (v := (-1)) hx hb dX10_clash_17 (by decide) ?_
        exact W.iret (v := (-1)) hx hb hr (fun t ht hW => ⟨⟨(-1), (z, y), rfl, ⟨trivial, J0⟩, by rw [ht]; exact hP, va_K.moved hW.alike hK⟩, hS.F ht⟩) hS.2.2 dX10_clash_18
set_option maxRecDepth 100000 in
set_option maxHeartbeats 8000000 in
theorem u_needless (l : Launch) (D : va_G) (ca : Nat → ClassId) (o : Nat) (b z : Nat → Nat → Int32) (y : Nat → Nat → Int64) (J0 : qJU b z) (a0 : Int32)  : qM l yX10_needless cX10_needless 5 (some .int) 6 169 (qPre D vwCl (qT6 ca) o 132 (qG (GU ca o) z y) [.ref (o + 0), .int a0]) (va_Qi (fun r u => True ∧ qJU b u.1) (qB D vwCl (qT6 ca) o 132 (fun u : qZ => qG (GU ca o) u.1 u.2)) (qw_A o 132)) (qw_A o 132) := by
  refine Met.ofW (cc := cX10_needless) (maxL := 5) (ret := (some .int)) (by decide) rfl ?_
  intro p e s m args below meth c s₁ B hml hv
  obtain ⟨rfl, hP, hK⟩ := hv
  have hx := B.exec
  have hb := B.bytes
  have hr := B.returns
  have hts0 := atoms_spec (ws := Cond.code yX10_needless cX10_needless 5 (some .int) :: qtbl) B.pre
  have hts : ∀ w ∈ qtbl, w.before _ s = true := fun w h => hts0 w (List.mem_cons_of_mem _ h)
  have hown : s.vm.findClass RX10 = some m.cls := findClass_of_methodNamed B.named
  have hlocks := B.notSynchronized
  have hS : va_S (qw_A o 132) s.heap s.heap [] := va_S.rf
  have hl := lv_entry ([.ref (o + 0), .int a0]) (n := 5) (Nat.le_of_ble_eq_true rfl)
  rw [lg_entry_eq]
  generalize (lg_sl ([.ref (o + 0), .int a0]) ++ List.replicate (5 - (lg_sl ([.ref (o + 0), .int a0])).length) Slot.unset).toArray = ls at hl ⊢
  have hl : lv_has ls 5 [(0, .ref (o + 0)), (1, .int a0)] := hl
  refine lv_aload_n hx hb dX10_needless_0 rfl (lv_at hl 0 rfl) ?_
  refine lv_iload_n hx hb dX10_needless_1 rfl (lv_at hl 1 rfl) ?_
  refine qc_Vip (As := [.int a0]) (rest := []) (k0 := 1) (u_areRemarks l D ca o b z y J0 a0) kc_yX10_areRemarks ⟨hx, hb, hml, hown, hts⟩ wq_583 rfl rfl ⟨Nat.le_of_ble_eq_true rfl, Nat.le_of_ble_eq_true rfl⟩ wq_all hP hK hS qw_Ai (q0 := 0) (by decide) (hgU_0 ca o _ _) rfl rfl hl.1 rfl (Nat.le_of_ble_eq_true rfl) dX10_needless_2 ⟨Nat.zero_le _, Nat.zero_le _⟩ (fun r1 H locs h1 hP hS _ _ => ?_)
  have b1 : (0 : Int) ≤ r1.toInt ∧ r1.toInt ≤ 1 := h1
  refine lv_if_ne (tgt := 10) hx hb dX10_needless_5 (by decide) (fun c2 => ?_) (fun c2 => ?_)
  · have t2 : r1.toInt ≠ (0 : Int) := gl_ne c2
    refine lv_aload_n hx hb dX10_needless_10 rfl (lv_at hl 0 rfl) ?_
    refine qf_get hx hb hts inX10 hown hK hP (q0 := 0) (by decide) (hgU_0 ca o) rfl 7 (by decide) wq_360 (v := .ref (o + 108)) rfl dX10_needless_11 ?_
    refine lv_aload_n hx hb dX10_needless_14 rfl (lv_at hl 0 rfl) ?_
    refine qf_get hx hb hts inX10 hown hK hP (q0 := 0) (by decide) (hgU_0 ca o) rfl 6 (by decide) wq_359 (v := .ref (o + 104)) rfl dX10_needless_15 ?_
    refine qc_Vi2 (As := [.ref (o + 104)]) (rest := []) (k0 := 1) (u_Fits_isCounted l D ca o b z y J0) kc_yX3_isCounted ⟨hx, hb, hml, hown, hts⟩ wq_627 rfl rfl ⟨Nat.le_of_ble_eq_true rfl, Nat.le_of_ble_eq_true rfl⟩ wq_all hP hK hS qw_Ai (q0 := 108) (by decide) (hgU_108 ca o _ _) rfl rfl hl.1 rfl (Nat.le_of_ble_eq_true rfl) dX10_needless_18 ⟨Nat.zero_le _, Nat.zero_le _⟩ (fun r3 z3 y3 H locs h3 hP hS _ _ => ?_)
    have J3 : qJU b z3 := h3.2
    have b3 : (0 : Int) ≤ r3.toInt ∧ r3.toInt ≤ 1 := h3.1
    refine lv_if_ne (tgt := 27) hx hb dX10_needless_21 (by decide) (fun c4 => ?_) (fun c4 => ?_)
    · have t4 : r3.toInt ≠ (0 : Int) := gl_ne c4
      refine lv_iconst (v := 0) hx hb dX10_needless_27 (by decide) ?_
      refine lv_istore_n (lv' := [(2, .int 0), (0, .ref (o + 0)), (1, .int a0)]) hx hb dX10_needless_28 rfl hl (by decide) rfl (fun ls hl => ?_)
      refine lv_iconst (v := 0) hx hb dX10_needless_29 (by decide) ?_
      refine lv_istore_n (lv' := [(3, .int 0), (2, .int 0), (0, .ref (o + 0)), (1, .int a0)]) hx hb dX10_needless_30 rfl hl (by decide) rfl (fun ls hl => ?_)
      have loop5 : ∀ (n : Nat) (w5_3 : Int32) (w5_2 : Int32), ((10 - w5_3.toInt : Int) < (n : Int)) → ((0 : Int) ≤ w5_3.toInt ∧ w5_3.toInt ≤ 10) → ∀ (H : Heap) (locs : List Loc), qw_P D vwCl o 132 (qG (GU ca o) z3 y3) H → va_S (qw_A o 132) s.heap H locs → ∀ (ls : Array Slot), lv_has ls 5 [(3, .int w5_3), (2, .int w5_2), (0, .ref (o + 0)), (1, .int a0)] → W p l e (headSpec (Cond.code yX10_needless cX10_needless 5 (some .int) :: qtbl) ({ frames := 6, cells := 0, slots := 0, locals := 169 })).room s m (([.ref (o + 0), .int a0] : List Value).toArray) below meth c H locs 0 0 (MQ below (va_Qi (fun r u => True ∧ qJU b u.1) (qB D vwCl (qT6 ca) o 132 (fun u : qZ => qG (GU ca o) u.1 u.2)) (qw_A o 132)) (([.ref (o + 0), .int a0] : List Value).toArray) s 0 0 (qw_A o 132)) (F0 m 31 ls []) := by
        intro n
        induction n with
        | zero => intro w5_3 w5_2 hb5 hv5_3; exfalso; omega
        | succ n5 ih5 =>
          intro w5_3 w5_2 hb5 hv5_3 H locs hP hS ls hl
          refine lv_iload_n hx hb dX10_needless_31 rfl (lv_at hl 0 rfl) ?_
          refine lv_bipush (v := 10) hx hb dX10_needless_32 (by decide) ?_
          refine lv_icmp_ge (tgt := 84) hx hb dX10_needless_34 (by decide) (fun c6 => ?_) (fun c6 => ?_)
          · have t6 : w5_3.toInt ≥ (10 : Int) := gl_le c6
            refine lv_iload_n hx hb dX10_needless_84 rfl (lv_at hl 1 rfl) ?_
            exact W.iret (v := w5_2) hx hb hr (fun t ht hW => ⟨⟨w5_2, (z3, y3), rfl, ⟨trivial, J3⟩, by rw [ht]; exact hP, va_K.moved hW.alike hK⟩, hS.F ht⟩) hS.2.2 dX10_needless_85
          · have t6 : w5_3.toInt < (10 : Int) := gl_nle c6
            refine lv_iconst (v := 1) hx hb dX10_needless_37 (by decide) ?_
            refine lv_iload_n hx hb dX10_needless_38 rfl (lv_at hl 0 rfl) ?_
            refine lv_ishl hx hb dX10_needless_39 ?_
            refine lv_topi (fun x7 e7 => ?_)
            have t7 : 1 ≤ x7.toInt ∧ x7.toInt ≤ 512 := ga_shl 9 512 e7 (by decide) (by decide) (by omega) (by omega)
            refine lv_istore (lv' := [(4, .int x7), (3, .int w5_3), (2, .int w5_2), (0, .ref (o + 0)), (1, .int a0)]) hx hb dX10_needless_40 hl (by decide) rfl (fun ls hl => ?_)
            refine lv_iload_n hx hb dX10_needless_42 rfl (lv_at hl 4 rfl) ?_
            refine lv_iload hx hb dX10_needless_43 (lv_at hl 0 rfl) ?_
            refine lv_iand hx hb dX10_needless_45 ?_
            refine lv_topi (fun x8 e8 => ?_)
            have t8 : 0 ≤ x8.toInt ∧ x8.toInt ≤ x7.toInt := ga_and e8 rfl (by omega)
            refine lv_if_eq (tgt := 78) hx hb dX10_needless_46 (by decide) (fun c9 => ?_) (fun c9 => ?_)
            · have t9 : x8.toInt = (0 : Int) := gl_eq c9
              obtain ⟨x10, e10⟩ : ∃ t : Int32, t = w5_3 + 1 := ⟨_, rfl⟩
              refine lv_iinc (v := x10) (lv' := [(3, .int x10), (4, .int x7), (2, .int w5_2), (0, .ref (o + 0)), (1, .int a0)]) hx hb dX10_needless_78 hl (k := 1) rfl (by rw [e10]; rfl) (by decide) rfl (fun ls hl => ?_)
              have t10 : x10.toInt = w5_3.toInt + (1 : Int) := ga_add e10 rfl rfl (by omega) (by omega)
              refine lv_goto (tgt := 31) hx hb dX10_needless_81 (by decide) ?_
              exact ih5 x10 w5_2 (show (10 - x10.toInt : Int) < (n5 : Int) from by omega) ⟨by omega, by omega⟩ _ _ hP hS _ (lv_sub hl [0, 2, 3, 4] rfl)
            · have t9 : x8.toInt ≠ (0 : Int) := gl_ne c9
              refine lv_aload_n hx hb dX10_needless_49 rfl (lv_at hl 3 rfl) ?_
              refine qf_get hx hb hts inX10 hown hK hP (q0 := 0) (by decide) (hgU_0 ca o) rfl 7 (by decide) wq_360 (v := .ref (o + 108)) rfl dX10_needless_50 ?_
              refine lv_iload_n hx hb dX10_needless_53 rfl (lv_at hl 4 rfl) ?_
              refine lv_iload hx hb dX10_needless_54 (lv_at hl 0 rfl) ?_
              refine lv_iconst (v := (-1)) hx hb dX10_needless_56 (by decide) ?_
              refine lv_ixor hx hb dX10_needless_57 ?_
              refine lv_topi (fun x11 e11 => ?_)
              refine lv_iand hx hb dX10_needless_58 ?_
              refine lv_topi (fun x12 e12 => ?_)
              refine qc_Vip (As := [.int x12]) (rest := []) (k0 := 1) (u_Fits_of l D ca o b z3 y3 J3 x12) kc_yX3_of ⟨hx, hb, hml, hown, hts⟩ wq_644 rfl rfl ⟨Nat.le_of_ble_eq_true rfl, Nat.le_of_ble_eq_true rfl⟩ wq_all hP hK hS qw_Ai (q0 := 108) (by decide) (hgU_108 ca o _ _) rfl rfl hl.1 rfl (Nat.le_of_ble_eq_true rfl) dX10_needless_59 ⟨Nat.zero_le _, Nat.zero_le _⟩ (fun r13 H locs h13 hP hS _ _ => ?_)
              refine lv_aload_n hx hb dX10_needless_62 rfl (lv_at hl 3 rfl) ?_
              refine qf_get hx hb hts inX10 hown hK hP (q0 := 0) (by decide) (hgU_0 ca o) rfl 7 (by decide) wq_360 (v := .ref (o + 108)) rfl dX10_needless_63 ?_
              refine lv_iload_n hx hb dX10_needless_66 rfl (lv_at hl 4 rfl) ?_
              refine qc_Vip (As := [.int a0]) (rest := [.int r13]) (k0 := 1) (u_Fits_of l D ca o b z3 y3 J3 a0) kc_yX3_of ⟨hx, hb, hml, hown, hts⟩ wq_644 rfl rfl ⟨Nat.le_of_ble_eq_true rfl, Nat.le_of_ble_eq_true rfl⟩ wq_all hP hK hS qw_Ai (q0 := 108) (by decide) (hgU_108 ca o _ _) rfl rfl hl.1 rfl (Nat.le_of_ble_eq_true rfl) dX10_needless_67 ⟨Nat.zero_le _, Nat.zero_le _⟩ (fun r14 H locs h14 hP hS _ _ => ?_)
              refine lv_icmp_ne (tgt := 78) hx hb dX10_needless_70 (by decide) (fun c15 => ?_) (fun c15 => ?_)
              · have t15 : r13.toInt ≠ r14.toInt := gl_ne c15
                obtain ⟨x16, e16⟩ : ∃ t : Int32, t = w5_3 + 1 := ⟨_, rfl⟩
                refine lv_iinc (v := x16) (lv' := [(3, .int x16), (4, .int x7), (2, .int w5_2), (0, .ref (o + 0)), (1, .int a0)]) hx hb dX10_needless_78 hl (k := 1) rfl (by rw [e16]; rfl) (by decide) rfl (fun ls hl => ?_)
                have t16 : x16.toInt = w5_3.toInt + (1 : Int) := ga_add e16 rfl rfl (by omega) (by omega)
                refine lv_goto (tgt := 31) hx hb dX10_needless_81 (by decide) ?_
                exact ih5 x16 w5_2 (show (10 - x16.toInt : Int) < (n5 : Int) from by omega) ⟨by omega, by omega⟩ _ _ hP hS _ (lv_sub hl [0, 2, 3, 4] rfl)
              · have t15 : r13.toInt = r14.toInt := gl_eq c15
                refine lv_iload_n hx hb dX10_needless_73 rfl (lv_at hl 2 rfl) ?_
                refine lv_iload hx hb dX10_needless_74 (lv_at hl 0 rfl) ?_
                refine lv_ior hx hb dX10_needless_76 ?_
                refine lv_topi (fun x17 e17 => ?_)
                refine lv_istore_n (lv' := [(2, .int x17), (4, .int x7), (3, .int w5_3), (0, .ref (o + 0)), (1, .int a0)]) hx hb dX10_needless_77 rfl hl (by decide) rfl (fun ls hl => ?_)
                obtain ⟨x18, e18⟩ : ∃ t : Int32, t = w5_3 + 1 := ⟨_, rfl⟩
                refine lv_iinc (v := x18) (lv' := [(3, .int x18), (2, .int x17), (4, .int x7), (0, .ref (o + 0)), (1, .int a0)]) hx hb dX10_needless_78 hl (k := 2) rfl (by rw [e18]; rfl) (by decide) rfl (fun ls hl => ?_)
                have t18 : x18.toInt = w5_3.toInt + (1 : Int) := ga_add e18 rfl rfl (by omega) (by omega)
                refine lv_goto (tgt := 31) hx hb dX10_needless_81 (by decide) ?_
                exact ih5 x18 x17 (show (10 - x18.toInt : Int) < (n5 : Int) from by omega) ⟨by omega, by omega⟩ _ _ hP hS _ (lv_sub hl [0, 1, 3, 4] rfl)
      exact loop5 11 0 0 (show (10 - (0 : Int) : Int) < ((11 : Nat) : Int) from by omega) ⟨by decide, by decide⟩ _ _ hP hS _ (lv_sub hl [0, 1, 2, 3] rfl)
    · have t4 : r3.toInt = (0 : Int) := gl_eq c4
      refine lv_bipush (v := (-3)) hx hb dX10_needless_24 (by decide) ?_
      exact W.iret (v := (-3)) hx hb hr (fun t ht hW => ⟨⟨(-3), (z3, y3), rfl, ⟨trivial, J3⟩, by rw [ht]; exact hP, va_K.moved hW.alike hK⟩, hS.F ht⟩) hS.2.2 dX10_needless_26
  · have t2 : r1.toInt = (0 : Int) := gl_eq c2
    refine lv_iconst (v := (-1)) hx hb dX10_needless_8 (by decide) ?_
    exact W.iret (v := (-1)) hx hb hr (fun t ht hW => ⟨⟨(-1), (z, y), rfl, ⟨trivial, J0⟩, by rw [ht]; exact hP, va_K.moved hW.alike hK⟩, hS.F ht⟩) hS.2.2 dX10_needless_9
set_option maxRecDepth 100000 in
set_option maxHeartbeats 8000000 in
theorem u_isOther (l : Launch) (D : va_G) (ca : Nat → ClassId) (o : Nat) (b z : Nat → Nat → Int32) (y : Nat → Nat → Int64) (J0 : qJU b z) (a0 : Int32) (a1 : Int32)  : qM l yX10_isOther cX10_isOther 3 (some .boolean) 3 102 (qPre D vwCl (qT6 ca) o 132 (qG (GU ca o) z y) [.ref (o + 0), .int a0, .int a1]) (va_Qi (fun r (_ : Unit) => ((0 : Int) ≤ r.toInt ∧ r.toInt ≤ 1)) (qB D vwCl (qT6 ca) o 132 (fun _ : Unit => qG (GU ca o) z y)) (qw_A o 132)) (qw_A o 132) := by
  refine Met.ofW (cc := cX10_isOther) (maxL := 3) (ret := (some .boolean)) (by decide) rfl ?_
  intro p e s m args below meth c s₁ B hml hv
  obtain ⟨rfl, hP, hK⟩ := hv
  have hx := B.exec
  have hb := B.bytes
  have hr := B.returns
  have hts0 := atoms_spec (ws := Cond.code yX10_isOther cX10_isOther 3 (some .boolean) :: qtbl) B.pre
  have hts : ∀ w ∈ qtbl, w.before _ s = true := fun w h => hts0 w (List.mem_cons_of_mem _ h)
  have hown : s.vm.findClass RX10 = some m.cls := findClass_of_methodNamed B.named
  have hlocks := B.notSynchronized
  have hS : va_S (qw_A o 132) s.heap s.heap [] := va_S.rf
  have hl := lv_entry ([.ref (o + 0), .int a0, .int a1]) (n := 3) (Nat.le_of_ble_eq_true rfl)
  rw [lg_entry_eq]
  generalize (lg_sl ([.ref (o + 0), .int a0, .int a1]) ++ List.replicate (3 - (lg_sl ([.ref (o + 0), .int a0, .int a1])).length) Slot.unset).toArray = ls at hl ⊢
  have hl : lv_has ls 3 [(0, .ref (o + 0)), (1, .int a0), (2, .int a1)] := hl
  refine lv_aload_n hx hb dX10_isOther_0 rfl (lv_at hl 0 rfl) ?_
  refine qf_get hx hb hts inX10 hown hK hP (q0 := 0) (by decide) (hgU_0 ca o) rfl 0 (by decide) wq_353 (v := .ref (o + 1)) rfl dX10_isOther_1 ?_
  refine lv_iload_n hx hb dX10_isOther_4 rfl (lv_at hl 2 rfl) ?_
  refine qc_Vip (As := [.int a1]) (rest := []) (k0 := 1) (u_Told_hasRemark l D ca o b z y J0 a1) kc_yX9_hasRemark ⟨hx, hb, hml, hown, hts⟩ wq_527 rfl rfl ⟨Nat.le_of_ble_eq_true rfl, Nat.le_of_ble_eq_true rfl⟩ wq_all hP hK hS qw_Ai (q0 := 1) (by decide) (hgU_1 ca o _ _) rfl rfl hl.1 rfl (Nat.le_of_ble_eq_true rfl) dX10_isOther_5 ⟨Nat.zero_le _, Nat.zero_le _⟩ (fun r1 H locs h1 hP hS _ _ => ?_)
  rcases h1 with ⟨hr1, hf1_0⟩ | hr1
  · subst hr1
    have hg1_0 : 0 ≤ a1.toInt ∧ a1.toInt ≤ 9 := hf1_0
    refine lv_if_eq (tgt := 23) hx hb dX10_isOther_8 (by decide) (fun q => absurd q (by decide)) (fun _ => ?_)
    refine lv_iload_n hx hb dX10_isOther_11 rfl (lv_at hl 1 rfl) ?_
    refine lv_iload_n hx hb dX10_isOther_12 rfl (lv_at hl 2 rfl) ?_
    refine lv_ishr hx hb dX10_isOther_13 ?_
    refine lv_topi (fun x2 e2 => ?_)
    refine lv_iconst (v := 1) hx hb dX10_isOther_14 (by decide) ?_
    refine lv_iand hx hb dX10_isOther_15 ?_
    refine lv_topi (fun x3 e3 => ?_)
    have t3 : 0 ≤ x3.toInt ∧ x3.toInt ≤ (1 : Int) := ga_and e3 rfl (by omega)
    refine lv_if_ne (tgt := 23) hx hb dX10_isOther_16 (by decide) (fun c4 => ?_) (fun c4 => ?_)
    · have t4 : x3.toInt ≠ (0 : Int) := gl_ne c4
      refine lv_iconst (v := 0) hx hb dX10_isOther_23 (by decide) ?_
      exact W.zret (v := 0) (ty := .boolean) hx hb hr rfl (fun t ht hW => ⟨⟨0, (), rfl, ⟨by decide, by decide⟩, by rw [ht]; exact hP, va_K.moved hW.alike hK⟩, hS.F ht⟩) hS.2.2 dX10_isOther_24
    · have t4 : x3.toInt = (0 : Int) := gl_eq c4
      refine lv_iconst (v := 1) hx hb dX10_isOther_19 (by decide) ?_
      refine lv_goto (tgt := 24) hx hb dX10_isOther_20 (by decide) ?_
      exact W.zret (v := 1) (ty := .boolean) hx hb hr rfl (fun t ht hW => ⟨⟨1, (), rfl, ⟨by decide, by decide⟩, by rw [ht]; exact hP, va_K.moved hW.alike hK⟩, hS.F ht⟩) hS.2.2 dX10_isOther_24
  · subst hr1
    refine lv_if_eq (tgt := 23) hx hb dX10_isOther_8 (by decide) (fun _ => ?_) (fun q => absurd (by decide) q)
    refine lv_iconst (v := 0) hx hb dX10_isOther_23 (by decide) ?_
    exact W.zret (v := 0) (ty := .boolean) hx hb hr rfl (fun t ht hW => ⟨⟨0, (), rfl, ⟨by decide, by decide⟩, by rw [ht]; exact hP, va_K.moved hW.alike hK⟩, hS.F ht⟩) hS.2.2 dX10_isOther_24
set_option maxRecDepth 100000 in
set_option maxHeartbeats 8000000 in
theorem u_settles (l : Launch) (D : va_G) (ca : Nat → ClassId) (o : Nat) (b z : Nat → Nat → Int32) (y : Nat → Nat → Int64) (J0 : qJU b z) (a0 : Int32)  : qM l yX10_settles cX10_settles 3 (some .int) 6 169 (qPre D vwCl (qT6 ca) o 132 (qG (GU ca o) z y) [.ref (o + 0), .int a0]) (va_Qi (fun r u => ((-3 : Int) ≤ r.toInt ∧ r.toInt ≤ 9) ∧ qJU b u.1) (qB D vwCl (qT6 ca) o 132 (fun u : qZ => qG (GU ca o) u.1 u.2)) (qw_A o 132)) (qw_A o 132) := by
  refine Met.ofW (cc := cX10_settles) (maxL := 3) (ret := (some .int)) (by decide) rfl ?_
  intro p e s m args below meth c s₁ B hml hv
  obtain ⟨rfl, hP, hK⟩ := hv
  have hx := B.exec
  have hb := B.bytes
  have hr := B.returns
  have hts0 := atoms_spec (ws := Cond.code yX10_settles cX10_settles 3 (some .int) :: qtbl) B.pre
  have hts : ∀ w ∈ qtbl, w.before _ s = true := fun w h => hts0 w (List.mem_cons_of_mem _ h)
  have hown : s.vm.findClass RX10 = some m.cls := findClass_of_methodNamed B.named
  have hlocks := B.notSynchronized
  have hS : va_S (qw_A o 132) s.heap s.heap [] := va_S.rf
  have hl := lv_entry ([.ref (o + 0), .int a0]) (n := 3) (Nat.le_of_ble_eq_true rfl)
  rw [lg_entry_eq]
  generalize (lg_sl ([.ref (o + 0), .int a0]) ++ List.replicate (3 - (lg_sl ([.ref (o + 0), .int a0])).length) Slot.unset).toArray = ls at hl ⊢
  have hl : lv_has ls 3 [(0, .ref (o + 0)), (1, .int a0)] := hl
  refine lv_aload_n hx hb dX10_settles_0 rfl (lv_at hl 0 rfl) ?_
  refine lv_iload_n hx hb dX10_settles_1 rfl (lv_at hl 1 rfl) ?_
  refine qc_Vip (As := [.int a0]) (rest := []) (k0 := 1) (u_areRemarks l D ca o b z y J0 a0) kc_yX10_areRemarks ⟨hx, hb, hml, hown, hts⟩ wq_583 rfl rfl ⟨Nat.le_of_ble_eq_true rfl, Nat.le_of_ble_eq_true rfl⟩ wq_all hP hK hS qw_Ai (q0 := 0) (by decide) (hgU_0 ca o _ _) rfl rfl hl.1 rfl (Nat.le_of_ble_eq_true rfl) dX10_settles_2 ⟨Nat.zero_le _, Nat.zero_le _⟩ (fun r1 H locs h1 hP hS _ _ => ?_)
  have b1 : (0 : Int) ≤ r1.toInt ∧ r1.toInt ≤ 1 := h1
  refine lv_if_ne (tgt := 10) hx hb dX10_settles_5 (by decide) (fun c2 => ?_) (fun c2 => ?_)
  · have t2 : r1.toInt ≠ (0 : Int) := gl_ne c2
    refine lv_aload_n hx hb dX10_settles_10 rfl (lv_at hl 0 rfl) ?_
    refine qf_get hx hb hts inX10 hown hK hP (q0 := 0) (by decide) (hgU_0 ca o) rfl 7 (by decide) wq_360 (v := .ref (o + 108)) rfl dX10_settles_11 ?_
    refine lv_aload_n hx hb dX10_settles_14 rfl (lv_at hl 0 rfl) ?_
    refine qf_get hx hb hts inX10 hown hK hP (q0 := 0) (by decide) (hgU_0 ca o) rfl 6 (by decide) wq_359 (v := .ref (o + 104)) rfl dX10_settles_15 ?_
    refine qc_Vi2 (As := [.ref (o + 104)]) (rest := []) (k0 := 1) (u_Fits_isCounted l D ca o b z y J0) kc_yX3_isCounted ⟨hx, hb, hml, hown, hts⟩ wq_627 rfl rfl ⟨Nat.le_of_ble_eq_true rfl, Nat.le_of_ble_eq_true rfl⟩ wq_all hP hK hS qw_Ai (q0 := 108) (by decide) (hgU_108 ca o _ _) rfl rfl hl.1 rfl (Nat.le_of_ble_eq_true rfl) dX10_settles_18 ⟨Nat.zero_le _, Nat.zero_le _⟩ (fun r3 z3 y3 H locs h3 hP hS _ _ => ?_)
    have J3 : qJU b z3 := h3.2
    have b3 : (0 : Int) ≤ r3.toInt ∧ r3.toInt ≤ 1 := h3.1
    refine lv_if_ne (tgt := 27) hx hb dX10_settles_21 (by decide) (fun c4 => ?_) (fun c4 => ?_)
    · have t4 : r3.toInt ≠ (0 : Int) := gl_ne c4
      refine lv_iconst (v := 0) hx hb dX10_settles_27 (by decide) ?_
      refine lv_istore_n (lv' := [(2, .int 0), (0, .ref (o + 0)), (1, .int a0)]) hx hb dX10_settles_28 rfl hl (by decide) rfl (fun ls hl => ?_)
      have loop5 : ∀ (n : Nat) (w5_2 : Int32), ((10 - w5_2.toInt : Int) < (n : Int)) → ((0 : Int) ≤ w5_2.toInt ∧ w5_2.toInt ≤ 10) → ∀ (H : Heap) (locs : List Loc), qw_P D vwCl o 132 (qG (GU ca o) z3 y3) H → va_S (qw_A o 132) s.heap H locs → ∀ (ls : Array Slot), lv_has ls 3 [(2, .int w5_2), (0, .ref (o + 0)), (1, .int a0)] → W p l e (headSpec (Cond.code yX10_settles cX10_settles 3 (some .int) :: qtbl) ({ frames := 6, cells := 0, slots := 0, locals := 169 })).room s m (([.ref (o + 0), .int a0] : List Value).toArray) below meth c H locs 0 0 (MQ below (va_Qi (fun r u => ((-3 : Int) ≤ r.toInt ∧ r.toInt ≤ 9) ∧ qJU b u.1) (qB D vwCl (qT6 ca) o 132 (fun u : qZ => qG (GU ca o) u.1 u.2)) (qw_A o 132)) (([.ref (o + 0), .int a0] : List Value).toArray) s 0 0 (qw_A o 132)) (F0 m 29 ls []) := by
        intro n
        induction n with
        | zero => intro w5_2 hb5 hv5_2; exfalso; omega
        | succ n5 ih5 =>
          intro w5_2 hb5 hv5_2 H locs hP hS ls hl
          refine lv_iload_n hx hb dX10_settles_29 rfl (lv_at hl 0 rfl) ?_
          refine lv_bipush (v := 10) hx hb dX10_settles_30 (by decide) ?_
          refine lv_icmp_ge (tgt := 68) hx hb dX10_settles_32 (by decide) (fun c6 => ?_) (fun c6 => ?_)
          · have t6 : w5_2.toInt ≥ (10 : Int) := gl_le c6
            refine lv_bipush (v := (-2)) hx hb dX10_settles_68 (by decide) ?_
            exact W.iret (v := (-2)) hx hb hr (fun t ht hW => ⟨⟨(-2), (z3, y3), rfl, ⟨⟨by decide, by decide⟩, J3⟩, by rw [ht]; exact hP, va_K.moved hW.alike hK⟩, hS.F ht⟩) hS.2.2 dX10_settles_70
          · have t6 : w5_2.toInt < (10 : Int) := gl_nle c6
            refine lv_aload_n hx hb dX10_settles_35 rfl (lv_at hl 1 rfl) ?_
            refine lv_iload_n hx hb dX10_settles_36 rfl (lv_at hl 2 rfl) ?_
            refine lv_iload_n hx hb dX10_settles_37 rfl (lv_at hl 0 rfl) ?_
            refine qc_Vip (As := [.int a0, .int w5_2]) (rest := []) (k0 := 2) (u_isOther l D ca o b z3 y3 J3 a0 w5_2) kc_yX10_isOther ⟨hx, hb, hml, hown, hts⟩ wq_717 rfl rfl ⟨Nat.le_of_ble_eq_true rfl, Nat.le_of_ble_eq_true rfl⟩ wq_all hP hK hS qw_Ai (q0 := 0) (by decide) (hgU_0 ca o _ _) rfl rfl hl.1 rfl (Nat.le_of_ble_eq_true rfl) dX10_settles_38 ⟨Nat.zero_le _, Nat.zero_le _⟩ (fun r7 H locs h7 hP hS _ _ => ?_)
            have b7 : (0 : Int) ≤ r7.toInt ∧ r7.toInt ≤ 1 := h7
            refine lv_if_eq (tgt := 62) hx hb dX10_settles_41 (by decide) (fun c8 => ?_) (fun c8 => ?_)
            · have t8 : r7.toInt = (0 : Int) := gl_eq c8
              obtain ⟨x9, e9⟩ : ∃ t : Int32, t = w5_2 + 1 := ⟨_, rfl⟩
              refine lv_iinc (v := x9) (lv' := [(2, .int x9), (0, .ref (o + 0)), (1, .int a0)]) hx hb dX10_settles_62 hl (k := 0) rfl (by rw [e9]; rfl) (by decide) rfl (fun ls hl => ?_)
              have t9 : x9.toInt = w5_2.toInt + (1 : Int) := ga_add e9 rfl rfl (by omega) (by omega)
              refine lv_goto (tgt := 29) hx hb dX10_settles_65 (by decide) ?_
              exact ih5 x9 (show (10 - x9.toInt : Int) < (n5 : Int) from by omega) ⟨by omega, by omega⟩ _ _ hP hS _ (lv_sub hl [0, 1, 2] rfl)
            · have t8 : r7.toInt ≠ (0 : Int) := gl_ne c8
              refine lv_aload_n hx hb dX10_settles_44 rfl (lv_at hl 1 rfl) ?_
              refine qf_get hx hb hts inX10 hown hK hP (q0 := 0) (by decide) (hgU_0 ca o) rfl 7 (by decide) wq_360 (v := .ref (o + 108)) rfl dX10_settles_45 ?_
              refine lv_iload_n hx hb dX10_settles_48 rfl (lv_at hl 2 rfl) ?_
              refine lv_iconst (v := 1) hx hb dX10_settles_49 (by decide) ?_
              refine lv_iload_n hx hb dX10_settles_50 rfl (lv_at hl 0 rfl) ?_
              refine lv_ishl hx hb dX10_settles_51 ?_
              refine lv_topi (fun x10 e10 => ?_)
              have t10 : 1 ≤ x10.toInt ∧ x10.toInt ≤ 512 := ga_shl 9 512 e10 (by decide) (by decide) (by omega) (by omega)
              refine lv_ior hx hb dX10_settles_52 ?_
              refine lv_topi (fun x11 e11 => ?_)
              refine qc_Vip (As := [.int x11]) (rest := []) (k0 := 1) (u_Fits_of l D ca o b z3 y3 J3 x11) kc_yX3_of ⟨hx, hb, hml, hown, hts⟩ wq_644 rfl rfl ⟨Nat.le_of_ble_eq_true rfl, Nat.le_of_ble_eq_true rfl⟩ wq_all hP hK hS qw_Ai (q0 := 108) (by decide) (hgU_108 ca o _ _) rfl rfl hl.1 rfl (Nat.le_of_ble_eq_true rfl) dX10_settles_53 ⟨Nat.zero_le _, Nat.zero_le _⟩ (fun r12 H locs h12 hP hS _ _ => ?_)
              refine lv_iconst (v := 1) hx hb dX10_settles_56 (by decide) ?_
              refine lv_icmp_ne (tgt := 62) hx hb dX10_settles_57 (by decide) (fun c13 => ?_) (fun c13 => ?_)
              · have t13 : r12.toInt ≠ (1 : Int) := gl_ne c13
                obtain ⟨x14, e14⟩ : ∃ t : Int32, t = w5_2 + 1 := ⟨_, rfl⟩
                refine lv_iinc (v := x14) (lv' := [(2, .int x14), (0, .ref (o + 0)), (1, .int a0)]) hx hb dX10_settles_62 hl (k := 0) rfl (by rw [e14]; rfl) (by decide) rfl (fun ls hl => ?_)
                have t14 : x14.toInt = w5_2.toInt + (1 : Int) := ga_add e14 rfl rfl (by omega) (by omega)
                refine lv_goto (tgt := 29) hx hb dX10_settles_65 (by decide) ?_
                exact ih5 x14 (show (10 - x14.toInt : Int) < (n5 : Int) from by omega) ⟨by omega, by omega⟩ _ _ hP hS _ (lv_sub hl [0, 1, 2] rfl)
              · have t13 : r12.toInt = (1 : Int) := gl_eq c13
                refine lv_iload_n hx hb dX10_settles_60 rfl (lv_at hl 0 rfl) ?_
                exact W.iret (v := w5_2) hx hb hr (fun t ht hW => ⟨⟨w5_2, (z3, y3), rfl, ⟨⟨by omega, by omega⟩, J3⟩, by rw [ht]; exact hP, va_K.moved hW.alike hK⟩, hS.F ht⟩) hS.2.2 dX10_settles_61
      exact loop5 11 0 (show (10 - (0 : Int) : Int) < ((11 : Nat) : Int) from by omega) ⟨by decide, by decide⟩ _ _ hP hS _ (lv_sub hl [0, 1, 2] rfl)
    · have t4 : r3.toInt = (0 : Int) := gl_eq c4
      refine lv_bipush (v := (-3)) hx hb dX10_settles_24 (by decide) ?_
      exact W.iret (v := (-3)) hx hb hr (fun t ht hW => ⟨⟨(-3), (z3, y3), rfl, ⟨⟨by decide, by decide⟩, J3⟩, by rw [ht]; exact hP, va_K.moved hW.alike hK⟩, hS.F ht⟩) hS.2.2 dX10_settles_26
  · have t2 : r1.toInt = (0 : Int) := gl_eq c2
    refine lv_iconst (v := (-1)) hx hb dX10_settles_8 (by decide) ?_
    exact W.iret (v := (-1)) hx hb hr (fun t ht hW => ⟨⟨(-1), (z, y), rfl, ⟨⟨by decide, by decide⟩, J0⟩, by rw [ht]; exact hP, va_K.moved hW.alike hK⟩, hS.F ht⟩) hS.2.2 dX10_settles_9
set_option maxRecDepth 100000 in
set_option maxHeartbeats 8000000 in
theorem u_fewest (l : Launch) (D : va_G) (ca : Nat → ClassId) (o : Nat) (b z : Nat → Nat → Int32) (y : Nat → Nat → Int64) (J0 : qJU b z) (a0 : Int32) (a1 : Int32)  : qM l yX10_fewest cX10_fewest 6 (some .int) 6 169 (qPre D vwCl (qT6 ca) o 132 (qG (GU ca o) z y) [.ref (o + 0), .int a0, .int a1]) (va_Qi (fun r u => ((-3 : Int) ≤ r.toInt ∧ r.toInt ≤ 1023) ∧ qJU b u.1) (qB D vwCl (qT6 ca) o 132 (fun u : qZ => qG (GU ca o) u.1 u.2)) (qw_A o 132)) (qw_A o 132) := by
  refine Met.ofW (cc := cX10_fewest) (maxL := 6) (ret := (some .int)) (by decide) rfl ?_
  intro p e s m args below meth c s₁ B hml hv
  obtain ⟨rfl, hP, hK⟩ := hv
  have hx := B.exec
  have hb := B.bytes
  have hr := B.returns
  have hts0 := atoms_spec (ws := Cond.code yX10_fewest cX10_fewest 6 (some .int) :: qtbl) B.pre
  have hts : ∀ w ∈ qtbl, w.before _ s = true := fun w h => hts0 w (List.mem_cons_of_mem _ h)
  have hown : s.vm.findClass RX10 = some m.cls := findClass_of_methodNamed B.named
  have hlocks := B.notSynchronized
  have hS : va_S (qw_A o 132) s.heap s.heap [] := va_S.rf
  have hl := lv_entry ([.ref (o + 0), .int a0, .int a1]) (n := 6) (Nat.le_of_ble_eq_true rfl)
  rw [lg_entry_eq]
  generalize (lg_sl ([.ref (o + 0), .int a0, .int a1]) ++ List.replicate (6 - (lg_sl ([.ref (o + 0), .int a0, .int a1])).length) Slot.unset).toArray = ls at hl ⊢
  have hl : lv_has ls 6 [(0, .ref (o + 0)), (1, .int a0), (2, .int a1)] := hl
  refine lv_aload_n hx hb dX10_fewest_0 rfl (lv_at hl 0 rfl) ?_
  refine lv_iload_n hx hb dX10_fewest_1 rfl (lv_at hl 1 rfl) ?_
  refine qc_Vip (As := [.int a0]) (rest := []) (k0 := 1) (u_areRemarks l D ca o b z y J0 a0) kc_yX10_areRemarks ⟨hx, hb, hml, hown, hts⟩ wq_583 rfl rfl ⟨Nat.le_of_ble_eq_true rfl, Nat.le_of_ble_eq_true rfl⟩ wq_all hP hK hS qw_Ai (q0 := 0) (by decide) (hgU_0 ca o _ _) rfl rfl hl.1 rfl (Nat.le_of_ble_eq_true rfl) dX10_fewest_2 ⟨Nat.zero_le _, Nat.zero_le _⟩ (fun r1 H locs h1 hP hS _ _ => ?_)
  have b1 : (0 : Int) ≤ r1.toInt ∧ r1.toInt ≤ 1 := h1
  refine lv_if_eq (tgt := 17) hx hb dX10_fewest_5 (by decide) (fun c2 => ?_) (fun c2 => ?_)
  · have t2 : r1.toInt = (0 : Int) := gl_eq c2
    refine lv_iconst (v := (-1)) hx hb dX10_fewest_17 (by decide) ?_
    exact W.iret (v := (-1)) hx hb hr (fun t ht hW => ⟨⟨(-1), (z, y), rfl, ⟨⟨by decide, by decide⟩, J0⟩, by rw [ht]; exact hP, va_K.moved hW.alike hK⟩, hS.F ht⟩) hS.2.2 dX10_fewest_18
  · have t2 : r1.toInt ≠ (0 : Int) := gl_ne c2
    refine lv_iload_n hx hb dX10_fewest_8 rfl (lv_at hl 2 rfl) ?_
    refine lv_if_lt (tgt := 17) hx hb dX10_fewest_9 (by decide) (fun c3 => ?_) (fun c3 => ?_)
    · have t3 : a1.toInt < (0 : Int) := gl_lt c3
      refine lv_iconst (v := (-1)) hx hb dX10_fewest_17 (by decide) ?_
      exact W.iret (v := (-1)) hx hb hr (fun t ht hW => ⟨⟨(-1), (z, y), rfl, ⟨⟨by decide, by decide⟩, J0⟩, by rw [ht]; exact hP, va_K.moved hW.alike hK⟩, hS.F ht⟩) hS.2.2 dX10_fewest_18
    · have t3 : a1.toInt ≥ (0 : Int) := gl_nlt c3
      refine lv_iload_n hx hb dX10_fewest_12 rfl (lv_at hl 2 rfl) ?_
      refine lv_iconst (v := 1) hx hb dX10_fewest_13 (by decide) ?_
      refine lv_icmp_le (tgt := 19) hx hb dX10_fewest_14 (by decide) (fun c4 => ?_) (fun c4 => ?_)
      · have t4 : a1.toInt ≤ (1 : Int) := gl_le c4
        refine lv_aload_n hx hb dX10_fewest_19 rfl (lv_at hl 0 rfl) ?_
        refine qf_get hx hb hts inX10 hown hK hP (q0 := 0) (by decide) (hgU_0 ca o) rfl 7 (by decide) wq_360 (v := .ref (o + 108)) rfl dX10_fewest_20 ?_
        refine lv_aload_n hx hb dX10_fewest_23 rfl (lv_at hl 0 rfl) ?_
        refine qf_get hx hb hts inX10 hown hK hP (q0 := 0) (by decide) (hgU_0 ca o) rfl 6 (by decide) wq_359 (v := .ref (o + 104)) rfl dX10_fewest_24 ?_
        refine qc_Vi2 (As := [.ref (o + 104)]) (rest := []) (k0 := 1) (u_Fits_isCounted l D ca o b z y J0) kc_yX3_isCounted ⟨hx, hb, hml, hown, hts⟩ wq_627 rfl rfl ⟨Nat.le_of_ble_eq_true rfl, Nat.le_of_ble_eq_true rfl⟩ wq_all hP hK hS qw_Ai (q0 := 108) (by decide) (hgU_108 ca o _ _) rfl rfl hl.1 rfl (Nat.le_of_ble_eq_true rfl) dX10_fewest_27 ⟨Nat.zero_le _, Nat.zero_le _⟩ (fun r5 z5 y5 H locs h5 hP hS _ _ => ?_)
        have J5 : qJU b z5 := h5.2
        have b5 : (0 : Int) ≤ r5.toInt ∧ r5.toInt ≤ 1 := h5.1
        refine lv_if_ne (tgt := 36) hx hb dX10_fewest_30 (by decide) (fun c6 => ?_) (fun c6 => ?_)
        · have t6 : r5.toInt ≠ (0 : Int) := gl_ne c6
          refine lv_aload_n hx hb dX10_fewest_36 rfl (lv_at hl 0 rfl) ?_
          refine qf_get hx hb hts inX10 hown hK hP (q0 := 0) (by decide) (hgU_0 ca o) rfl 0 (by decide) wq_353 (v := .ref (o + 1)) rfl dX10_fewest_37 ?_
          refine qc_Vip (As := []) (rest := []) (k0 := 0) (u_Told_remarksSaid l D ca o b z5 y5 J5) kc_yX9_remarksSaid ⟨hx, hb, hml, hown, hts⟩ wq_553 rfl rfl ⟨Nat.le_of_ble_eq_true rfl, Nat.le_of_ble_eq_true rfl⟩ wq_all hP hK hS qw_Ai (q0 := 1) (by decide) (hgU_1 ca o _ _) rfl rfl hl.1 rfl (Nat.le_of_ble_eq_true rfl) dX10_fewest_40 ⟨Nat.zero_le _, Nat.zero_le _⟩ (fun r7 H locs h7 hP hS _ _ => ?_)
          have b7 : (0 : Int) ≤ r7.toInt ∧ r7.toInt ≤ 1023 := h7
          refine lv_iload_n hx hb dX10_fewest_43 rfl (lv_at hl 1 rfl) ?_
          refine lv_iconst (v := (-1)) hx hb dX10_fewest_44 (by decide) ?_
          refine lv_ixor hx hb dX10_fewest_45 ?_
          refine lv_topi (fun x8 e8 => ?_)
          refine lv_iand hx hb dX10_fewest_46 ?_
          refine lv_topi (fun x9 e9 => ?_)
          have t9 : 0 ≤ x9.toInt ∧ x9.toInt ≤ r7.toInt := ga_and' e9 rfl (by omega)
          refine lv_istore_n (lv' := [(3, .int x9), (0, .ref (o + 0)), (1, .int a0), (2, .int a1)]) hx hb dX10_fewest_47 rfl hl (by decide) rfl (fun ls hl => ?_)
          refine lv_iconst (v := (-1)) hx hb dX10_fewest_48 (by decide) ?_
          refine lv_istore (lv' := [(4, .int ((-1))), (3, .int x9), (0, .ref (o + 0)), (1, .int a0), (2, .int a1)]) hx hb dX10_fewest_49 hl (by decide) rfl (fun ls hl => ?_)
          refine lv_iconst (v := 0) hx hb dX10_fewest_51 (by decide) ?_
          refine lv_istore (lv' := [(5, .int 0), (4, .int ((-1))), (3, .int x9), (0, .ref (o + 0)), (1, .int a0), (2, .int a1)]) hx hb dX10_fewest_52 hl (by decide) rfl (fun ls hl => ?_)
          have loop10 : ∀ (n : Nat) (w10_5 : Int32) (w10_4 : Int32), ((1024 - w10_5.toInt : Int) < (n : Int)) → ((0 : Int) ≤ w10_5.toInt ∧ w10_5.toInt ≤ 1024) → ((-1 : Int) ≤ w10_4.toInt ∧ w10_4.toInt ≤ 1023) → ∀ (H : Heap) (locs : List Loc), qw_P D vwCl o 132 (qG (GU ca o) z5 y5) H → va_S (qw_A o 132) s.heap H locs → ∀ (ls : Array Slot), lv_has ls 6 [(5, .int w10_5), (4, .int w10_4), (3, .int x9), (0, .ref (o + 0)), (1, .int a0), (2, .int a1)] → W p l e (headSpec (Cond.code yX10_fewest cX10_fewest 6 (some .int) :: qtbl) ({ frames := 6, cells := 0, slots := 0, locals := 169 })).room s m (([.ref (o + 0), .int a0, .int a1] : List Value).toArray) below meth c H locs 0 0 (MQ below (va_Qi (fun r u => ((-3 : Int) ≤ r.toInt ∧ r.toInt ≤ 1023) ∧ qJU b u.1) (qB D vwCl (qT6 ca) o 132 (fun u : qZ => qG (GU ca o) u.1 u.2)) (qw_A o 132)) (([.ref (o + 0), .int a0, .int a1] : List Value).toArray) s 0 0 (qw_A o 132)) (F0 m 54 ls []) := by
            intro n
            induction n with
            | zero => intro w10_5 w10_4 hb10 hv10_5 hv10_4; exfalso; omega
            | succ n10 ih10 =>
              intro w10_5 w10_4 hb10 hv10_5 hv10_4 H locs hP hS ls hl
              refine lv_iload hx hb dX10_fewest_54 (lv_at hl 0 rfl) ?_
              refine lv_sipush (v := 1024) hx hb dX10_fewest_56 (by decide) ?_
              refine lv_icmp_ge (tgt := 120) hx hb dX10_fewest_59 (by decide) (fun c11 => ?_) (fun c11 => ?_)
              · have t11 : w10_5.toInt ≥ (1024 : Int) := gl_le c11
                refine lv_iload hx hb dX10_fewest_120 (lv_at hl 1 rfl) ?_
                refine lv_if_ge (tgt := 128) hx hb dX10_fewest_122 (by decide) (fun c12 => ?_) (fun c12 => ?_)
                · have t12 : w10_4.toInt ≥ (0 : Int) := gl_le c12
                  refine lv_iload_n hx hb dX10_fewest_128 rfl (lv_at hl 5 rfl) ?_
                  refine lv_if_ne (tgt := 140) hx hb dX10_fewest_129 (by decide) (fun c13 => ?_) (fun c13 => ?_)
                  · have t13 : a1.toInt ≠ (0 : Int) := gl_ne c13
                    refine lv_iload hx hb dX10_fewest_140 (lv_at hl 1 rfl) ?_
                    exact W.iret (v := w10_4) hx hb hr (fun t ht hW => ⟨⟨w10_4, (z5, y5), rfl, ⟨⟨by omega, by omega⟩, J5⟩, by rw [ht]; exact hP, va_K.moved hW.alike hK⟩, hS.F ht⟩) hS.2.2 dX10_fewest_142
                  · have t13 : a1.toInt = (0 : Int) := gl_eq c13
                    refine lv_iload hx hb dX10_fewest_132 (lv_at hl 1 rfl) ?_
                    refine qc_Sip (As := [.int w10_4]) (rest := []) (k0 := 1) (u_Integer_bitCount l D ca o b z5 y5 J5 w10_4) kc_yJ6_bitCount_0f7a4 ⟨hx, hb, hml, hown, hts⟩ wq_513 rfl rfl ⟨Nat.le_of_ble_eq_true rfl, Nat.le_of_ble_eq_true rfl⟩ wq_all hP hK hS qw_Ai rfl hl.1 rfl (Nat.le_of_ble_eq_true rfl) dX10_fewest_134 ⟨Nat.zero_le _, Nat.zero_le _⟩ (fun r14 H locs h14 hP hS _ _ => ?_)
                    have b14 : (0 : Int) ≤ r14.toInt ∧ r14.toInt ≤ 63 := h14
                    refine lv_goto (tgt := 142) hx hb dX10_fewest_137 (by decide) ?_
                    exact W.iret (v := r14) hx hb hr (fun t ht hW => ⟨⟨r14, (z5, y5), rfl, ⟨⟨by omega, by omega⟩, J5⟩, by rw [ht]; exact hP, va_K.moved hW.alike hK⟩, hS.F ht⟩) hS.2.2 dX10_fewest_142
                · have t12 : w10_4.toInt < (0 : Int) := gl_nle c12
                  refine lv_bipush (v := (-2)) hx hb dX10_fewest_125 (by decide) ?_
                  exact W.iret (v := (-2)) hx hb hr (fun t ht hW => ⟨⟨(-2), (z5, y5), rfl, ⟨⟨by decide, by decide⟩, J5⟩, by rw [ht]; exact hP, va_K.moved hW.alike hK⟩, hS.F ht⟩) hS.2.2 dX10_fewest_127
              · have t11 : w10_5.toInt < (1024 : Int) := gl_nle c11
                refine lv_iload hx hb dX10_fewest_62 (lv_at hl 0 rfl) ?_
                refine lv_iload_n hx hb dX10_fewest_64 rfl (lv_at hl 2 rfl) ?_
                refine lv_iconst (v := (-1)) hx hb dX10_fewest_65 (by decide) ?_
                refine lv_ixor hx hb dX10_fewest_66 ?_
                refine lv_topi (fun x15 e15 => ?_)
                refine lv_iand hx hb dX10_fewest_67 ?_
                refine lv_topi (fun x16 e16 => ?_)
                have t16 : 0 ≤ x16.toInt ∧ x16.toInt ≤ w10_5.toInt := ga_and' e16 rfl (by omega)
                refine lv_if_ne (tgt := 114) hx hb dX10_fewest_68 (by decide) (fun c17 => ?_) (fun c17 => ?_)
                · have t17 : x16.toInt ≠ (0 : Int) := gl_ne c17
                  obtain ⟨x18, e18⟩ : ∃ t : Int32, t = w10_5 + 1 := ⟨_, rfl⟩
                  refine lv_iinc (v := x18) (lv' := [(5, .int x18), (4, .int w10_4), (3, .int x9), (0, .ref (o + 0)), (1, .int a0), (2, .int a1)]) hx hb dX10_fewest_114 hl (k := 0) rfl (by rw [e18]; rfl) (by decide) rfl (fun ls hl => ?_)
                  have t18 : x18.toInt = w10_5.toInt + (1 : Int) := ga_add e18 rfl rfl (by omega) (by omega)
                  refine lv_goto (tgt := 54) hx hb dX10_fewest_117 (by decide) ?_
                  exact ih10 x18 w10_4 (show (1024 - x18.toInt : Int) < (n10 : Int) from by omega) ⟨by omega, by omega⟩ ⟨by omega, by omega⟩ _ _ hP hS _ (lv_sub hl [0, 1, 2, 3, 4, 5] rfl)
                · have t17 : x16.toInt = (0 : Int) := gl_eq c17
                  refine lv_iload hx hb dX10_fewest_71 (lv_at hl 0 rfl) ?_
                  refine qc_Sip (As := [.int w10_5]) (rest := []) (k0 := 1) (u_Integer_bitCount l D ca o b z5 y5 J5 w10_5) kc_yJ6_bitCount_0f7a4 ⟨hx, hb, hml, hown, hts⟩ wq_513 rfl rfl ⟨Nat.le_of_ble_eq_true rfl, Nat.le_of_ble_eq_true rfl⟩ wq_all hP hK hS qw_Ai rfl hl.1 rfl (Nat.le_of_ble_eq_true rfl) dX10_fewest_73 ⟨Nat.zero_le _, Nat.zero_le _⟩ (fun r19 H locs h19 hP hS _ _ => ?_)
                  have b19 : (0 : Int) ≤ r19.toInt ∧ r19.toInt ≤ 63 := h19
                  refine lv_iconst (v := 3) hx hb dX10_fewest_76 (by decide) ?_
                  refine lv_icmp_gt (tgt := 114) hx hb dX10_fewest_77 (by decide) (fun c20 => ?_) (fun c20 => ?_)
                  · have t20 : r19.toInt > (3 : Int) := gl_lt c20
                    obtain ⟨x21, e21⟩ : ∃ t : Int32, t = w10_5 + 1 := ⟨_, rfl⟩
                    refine lv_iinc (v := x21) (lv' := [(5, .int x21), (4, .int w10_4), (3, .int x9), (0, .ref (o + 0)), (1, .int a0), (2, .int a1)]) hx hb dX10_fewest_114 hl (k := 0) rfl (by rw [e21]; rfl) (by decide) rfl (fun ls hl => ?_)
                    have t21 : x21.toInt = w10_5.toInt + (1 : Int) := ga_add e21 rfl rfl (by omega) (by omega)
                    refine lv_goto (tgt := 54) hx hb dX10_fewest_117 (by decide) ?_
                    exact ih10 x21 w10_4 (show (1024 - x21.toInt : Int) < (n10 : Int) from by omega) ⟨by omega, by omega⟩ ⟨by omega, by omega⟩ _ _ hP hS _ (lv_sub hl [0, 1, 2, 3, 4, 5] rfl)
                  · have t20 : r19.toInt ≤ (3 : Int) := gl_nlt c20
                    refine lv_aload_n hx hb dX10_fewest_80 rfl (lv_at hl 3 rfl) ?_
                    refine qf_get hx hb hts inX10 hown hK hP (q0 := 0) (by decide) (hgU_0 ca o) rfl 7 (by decide) wq_360 (v := .ref (o + 108)) rfl dX10_fewest_81 ?_
                    refine lv_iload_n hx hb dX10_fewest_84 rfl (lv_at hl 4 rfl) ?_
                    refine lv_iload hx hb dX10_fewest_85 (lv_at hl 0 rfl) ?_
                    refine lv_ior hx hb dX10_fewest_87 ?_
                    refine lv_topi (fun x22 e22 => ?_)
                    refine qc_Vip (As := [.int x22]) (rest := []) (k0 := 1) (u_Fits_of l D ca o b z5 y5 J5 x22) kc_yX3_of ⟨hx, hb, hml, hown, hts⟩ wq_644 rfl rfl ⟨Nat.le_of_ble_eq_true rfl, Nat.le_of_ble_eq_true rfl⟩ wq_all hP hK hS qw_Ai (q0 := 108) (by decide) (hgU_108 ca o _ _) rfl rfl hl.1 rfl (Nat.le_of_ble_eq_true rfl) dX10_fewest_88 ⟨Nat.zero_le _, Nat.zero_le _⟩ (fun r23 H locs h23 hP hS _ _ => ?_)
                    refine lv_iconst (v := 1) hx hb dX10_fewest_91 (by decide) ?_
                    refine lv_icmp_ne (tgt := 114) hx hb dX10_fewest_92 (by decide) (fun c24 => ?_) (fun c24 => ?_)
                    · have t24 : r23.toInt ≠ (1 : Int) := gl_ne c24
                      obtain ⟨x25, e25⟩ : ∃ t : Int32, t = w10_5 + 1 := ⟨_, rfl⟩
                      refine lv_iinc (v := x25) (lv' := [(5, .int x25), (4, .int w10_4), (3, .int x9), (0, .ref (o + 0)), (1, .int a0), (2, .int a1)]) hx hb dX10_fewest_114 hl (k := 0) rfl (by rw [e25]; rfl) (by decide) rfl (fun ls hl => ?_)
                      have t25 : x25.toInt = w10_5.toInt + (1 : Int) := ga_add e25 rfl rfl (by omega) (by omega)
                      refine lv_goto (tgt := 54) hx hb dX10_fewest_117 (by decide) ?_
                      exact ih10 x25 w10_4 (show (1024 - x25.toInt : Int) < (n10 : Int) from by omega) ⟨by omega, by omega⟩ ⟨by omega, by omega⟩ _ _ hP hS _ (lv_sub hl [0, 1, 2, 3, 4, 5] rfl)
                    · have t24 : r23.toInt = (1 : Int) := gl_eq c24
                      refine lv_iload hx hb dX10_fewest_95 (lv_at hl 1 rfl) ?_
                      refine lv_if_lt (tgt := 110) hx hb dX10_fewest_97 (by decide) (fun c26 => ?_) (fun c26 => ?_)
                      · have t26 : w10_4.toInt < (0 : Int) := gl_lt c26
                        refine lv_iload hx hb dX10_fewest_110 (lv_at hl 0 rfl) ?_
                        refine lv_istore (lv' := [(4, .int w10_5), (5, .int w10_5), (3, .int x9), (0, .ref (o + 0)), (1, .int a0), (2, .int a1)]) hx hb dX10_fewest_112 hl (by decide) rfl (fun ls hl => ?_)
                        obtain ⟨x27, e27⟩ : ∃ t : Int32, t = w10_5 + 1 := ⟨_, rfl⟩
                        refine lv_iinc (v := x27) (lv' := [(5, .int x27), (4, .int w10_5), (3, .int x9), (0, .ref (o + 0)), (1, .int a0), (2, .int a1)]) hx hb dX10_fewest_114 hl (k := 1) rfl (by rw [e27]; rfl) (by decide) rfl (fun ls hl => ?_)
                        have t27 : x27.toInt = w10_5.toInt + (1 : Int) := ga_add e27 rfl rfl (by omega) (by omega)
                        refine lv_goto (tgt := 54) hx hb dX10_fewest_117 (by decide) ?_
                        exact ih10 x27 w10_5 (show (1024 - x27.toInt : Int) < (n10 : Int) from by omega) ⟨by omega, by omega⟩ ⟨by omega, by omega⟩ _ _ hP hS _ (lv_sub hl [0, 1, 2, 3, 4, 5] rfl)
                      · have t26 : w10_4.toInt ≥ (0 : Int) := gl_nlt c26
                        refine lv_iload hx hb dX10_fewest_100 (lv_at hl 0 rfl) ?_
                        refine lv_iload hx hb dX10_fewest_102 (lv_at hl 1 rfl) ?_
                        refine qc_Sip (As := [.int w10_5, .int w10_4]) (rest := []) (k0 := 2) (u_isFewer l D ca o b z5 y5 J5 w10_5 w10_4) kc_yX10_isFewer ⟨hx, hb, hml, hown, hts⟩ wq_698 rfl rfl ⟨Nat.le_of_ble_eq_true rfl, Nat.le_of_ble_eq_true rfl⟩ wq_all hP hK hS qw_Ai rfl hl.1 rfl (Nat.le_of_ble_eq_true rfl) dX10_fewest_104 ⟨Nat.zero_le _, Nat.zero_le _⟩ (fun r28 H locs h28 hP hS _ _ => ?_)
                        have b28 : (0 : Int) ≤ r28.toInt ∧ r28.toInt ≤ 1 := h28
                        refine lv_if_eq (tgt := 114) hx hb dX10_fewest_107 (by decide) (fun c29 => ?_) (fun c29 => ?_)
                        · have t29 : r28.toInt = (0 : Int) := gl_eq c29
                          obtain ⟨x30, e30⟩ : ∃ t : Int32, t = w10_5 + 1 := ⟨_, rfl⟩
                          refine lv_iinc (v := x30) (lv' := [(5, .int x30), (4, .int w10_4), (3, .int x9), (0, .ref (o + 0)), (1, .int a0), (2, .int a1)]) hx hb dX10_fewest_114 hl (k := 0) rfl (by rw [e30]; rfl) (by decide) rfl (fun ls hl => ?_)
                          have t30 : x30.toInt = w10_5.toInt + (1 : Int) := ga_add e30 rfl rfl (by omega) (by omega)
                          refine lv_goto (tgt := 54) hx hb dX10_fewest_117 (by decide) ?_
                          exact ih10 x30 w10_4 (show (1024 - x30.toInt : Int) < (n10 : Int) from by omega) ⟨by omega, by omega⟩ ⟨by omega, by omega⟩ _ _ hP hS _ (lv_sub hl [0, 1, 2, 3, 4, 5] rfl)
                        · have t29 : r28.toInt ≠ (0 : Int) := gl_ne c29
                          refine lv_iload hx hb dX10_fewest_110 (lv_at hl 0 rfl) ?_
                          refine lv_istore (lv' := [(4, .int w10_5), (5, .int w10_5), (3, .int x9), (0, .ref (o + 0)), (1, .int a0), (2, .int a1)]) hx hb dX10_fewest_112 hl (by decide) rfl (fun ls hl => ?_)
                          obtain ⟨x31, e31⟩ : ∃ t : Int32, t = w10_5 + 1 := ⟨_, rfl⟩
                          refine lv_iinc (v := x31) (lv' := [(5, .int x31), (4, .int w10_5), (3, .int x9), (0, .ref (o + 0)), (1, .int a0), (2, .int a1)]) hx hb dX10_fewest_114 hl (k := 1) rfl (by rw [e31]; rfl) (by decide) rfl (fun ls hl => ?_)
                          have t31 : x31.toInt = w10_5.toInt + (1 : Int) := ga_add e31 rfl rfl (by omega) (by omega)
                          refine lv_goto (tgt := 54) hx hb dX10_fewest_117 (by decide) ?_
                          exact ih10 x31 w10_5 (show (1024 - x31.toInt : Int) < (n10 : Int) from by omega) ⟨by omega, by omega⟩ ⟨by omega, by omega⟩ _ _ hP hS _ (lv_sub hl [0, 1, 2, 3, 4, 5] rfl)
          exact loop10 1025 0 (-1) (show (1024 - (0 : Int) : Int) < ((1025 : Nat) : Int) from by omega) ⟨by decide, by decide⟩ ⟨by decide, by decide⟩ _ _ hP hS _ (lv_sub hl [0, 1, 2, 3, 4, 5] rfl)
        · have t6 : r5.toInt = (0 : Int) := gl_eq c6
          refine lv_bipush (v := (-3)) hx hb dX10_fewest_33 (by decide) ?_
          exact W.iret (v := (-3)) hx hb hr (fun t ht hW => ⟨⟨(-3), (z5, y5), rfl, ⟨⟨by decide, by decide⟩, J5⟩, by rw [ht]; exact hP, va_K.moved hW.alike hK⟩, hS.F ht⟩) hS.2.2 dX10_fewest_35
      · have t4 : a1.toInt > (1 : Int) := gl_nle c4
        refine lv_iconst (v := (-1)) hx hb dX10_fewest_17 (by decide) ?_
        exact W.iret (v := (-1)) hx hb hr (fun t ht hW => ⟨⟨(-1), (z, y), rfl, ⟨⟨by decide, by decide⟩, J0⟩, by rw [ht]; exact hP, va_K.moved hW.alike hK⟩, hS.F ht⟩) hS.2.2 dX10_fewest_18
set_option maxRecDepth 100000 in
set_option maxHeartbeats 8000000 in
theorem u_Rows_offByOne (l : Launch) (D : va_G) (ca : Nat → ClassId) (o : Nat) (b z : Nat → Nat → Int32) (y : Nat → Nat → Int64) (J0 : qJU b z)   : qM l yX7_offByOne cX7_offByOne 4 (some .int) 2 81 (qPre D vwCl (qT6 ca) o 132 (qG (GU ca o) z y) [.ref (o + 104)]) (va_Qi (fun r (_ : Unit) => ((-1 : Int) ≤ r.toInt ∧ r.toInt ≤ 1023)) (qB D vwCl (qT6 ca) o 132 (fun _ : Unit => qG (GU ca o) z y)) (qw_A o 132)) (qw_A o 132) := by
  refine Met.ofW (cc := cX7_offByOne) (maxL := 4) (ret := (some .int)) (by decide) rfl ?_
  intro p e s m args below meth c s₁ B hml hv
  obtain ⟨rfl, hP, hK⟩ := hv
  have hx := B.exec
  have hb := B.bytes
  have hr := B.returns
  have hts0 := atoms_spec (ws := Cond.code yX7_offByOne cX7_offByOne 4 (some .int) :: qtbl) B.pre
  have hts : ∀ w ∈ qtbl, w.before _ s = true := fun w h => hts0 w (List.mem_cons_of_mem _ h)
  have hown : s.vm.findClass RX7 = some m.cls := findClass_of_methodNamed B.named
  have hlocks := B.notSynchronized
  have hS : va_S (qw_A o 132) s.heap s.heap [] := va_S.rf
  have hl := lv_entry ([.ref (o + 104)]) (n := 4) (Nat.le_of_ble_eq_true rfl)
  rw [lg_entry_eq]
  generalize (lg_sl ([.ref (o + 104)]) ++ List.replicate (4 - (lg_sl ([.ref (o + 104)])).length) Slot.unset).toArray = ls at hl ⊢
  have hl : lv_has ls 4 [(0, .ref (o + 104))] := hl
  refine lv_iconst (v := 0) hx hb dX7_offByOne_0 (by decide) ?_
  refine lv_istore_n (lv' := [(1, .int 0), (0, .ref (o + 104))]) hx hb dX7_offByOne_1 rfl hl (by decide) rfl (fun ls hl => ?_)
  refine lv_iconst (v := 0) hx hb dX7_offByOne_2 (by decide) ?_
  refine lv_istore_n (lv' := [(2, .int 0), (1, .int 0), (0, .ref (o + 104))]) hx hb dX7_offByOne_3 rfl hl (by decide) rfl (fun ls hl => ?_)
  have loop1 : ∀ (n : Nat) (w1_2 : Int32) (w1_1 : Int32), ((10 - w1_2.toInt : Int) < (n : Int)) → ((0 : Int) ≤ w1_2.toInt ∧ w1_2.toInt ≤ 10) → ((0 : Int) ≤ w1_1.toInt ∧ w1_1.toInt ≤ 1023) → ∀ (H : Heap) (locs : List Loc), qw_P D vwCl o 132 (qG (GU ca o) z y) H → va_S (qw_A o 132) s.heap H locs → ∀ (ls : Array Slot), lv_has ls 4 [(2, .int w1_2), (1, .int w1_1), (0, .ref (o + 104))] → W p l e (headSpec (Cond.code yX7_offByOne cX7_offByOne 4 (some .int) :: qtbl) ({ frames := 2, cells := 0, slots := 0, locals := 81 })).room s m (([.ref (o + 104)] : List Value).toArray) below meth c H locs 0 0 (MQ below (va_Qi (fun r (_ : Unit) => ((-1 : Int) ≤ r.toInt ∧ r.toInt ≤ 1023)) (qB D vwCl (qT6 ca) o 132 (fun _ : Unit => qG (GU ca o) z y)) (qw_A o 132)) (([.ref (o + 104)] : List Value).toArray) s 0 0 (qw_A o 132)) (F0 m 4 ls []) := by
    intro n
    induction n with
    | zero => intro w1_2 w1_1 hb1 hv1_2 hv1_1; exfalso; omega
    | succ n1 ih1 =>
      intro w1_2 w1_1 hb1 hv1_2 hv1_1 H locs hP hS ls hl
      refine lv_iload_n hx hb dX7_offByOne_4 rfl (lv_at hl 0 rfl) ?_
      refine lv_aload_n hx hb dX7_offByOne_5 rfl (lv_at hl 2 rfl) ?_
      refine qf_get hx hb hts inX7 hown hK hP (q0 := 104) (by decide) (hgU_104 ca o) rfl 4 (by decide) wq_192 (v := .int (z 104 4)) rfl dX7_offByOne_6 ?_
      refine lv_topi (fun x2 e2 => ?_)
      have b2 := iU_104_4 J0 e2
      refine lv_icmp_ge (tgt := 86) hx hb dX7_offByOne_9 (by decide) (fun c3 => ?_) (fun c3 => ?_)
      · have t3 : w1_2.toInt ≥ x2.toInt := gl_le c3
        refine lv_iload_n hx hb dX7_offByOne_86 rfl (lv_at hl 1 rfl) ?_
        exact W.iret (v := w1_1) hx hb hr (fun t ht hW => ⟨⟨w1_1, (), rfl, ⟨by omega, by omega⟩, by rw [ht]; exact hP, va_K.moved hW.alike hK⟩, hS.F ht⟩) hS.2.2 dX7_offByOne_87
      · have t3 : w1_2.toInt < x2.toInt := gl_nle c3
        refine lv_aload_n hx hb dX7_offByOne_12 rfl (lv_at hl 2 rfl) ?_
        refine qf_get hx hb hts inX7 hown hK hP (q0 := 104) (by decide) (hgU_104 ca o) rfl 0 (by decide) wq_185 (v := .ref (o + 1)) rfl dX7_offByOne_13 ?_
        refine qf_get hx hb hts inX9 hown hK hP (q0 := 1) (by decide) (hgU_1 ca o) rfl 4 (by decide) wq_95 (v := .ref (o + 6)) rfl dX7_offByOne_16 ?_
        refine lv_aload_n hx hb dX7_offByOne_19 rfl (lv_at hl 2 rfl) ?_
        refine qf_get hx hb hts inX7 hown hK hP (q0 := 104) (by decide) (hgU_104 ca o) rfl 2 (by decide) wq_190 (v := .ref (o + 106)) rfl dX7_offByOne_20 ?_
        refine lv_iload_n hx hb dX7_offByOne_23 rfl (lv_at hl 0 rfl) ?_
        refine qa_iald hx hb hK hP (q0 := 106) (by decide) 0 (N := 10) (hgU_106 ca o) rfl (gi_in (by omega) (by omega)) dX7_offByOne_24 ?_
        refine lv_topi (fun x4 e4 => ?_)
        have b4 := iU_106 J0 e4
        have hi_x4 : x4.toNatClampNeg < 16 := ga_nat (by omega) (show _ < (16 : Int) from by omega)
        refine qa_aald hx hb hK hP (q0 := 6) (by decide) 4 rfl (N := 16) (hgU_6 ca o) rfl (gi_in (by omega) (by omega)) dX7_offByOne_25 ?_
        refine lv_astore_n (lv' := [(3, .ref (o + (7 + 2 * x4.toNatClampNeg))), (2, .int w1_2), (1, .int w1_1), (0, .ref (o + 104))]) hx hb dX7_offByOne_26 rfl hl (by decide) rfl (fun ls hl => ?_)
        refine lv_aload_n hx hb dX7_offByOne_27 rfl (lv_at hl 0 rfl) ?_
        refine lv_aload_n hx hb dX7_offByOne_28 rfl (lv_at hl 3 rfl) ?_
        refine qf_get hx hb hts inX7 hown hK hP (q0 := 104) (by decide) (hgU_104 ca o) rfl 3 (by decide) wq_191 (v := .ref (o + 107)) rfl dX7_offByOne_29 ?_
        refine lv_iload_n hx hb dX7_offByOne_32 rfl (lv_at hl 1 rfl) ?_
        refine qa_iald hx hb hK hP (q0 := 107) (by decide) 0 (N := 10) (hgU_107 ca o) rfl (gi_in (by omega) (by omega)) dX7_offByOne_33 ?_
        refine lv_topi (fun x5 e5 => ?_)
        refine qc_Vip (As := [.int x5]) (rest := []) (k0 := 1) (u_Line_holds l D ca o b z y J0 (i0_ := x4.toNatClampNeg) hi_x4 x5) kc_yX5_holds ⟨hx, hb, hml, hown, hts⟩ wq_623 rfl rfl ⟨Nat.le_of_ble_eq_true rfl, Nat.le_of_ble_eq_true rfl⟩ wq_all hP hK hS qw_Ai (q0 := 7 + 2 * x4.toNatClampNeg) (show _ < _ from by have := hi_x4; omega) (hgU_LT ca o hi_x4 _ _) rfl rfl hl.1 rfl (Nat.le_of_ble_eq_true rfl) dX7_offByOne_34 ⟨Nat.zero_le _, Nat.zero_le _⟩ (fun r6 H locs h6 hP hS _ _ => ?_)
        have b6 : (0 : Int) ≤ r6.toInt ∧ r6.toInt ≤ 1 := h6
        refine lv_if_ne (tgt := 80) hx hb dX7_offByOne_37 (by decide) (fun c7 => ?_) (fun c7 => ?_)
        · have t7 : r6.toInt ≠ (0 : Int) := gl_ne c7
          obtain ⟨x8, e8⟩ : ∃ t : Int32, t = w1_2 + 1 := ⟨_, rfl⟩
          refine lv_iinc (v := x8) (lv' := [(2, .int x8), (3, .ref (o + (7 + 2 * x4.toNatClampNeg))), (1, .int w1_1), (0, .ref (o + 104))]) hx hb dX7_offByOne_80 hl (k := 1) rfl (by rw [e8]; rfl) (by decide) rfl (fun ls hl => ?_)
          have t8 : x8.toInt = w1_2.toInt + (1 : Int) := ga_add e8 rfl rfl (by omega) (by omega)
          refine lv_goto (tgt := 4) hx hb dX7_offByOne_83 (by decide) ?_
          exact ih1 x8 w1_1 (show (10 - x8.toInt : Int) < (n1 : Int) from by omega) ⟨by omega, by omega⟩ ⟨by omega, by omega⟩ _ _ hP hS _ (lv_sub hl [0, 2, 3] rfl)
        · have t7 : r6.toInt = (0 : Int) := gl_eq c7
          refine lv_aload_n hx hb dX7_offByOne_40 rfl (lv_at hl 0 rfl) ?_
          refine qf_get hx hb hts inX5 hown hK hP (q0 := 7 + 2 * x4.toNatClampNeg) (show _ < _ from by have := hi_x4; omega) (hgU_LT ca o hi_x4) rfl 3 (by decide) wq_54 (v := .int (z (7 + 2 * x4.toNatClampNeg) 3)) rfl dX7_offByOne_41 ?_
          refine lv_topi (fun x9 e9 => ?_)
          refine lv_if_ne (tgt := 67) hx hb dX7_offByOne_44 (by decide) (fun c10 => ?_) (fun c10 => ?_)
          · have t10 : x9.toInt ≠ (0 : Int) := gl_ne c10
            refine lv_iconst (v := (-1)) hx hb dX7_offByOne_67 (by decide) ?_
            exact W.iret (v := (-1)) hx hb hr (fun t ht hW => ⟨⟨(-1), (), rfl, ⟨by decide, by decide⟩, by rw [ht]; exact hP, va_K.moved hW.alike hK⟩, hS.F ht⟩) hS.2.2 dX7_offByOne_68
          · have t10 : x9.toInt = (0 : Int) := gl_eq c10
            refine lv_aload_n hx hb dX7_offByOne_47 rfl (lv_at hl 3 rfl) ?_
            refine qf_get hx hb hts inX7 hown hK hP (q0 := 104) (by decide) (hgU_104 ca o) rfl 3 (by decide) wq_191 (v := .ref (o + 107)) rfl dX7_offByOne_48 ?_
            refine lv_iload_n hx hb dX7_offByOne_51 rfl (lv_at hl 1 rfl) ?_
            refine qa_iald hx hb hK hP (q0 := 107) (by decide) 0 (N := 10) (hgU_107 ca o) rfl (gi_in (by omega) (by omega)) dX7_offByOne_52 ?_
            refine lv_topi (fun x11 e11 => ?_)
            have ag11 : x11.toInt = x5.toInt := congrArg Int32.toInt (e11.trans e5.symm)
            refine lv_iconst (v := 1) hx hb dX7_offByOne_53 (by decide) ?_
            refine lv_icmp_eq (tgt := 69) hx hb dX7_offByOne_54 (by decide) (fun c12 => ?_) (fun c12 => ?_)
            · have t12 : x11.toInt = (1 : Int) := gl_eq c12
              refine lv_iload_n hx hb dX7_offByOne_69 rfl (lv_at hl 2 rfl) ?_
              refine lv_iconst (v := 1) hx hb dX7_offByOne_70 (by decide) ?_
              refine lv_aload_n hx hb dX7_offByOne_71 rfl (lv_at hl 3 rfl) ?_
              refine qf_get hx hb hts inX7 hown hK hP (q0 := 104) (by decide) (hgU_104 ca o) rfl 2 (by decide) wq_190 (v := .ref (o + 106)) rfl dX7_offByOne_72 ?_
              refine lv_iload_n hx hb dX7_offByOne_75 rfl (lv_at hl 1 rfl) ?_
              refine qa_iald hx hb hK hP (q0 := 106) (by decide) 0 (N := 10) (hgU_106 ca o) rfl (gi_in (by omega) (by omega)) dX7_offByOne_76 ?_
              refine lv_topi (fun x13 e13 => ?_)
              have b13 := iU_106 J0 e13
              have ag13 : x13.toInt = x4.toInt := congrArg Int32.toInt (e13.trans e4.symm)
              refine lv_ishl hx hb dX7_offByOne_77 ?_
              refine lv_topi (fun x14 e14 => ?_)
              have t14 : 1 ≤ x14.toInt ∧ x14.toInt ≤ 512 := ga_shl 9 512 e14 (by decide) (by decide) (by omega) (by omega)
              refine lv_ior hx hb dX7_offByOne_78 ?_
              refine lv_topi (fun x15 e15 => ?_)
              have t15 : 0 ≤ x15.toInt ∧ x15.toInt < 1024 := ga_or 10 1024 e15 rfl rfl (by decide) (by decide) (by omega) (by omega) (by omega) (by omega)
              refine lv_istore_n (lv' := [(1, .int x15), (3, .ref (o + (7 + 2 * x4.toNatClampNeg))), (2, .int w1_2), (0, .ref (o + 104))]) hx hb dX7_offByOne_79 rfl hl (by decide) rfl (fun ls hl => ?_)
              obtain ⟨x16, e16⟩ : ∃ t : Int32, t = w1_2 + 1 := ⟨_, rfl⟩
              refine lv_iinc (v := x16) (lv' := [(2, .int x16), (1, .int x15), (3, .ref (o + (7 + 2 * x4.toNatClampNeg))), (0, .ref (o + 104))]) hx hb dX7_offByOne_80 hl (k := 2) rfl (by rw [e16]; rfl) (by decide) rfl (fun ls hl => ?_)
              have t16 : x16.toInt = w1_2.toInt + (1 : Int) := ga_add e16 rfl rfl (by omega) (by omega)
              refine lv_goto (tgt := 4) hx hb dX7_offByOne_83 (by decide) ?_
              exact ih1 x16 x15 (show (10 - x16.toInt : Int) < (n1 : Int) from by omega) ⟨by omega, by omega⟩ ⟨by omega, by omega⟩ _ _ hP hS _ (lv_sub hl [0, 1, 3] rfl)
            · have t12 : x11.toInt ≠ (1 : Int) := gl_ne c12
              refine lv_aload_n hx hb dX7_offByOne_57 rfl (lv_at hl 3 rfl) ?_
              refine qf_get hx hb hts inX7 hown hK hP (q0 := 104) (by decide) (hgU_104 ca o) rfl 3 (by decide) wq_191 (v := .ref (o + 107)) rfl dX7_offByOne_58 ?_
              refine lv_iload_n hx hb dX7_offByOne_61 rfl (lv_at hl 1 rfl) ?_
              refine qa_iald hx hb hK hP (q0 := 107) (by decide) 0 (N := 10) (hgU_107 ca o) rfl (gi_in (by omega) (by omega)) dX7_offByOne_62 ?_
              refine lv_topi (fun x17 e17 => ?_)
              have ag17 : x17.toInt = x5.toInt := congrArg Int32.toInt (e17.trans e5.symm)
              refine lv_iconst (v := (-1)) hx hb dX7_offByOne_63 (by decide) ?_
              refine lv_icmp_eq (tgt := 69) hx hb dX7_offByOne_64 (by decide) (fun c18 => ?_) (fun c18 => ?_)
              · have t18 : x17.toInt = (-1 : Int) := gl_eq c18
                refine lv_iload_n hx hb dX7_offByOne_69 rfl (lv_at hl 2 rfl) ?_
                refine lv_iconst (v := 1) hx hb dX7_offByOne_70 (by decide) ?_
                refine lv_aload_n hx hb dX7_offByOne_71 rfl (lv_at hl 3 rfl) ?_
                refine qf_get hx hb hts inX7 hown hK hP (q0 := 104) (by decide) (hgU_104 ca o) rfl 2 (by decide) wq_190 (v := .ref (o + 106)) rfl dX7_offByOne_72 ?_
                refine lv_iload_n hx hb dX7_offByOne_75 rfl (lv_at hl 1 rfl) ?_
                refine qa_iald hx hb hK hP (q0 := 106) (by decide) 0 (N := 10) (hgU_106 ca o) rfl (gi_in (by omega) (by omega)) dX7_offByOne_76 ?_
                refine lv_topi (fun x19 e19 => ?_)
                have b19 := iU_106 J0 e19
                have ag19 : x19.toInt = x4.toInt := congrArg Int32.toInt (e19.trans e4.symm)
                refine lv_ishl hx hb dX7_offByOne_77 ?_
                refine lv_topi (fun x20 e20 => ?_)
                have t20 : 1 ≤ x20.toInt ∧ x20.toInt ≤ 512 := ga_shl 9 512 e20 (by decide) (by decide) (by omega) (by omega)
                refine lv_ior hx hb dX7_offByOne_78 ?_
                refine lv_topi (fun x21 e21 => ?_)
                have t21 : 0 ≤ x21.toInt ∧ x21.toInt < 1024 := ga_or 10 1024 e21 rfl rfl (by decide) (by decide) (by omega) (by omega) (by omega) (by omega)
                refine lv_istore_n (lv' := [(1, .int x21), (3, .ref (o + (7 + 2 * x4.toNatClampNeg))), (2, .int w1_2), (0, .ref (o + 104))]) hx hb dX7_offByOne_79 rfl hl (by decide) rfl (fun ls hl => ?_)
                obtain ⟨x22, e22⟩ : ∃ t : Int32, t = w1_2 + 1 := ⟨_, rfl⟩
                refine lv_iinc (v := x22) (lv' := [(2, .int x22), (1, .int x21), (3, .ref (o + (7 + 2 * x4.toNatClampNeg))), (0, .ref (o + 104))]) hx hb dX7_offByOne_80 hl (k := 2) rfl (by rw [e22]; rfl) (by decide) rfl (fun ls hl => ?_)
                have t22 : x22.toInt = w1_2.toInt + (1 : Int) := ga_add e22 rfl rfl (by omega) (by omega)
                refine lv_goto (tgt := 4) hx hb dX7_offByOne_83 (by decide) ?_
                exact ih1 x22 x21 (show (10 - x22.toInt : Int) < (n1 : Int) from by omega) ⟨by omega, by omega⟩ ⟨by omega, by omega⟩ _ _ hP hS _ (lv_sub hl [0, 1, 3] rfl)
              · have t18 : x17.toInt ≠ (-1 : Int) := gl_ne c18
                refine lv_iconst (v := (-1)) hx hb dX7_offByOne_67 (by decide) ?_
                exact W.iret (v := (-1)) hx hb hr (fun t ht hW => ⟨⟨(-1), (), rfl, ⟨by decide, by decide⟩, by rw [ht]; exact hP, va_K.moved hW.alike hK⟩, hS.F ht⟩) hS.2.2 dX7_offByOne_68
  exact loop1 11 0 0 (show (10 - (0 : Int) : Int) < ((11 : Nat) : Int) from by omega) ⟨by decide, by decide⟩ ⟨by decide, by decide⟩ _ _ hP hS _ (lv_sub hl [0, 1, 2] rfl)
set_option maxRecDepth 100000 in
set_option maxHeartbeats 8000000 in
theorem u_offByAYear (l : Launch) (D : va_G) (ca : Nat → ClassId) (o : Nat) (b z : Nat → Nat → Int32) (y : Nat → Nat → Int64) (J0 : qJU b z) (a0 : Int32) (a1 : Int32)  : qM l yX10_offByAYear cX10_offByAYear 6 (some .int) 4 128 (qPre D vwCl (qT6 ca) o 132 (qG (GU ca o) z y) [.ref (o + 0), .int a0, .int a1]) (va_Qi (fun r u => ((-3 : Int) ≤ r.toInt ∧ r.toInt ≤ 1023) ∧ qJU b u.1) (qB D vwCl (qT6 ca) o 132 (fun u : qZ => qG (GU ca o) u.1 u.2)) (qw_A o 132)) (qw_A o 132) := by
  refine Met.ofW (cc := cX10_offByAYear) (maxL := 6) (ret := (some .int)) (by decide) rfl ?_
  intro p e s m args below meth c s₁ B hml hv
  obtain ⟨rfl, hP, hK⟩ := hv
  have hx := B.exec
  have hb := B.bytes
  have hr := B.returns
  have hts0 := atoms_spec (ws := Cond.code yX10_offByAYear cX10_offByAYear 6 (some .int) :: qtbl) B.pre
  have hts : ∀ w ∈ qtbl, w.before _ s = true := fun w h => hts0 w (List.mem_cons_of_mem _ h)
  have hown : s.vm.findClass RX10 = some m.cls := findClass_of_methodNamed B.named
  have hlocks := B.notSynchronized
  have hS : va_S (qw_A o 132) s.heap s.heap [] := va_S.rf
  have hl := lv_entry ([.ref (o + 0), .int a0, .int a1]) (n := 6) (Nat.le_of_ble_eq_true rfl)
  rw [lg_entry_eq]
  generalize (lg_sl ([.ref (o + 0), .int a0, .int a1]) ++ List.replicate (6 - (lg_sl ([.ref (o + 0), .int a0, .int a1])).length) Slot.unset).toArray = ls at hl ⊢
  have hl : lv_has ls 6 [(0, .ref (o + 0)), (1, .int a0), (2, .int a1)] := hl
  refine lv_aload_n hx hb dX10_offByAYear_0 rfl (lv_at hl 0 rfl) ?_
  refine lv_iload_n hx hb dX10_offByAYear_1 rfl (lv_at hl 1 rfl) ?_
  refine qc_Vip (As := [.int a0]) (rest := []) (k0 := 1) (u_areRemarks l D ca o b z y J0 a0) kc_yX10_areRemarks ⟨hx, hb, hml, hown, hts⟩ wq_583 rfl rfl ⟨Nat.le_of_ble_eq_true rfl, Nat.le_of_ble_eq_true rfl⟩ wq_all hP hK hS qw_Ai (q0 := 0) (by decide) (hgU_0 ca o _ _) rfl rfl hl.1 rfl (Nat.le_of_ble_eq_true rfl) dX10_offByAYear_2 ⟨Nat.zero_le _, Nat.zero_le _⟩ (fun r1 H locs h1 hP hS _ _ => ?_)
  have b1 : (0 : Int) ≤ r1.toInt ∧ r1.toInt ≤ 1 := h1
  refine lv_if_eq (tgt := 17) hx hb dX10_offByAYear_5 (by decide) (fun c2 => ?_) (fun c2 => ?_)
  · have t2 : r1.toInt = (0 : Int) := gl_eq c2
    refine lv_iconst (v := (-1)) hx hb dX10_offByAYear_17 (by decide) ?_
    exact W.iret (v := (-1)) hx hb hr (fun t ht hW => ⟨⟨(-1), (z, y), rfl, ⟨⟨by decide, by decide⟩, J0⟩, by rw [ht]; exact hP, va_K.moved hW.alike hK⟩, hS.F ht⟩) hS.2.2 dX10_offByAYear_18
  · have t2 : r1.toInt ≠ (0 : Int) := gl_ne c2
    refine lv_iload_n hx hb dX10_offByAYear_8 rfl (lv_at hl 2 rfl) ?_
    refine lv_if_lt (tgt := 17) hx hb dX10_offByAYear_9 (by decide) (fun c3 => ?_) (fun c3 => ?_)
    · have t3 : a1.toInt < (0 : Int) := gl_lt c3
      refine lv_iconst (v := (-1)) hx hb dX10_offByAYear_17 (by decide) ?_
      exact W.iret (v := (-1)) hx hb hr (fun t ht hW => ⟨⟨(-1), (z, y), rfl, ⟨⟨by decide, by decide⟩, J0⟩, by rw [ht]; exact hP, va_K.moved hW.alike hK⟩, hS.F ht⟩) hS.2.2 dX10_offByAYear_18
    · have t3 : a1.toInt ≥ (0 : Int) := gl_nlt c3
      refine lv_iload_n hx hb dX10_offByAYear_12 rfl (lv_at hl 2 rfl) ?_
      refine lv_iconst (v := 1) hx hb dX10_offByAYear_13 (by decide) ?_
      refine lv_icmp_le (tgt := 19) hx hb dX10_offByAYear_14 (by decide) (fun c4 => ?_) (fun c4 => ?_)
      · have t4 : a1.toInt ≤ (1 : Int) := gl_le c4
        refine lv_aload_n hx hb dX10_offByAYear_19 rfl (lv_at hl 0 rfl) ?_
        refine qf_get hx hb hts inX10 hown hK hP (q0 := 0) (by decide) (hgU_0 ca o) rfl 6 (by decide) wq_359 (v := .ref (o + 104)) rfl dX10_offByAYear_20 ?_
        refine lv_iload_n hx hb dX10_offByAYear_23 rfl (lv_at hl 1 rfl) ?_
        refine qc_Vi2 (As := [.int a0]) (rest := []) (k0 := 1) (u_Rows_start l D ca o b z y J0 a0) kc_yX7_start ⟨hx, hb, hml, hown, hts⟩ wq_661 rfl rfl ⟨Nat.le_of_ble_eq_true rfl, Nat.le_of_ble_eq_true rfl⟩ wq_all hP hK hS qw_Ai (q0 := 104) (by decide) (hgU_104 ca o _ _) rfl rfl hl.1 rfl (Nat.le_of_ble_eq_true rfl) dX10_offByAYear_24 ⟨Nat.zero_le _, Nat.zero_le _⟩ (fun r5 z5 y5 H locs h5 hP hS _ _ => ?_)
        have J5 : qJU b z5 := h5.2
        have b5 : (0 : Int) ≤ r5.toInt ∧ r5.toInt ≤ 1 := h5.1
        refine lv_if_ne (tgt := 33) hx hb dX10_offByAYear_27 (by decide) (fun c6 => ?_) (fun c6 => ?_)
        · have t6 : r5.toInt ≠ (0 : Int) := gl_ne c6
          refine lv_iconst (v := (-1)) hx hb dX10_offByAYear_33 (by decide) ?_
          refine lv_istore_n (lv' := [(3, .int ((-1))), (0, .ref (o + 0)), (1, .int a0), (2, .int a1)]) hx hb dX10_offByAYear_34 rfl hl (by decide) rfl (fun ls hl => ?_)
          refine lv_iconst (v := 0) hx hb dX10_offByAYear_35 (by decide) ?_
          refine lv_istore (lv' := [(4, .int 0), (3, .int ((-1))), (0, .ref (o + 0)), (1, .int a0), (2, .int a1)]) hx hb dX10_offByAYear_36 hl (by decide) rfl (fun ls hl => ?_)
          have loop7 : ∀ (n : Nat) (w7_4 : Int32) (w7_3 : Int32) (z7 : Nat → Nat → Int32) (y7 : Nat → Nat → Int64), ((200000 - w7_4.toInt : Int) < (n : Int)) → ((0 : Int) ≤ w7_4.toInt ∧ w7_4.toInt ≤ 200000) → ((-1 : Int) ≤ w7_3.toInt ∧ w7_3.toInt ≤ 1023) → (qJU b z7) → ∀ (H : Heap) (locs : List Loc), qw_P D vwCl o 132 (qG (GU ca o) z7 y7) H → va_S (qw_A o 132) s.heap H locs → ∀ (ls : Array Slot), lv_has ls 6 [(4, .int w7_4), (3, .int w7_3), (0, .ref (o + 0)), (1, .int a0), (2, .int a1)] → W p l e (headSpec (Cond.code yX10_offByAYear cX10_offByAYear 6 (some .int) :: qtbl) ({ frames := 4, cells := 0, slots := 0, locals := 128 })).room s m (([.ref (o + 0), .int a0, .int a1] : List Value).toArray) below meth c H locs 0 0 (MQ below (va_Qi (fun r u => ((-3 : Int) ≤ r.toInt ∧ r.toInt ≤ 1023) ∧ qJU b u.1) (qB D vwCl (qT6 ca) o 132 (fun u : qZ => qG (GU ca o) u.1 u.2)) (qw_A o 132)) (([.ref (o + 0), .int a0, .int a1] : List Value).toArray) s 0 0 (qw_A o 132)) (F0 m 38 ls []) := by
            intro n
            induction n with
            | zero => intro w7_4 w7_3 z7 y7 hb7 hv7_4 hv7_3 J7; exfalso; omega
            | succ n7 ih7 =>
              intro w7_4 w7_3 z7 y7 hb7 hv7_4 hv7_3 J7 H locs hP hS ls hl
              refine lv_iload hx hb dX10_offByAYear_38 (lv_at hl 0 rfl) ?_
              refine lv_ldc (v := 200000) hx hb hown (hts _ wq_663) dX10_offByAYear_40 ?_
              refine lv_icmp_ge (tgt := 91) hx hb dX10_offByAYear_42 (by decide) (fun c8 => ?_) (fun c8 => ?_)
              · have t8 : w7_4.toInt ≥ (200000 : Int) := gl_le c8
                refine lv_iload_n hx hb dX10_offByAYear_91 rfl (lv_at hl 1 rfl) ?_
                refine lv_if_ge (tgt := 98) hx hb dX10_offByAYear_92 (by decide) (fun c9 => ?_) (fun c9 => ?_)
                · have t9 : w7_3.toInt ≥ (0 : Int) := gl_le c9
                  refine lv_iload_n hx hb dX10_offByAYear_98 rfl (lv_at hl 4 rfl) ?_
                  refine lv_if_ne (tgt := 109) hx hb dX10_offByAYear_99 (by decide) (fun c10 => ?_) (fun c10 => ?_)
                  · have t10 : a1.toInt ≠ (0 : Int) := gl_ne c10
                    refine lv_iload_n hx hb dX10_offByAYear_109 rfl (lv_at hl 1 rfl) ?_
                    exact W.iret (v := w7_3) hx hb hr (fun t ht hW => ⟨⟨w7_3, (z7, y7), rfl, ⟨⟨by omega, by omega⟩, J7⟩, by rw [ht]; exact hP, va_K.moved hW.alike hK⟩, hS.F ht⟩) hS.2.2 dX10_offByAYear_110
                  · have t10 : a1.toInt = (0 : Int) := gl_eq c10
                    refine lv_iload_n hx hb dX10_offByAYear_102 rfl (lv_at hl 1 rfl) ?_
                    refine qc_Sip (As := [.int w7_3]) (rest := []) (k0 := 1) (u_Integer_bitCount l D ca o b z7 y7 J7 w7_3) kc_yJ6_bitCount_0f7a4 ⟨hx, hb, hml, hown, hts⟩ wq_513 rfl rfl ⟨Nat.le_of_ble_eq_true rfl, Nat.le_of_ble_eq_true rfl⟩ wq_all hP hK hS qw_Ai rfl hl.1 rfl (Nat.le_of_ble_eq_true rfl) dX10_offByAYear_103 ⟨Nat.zero_le _, Nat.zero_le _⟩ (fun r11 H locs h11 hP hS _ _ => ?_)
                    have b11 : (0 : Int) ≤ r11.toInt ∧ r11.toInt ≤ 63 := h11
                    refine lv_goto (tgt := 110) hx hb dX10_offByAYear_106 (by decide) ?_
                    exact W.iret (v := r11) hx hb hr (fun t ht hW => ⟨⟨r11, (z7, y7), rfl, ⟨⟨by omega, by omega⟩, J7⟩, by rw [ht]; exact hP, va_K.moved hW.alike hK⟩, hS.F ht⟩) hS.2.2 dX10_offByAYear_110
                · have t9 : w7_3.toInt < (0 : Int) := gl_nle c9
                  refine lv_bipush (v := (-2)) hx hb dX10_offByAYear_95 (by decide) ?_
                  exact W.iret (v := (-2)) hx hb hr (fun t ht hW => ⟨⟨(-2), (z7, y7), rfl, ⟨⟨by decide, by decide⟩, J7⟩, by rw [ht]; exact hP, va_K.moved hW.alike hK⟩, hS.F ht⟩) hS.2.2 dX10_offByAYear_97
              · have t8 : w7_4.toInt < (200000 : Int) := gl_nle c8
                refine lv_aload_n hx hb dX10_offByAYear_45 rfl (lv_at hl 2 rfl) ?_
                refine qf_get hx hb hts inX10 hown hK hP (q0 := 0) (by decide) (hgU_0 ca o) rfl 6 (by decide) wq_359 (v := .ref (o + 104)) rfl dX10_offByAYear_46 ?_
                refine qc_Vi2 (As := []) (rest := []) (k0 := 0) (u_Rows_move l D ca o b z7 y7 J7) kc_yX7_move ⟨hx, hb, hml, hown, hts⟩ wq_693 rfl rfl ⟨Nat.le_of_ble_eq_true rfl, Nat.le_of_ble_eq_true rfl⟩ wq_all hP hK hS qw_Ai (q0 := 104) (by decide) (hgU_104 ca o _ _) rfl rfl hl.1 rfl (Nat.le_of_ble_eq_true rfl) dX10_offByAYear_49 ⟨Nat.zero_le _, Nat.zero_le _⟩ (fun r12 z12 y12 H locs h12 hP hS _ _ => ?_)
                have J12 : qJU b z12 := h12.2
                have b12 : (0 : Int) ≤ r12.toInt ∧ r12.toInt ≤ 1 := h12.1
                refine lv_if_eq (tgt := 91) hx hb dX10_offByAYear_52 (by decide) (fun c13 => ?_) (fun c13 => ?_)
                · have t13 : r12.toInt = (0 : Int) := gl_eq c13
                  refine lv_iload_n hx hb dX10_offByAYear_91 rfl (lv_at hl 1 rfl) ?_
                  refine lv_if_ge (tgt := 98) hx hb dX10_offByAYear_92 (by decide) (fun c14 => ?_) (fun c14 => ?_)
                  · have t14 : w7_3.toInt ≥ (0 : Int) := gl_le c14
                    refine lv_iload_n hx hb dX10_offByAYear_98 rfl (lv_at hl 4 rfl) ?_
                    refine lv_if_ne (tgt := 109) hx hb dX10_offByAYear_99 (by decide) (fun c15 => ?_) (fun c15 => ?_)
                    · have t15 : a1.toInt ≠ (0 : Int) := gl_ne c15
                      refine lv_iload_n hx hb dX10_offByAYear_109 rfl (lv_at hl 1 rfl) ?_
                      exact W.iret (v := w7_3) hx hb hr (fun t ht hW => ⟨⟨w7_3, (z12, y12), rfl, ⟨⟨by omega, by omega⟩, J12⟩, by rw [ht]; exact hP, va_K.moved hW.alike hK⟩, hS.F ht⟩) hS.2.2 dX10_offByAYear_110
                    · have t15 : a1.toInt = (0 : Int) := gl_eq c15
                      refine lv_iload_n hx hb dX10_offByAYear_102 rfl (lv_at hl 1 rfl) ?_
                      refine qc_Sip (As := [.int w7_3]) (rest := []) (k0 := 1) (u_Integer_bitCount l D ca o b z12 y12 J12 w7_3) kc_yJ6_bitCount_0f7a4 ⟨hx, hb, hml, hown, hts⟩ wq_513 rfl rfl ⟨Nat.le_of_ble_eq_true rfl, Nat.le_of_ble_eq_true rfl⟩ wq_all hP hK hS qw_Ai rfl hl.1 rfl (Nat.le_of_ble_eq_true rfl) dX10_offByAYear_103 ⟨Nat.zero_le _, Nat.zero_le _⟩ (fun r16 H locs h16 hP hS _ _ => ?_)
                      have b16 : (0 : Int) ≤ r16.toInt ∧ r16.toInt ≤ 63 := h16
                      refine lv_goto (tgt := 110) hx hb dX10_offByAYear_106 (by decide) ?_
                      exact W.iret (v := r16) hx hb hr (fun t ht hW => ⟨⟨r16, (z12, y12), rfl, ⟨⟨by omega, by omega⟩, J12⟩, by rw [ht]; exact hP, va_K.moved hW.alike hK⟩, hS.F ht⟩) hS.2.2 dX10_offByAYear_110
                  · have t14 : w7_3.toInt < (0 : Int) := gl_nle c14
                    refine lv_bipush (v := (-2)) hx hb dX10_offByAYear_95 (by decide) ?_
                    exact W.iret (v := (-2)) hx hb hr (fun t ht hW => ⟨⟨(-2), (z12, y12), rfl, ⟨⟨by decide, by decide⟩, J12⟩, by rw [ht]; exact hP, va_K.moved hW.alike hK⟩, hS.F ht⟩) hS.2.2 dX10_offByAYear_97
                · have t13 : r12.toInt ≠ (0 : Int) := gl_ne c13
                  refine lv_aload_n hx hb dX10_offByAYear_55 rfl (lv_at hl 2 rfl) ?_
                  refine qf_get hx hb hts inX10 hown hK hP (q0 := 0) (by decide) (hgU_0 ca o) rfl 6 (by decide) wq_359 (v := .ref (o + 104)) rfl dX10_offByAYear_56 ?_
                  refine qc_Vip (As := []) (rest := []) (k0 := 0) (u_Rows_offByOne l D ca o b z12 y12 J12) kc_yX7_offByOne ⟨hx, hb, hml, hown, hts⟩ wq_694 rfl rfl ⟨Nat.le_of_ble_eq_true rfl, Nat.le_of_ble_eq_true rfl⟩ wq_all hP hK hS qw_Ai (q0 := 104) (by decide) (hgU_104 ca o _ _) rfl rfl hl.1 rfl (Nat.le_of_ble_eq_true rfl) dX10_offByAYear_59 ⟨Nat.zero_le _, Nat.zero_le _⟩ (fun r17 H locs h17 hP hS _ _ => ?_)
                  have b17 : (-1 : Int) ≤ r17.toInt ∧ r17.toInt ≤ 1023 := h17
                  refine lv_istore (lv' := [(5, .int r17), (4, .int w7_4), (3, .int w7_3), (0, .ref (o + 0)), (1, .int a0), (2, .int a1)]) hx hb dX10_offByAYear_62 hl (by decide) rfl (fun ls hl => ?_)
                  refine lv_iload hx hb dX10_offByAYear_64 (lv_at hl 0 rfl) ?_
                  refine lv_if_lt (tgt := 85) hx hb dX10_offByAYear_66 (by decide) (fun c18 => ?_) (fun c18 => ?_)
                  · have t18 : r17.toInt < (0 : Int) := gl_lt c18
                    obtain ⟨x19, e19⟩ : ∃ t : Int32, t = w7_4 + 1 := ⟨_, rfl⟩
                    refine lv_iinc (v := x19) (lv' := [(4, .int x19), (5, .int r17), (3, .int w7_3), (0, .ref (o + 0)), (1, .int a0), (2, .int a1)]) hx hb dX10_offByAYear_85 hl (k := 1) rfl (by rw [e19]; rfl) (by decide) rfl (fun ls hl => ?_)
                    have t19 : x19.toInt = w7_4.toInt + (1 : Int) := ga_add e19 rfl rfl (by omega) (by omega)
                    refine lv_goto (tgt := 38) hx hb dX10_offByAYear_88 (by decide) ?_
                    exact ih7 x19 w7_3 z12 y12 (show (200000 - x19.toInt : Int) < (n7 : Int) from by omega) ⟨by omega, by omega⟩ ⟨by omega, by omega⟩ J12 _ _ hP hS _ (lv_sub hl [0, 2, 3, 4, 5] rfl)
                  · have t18 : r17.toInt ≥ (0 : Int) := gl_nlt c18
                    refine lv_iload_n hx hb dX10_offByAYear_69 rfl (lv_at hl 2 rfl) ?_
                    refine lv_if_lt (tgt := 82) hx hb dX10_offByAYear_70 (by decide) (fun c20 => ?_) (fun c20 => ?_)
                    · have t20 : w7_3.toInt < (0 : Int) := gl_lt c20
                      refine lv_iload hx hb dX10_offByAYear_82 (lv_at hl 0 rfl) ?_
                      refine lv_istore_n (lv' := [(3, .int r17), (5, .int r17), (4, .int w7_4), (0, .ref (o + 0)), (1, .int a0), (2, .int a1)]) hx hb dX10_offByAYear_84 rfl hl (by decide) rfl (fun ls hl => ?_)
                      obtain ⟨x21, e21⟩ : ∃ t : Int32, t = w7_4 + 1 := ⟨_, rfl⟩
                      refine lv_iinc (v := x21) (lv' := [(4, .int x21), (3, .int r17), (5, .int r17), (0, .ref (o + 0)), (1, .int a0), (2, .int a1)]) hx hb dX10_offByAYear_85 hl (k := 2) rfl (by rw [e21]; rfl) (by decide) rfl (fun ls hl => ?_)
                      have t21 : x21.toInt = w7_4.toInt + (1 : Int) := ga_add e21 rfl rfl (by omega) (by omega)
                      refine lv_goto (tgt := 38) hx hb dX10_offByAYear_88 (by decide) ?_
                      exact ih7 x21 r17 z12 y12 (show (200000 - x21.toInt : Int) < (n7 : Int) from by omega) ⟨by omega, by omega⟩ ⟨by omega, by omega⟩ J12 _ _ hP hS _ (lv_sub hl [0, 1, 3, 4, 5] rfl)
                    · have t20 : w7_3.toInt ≥ (0 : Int) := gl_nlt c20
                      refine lv_iload hx hb dX10_offByAYear_73 (lv_at hl 0 rfl) ?_
                      refine lv_iload_n hx hb dX10_offByAYear_75 rfl (lv_at hl 2 rfl) ?_
                      refine qc_Sip (As := [.int r17, .int w7_3]) (rest := []) (k0 := 2) (u_isFewer l D ca o b z12 y12 J12 r17 w7_3) kc_yX10_isFewer ⟨hx, hb, hml, hown, hts⟩ wq_698 rfl rfl ⟨Nat.le_of_ble_eq_true rfl, Nat.le_of_ble_eq_true rfl⟩ wq_all hP hK hS qw_Ai rfl hl.1 rfl (Nat.le_of_ble_eq_true rfl) dX10_offByAYear_76 ⟨Nat.zero_le _, Nat.zero_le _⟩ (fun r22 H locs h22 hP hS _ _ => ?_)
                      have b22 : (0 : Int) ≤ r22.toInt ∧ r22.toInt ≤ 1 := h22
                      refine lv_if_eq (tgt := 85) hx hb dX10_offByAYear_79 (by decide) (fun c23 => ?_) (fun c23 => ?_)
                      · have t23 : r22.toInt = (0 : Int) := gl_eq c23
                        obtain ⟨x24, e24⟩ : ∃ t : Int32, t = w7_4 + 1 := ⟨_, rfl⟩
                        refine lv_iinc (v := x24) (lv' := [(4, .int x24), (5, .int r17), (3, .int w7_3), (0, .ref (o + 0)), (1, .int a0), (2, .int a1)]) hx hb dX10_offByAYear_85 hl (k := 1) rfl (by rw [e24]; rfl) (by decide) rfl (fun ls hl => ?_)
                        have t24 : x24.toInt = w7_4.toInt + (1 : Int) := ga_add e24 rfl rfl (by omega) (by omega)
                        refine lv_goto (tgt := 38) hx hb dX10_offByAYear_88 (by decide) ?_
                        exact ih7 x24 w7_3 z12 y12 (show (200000 - x24.toInt : Int) < (n7 : Int) from by omega) ⟨by omega, by omega⟩ ⟨by omega, by omega⟩ J12 _ _ hP hS _ (lv_sub hl [0, 2, 3, 4, 5] rfl)
                      · have t23 : r22.toInt ≠ (0 : Int) := gl_ne c23
                        refine lv_iload hx hb dX10_offByAYear_82 (lv_at hl 0 rfl) ?_
                        refine lv_istore_n (lv' := [(3, .int r17), (5, .int r17), (4, .int w7_4), (0, .ref (o + 0)), (1, .int a0), (2, .int a1)]) hx hb dX10_offByAYear_84 rfl hl (by decide) rfl (fun ls hl => ?_)
                        obtain ⟨x25, e25⟩ : ∃ t : Int32, t = w7_4 + 1 := ⟨_, rfl⟩
                        refine lv_iinc (v := x25) (lv' := [(4, .int x25), (3, .int r17), (5, .int r17), (0, .ref (o + 0)), (1, .int a0), (2, .int a1)]) hx hb dX10_offByAYear_85 hl (k := 2) rfl (by rw [e25]; rfl) (by decide) rfl (fun ls hl => ?_)
                        have t25 : x25.toInt = w7_4.toInt + (1 : Int) := ga_add e25 rfl rfl (by omega) (by omega)
                        refine lv_goto (tgt := 38) hx hb dX10_offByAYear_88 (by decide) ?_
                        exact ih7 x25 r17 z12 y12 (show (200000 - x25.toInt : Int) < (n7 : Int) from by omega) ⟨by omega, by omega⟩ ⟨by omega, by omega⟩ J12 _ _ hP hS _ (lv_sub hl [0, 1, 3, 4, 5] rfl)
          exact loop7 200001 0 (-1) z5 y5 (show (200000 - (0 : Int) : Int) < ((200001 : Nat) : Int) from by omega) ⟨by decide, by decide⟩ ⟨by decide, by decide⟩ J5 _ _ hP hS _ (lv_sub hl [0, 1, 2, 3, 4] rfl)
        · have t6 : r5.toInt = (0 : Int) := gl_eq c6
          refine lv_bipush (v := (-3)) hx hb dX10_offByAYear_30 (by decide) ?_
          exact W.iret (v := (-3)) hx hb hr (fun t ht hW => ⟨⟨(-3), (z5, y5), rfl, ⟨⟨by decide, by decide⟩, J5⟩, by rw [ht]; exact hP, va_K.moved hW.alike hK⟩, hS.F ht⟩) hS.2.2 dX10_offByAYear_32
      · have t4 : a1.toInt > (1 : Int) := gl_nle c4
        refine lv_iconst (v := (-1)) hx hb dX10_offByAYear_17 (by decide) ?_
        exact W.iret (v := (-1)) hx hb hr (fun t ht hW => ⟨⟨(-1), (z, y), rfl, ⟨⟨by decide, by decide⟩, J0⟩, by rw [ht]; exact hP, va_K.moved hW.alike hK⟩, hS.F ht⟩) hS.2.2 dX10_offByAYear_18
set_option maxRecDepth 100000 in
set_option maxHeartbeats 8000000 in
theorem u_Told_hasForm (l : Launch) (D : va_G) (ca : Nat → ClassId) (o : Nat) (b z : Nat → Nat → Int32) (y : Nat → Nat → Int64) (J0 : qJU b z) (a0 : Int32)  : qM l yX9_hasForm cX9_hasForm 2 (some .boolean) 2 81 (qPre D vwCl (qT6 ca) o 132 (qG (GU ca o) z y) [.ref (o + 1), .int a0]) (va_Qi (fun r (_ : Unit) => ((r = 1 ∧ (0 ≤ a0.toInt ∧ a0.toInt ≤ 5)) ∨ (r = 0))) (qB D vwCl (qT6 ca) o 132 (fun _ : Unit => qG (GU ca o) z y)) (qw_A o 132)) (qw_A o 132) := by
  refine Met.ofW (cc := cX9_hasForm) (maxL := 2) (ret := (some .boolean)) (by decide) rfl ?_
  intro p e s m args below meth c s₁ B hml hv
  obtain ⟨rfl, hP, hK⟩ := hv
  have hx := B.exec
  have hb := B.bytes
  have hr := B.returns
  have hts0 := atoms_spec (ws := Cond.code yX9_hasForm cX9_hasForm 2 (some .boolean) :: qtbl) B.pre
  have hts : ∀ w ∈ qtbl, w.before _ s = true := fun w h => hts0 w (List.mem_cons_of_mem _ h)
  have hown : s.vm.findClass RX9 = some m.cls := findClass_of_methodNamed B.named
  have hlocks := B.notSynchronized
  have hS : va_S (qw_A o 132) s.heap s.heap [] := va_S.rf
  have hl := lv_entry ([.ref (o + 1), .int a0]) (n := 2) (Nat.le_of_ble_eq_true rfl)
  rw [lg_entry_eq]
  generalize (lg_sl ([.ref (o + 1), .int a0]) ++ List.replicate (2 - (lg_sl ([.ref (o + 1), .int a0])).length) Slot.unset).toArray = ls at hl ⊢
  have hl : lv_has ls 2 [(0, .ref (o + 1)), (1, .int a0)] := hl
  refine lv_iload_n hx hb dX9_hasForm_0 rfl (lv_at hl 1 rfl) ?_
  refine lv_if_lt (tgt := 25) hx hb dX9_hasForm_1 (by decide) (fun c1 => ?_) (fun c1 => ?_)
  · have t1 : a0.toInt < (0 : Int) := gl_lt c1
    refine lv_iconst (v := 0) hx hb dX9_hasForm_25 (by decide) ?_
    exact W.zret (v := 0) (ty := .boolean) hx hb hr rfl (fun t ht hW => ⟨⟨0, (), rfl, Or.inr rfl, by rw [ht]; exact hP, va_K.moved hW.alike hK⟩, hS.F ht⟩) hS.2.2 dX9_hasForm_26
  · have t1 : a0.toInt ≥ (0 : Int) := gl_nlt c1
    refine lv_iload_n hx hb dX9_hasForm_4 rfl (lv_at hl 1 rfl) ?_
    refine lv_bipush (v := 6) hx hb dX9_hasForm_5 (by decide) ?_
    refine lv_icmp_ge (tgt := 25) hx hb dX9_hasForm_7 (by decide) (fun c2 => ?_) (fun c2 => ?_)
    · have t2 : a0.toInt ≥ (6 : Int) := gl_le c2
      refine lv_iconst (v := 0) hx hb dX9_hasForm_25 (by decide) ?_
      exact W.zret (v := 0) (ty := .boolean) hx hb hr rfl (fun t ht hW => ⟨⟨0, (), rfl, Or.inr rfl, by rw [ht]; exact hP, va_K.moved hW.alike hK⟩, hS.F ht⟩) hS.2.2 dX9_hasForm_26
    · have t2 : a0.toInt < (6 : Int) := gl_nle c2
      refine lv_aload_n hx hb dX9_hasForm_10 rfl (lv_at hl 0 rfl) ?_
      refine lv_bipush (v := 10) hx hb dX9_hasForm_11 (by decide) ?_
      refine lv_iload_n hx hb dX9_hasForm_13 rfl (lv_at hl 1 rfl) ?_
      refine lv_iadd hx hb dX9_hasForm_14 ?_
      refine lv_topi (fun x3 e3 => ?_)
      have t3 : x3.toInt = (10 : Int) + a0.toInt := ga_add e3 rfl rfl (by omega) (by omega)
      refine qc_Vip (As := [.int x3]) (rest := []) (k0 := 1) (u_Told_hasLine l D ca o b z y J0 x3) kc_yX9_hasLine ⟨hx, hb, hml, hown, hts⟩ wq_531 rfl rfl ⟨Nat.le_of_ble_eq_true rfl, Nat.le_of_ble_eq_true rfl⟩ wq_all hP hK hS qw_Ai (q0 := 1) (by decide) (hgU_1 ca o _ _) rfl rfl hl.1 rfl (Nat.le_of_ble_eq_true rfl) dX9_hasForm_15 ⟨Nat.zero_le _, Nat.zero_le _⟩ (fun r4 H locs h4 hP hS _ _ => ?_)
      rcases h4 with ⟨hr4, hf4_0⟩ | hr4
      · subst hr4
        have hg4_0 : 0 ≤ x3.toInt ∧ x3.toInt ≤ 15 := hf4_0
        refine lv_if_eq (tgt := 25) hx hb dX9_hasForm_18 (by decide) (fun q => absurd q (by decide)) (fun _ => ?_)
        refine lv_iconst (v := 1) hx hb dX9_hasForm_21 (by decide) ?_
        refine lv_goto (tgt := 26) hx hb dX9_hasForm_22 (by decide) ?_
        exact W.zret (v := 1) (ty := .boolean) hx hb hr rfl (fun t ht hW => ⟨⟨1, (), rfl, Or.inl ⟨rfl, ⟨by omega, by omega⟩⟩, by rw [ht]; exact hP, va_K.moved hW.alike hK⟩, hS.F ht⟩) hS.2.2 dX9_hasForm_26
      · subst hr4
        refine lv_if_eq (tgt := 25) hx hb dX9_hasForm_18 (by decide) (fun _ => ?_) (fun q => absurd (by decide) q)
        refine lv_iconst (v := 0) hx hb dX9_hasForm_25 (by decide) ?_
        exact W.zret (v := 0) (ty := .boolean) hx hb hr rfl (fun t ht hW => ⟨⟨0, (), rfl, Or.inr rfl, by rw [ht]; exact hP, va_K.moved hW.alike hK⟩, hS.F ht⟩) hS.2.2 dX9_hasForm_26
set_option maxRecDepth 100000 in
set_option maxHeartbeats 8000000 in
theorem u_Few_gather (l : Launch) (D : va_G) (ca : Nat → ClassId) (o : Nat) (b z : Nat → Nat → Int32) (y : Nat → Nat → Int64) (J0 : qJU b z) (a1 : Int32)  : qM l yX2_gather cX2_gather 4 (some .boolean) 5 145 (qPre D vwCl (qT6 ca) o 132 (qG (GU ca o) z y) [.ref (o + 110), .ref (o + 104), .int a1]) (va_Qi (fun r u => ((0 : Int) ≤ r.toInt ∧ r.toInt ≤ 1) ∧ qJU b u.1) (qB D vwCl (qT6 ca) o 132 (fun u : qZ => qG (GU ca o) u.1 u.2)) (qw_A o 132)) (qw_A o 132) := by
  refine Met.ofW (cc := cX2_gather) (maxL := 4) (ret := (some .boolean)) (by decide) rfl ?_
  intro p e s m args below meth c s₁ B hml hv
  obtain ⟨rfl, hP, hK⟩ := hv
  have hx := B.exec
  have hb := B.bytes
  have hr := B.returns
  have hts0 := atoms_spec (ws := Cond.code yX2_gather cX2_gather 4 (some .boolean) :: qtbl) B.pre
  have hts : ∀ w ∈ qtbl, w.before _ s = true := fun w h => hts0 w (List.mem_cons_of_mem _ h)
  have hown : s.vm.findClass RX2 = some m.cls := findClass_of_methodNamed B.named
  have hlocks := B.notSynchronized
  have hS : va_S (qw_A o 132) s.heap s.heap [] := va_S.rf
  have hl := lv_entry ([.ref (o + 110), .ref (o + 104), .int a1]) (n := 4) (Nat.le_of_ble_eq_true rfl)
  rw [lg_entry_eq]
  generalize (lg_sl ([.ref (o + 110), .ref (o + 104), .int a1]) ++ List.replicate (4 - (lg_sl ([.ref (o + 110), .ref (o + 104), .int a1])).length) Slot.unset).toArray = ls at hl ⊢
  have hl : lv_has ls 4 [(0, .ref (o + 110)), (1, .ref (o + 104)), (2, .int a1)] := hl
  refine lv_aload_n hx hb dX2_gather_0 rfl (lv_at hl 0 rfl) ?_
  refine lv_iconst (v := 0) hx hb dX2_gather_1 (by decide) ?_
  refine qf_put2 hx hb hts inX2 tyX2 tyX2_ok nmX2 hown hK hP hS qw_Ai (q0 := 110) (by decide) (hgU_110 ca o) rfl 3 (by decide) wq_233 rfl (x := 0) 3 rfl rfl rfl (Nat.le_of_ble_eq_true rfl) dX2_gather_2 (fun z1 H locs hz1 hP hS => ?_)
  have J1 := jU_110_3 J0 hz1 ⟨by decide, by decide⟩
  have k1_0 : (z1 110 3).toInt = (0 : Int) := congrArg Int32.toInt (qt_at hz1)
  refine lv_aload_n hx hb dX2_gather_5 rfl (lv_at hl 1 rfl) ?_
  refine lv_iload_n hx hb dX2_gather_6 rfl (lv_at hl 2 rfl) ?_
  refine qc_Vi2 (As := [.int a1]) (rest := []) (k0 := 1) (u_Rows_start l D ca o b z1 y J1 a1) kc_yX7_start ⟨hx, hb, hml, hown, hts⟩ wq_751 rfl rfl ⟨Nat.le_of_ble_eq_true rfl, Nat.le_of_ble_eq_true rfl⟩ wq_all hP hK hS qw_Ai (q0 := 104) (by decide) (hgU_104 ca o _ _) rfl rfl hl.1 rfl (Nat.le_of_ble_eq_true rfl) dX2_gather_7 ⟨Nat.zero_le _, Nat.zero_le _⟩ (fun r2 z2 y2 H locs h2 hP hS _ _ => ?_)
  have J2 : qJU b z2 := h2.2
  have b2 : (0 : Int) ≤ r2.toInt ∧ r2.toInt ≤ 1 := h2.1
  refine lv_if_ne (tgt := 15) hx hb dX2_gather_10 (by decide) (fun c3 => ?_) (fun c3 => ?_)
  · have t3 : r2.toInt ≠ (0 : Int) := gl_ne c3
    refine lv_iconst (v := 0) hx hb dX2_gather_15 (by decide) ?_
    refine lv_istore_n (lv' := [(3, .int 0), (0, .ref (o + 110)), (1, .ref (o + 104)), (2, .int a1)]) hx hb dX2_gather_16 rfl hl (by decide) rfl (fun ls hl => ?_)
    have loop4 : ∀ (n : Nat) (w4_3 : Int32) (z4 : Nat → Nat → Int32) (y4 : Nat → Nat → Int64), ((200000 - w4_3.toInt : Int) < (n : Int)) → ((0 : Int) ≤ w4_3.toInt ∧ w4_3.toInt ≤ 200000) → (qJU b z4) → ∀ (H : Heap) (locs : List Loc), qw_P D vwCl o 132 (qG (GU ca o) z4 y4) H → va_S (qw_A o 132) s.heap H locs → ∀ (ls : Array Slot), lv_has ls 4 [(3, .int w4_3), (0, .ref (o + 110)), (1, .ref (o + 104)), (2, .int a1)] → W p l e (headSpec (Cond.code yX2_gather cX2_gather 4 (some .boolean) :: qtbl) ({ frames := 5, cells := 0, slots := 0, locals := 145 })).room s m (([.ref (o + 110), .ref (o + 104), .int a1] : List Value).toArray) below meth c H locs 0 0 (MQ below (va_Qi (fun r u => ((0 : Int) ≤ r.toInt ∧ r.toInt ≤ 1) ∧ qJU b u.1) (qB D vwCl (qT6 ca) o 132 (fun u : qZ => qG (GU ca o) u.1 u.2)) (qw_A o 132)) (([.ref (o + 110), .ref (o + 104), .int a1] : List Value).toArray) s 0 0 (qw_A o 132)) (F0 m 17 ls []) := by
      intro n
      induction n with
      | zero => intro w4_3 z4 y4 hb4 hv4_3 J4; exfalso; omega
      | succ n4 ih4 =>
        intro w4_3 z4 y4 hb4 hv4_3 J4 H locs hP hS ls hl
        refine lv_iload_n hx hb dX2_gather_17 rfl (lv_at hl 0 rfl) ?_
        refine lv_ldc (v := 200000) hx hb hown (hts _ wq_752) dX2_gather_18 ?_
        refine lv_icmp_ge (tgt := 79) hx hb dX2_gather_20 (by decide) (fun c5 => ?_) (fun c5 => ?_)
        · have t5 : w4_3.toInt ≥ (200000 : Int) := gl_le c5
          refine lv_iconst (v := 1) hx hb dX2_gather_79 (by decide) ?_
          exact W.zret (v := 1) (ty := .boolean) hx hb hr rfl (fun t ht hW => ⟨⟨1, (z4, y4), rfl, ⟨⟨by decide, by decide⟩, J4⟩, by rw [ht]; exact hP, va_K.moved hW.alike hK⟩, hS.F ht⟩) hS.2.2 dX2_gather_80
        · have t5 : w4_3.toInt < (200000 : Int) := gl_nle c5
          refine lv_aload_n hx hb dX2_gather_23 rfl (lv_at hl 2 rfl) ?_
          refine qc_Vi2 (As := []) (rest := []) (k0 := 0) (u_Rows_next l D ca o b z4 y4 J4) kc_yX7_next ⟨hx, hb, hml, hown, hts⟩ wq_753 rfl rfl ⟨Nat.le_of_ble_eq_true rfl, Nat.le_of_ble_eq_true rfl⟩ wq_all hP hK hS qw_Ai (q0 := 104) (by decide) (hgU_104 ca o _ _) rfl rfl hl.1 rfl (Nat.le_of_ble_eq_true rfl) dX2_gather_24 ⟨Nat.zero_le _, Nat.zero_le _⟩ (fun r6 z6 y6 H locs h6 hP hS _ _ => ?_)
          have J6 : qJU b z6 := h6.2
          have b6 : (0 : Int) ≤ r6.toInt ∧ r6.toInt ≤ 1 := h6.1
          refine lv_if_eq (tgt := 79) hx hb dX2_gather_27 (by decide) (fun c7 => ?_) (fun c7 => ?_)
          · have t7 : r6.toInt = (0 : Int) := gl_eq c7
            refine lv_iconst (v := 1) hx hb dX2_gather_79 (by decide) ?_
            exact W.zret (v := 1) (ty := .boolean) hx hb hr rfl (fun t ht hW => ⟨⟨1, (z6, y6), rfl, ⟨⟨by decide, by decide⟩, J6⟩, by rw [ht]; exact hP, va_K.moved hW.alike hK⟩, hS.F ht⟩) hS.2.2 dX2_gather_80
          · have t7 : r6.toInt ≠ (0 : Int) := gl_ne c7
            refine lv_aload_n hx hb dX2_gather_30 rfl (lv_at hl 1 rfl) ?_
            refine qf_get hx hb hts inX2 hown hK hP (q0 := 110) (by decide) (hgU_110 ca o) rfl 3 (by decide) wq_233 (v := .int (z6 110 3)) rfl dX2_gather_31 ?_
            refine lv_topi (fun x8 e8 => ?_)
            have b8 := iU_110_3 J6 e8
            have k8 : x8.toInt = (z6 110 3).toInt := congrArg Int32.toInt e8
            refine lv_sipush (v := 2000) hx hb dX2_gather_34 (by decide) ?_
            refine lv_icmp_lt (tgt := 42) hx hb dX2_gather_37 (by decide) (fun c9 => ?_) (fun c9 => ?_)
            · have t9 : x8.toInt < (2000 : Int) := gl_lt c9
              refine lv_aload_n hx hb dX2_gather_42 rfl (lv_at hl 2 rfl) ?_
              refine qf_get hx hb hts inX7 hown hK hP (q0 := 104) (by decide) (hgU_104 ca o) rfl 1 (by decide) wq_188 (v := .ref (o + 105)) rfl dX2_gather_43 ?_
              refine lv_iconst (v := 0) hx hb dX2_gather_46 (by decide) ?_
              refine lv_aload_n hx hb dX2_gather_47 rfl (lv_at hl 1 rfl) ?_
              refine qf_get hx hb hts inX2 hown hK hP (q0 := 110) (by decide) (hgU_110 ca o) rfl 0 (by decide) wq_229 (v := .ref (o + 111)) rfl dX2_gather_48 ?_
              refine lv_aload_n hx hb dX2_gather_51 rfl (lv_at hl 1 rfl) ?_
              refine qf_get hx hb hts inX2 hown hK hP (q0 := 110) (by decide) (hgU_110 ca o) rfl 3 (by decide) wq_233 (v := .int (z6 110 3)) rfl dX2_gather_52 ?_
              refine lv_topi (fun x10 e10 => ?_)
              have b10 := iU_110_3 J6 e10
              have k10 : x10.toInt = (z6 110 3).toInt := congrArg Int32.toInt e10
              have ag10 : x10.toInt = x8.toInt := congrArg Int32.toInt (e10.trans e8.symm)
              refine lv_bipush (v := 6) hx hb dX2_gather_55 (by decide) ?_
              refine lv_imul hx hb dX2_gather_57 ?_
              refine lv_topi (fun x11 e11 => ?_)
              have t11 : x11.toInt = x10.toInt * (6 : Int) := ga_mul e11 rfl rfl (by omega) (by omega)
              refine lv_bipush (v := 6) hx hb dX2_gather_58 (by decide) ?_
              refine qa_copy2 hx hb (hml.trans hl.1.symm) hown (hts _ wq_754) (hts _ wq_485) (hts _ wq_484) (hts _ wq_15) hK hP hS qw_Ai (q0 := 105) (q1 := 111) (by decide) (by decide) 0 (hgU_105 ca o) (hgU_111 ca o) rfl (sp := 0) (dp := x11) (k := 6) (by decide) (gr_nlt (show (0 : Int) ≤ x11.toInt from by omega)) (by decide) (by decide) (by show x11.toInt.toNat + Int32.toNatClampNeg 6 ≤ 12000; have : Int32.toNatClampNeg 6 = 6 := (by decide); omega) (Nat.le_of_ble_eq_true rfl) (Nat.le_of_ble_eq_true rfl) dX2_gather_60 (fun z12 H locs hz12 hP hS => ?_)
              have J12 := jfU_111 J6 hz12
              have k12_0 : (z12 110 3).toInt = (z6 110 3).toInt := congrArg Int32.toInt (qtf_ne hz12 3 (by decide))
              refine lv_aload_n hx hb dX2_gather_63 rfl (lv_at hl 1 rfl) ?_
              refine lv_dup hx hb dX2_gather_64 rfl ?_
              refine qf_get hx hb hts inX2 hown hK hP (q0 := 110) (by decide) (hgU_110 ca o) rfl 3 (by decide) wq_233 (v := .int (z12 110 3)) rfl dX2_gather_65 ?_
              refine lv_topi (fun x13 e13 => ?_)
              have b13 := iU_110_3 J12 e13
              have k13 : x13.toInt = (z12 110 3).toInt := congrArg Int32.toInt e13
              refine lv_iconst (v := 1) hx hb dX2_gather_68 (by decide) ?_
              refine lv_iadd hx hb dX2_gather_69 ?_
              refine lv_topi (fun x14 e14 => ?_)
              have t14 : x14.toInt = x13.toInt + (1 : Int) := ga_add e14 rfl rfl (by omega) (by omega)
              refine qf_put2 hx hb hts inX2 tyX2 tyX2_ok nmX2 hown hK hP hS qw_Ai (q0 := 110) (by decide) (hgU_110 ca o) rfl 3 (by decide) wq_233 rfl (x := x14) 3 rfl rfl rfl (Nat.le_of_ble_eq_true rfl) dX2_gather_70 (fun z15 H locs hz15 hP hS => ?_)
              have J15 := jU_110_3 J12 hz15 ⟨by omega, by omega⟩
              have k15_0 : (z15 110 3).toInt = x14.toInt := congrArg Int32.toInt (qt_at hz15)
              obtain ⟨x16, e16⟩ : ∃ t : Int32, t = w4_3 + 1 := ⟨_, rfl⟩
              refine lv_iinc (v := x16) (lv' := [(3, .int x16), (0, .ref (o + 110)), (1, .ref (o + 104)), (2, .int a1)]) hx hb dX2_gather_73 hl (k := 0) rfl (by rw [e16]; rfl) (by decide) rfl (fun ls hl => ?_)
              have t16 : x16.toInt = w4_3.toInt + (1 : Int) := ga_add e16 rfl rfl (by omega) (by omega)
              refine lv_goto (tgt := 17) hx hb dX2_gather_76 (by decide) ?_
              exact ih4 x16 z15 y6 (show (200000 - x16.toInt : Int) < (n4 : Int) from by omega) ⟨by omega, by omega⟩ J15 _ _ hP hS _ (lv_sub hl [0, 1, 2, 3] rfl)
            · have t9 : x8.toInt ≥ (2000 : Int) := gl_nlt c9
              refine lv_iconst (v := 0) hx hb dX2_gather_40 (by decide) ?_
              exact W.zret (v := 0) (ty := .boolean) hx hb hr rfl (fun t ht hW => ⟨⟨0, (z6, y6), rfl, ⟨⟨by decide, by decide⟩, J6⟩, by rw [ht]; exact hP, va_K.moved hW.alike hK⟩, hS.F ht⟩) hS.2.2 dX2_gather_41
    exact loop4 200001 0 z2 y2 (show (200000 - (0 : Int) : Int) < ((200001 : Nat) : Int) from by omega) ⟨by decide, by decide⟩ J2 _ _ hP hS _ (lv_sub hl [0, 1, 2, 3] rfl)
  · have t3 : r2.toInt = (0 : Int) := gl_eq c3
    refine lv_iconst (v := 0) hx hb dX2_gather_13 (by decide) ?_
    exact W.zret (v := 0) (ty := .boolean) hx hb hr rfl (fun t ht hW => ⟨⟨0, (z2, y2), rfl, ⟨⟨by decide, by decide⟩, J2⟩, by rw [ht]; exact hP, va_K.moved hW.alike hK⟩, hS.F ht⟩) hS.2.2 dX2_gather_14
set_option maxRecDepth 100000 in
set_option maxHeartbeats 8000000 in
theorem u_Few_sortHeard (l : Launch) (D : va_G) (ca : Nat → ClassId) (o : Nat) (b z : Nat → Nat → Int32) (y : Nat → Nat → Int64) (J0 : qJU b z)   : qM l yX2_sortHeard cX2_sortHeard 6 none 1 60 (qPre D vwCl (qT6 ca) o 132 (qG (GU ca o) z y) [.ref (o + 110)]) (va_Qv (fun u => qJU b u.1) (qB D vwCl (qT6 ca) o 132 (fun u : qZ => qG (GU ca o) u.1 u.2)) (qw_A o 132)) (qw_A o 132) := by
  refine Met.ofW (cc := cX2_sortHeard) (maxL := 6) (ret := none) (by decide) rfl ?_
  intro p e s m args below meth c s₁ B hml hv
  obtain ⟨rfl, hP, hK⟩ := hv
  have hx := B.exec
  have hb := B.bytes
  have hr := B.returns
  have hts0 := atoms_spec (ws := Cond.code yX2_sortHeard cX2_sortHeard 6 none :: qtbl) B.pre
  have hts : ∀ w ∈ qtbl, w.before _ s = true := fun w h => hts0 w (List.mem_cons_of_mem _ h)
  have hown : s.vm.findClass RX2 = some m.cls := findClass_of_methodNamed B.named
  have hlocks := B.notSynchronized
  have hS : va_S (qw_A o 132) s.heap s.heap [] := va_S.rf
  have hl := lv_entry ([.ref (o + 110)]) (n := 6) (Nat.le_of_ble_eq_true rfl)
  rw [lg_entry_eq]
  generalize (lg_sl ([.ref (o + 110)]) ++ List.replicate (6 - (lg_sl ([.ref (o + 110)])).length) Slot.unset).toArray = ls at hl ⊢
  have hl : lv_has ls 6 [(0, .ref (o + 110))] := hl
  refine lv_sipush (v := 1093) hx hb dX2_sortHeard_0 (by decide) ?_
  refine lv_istore_n (lv' := [(1, .int 1093), (0, .ref (o + 110))]) hx hb dX2_sortHeard_3 rfl hl (by decide) rfl (fun ls hl => ?_)
  have loop1 : ∀ (n : Nat) (w1_1 : Int32) (z1 : Nat → Nat → Int32) (y1 : Nat → Nat → Int64), ((w1_1.toInt : Int) < (n : Int)) → ((0 : Int) ≤ w1_1.toInt ∧ w1_1.toInt ≤ 1093) → (qJU b z1) → ∀ (H : Heap) (locs : List Loc), qw_P D vwCl o 132 (qG (GU ca o) z1 y1) H → va_S (qw_A o 132) s.heap H locs → ∀ (ls : Array Slot), lv_has ls 6 [(1, .int w1_1), (0, .ref (o + 110))] → W p l e (headSpec (Cond.code yX2_sortHeard cX2_sortHeard 6 none :: qtbl) ({ frames := 1, cells := 0, slots := 0, locals := 60 })).room s m (([.ref (o + 110)] : List Value).toArray) below meth c H locs 0 0 (MQ below (va_Qv (fun u => qJU b u.1) (qB D vwCl (qT6 ca) o 132 (fun u : qZ => qG (GU ca o) u.1 u.2)) (qw_A o 132)) (([.ref (o + 110)] : List Value).toArray) s 0 0 (qw_A o 132)) (F0 m 4 ls []) := by
    intro n
    induction n with
    | zero => intro w1_1 z1 y1 hb1 hv1_1 J1; exfalso; omega
    | succ n1 ih1 =>
      intro w1_1 z1 y1 hb1 hv1_1 J1 H locs hP hS ls hl
      refine lv_iload_n hx hb dX2_sortHeard_4 rfl (lv_at hl 0 rfl) ?_
      refine lv_if_le (tgt := 94) hx hb dX2_sortHeard_5 (by decide) (fun c2 => ?_) (fun c2 => ?_)
      · have t2 : w1_1.toInt ≤ (0 : Int) := gl_le c2
        exact W.vret hx hb hr (fun t ht hW => ⟨⟨(z1, y1), rfl, J1, by rw [ht]; exact hP, va_K.moved hW.alike hK⟩, hS.F ht⟩) hS.2.2 dX2_sortHeard_94
      · have t2 : w1_1.toInt > (0 : Int) := gl_nle c2
        refine lv_iload_n hx hb dX2_sortHeard_8 rfl (lv_at hl 0 rfl) ?_
        refine lv_istore_n (lv' := [(2, .int w1_1), (1, .int w1_1), (0, .ref (o + 110))]) hx hb dX2_sortHeard_9 rfl hl (by decide) rfl (fun ls hl => ?_)
        have loop3 : ∀ (n : Nat) (w3_2 : Int32) (z3 : Nat → Nat → Int32) (y3 : Nat → Nat → Int64), ((2000 - w3_2.toInt : Int) < (n : Int)) → ((1 : Int) ≤ w3_2.toInt ∧ w3_2.toInt ≤ 2000) → (qJU b z3) → ∀ (H : Heap) (locs : List Loc), qw_P D vwCl o 132 (qG (GU ca o) z3 y3) H → va_S (qw_A o 132) s.heap H locs → ∀ (ls : Array Slot), lv_has ls 6 [(2, .int w3_2), (1, .int w1_1), (0, .ref (o + 110))] → W p l e (headSpec (Cond.code yX2_sortHeard cX2_sortHeard 6 none :: qtbl) ({ frames := 1, cells := 0, slots := 0, locals := 60 })).room s m (([.ref (o + 110)] : List Value).toArray) below meth c H locs 0 0 (MQ below (va_Qv (fun u => qJU b u.1) (qB D vwCl (qT6 ca) o 132 (fun u : qZ => qG (GU ca o) u.1 u.2)) (qw_A o 132)) (([.ref (o + 110)] : List Value).toArray) s 0 0 (qw_A o 132)) (F0 m 10 ls []) := by
          intro n
          induction n with
          | zero => intro w3_2 z3 y3 hb3 hv3_2 J3; exfalso; omega
          | succ n3 ih3 =>
            intro w3_2 z3 y3 hb3 hv3_2 J3 H locs hP hS ls hl
            refine lv_iload_n hx hb dX2_sortHeard_10 rfl (lv_at hl 0 rfl) ?_
            refine lv_aload_n hx hb dX2_sortHeard_11 rfl (lv_at hl 2 rfl) ?_
            refine qf_get hx hb hts inX2 hown hK hP (q0 := 110) (by decide) (hgU_110 ca o) rfl 3 (by decide) wq_233 (v := .int (z3 110 3)) rfl dX2_sortHeard_12 ?_
            refine lv_topi (fun x4 e4 => ?_)
            have b4 := iU_110_3 J3 e4
            refine lv_icmp_ge (tgt := 87) hx hb dX2_sortHeard_15 (by decide) (fun c5 => ?_) (fun c5 => ?_)
            · have t5 : w3_2.toInt ≥ x4.toInt := gl_le c5
              refine lv_iload_n hx hb dX2_sortHeard_87 rfl (lv_at hl 1 rfl) ?_
              refine lv_iconst (v := 3) hx hb dX2_sortHeard_88 (by decide) ?_
              refine lv_idiv hx hb dX2_sortHeard_89 (by decide) ?_
              refine lv_topi (fun x6 e6 => ?_)
              have t6 : x6.toInt = w1_1.toInt / 3 := ga_div e6 rfl (by omega) (by decide)
              refine lv_istore_n (lv' := [(1, .int x6), (2, .int w3_2), (0, .ref (o + 110))]) hx hb dX2_sortHeard_90 rfl hl (by decide) rfl (fun ls hl => ?_)
              refine lv_goto (tgt := 4) hx hb dX2_sortHeard_91 (by decide) ?_
              exact ih1 x6 z3 y3 (show (x6.toInt : Int) < (n1 : Int) from by omega) ⟨by omega, by omega⟩ J3 _ _ hP hS _ (lv_sub hl [0, 2] rfl)
            · have t5 : w3_2.toInt < x4.toInt := gl_nle c5
              refine lv_aload_n hx hb dX2_sortHeard_18 rfl (lv_at hl 2 rfl) ?_
              refine qf_get hx hb hts inX2 hown hK hP (q0 := 110) (by decide) (hgU_110 ca o) rfl 1 (by decide) wq_231 (v := .ref (o + 112)) rfl dX2_sortHeard_19 ?_
              refine lv_iload_n hx hb dX2_sortHeard_22 rfl (lv_at hl 0 rfl) ?_
              refine qa_lald hx hb hK hP (q0 := 112) (by decide) 1 (N := 2000) (hgU_112 ca o) rfl (gi_in (by omega) (by omega)) dX2_sortHeard_23 ?_
              refine lv_topl (fun j7 e7 => ?_)
              refine lv_lstore_n (lv' := [(3, .long j7), (2, .int w3_2), (1, .int w1_1), (0, .ref (o + 110))]) hx hb dX2_sortHeard_24 rfl hl (by decide) rfl (fun ls hl => ?_)
              refine lv_iload_n hx hb dX2_sortHeard_25 rfl (lv_at hl 1 rfl) ?_
              refine lv_istore (lv' := [(5, .int w3_2), (3, .long j7), (2, .int w3_2), (1, .int w1_1), (0, .ref (o + 110))]) hx hb dX2_sortHeard_26 hl (by decide) rfl (fun ls hl => ?_)
              have loop8 : ∀ (n : Nat) (w8_5 : Int32) (z8 : Nat → Nat → Int32) (y8 : Nat → Nat → Int64), ((w8_5.toInt : Int) < (n : Int)) → ((0 : Int) ≤ w8_5.toInt ∧ w8_5.toInt ≤ 1999) → (qJU b z8) → ∀ (H : Heap) (locs : List Loc), qw_P D vwCl o 132 (qG (GU ca o) z8 y8) H → va_S (qw_A o 132) s.heap H locs → ∀ (ls : Array Slot), lv_has ls 6 [(5, .int w8_5), (3, .long j7), (2, .int w3_2), (1, .int w1_1), (0, .ref (o + 110))] → W p l e (headSpec (Cond.code yX2_sortHeard cX2_sortHeard 6 none :: qtbl) ({ frames := 1, cells := 0, slots := 0, locals := 60 })).room s m (([.ref (o + 110)] : List Value).toArray) below meth c H locs 0 0 (MQ below (va_Qv (fun u => qJU b u.1) (qB D vwCl (qT6 ca) o 132 (fun u : qZ => qG (GU ca o) u.1 u.2)) (qw_A o 132)) (([.ref (o + 110)] : List Value).toArray) s 0 0 (qw_A o 132)) (F0 m 28 ls []) := by
                intro n
                induction n with
                | zero => intro w8_5 z8 y8 hb8 hv8_5 J8; exfalso; omega
                | succ n8 ih8 =>
                  intro w8_5 z8 y8 hb8 hv8_5 J8 H locs hP hS ls hl
                  refine lv_iload hx hb dX2_sortHeard_28 (lv_at hl 0 rfl) ?_
                  refine lv_iload_n hx hb dX2_sortHeard_30 rfl (lv_at hl 3 rfl) ?_
                  refine lv_icmp_lt (tgt := 73) hx hb dX2_sortHeard_31 (by decide) (fun c9 => ?_) (fun c9 => ?_)
                  · have t9 : w8_5.toInt < w1_1.toInt := gl_lt c9
                    refine lv_aload_n hx hb dX2_sortHeard_73 rfl (lv_at hl 4 rfl) ?_
                    refine qf_get hx hb hts inX2 hown hK hP (q0 := 110) (by decide) (hgU_110 ca o) rfl 1 (by decide) wq_231 (v := .ref (o + 112)) rfl dX2_sortHeard_74 ?_
                    refine lv_iload hx hb dX2_sortHeard_77 (lv_at hl 0 rfl) ?_
                    refine lv_lload_n hx hb dX2_sortHeard_79 rfl (lv_at hl 1 rfl) ?_
                    refine qa_last2 hx hb hK hP hS qw_Ai (q0 := 112) (by decide) 1 (N := 2000) (hgU_112 ca o) rfl (i := w8_5) (x := j7) (gi_in (by omega) (by omega)) dX2_sortHeard_80 (fun y10 H locs hy10 hP hS => ?_)
                    obtain ⟨x11, e11⟩ : ∃ t : Int32, t = w3_2 + 1 := ⟨_, rfl⟩
                    refine lv_iinc (v := x11) (lv' := [(2, .int x11), (5, .int w8_5), (3, .long j7), (1, .int w1_1), (0, .ref (o + 110))]) hx hb dX2_sortHeard_81 hl (k := 2) rfl (by rw [e11]; rfl) (by decide) rfl (fun ls hl => ?_)
                    have t11 : x11.toInt = w3_2.toInt + (1 : Int) := ga_add e11 rfl rfl (by omega) (by omega)
                    refine lv_goto (tgt := 10) hx hb dX2_sortHeard_84 (by decide) ?_
                    exact ih3 x11 z8 y10 (show (2000 - x11.toInt : Int) < (n3 : Int) from by omega) ⟨by omega, by omega⟩ J8 _ _ hP hS _ (lv_sub hl [0, 3, 4] rfl)
                  · have t9 : w8_5.toInt ≥ w1_1.toInt := gl_nlt c9
                    refine lv_aload_n hx hb dX2_sortHeard_34 rfl (lv_at hl 4 rfl) ?_
                    refine qf_get hx hb hts inX2 hown hK hP (q0 := 110) (by decide) (hgU_110 ca o) rfl 1 (by decide) wq_231 (v := .ref (o + 112)) rfl dX2_sortHeard_35 ?_
                    refine lv_iload hx hb dX2_sortHeard_38 (lv_at hl 0 rfl) ?_
                    refine lv_iload_n hx hb dX2_sortHeard_40 rfl (lv_at hl 3 rfl) ?_
                    refine lv_isub hx hb dX2_sortHeard_41 ?_
                    refine lv_topi (fun x12 e12 => ?_)
                    have t12 : x12.toInt = w8_5.toInt - w1_1.toInt := ga_sub e12 rfl rfl (by omega) (by omega)
                    refine qa_lald hx hb hK hP (q0 := 112) (by decide) 1 (N := 2000) (hgU_112 ca o) rfl (gi_in (by omega) (by omega)) dX2_sortHeard_42 ?_
                    refine lv_topl (fun j13 e13 => ?_)
                    refine lv_lload_n hx hb dX2_sortHeard_43 rfl (lv_at hl 1 rfl) ?_
                    refine W.lcmp hx hb dX2_sortHeard_44 ?_
                    refine lv_topi (fun x14 e14 => ?_)
                    refine lv_if_le (tgt := 73) hx hb dX2_sortHeard_45 (by decide) (fun c15 => ?_) (fun c15 => ?_)
                    · have t15 : x14.toInt ≤ (0 : Int) := gl_le c15
                      refine lv_aload_n hx hb dX2_sortHeard_73 rfl (lv_at hl 4 rfl) ?_
                      refine qf_get hx hb hts inX2 hown hK hP (q0 := 110) (by decide) (hgU_110 ca o) rfl 1 (by decide) wq_231 (v := .ref (o + 112)) rfl dX2_sortHeard_74 ?_
                      refine lv_iload hx hb dX2_sortHeard_77 (lv_at hl 0 rfl) ?_
                      refine lv_lload_n hx hb dX2_sortHeard_79 rfl (lv_at hl 1 rfl) ?_
                      refine qa_last2 hx hb hK hP hS qw_Ai (q0 := 112) (by decide) 1 (N := 2000) (hgU_112 ca o) rfl (i := w8_5) (x := j7) (gi_in (by omega) (by omega)) dX2_sortHeard_80 (fun y16 H locs hy16 hP hS => ?_)
                      obtain ⟨x17, e17⟩ : ∃ t : Int32, t = w3_2 + 1 := ⟨_, rfl⟩
                      refine lv_iinc (v := x17) (lv' := [(2, .int x17), (5, .int w8_5), (3, .long j7), (1, .int w1_1), (0, .ref (o + 110))]) hx hb dX2_sortHeard_81 hl (k := 2) rfl (by rw [e17]; rfl) (by decide) rfl (fun ls hl => ?_)
                      have t17 : x17.toInt = w3_2.toInt + (1 : Int) := ga_add e17 rfl rfl (by omega) (by omega)
                      refine lv_goto (tgt := 10) hx hb dX2_sortHeard_84 (by decide) ?_
                      exact ih3 x17 z8 y16 (show (2000 - x17.toInt : Int) < (n3 : Int) from by omega) ⟨by omega, by omega⟩ J8 _ _ hP hS _ (lv_sub hl [0, 3, 4] rfl)
                    · have t15 : x14.toInt > (0 : Int) := gl_nle c15
                      refine lv_aload_n hx hb dX2_sortHeard_48 rfl (lv_at hl 4 rfl) ?_
                      refine qf_get hx hb hts inX2 hown hK hP (q0 := 110) (by decide) (hgU_110 ca o) rfl 1 (by decide) wq_231 (v := .ref (o + 112)) rfl dX2_sortHeard_49 ?_
                      refine lv_iload hx hb dX2_sortHeard_52 (lv_at hl 0 rfl) ?_
                      refine lv_aload_n hx hb dX2_sortHeard_54 rfl (lv_at hl 4 rfl) ?_
                      refine qf_get hx hb hts inX2 hown hK hP (q0 := 110) (by decide) (hgU_110 ca o) rfl 1 (by decide) wq_231 (v := .ref (o + 112)) rfl dX2_sortHeard_55 ?_
                      refine lv_iload hx hb dX2_sortHeard_58 (lv_at hl 0 rfl) ?_
                      refine lv_iload_n hx hb dX2_sortHeard_60 rfl (lv_at hl 3 rfl) ?_
                      refine lv_isub hx hb dX2_sortHeard_61 ?_
                      refine lv_topi (fun x18 e18 => ?_)
                      have t18 : x18.toInt = x12.toInt := congrArg Int32.toInt (e18.trans e12.symm)
                      refine qa_lald hx hb hK hP (q0 := 112) (by decide) 1 (N := 2000) (hgU_112 ca o) rfl (gi_in (by omega) (by omega)) dX2_sortHeard_62 ?_
                      refine lv_topl (fun j19 e19 => ?_)
                      refine qa_last2 hx hb hK hP hS qw_Ai (q0 := 112) (by decide) 1 (N := 2000) (hgU_112 ca o) rfl (i := w8_5) (x := j19) (gi_in (by omega) (by omega)) dX2_sortHeard_63 (fun y20 H locs hy20 hP hS => ?_)
                      refine lv_iload hx hb dX2_sortHeard_64 (lv_at hl 0 rfl) ?_
                      refine lv_iload_n hx hb dX2_sortHeard_66 rfl (lv_at hl 3 rfl) ?_
                      refine lv_isub hx hb dX2_sortHeard_67 ?_
                      refine lv_topi (fun x21 e21 => ?_)
                      have t21 : x21.toInt = x12.toInt := congrArg Int32.toInt (e21.trans e12.symm)
                      refine lv_istore (lv' := [(5, .int x21), (3, .long j7), (2, .int w3_2), (1, .int w1_1), (0, .ref (o + 110))]) hx hb dX2_sortHeard_68 hl (by decide) rfl (fun ls hl => ?_)
                      refine lv_goto (tgt := 28) hx hb dX2_sortHeard_70 (by decide) ?_
                      exact ih8 x21 z8 y20 (show (x21.toInt : Int) < (n8 : Int) from by omega) ⟨by omega, by omega⟩ J8 _ _ hP hS _ (lv_sub hl [0, 1, 2, 3, 4] rfl)
              exact loop8 2000 w3_2 z3 y3 (show (w3_2.toInt : Int) < ((2000 : Nat) : Int) from by omega) ⟨by omega, by omega⟩ J3 _ _ hP hS _ (lv_sub hl [0, 1, 2, 3, 4] rfl)
        exact loop3 2000 w1_1 z1 y1 (show (2000 - w1_1.toInt : Int) < ((2000 : Nat) : Int) from by omega) ⟨by omega, by omega⟩ J1 _ _ hP hS _ (lv_sub hl [0, 1, 2] rfl)
  exact loop1 1094 1093 z y (show ((1093 : Int) : Int) < ((1094 : Nat) : Int) from by omega) ⟨by decide, by decide⟩ J0 _ _ hP hS _ (lv_sub hl [0, 1] rfl)
set_option maxRecDepth 100000 in
set_option maxHeartbeats 8000000 in
theorem u_Few_rowAt (l : Launch) (D : va_G) (ca : Nat → ClassId) (o : Nat) (b z : Nat → Nat → Int32) (y : Nat → Nat → Int64) (J0 : qJU b z) (a0 : Int32) (ha0 : (0 : Int) ≤ a0.toInt ∧ a0.toInt ≤ 1999) : qM l yX2_rowAt cX2_rowAt 2 (some .int) 1 60 (qPre D vwCl (qT6 ca) o 132 (qG (GU ca o) z y) [.ref (o + 110), .int a0]) (va_Qi (fun r (_ : Unit) => ((0 : Int) ≤ r.toInt ∧ r.toInt ≤ 1999)) (qB D vwCl (qT6 ca) o 132 (fun _ : Unit => qG (GU ca o) z y)) (qw_A o 132)) (qw_A o 132) := by
  refine Met.ofW (cc := cX2_rowAt) (maxL := 2) (ret := (some .int)) (by decide) rfl ?_
  intro p e s m args below meth c s₁ B hml hv
  obtain ⟨rfl, hP, hK⟩ := hv
  have hx := B.exec
  have hb := B.bytes
  have hr := B.returns
  have hts0 := atoms_spec (ws := Cond.code yX2_rowAt cX2_rowAt 2 (some .int) :: qtbl) B.pre
  have hts : ∀ w ∈ qtbl, w.before _ s = true := fun w h => hts0 w (List.mem_cons_of_mem _ h)
  have hown : s.vm.findClass RX2 = some m.cls := findClass_of_methodNamed B.named
  have hlocks := B.notSynchronized
  have hS : va_S (qw_A o 132) s.heap s.heap [] := va_S.rf
  have hl := lv_entry ([.ref (o + 110), .int a0]) (n := 2) (Nat.le_of_ble_eq_true rfl)
  rw [lg_entry_eq]
  generalize (lg_sl ([.ref (o + 110), .int a0]) ++ List.replicate (2 - (lg_sl ([.ref (o + 110), .int a0])).length) Slot.unset).toArray = ls at hl ⊢
  have hl : lv_has ls 2 [(0, .ref (o + 110)), (1, .int a0)] := hl
  refine lv_aload_n hx hb dX2_rowAt_0 rfl (lv_at hl 0 rfl) ?_
  refine qf_get hx hb hts inX2 hown hK hP (q0 := 110) (by decide) (hgU_110 ca o) rfl 1 (by decide) wq_231 (v := .ref (o + 112)) rfl dX2_rowAt_1 ?_
  refine lv_iload_n hx hb dX2_rowAt_4 rfl (lv_at hl 1 rfl) ?_
  refine qa_lald hx hb hK hP (q0 := 112) (by decide) 1 (N := 2000) (hgU_112 ca o) rfl (gi_in (by omega) (by omega)) dX2_rowAt_5 ?_
  refine lv_topl (fun j1 e1 => ?_)
  refine lv_ldc2 (v := 65535) hx hb hown (hts _ wq_775) dX2_rowAt_6 ?_
  refine lv_land hx hb dX2_rowAt_9 ?_
  refine lv_topl (fun j2 e2 => ?_)
  have t2 := ga_jand e2 rfl
  refine lv_l2i hx hb dX2_rowAt_10 rfl ?_
  refine lv_topi (fun x3 e3 => ?_)
  have t3 : x3.toInt = j2.toInt := ga_l2i e3 (by omega) (by omega)
  refine lv_sipush (v := 2000) hx hb dX2_rowAt_11 (by decide) ?_
  refine lv_irem hx hb dX2_rowAt_14 (by decide) ?_
  refine lv_topi (fun x4 e4 => ?_)
  have t4 : x4.toInt = x3.toInt % 2000 := ga_rem e4 rfl (by omega) (by decide)
  exact W.iret (v := x4) hx hb hr (fun t ht hW => ⟨⟨x4, (), rfl, ⟨by omega, by omega⟩, by rw [ht]; exact hP, va_K.moved hW.alike hK⟩, hS.F ht⟩) hS.2.2 dX2_rowAt_15
set_option maxRecDepth 100000 in
set_option maxHeartbeats 8000000 in
theorem u_Few_toldAt (l : Launch) (D : va_G) (ca : Nat → ClassId) (o : Nat) (b z : Nat → Nat → Int32) (y : Nat → Nat → Int64) (J0 : qJU b z) (a0 : Int32) (ha0 : (0 : Int) ≤ a0.toInt ∧ a0.toInt ≤ 1999) : qM l yX2_toldAt cX2_toldAt 2 (some .int) 1 60 (qPre D vwCl (qT6 ca) o 132 (qG (GU ca o) z y) [.ref (o + 110), .int a0]) (va_Qi (fun r (_ : Unit) => True) (qB D vwCl (qT6 ca) o 132 (fun _ : Unit => qG (GU ca o) z y)) (qw_A o 132)) (qw_A o 132) := by
  refine Met.ofW (cc := cX2_toldAt) (maxL := 2) (ret := (some .int)) (by decide) rfl ?_
  intro p e s m args below meth c s₁ B hml hv
  obtain ⟨rfl, hP, hK⟩ := hv
  have hx := B.exec
  have hb := B.bytes
  have hr := B.returns
  have hts0 := atoms_spec (ws := Cond.code yX2_toldAt cX2_toldAt 2 (some .int) :: qtbl) B.pre
  have hts : ∀ w ∈ qtbl, w.before _ s = true := fun w h => hts0 w (List.mem_cons_of_mem _ h)
  have hown : s.vm.findClass RX2 = some m.cls := findClass_of_methodNamed B.named
  have hlocks := B.notSynchronized
  have hS : va_S (qw_A o 132) s.heap s.heap [] := va_S.rf
  have hl := lv_entry ([.ref (o + 110), .int a0]) (n := 2) (Nat.le_of_ble_eq_true rfl)
  rw [lg_entry_eq]
  generalize (lg_sl ([.ref (o + 110), .int a0]) ++ List.replicate (2 - (lg_sl ([.ref (o + 110), .int a0])).length) Slot.unset).toArray = ls at hl ⊢
  have hl : lv_has ls 2 [(0, .ref (o + 110)), (1, .int a0)] := hl
  refine lv_aload_n hx hb dX2_toldAt_0 rfl (lv_at hl 0 rfl) ?_
  refine qf_get hx hb hts inX2 hown hK hP (q0 := 110) (by decide) (hgU_110 ca o) rfl 1 (by decide) wq_231 (v := .ref (o + 112)) rfl dX2_toldAt_1 ?_
  refine lv_iload_n hx hb dX2_toldAt_4 rfl (lv_at hl 1 rfl) ?_
  refine qa_lald hx hb hK hP (q0 := 112) (by decide) 1 (N := 2000) (hgU_112 ca o) rfl (gi_in (by omega) (by omega)) dX2_toldAt_5 ?_
  refine lv_topl (fun j1 e1 => ?_)
  refine lv_bipush (v := 32) hx hb dX2_toldAt_6 (by decide) ?_
  refine lv_lshr hx hb dX2_toldAt_8 rfl ?_
  refine lv_topl (fun j2 e2 => ?_)
  refine lv_l2i hx hb dX2_toldAt_9 rfl ?_
  refine lv_topi (fun x3 e3 => ?_)
  exact W.iret (v := x3) hx hb hr (fun t ht hW => ⟨⟨x3, (), rfl, trivial, by rw [ht]; exact hP, va_K.moved hW.alike hK⟩, hS.F ht⟩) hS.2.2 dX2_toldAt_10
