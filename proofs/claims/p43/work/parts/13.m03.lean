set_option maxRecDepth 100000 in
set_option maxHeartbeats 8000000 in
theorem m_findsRow (l : Launch) (D : va_G) (ca : Nat → ClassId) (o : Nat) (b z : Nat → Nat → Int32) (y : Nat → Nat → Int64) (J0 : qJM b z) (a0 : Int32)  : qM l yX11_findsRow cX11_findsRow 3 (some .boolean) 4 124 (qPre D vwCl (qT6 ca) o 41 (qG (GM ca o) z y) [.ref (o + 0), .int a0]) (va_Qi (fun r u => ((0 : Int) ≤ r.toInt ∧ r.toInt ≤ 1) ∧ qJM b u.1) (qB D vwCl (qT6 ca) o 41 (fun u : qZ => qG (GM ca o) u.1 u.2)) (qw_A o 41)) (qw_A o 41) := by
  refine Met.ofW (cc := cX11_findsRow) (maxL := 3) (ret := (some .boolean)) (by decide) rfl ?_
  intro p e s m args below meth c s₁ B hml hv
  obtain ⟨rfl, hP, hK⟩ := hv
  have hx := B.exec
  have hb := B.bytes
  have hr := B.returns
  have hts0 := atoms_spec (ws := Cond.code yX11_findsRow cX11_findsRow 3 (some .boolean) :: qtbl) B.pre
  have hts : ∀ w ∈ qtbl, w.before _ s = true := fun w h => hts0 w (List.mem_cons_of_mem _ h)
  have hown : s.vm.findClass RX11 = some m.cls := findClass_of_methodNamed B.named
  have hlocks := B.notSynchronized
  have hS : va_S (qw_A o 41) s.heap s.heap [] := va_S.rf
  have hl := lv_entry ([.ref (o + 0), .int a0]) (n := 3) (Nat.le_of_ble_eq_true rfl)
  rw [lg_entry_eq]
  generalize (lg_sl ([.ref (o + 0), .int a0]) ++ List.replicate (3 - (lg_sl ([.ref (o + 0), .int a0])).length) Slot.unset).toArray = ls at hl ⊢
  have hl : lv_has ls 3 [(0, .ref (o + 0)), (1, .int a0)] := hl
  refine lv_aload_n hx hb dX11_findsRow_0 rfl (lv_at hl 0 rfl) ?_
  refine qc_Vv2 (As := []) (rest := []) (k0 := 0) (m_firstRow l D ca o b z y J0) kc_yX11_firstRow ⟨hx, hb, hml, hown, hts⟩ wq_1336 rfl rfl ⟨Nat.le_of_ble_eq_true rfl, Nat.le_of_ble_eq_true rfl⟩ wq_all hP hK hS qw_Ai (q0 := 0) (by decide) (hgM_0 ca o _ _) rfl rfl hl.1 rfl (Nat.le_of_ble_eq_true rfl) dX11_findsRow_1 ⟨Nat.zero_le _, Nat.zero_le _⟩ (fun z1 y1 H locs h1 hP hS _ _ => ?_)
  have J1 : qJM b z1 := h1.1
  have p1_3 : rl z1 + 1 = rwp z 6 := h1.2.2.2
  refine lv_iconst (v := 1) hx hb dX11_findsRow_4 (by decide) ?_
  refine lv_istore_n (lv' := [(2, .int 1), (0, .ref (o + 0)), (1, .int a0)]) hx hb dX11_findsRow_5 rfl hl (by decide) rfl (fun ls hl => ?_)
  have loop2 : ∀ (n : Nat) (w2_2 : Int32) (z2 : Nat → Nat → Int32) (y2 : Nat → Nat → Int64), (((rl z2 : Int) : Int) < (n : Int)) → ((1 : Int) ≤ w2_2.toInt ∧ w2_2.toInt ≤ 1) → (qJM b z2) → ∀ (H : Heap) (locs : List Loc), qw_P D vwCl o 41 (qG (GM ca o) z2 y2) H → va_S (qw_A o 41) s.heap H locs → ∀ (ls : Array Slot), lv_has ls 3 [(2, .int w2_2), (0, .ref (o + 0)), (1, .int a0)] → W p l e (headSpec (Cond.code yX11_findsRow cX11_findsRow 3 (some .boolean) :: qtbl) ({ frames := 4, cells := 0, slots := 0, locals := 124 })).room s m (([.ref (o + 0), .int a0] : List Value).toArray) below meth c H locs 0 0 (MQ below (va_Qi (fun r u => ((0 : Int) ≤ r.toInt ∧ r.toInt ≤ 1) ∧ qJM b u.1) (qB D vwCl (qT6 ca) o 41 (fun u : qZ => qG (GM ca o) u.1 u.2)) (qw_A o 41)) (([.ref (o + 0), .int a0] : List Value).toArray) s 0 0 (qw_A o 41)) (F0 m 6 ls []) := by
    intro n
    induction n with
    | zero => intro w2_2 z2 y2 hb2 hv2_2 J2; exfalso; omega
    | succ n2 ih2 =>
      intro w2_2 z2 y2 hb2 hv2_2 J2 H locs hP hS ls hl
      refine lv_iload_n hx hb dX11_findsRow_6 rfl (lv_at hl 0 rfl) ?_
      refine lv_if_eq (tgt := 28) hx hb dX11_findsRow_7 (by decide) (fun c3 => ?_) (fun c3 => ?_)
      · have t3 : w2_2.toInt = (0 : Int) := gl_eq c3
        exfalso; omega
      · have t3 : w2_2.toInt ≠ (0 : Int) := gl_ne c3
        refine lv_aload_n hx hb dX11_findsRow_10 rfl (lv_at hl 1 rfl) ?_
        refine lv_iload_n hx hb dX11_findsRow_11 rfl (lv_at hl 2 rfl) ?_
        refine qc_Vip (As := [.int a0]) (rest := []) (k0 := 1) (m_fitsAll l D ca o b z2 y2 J2 a0) kc_yX11_fitsAll ⟨hx, hb, hml, hown, hts⟩ wq_1340 rfl rfl ⟨Nat.le_of_ble_eq_true rfl, Nat.le_of_ble_eq_true rfl⟩ wq_all hP hK hS qw_Ai (q0 := 0) (by decide) (hgM_0 ca o _ _) rfl rfl hl.1 rfl (Nat.le_of_ble_eq_true rfl) dX11_findsRow_12 ⟨Nat.zero_le _, Nat.zero_le _⟩ (fun r4 H locs h4 hP hS _ _ => ?_)
        have b4 : (0 : Int) ≤ r4.toInt ∧ r4.toInt ≤ 1 := h4
        refine lv_if_eq (tgt := 20) hx hb dX11_findsRow_15 (by decide) (fun c5 => ?_) (fun c5 => ?_)
        · have t5 : r4.toInt = (0 : Int) := gl_eq c5
          refine lv_aload_n hx hb dX11_findsRow_20 rfl (lv_at hl 1 rfl) ?_
          refine qc_Vi2 (As := []) (rest := []) (k0 := 0) (m_nextRow l D ca o b z2 y2 J2) kc_yX11_nextRow ⟨hx, hb, hml, hown, hts⟩ wq_1352 rfl rfl ⟨Nat.le_of_ble_eq_true rfl, Nat.le_of_ble_eq_true rfl⟩ wq_all hP hK hS qw_Ai (q0 := 0) (by decide) (hgM_0 ca o _ _) rfl rfl hl.1 rfl (Nat.le_of_ble_eq_true rfl) dX11_findsRow_21 ⟨Nat.zero_le _, Nat.zero_le _⟩ (fun r6 z6 y6 H locs h6 hP hS _ _ => ?_)
          have J6 : qJM b z6 := h6.2.1
          have p6_4 : (z6 0 41).toInt = (z2 0 41).toInt := h6.2.2.2.2
          rcases h6.1 with ⟨hr6, hf6_0⟩ | hr6
          · subst hr6
            have hg6_0 : rl z6 + 1 ≤ rl z2 := hf6_0
            refine lv_istore_n (lv' := [(2, .int 1), (0, .ref (o + 0)), (1, .int a0)]) hx hb dX11_findsRow_24 rfl hl (by decide) rfl (fun ls hl => ?_)
            refine lv_goto (tgt := 6) hx hb dX11_findsRow_25 (by decide) ?_
            exact ih2 1 z6 y6 (show ((rl z6 : Int) : Int) < (n2 : Int) from by omega) ⟨by decide, by decide⟩ J6 _ _ hP hS _ (lv_sub hl [0, 1, 2] rfl)
          · subst hr6
            refine lv_istore_n (lv' := [(2, .int 0), (0, .ref (o + 0)), (1, .int a0)]) hx hb dX11_findsRow_24 rfl hl (by decide) rfl (fun ls hl => ?_)
            refine lv_goto (tgt := 6) hx hb dX11_findsRow_25 (by decide) ?_
            refine lv_iload_n hx hb dX11_findsRow_6 rfl (lv_at hl 0 rfl) ?_
            refine lv_if_eq (tgt := 28) hx hb dX11_findsRow_7 (by decide) (fun _ => ?_) (fun q => absurd (by decide) q)
            refine lv_iconst (v := 0) hx hb dX11_findsRow_28 (by decide) ?_
            exact W.zret (v := 0) (ty := .boolean) hx hb hr rfl (fun t ht hW => ⟨⟨0, (z6, y6), rfl, ⟨⟨by decide, by decide⟩, J6⟩, by rw [ht]; exact hP, va_K.moved hW.alike hK⟩, hS.F ht⟩) hS.2.2 dX11_findsRow_29
        · have t5 : r4.toInt ≠ (0 : Int) := gl_ne c5
          refine lv_iconst (v := 1) hx hb dX11_findsRow_18 (by decide) ?_
          exact W.zret (v := 1) (ty := .boolean) hx hb hr rfl (fun t ht hW => ⟨⟨1, (z2, y2), rfl, ⟨⟨by decide, by decide⟩, J2⟩, by rw [ht]; exact hP, va_K.moved hW.alike hK⟩, hS.F ht⟩) hS.2.2 dX11_findsRow_19
  exact loop2 (rl z1 + 1) 1 z1 y1 (show ((rl z1 : Int) : Int) < (((rl z1 + 1) : Nat) : Int) from by omega) ⟨by decide, by decide⟩ J1 _ _ hP hS _ (lv_sub hl [0, 1, 2] rfl)
set_option maxRecDepth 100000 in
set_option maxHeartbeats 8000000 in
theorem m_fit (l : Launch) (D : va_G) (ca : Nat → ClassId) (o : Nat) (b z : Nat → Nat → Int32) (y : Nat → Nat → Int64) (J0 : qJM b z) (a0 : Int32) (a1 : Int32)  : qM l yX11_fit cX11_fit 5 (some .int) 5 147 (qPre D vwCl (qT6 ca) o 41 (qG (GM ca o) z y) [.ref (o + 0), .int a0, .int a1]) (va_Qi (fun r u => True ∧ qJM b u.1) (qB D vwCl (qT6 ca) o 41 (fun u : qZ => qG (GM ca o) u.1 u.2)) (qw_A o 41)) (qw_A o 41) := by
  refine Met.ofW (cc := cX11_fit) (maxL := 5) (ret := (some .int)) (by decide) rfl ?_
  intro p e s m args below meth c s₁ B hml hv
  obtain ⟨rfl, hP, hK⟩ := hv
  have hx := B.exec
  have hb := B.bytes
  have hr := B.returns
  have hts0 := atoms_spec (ws := Cond.code yX11_fit cX11_fit 5 (some .int) :: qtbl) B.pre
  have hts : ∀ w ∈ qtbl, w.before _ s = true := fun w h => hts0 w (List.mem_cons_of_mem _ h)
  have hown : s.vm.findClass RX11 = some m.cls := findClass_of_methodNamed B.named
  have hlocks := B.notSynchronized
  have hS : va_S (qw_A o 41) s.heap s.heap [] := va_S.rf
  have hl := lv_entry ([.ref (o + 0), .int a0, .int a1]) (n := 5) (Nat.le_of_ble_eq_true rfl)
  rw [lg_entry_eq]
  generalize (lg_sl ([.ref (o + 0), .int a0, .int a1]) ++ List.replicate (5 - (lg_sl ([.ref (o + 0), .int a0, .int a1])).length) Slot.unset).toArray = ls at hl ⊢
  have hl : lv_has ls 5 [(0, .ref (o + 0)), (1, .int a0), (2, .int a1)] := hl
  refine lv_aload_n hx hb dX11_fit_0 rfl (lv_at hl 0 rfl) ?_
  refine lv_iload_n hx hb dX11_fit_1 rfl (lv_at hl 1 rfl) ?_
  refine qc_Vip (As := [.int a0]) (rest := []) (k0 := 1) (m_areRemarks l D ca o b z y J0 a0) kc_yX11_areRemarks ⟨hx, hb, hml, hown, hts⟩ wq_1324 rfl rfl ⟨Nat.le_of_ble_eq_true rfl, Nat.le_of_ble_eq_true rfl⟩ wq_all hP hK hS qw_Ai (q0 := 0) (by decide) (hgM_0 ca o _ _) rfl rfl hl.1 rfl (Nat.le_of_ble_eq_true rfl) dX11_fit_2 ⟨Nat.zero_le _, Nat.zero_le _⟩ (fun r1 H locs h1 hP hS _ _ => ?_)
  have b1 : (0 : Int) ≤ r1.toInt ∧ r1.toInt ≤ 1 := h1
  refine lv_if_eq (tgt := 28) hx hb dX11_fit_5 (by decide) (fun c2 => ?_) (fun c2 => ?_)
  · have t2 : r1.toInt = (0 : Int) := gl_eq c2
    refine lv_iconst (v := (-1)) hx hb dX11_fit_28 (by decide) ?_
    exact W.iret (v := (-1)) hx hb hr (fun t ht hW => ⟨⟨(-1), (z, y), rfl, ⟨trivial, J0⟩, by rw [ht]; exact hP, va_K.moved hW.alike hK⟩, hS.F ht⟩) hS.2.2 dX11_fit_29
  · have t2 : r1.toInt ≠ (0 : Int) := gl_ne c2
    refine lv_iload_n hx hb dX11_fit_8 rfl (lv_at hl 2 rfl) ?_
    refine lv_bipush (v := 100) hx hb dX11_fit_9 (by decide) ?_
    refine lv_icmp_eq (tgt := 30) hx hb dX11_fit_11 (by decide) (fun c3 => ?_) (fun c3 => ?_)
    · have t3 : a1.toInt = (100 : Int) := gl_eq c3
      refine lv_aload_n hx hb dX11_fit_30 rfl (lv_at hl 0 rfl) ?_
      refine qc_Vip (As := []) (rest := []) (k0 := 0) (m_rowMany l D ca o b z y J0) kc_yX11_rowMany ⟨hx, hb, hml, hown, hts⟩ wq_1315 rfl rfl ⟨Nat.le_of_ble_eq_true rfl, Nat.le_of_ble_eq_true rfl⟩ wq_all hP hK hS qw_Ai (q0 := 0) (by decide) (hgM_0 ca o _ _) rfl rfl hl.1 rfl (Nat.le_of_ble_eq_true rfl) dX11_fit_31 ⟨Nat.zero_le _, Nat.zero_le _⟩ (fun r4 H locs h4 hP hS _ _ => ?_)
      have p4_1 : rmI z 6 r4 := h4.2
      refine lv_ldcw (v := 200000) hx hb hown (hts _ wq_1319) dX11_fit_34 ?_
      refine lv_icmp_le (tgt := 43) hx hb dX11_fit_37 (by decide) (fun c5 => ?_) (fun c5 => ?_)
      · have t5 : r4.toInt ≤ (200000 : Int) := gl_le c5
        refine lv_iload_n hx hb dX11_fit_43 rfl (lv_at hl 2 rfl) ?_
        refine lv_bipush (v := 100) hx hb dX11_fit_44 (by decide) ?_
        refine lv_icmp_ge (tgt := 69) hx hb dX11_fit_46 (by decide) (fun c6 => ?_) (fun c6 => ?_)
        · have t6 : a1.toInt ≥ (100 : Int) := gl_le c6
          refine lv_aload_n hx hb dX11_fit_69 rfl (lv_at hl 0 rfl) ?_
          refine qc_Vv2 (As := []) (rest := []) (k0 := 0) (m_counts l D ca o b z y J0) kc_yX11_counts ⟨hx, hb, hml, hown, hts⟩ wq_1356 rfl rfl ⟨Nat.le_of_ble_eq_true rfl, Nat.le_of_ble_eq_true rfl⟩ wq_all hP hK hS qw_Ai (q0 := 0) (by decide) (hgM_0 ca o _ _) rfl rfl hl.1 rfl (Nat.le_of_ble_eq_true rfl) dX11_fit_70 ⟨Nat.zero_le _, Nat.zero_le _⟩ (fun z7 y7 H locs h7 hP hS _ _ => ?_)
          have J7 : qJM b z7 := h7
          refine lv_iload_n hx hb dX11_fit_73 rfl (lv_at hl 2 rfl) ?_
          refine lv_bipush (v := 100) hx hb dX11_fit_74 (by decide) ?_
          refine lv_icmp_ne (tgt := 85) hx hb dX11_fit_76 (by decide) (fun c8 => ?_) (fun c8 => ?_)
          · have t8 : a1.toInt ≠ (100 : Int) := gl_ne c8
            exfalso; omega
          · have t8 : a1.toInt = (100 : Int) := gl_eq c8
            refine lv_aload_n hx hb dX11_fit_79 rfl (lv_at hl 0 rfl) ?_
            refine lv_iload_n hx hb dX11_fit_80 rfl (lv_at hl 1 rfl) ?_
            refine qc_Vip (As := [.int a0]) (rest := []) (k0 := 1) (m_fitting l D ca o b z7 y7 J7 a0) kc_yX11_fitting ⟨hx, hb, hml, hown, hts⟩ wq_1360 rfl rfl ⟨Nat.le_of_ble_eq_true rfl, Nat.le_of_ble_eq_true rfl⟩ wq_all hP hK hS qw_Ai (q0 := 0) (by decide) (hgM_0 ca o _ _) rfl rfl hl.1 rfl (Nat.le_of_ble_eq_true rfl) dX11_fit_81 ⟨Nat.zero_le _, Nat.zero_le _⟩ (fun r9 H locs h9 hP hS _ _ => ?_)
            exact W.iret (v := r9) hx hb hr (fun t ht hW => ⟨⟨r9, (z7, y7), rfl, ⟨trivial, J7⟩, by rw [ht]; exact hP, va_K.moved hW.alike hK⟩, hS.F ht⟩) hS.2.2 dX11_fit_84
        · have t6 : a1.toInt < (100 : Int) := gl_nle c6
          exfalso; omega
      · have t5 : r4.toInt > (200000 : Int) := gl_nle c5
        refine lv_bipush (v := (-3)) hx hb dX11_fit_40 (by decide) ?_
        exact W.iret (v := (-3)) hx hb hr (fun t ht hW => ⟨⟨(-3), (z, y), rfl, ⟨trivial, J0⟩, by rw [ht]; exact hP, va_K.moved hW.alike hK⟩, hS.F ht⟩) hS.2.2 dX11_fit_42
    · have t3 : a1.toInt ≠ (100 : Int) := gl_ne c3
      refine lv_iload_n hx hb dX11_fit_14 rfl (lv_at hl 2 rfl) ?_
      refine lv_bipush (v := 101) hx hb dX11_fit_15 (by decide) ?_
      refine lv_icmp_eq (tgt := 30) hx hb dX11_fit_17 (by decide) (fun c10 => ?_) (fun c10 => ?_)
      · have t10 : a1.toInt = (101 : Int) := gl_eq c10
        refine lv_aload_n hx hb dX11_fit_30 rfl (lv_at hl 0 rfl) ?_
        refine qc_Vip (As := []) (rest := []) (k0 := 0) (m_rowMany l D ca o b z y J0) kc_yX11_rowMany ⟨hx, hb, hml, hown, hts⟩ wq_1315 rfl rfl ⟨Nat.le_of_ble_eq_true rfl, Nat.le_of_ble_eq_true rfl⟩ wq_all hP hK hS qw_Ai (q0 := 0) (by decide) (hgM_0 ca o _ _) rfl rfl hl.1 rfl (Nat.le_of_ble_eq_true rfl) dX11_fit_31 ⟨Nat.zero_le _, Nat.zero_le _⟩ (fun r11 H locs h11 hP hS _ _ => ?_)
        have p11_1 : rmI z 6 r11 := h11.2
        refine lv_ldcw (v := 200000) hx hb hown (hts _ wq_1319) dX11_fit_34 ?_
        refine lv_icmp_le (tgt := 43) hx hb dX11_fit_37 (by decide) (fun c12 => ?_) (fun c12 => ?_)
        · have t12 : r11.toInt ≤ (200000 : Int) := gl_le c12
          refine lv_iload_n hx hb dX11_fit_43 rfl (lv_at hl 2 rfl) ?_
          refine lv_bipush (v := 100) hx hb dX11_fit_44 (by decide) ?_
          refine lv_icmp_ge (tgt := 69) hx hb dX11_fit_46 (by decide) (fun c13 => ?_) (fun c13 => ?_)
          · have t13 : a1.toInt ≥ (100 : Int) := gl_le c13
            refine lv_aload_n hx hb dX11_fit_69 rfl (lv_at hl 0 rfl) ?_
            refine qc_Vv2 (As := []) (rest := []) (k0 := 0) (m_counts l D ca o b z y J0) kc_yX11_counts ⟨hx, hb, hml, hown, hts⟩ wq_1356 rfl rfl ⟨Nat.le_of_ble_eq_true rfl, Nat.le_of_ble_eq_true rfl⟩ wq_all hP hK hS qw_Ai (q0 := 0) (by decide) (hgM_0 ca o _ _) rfl rfl hl.1 rfl (Nat.le_of_ble_eq_true rfl) dX11_fit_70 ⟨Nat.zero_le _, Nat.zero_le _⟩ (fun z14 y14 H locs h14 hP hS _ _ => ?_)
            have J14 : qJM b z14 := h14
            refine lv_iload_n hx hb dX11_fit_73 rfl (lv_at hl 2 rfl) ?_
            refine lv_bipush (v := 100) hx hb dX11_fit_74 (by decide) ?_
            refine lv_icmp_ne (tgt := 85) hx hb dX11_fit_76 (by decide) (fun c15 => ?_) (fun c15 => ?_)
            · have t15 : a1.toInt ≠ (100 : Int) := gl_ne c15
              refine lv_iconst (v := 0) hx hb dX11_fit_85 (by decide) ?_
              refine lv_istore_n (lv' := [(3, .int 0), (0, .ref (o + 0)), (1, .int a0), (2, .int a1)]) hx hb dX11_fit_86 rfl hl (by decide) rfl (fun ls hl => ?_)
              refine lv_iconst (v := 0) hx hb dX11_fit_87 (by decide) ?_
              refine lv_istore (lv' := [(4, .int 0), (3, .int 0), (0, .ref (o + 0)), (1, .int a0), (2, .int a1)]) hx hb dX11_fit_88 hl (by decide) rfl (fun ls hl => ?_)
              have loop16 : ∀ (n : Nat) (w16_4 : Int32) (w16_3 : Int32), ((1024 - w16_4.toInt : Int) < (n : Int)) → ((0 : Int) ≤ w16_4.toInt ∧ w16_4.toInt ≤ 1024) → ∀ (H : Heap) (locs : List Loc), qw_P D vwCl o 41 (qG (GM ca o) z14 y14) H → va_S (qw_A o 41) s.heap H locs → ∀ (ls : Array Slot), lv_has ls 5 [(4, .int w16_4), (3, .int w16_3), (0, .ref (o + 0)), (1, .int a0), (2, .int a1)] → W p l e (headSpec (Cond.code yX11_fit cX11_fit 5 (some .int) :: qtbl) ({ frames := 5, cells := 0, slots := 0, locals := 147 })).room s m (([.ref (o + 0), .int a0, .int a1] : List Value).toArray) below meth c H locs 0 0 (MQ below (va_Qi (fun r u => True ∧ qJM b u.1) (qB D vwCl (qT6 ca) o 41 (fun u : qZ => qG (GM ca o) u.1 u.2)) (qw_A o 41)) (([.ref (o + 0), .int a0, .int a1] : List Value).toArray) s 0 0 (qw_A o 41)) (F0 m 90 ls []) := by
                intro n
                induction n with
                | zero => intro w16_4 w16_3 hb16 hv16_4; exfalso; omega
                | succ n16 ih16 =>
                  intro w16_4 w16_3 hb16 hv16_4 H locs hP hS ls hl
                  refine lv_iload hx hb dX11_fit_90 (lv_at hl 0 rfl) ?_
                  refine lv_sipush (v := 1024) hx hb dX11_fit_92 (by decide) ?_
                  refine lv_icmp_ge (tgt := 127) hx hb dX11_fit_95 (by decide) (fun c17 => ?_) (fun c17 => ?_)
                  · have t17 : w16_4.toInt ≥ (1024 : Int) := gl_le c17
                    refine lv_iload_n hx hb dX11_fit_127 rfl (lv_at hl 1 rfl) ?_
                    exact W.iret (v := w16_3) hx hb hr (fun t ht hW => ⟨⟨w16_3, (z14, y14), rfl, ⟨trivial, J14⟩, by rw [ht]; exact hP, va_K.moved hW.alike hK⟩, hS.F ht⟩) hS.2.2 dX11_fit_128
                  · have t17 : w16_4.toInt < (1024 : Int) := gl_nle c17
                    refine lv_iload_n hx hb dX11_fit_98 rfl (lv_at hl 3 rfl) ?_
                    refine lv_iload hx hb dX11_fit_99 (lv_at hl 0 rfl) ?_
                    refine lv_iconst (v := (-1)) hx hb dX11_fit_101 (by decide) ?_
                    refine lv_ixor hx hb dX11_fit_102 ?_
                    refine lv_topi (fun x18 e18 => ?_)
                    refine lv_iand hx hb dX11_fit_103 ?_
                    refine lv_topi (fun x19 e19 => ?_)
                    refine qc_Sip (As := [.int x19]) (rest := []) (k0 := 1) (m_bits l D ca o b z14 y14 J14 x19) kc_yX11_bits ⟨hx, hb, hml, hown, hts⟩ wq_1296 rfl rfl ⟨Nat.le_of_ble_eq_true rfl, Nat.le_of_ble_eq_true rfl⟩ wq_all hP hK hS qw_Ai rfl hl.1 rfl (Nat.le_of_ble_eq_true rfl) dX11_fit_104 ⟨Nat.zero_le _, Nat.zero_le _⟩ (fun r20 H locs h20 hP hS _ _ => ?_)
                    have p20_1 : r20 = bsum x19 16 := h20.2
                    refine lv_iconst (v := 1) hx hb dX11_fit_107 (by decide) ?_
                    refine lv_icmp_gt (tgt := 121) hx hb dX11_fit_108 (by decide) (fun c21 => ?_) (fun c21 => ?_)
                    · have t21 : r20.toInt > (1 : Int) := gl_lt c21
                      obtain ⟨x22, e22⟩ : ∃ t : Int32, t = w16_4 + 1 := ⟨_, rfl⟩
                      refine lv_iinc (v := x22) (lv' := [(4, .int x22), (3, .int w16_3), (0, .ref (o + 0)), (1, .int a0), (2, .int a1)]) hx hb dX11_fit_121 hl (k := 0) rfl (by rw [e22]; rfl) (by decide) rfl (fun ls hl => ?_)
                      have t22 : x22.toInt = w16_4.toInt + (1 : Int) := ga_add e22 rfl rfl (by omega) (by omega)
                      refine lv_goto (tgt := 90) hx hb dX11_fit_124 (by decide) ?_
                      exact ih16 x22 w16_3 (show (1024 - x22.toInt : Int) < (n16 : Int) from by omega) ⟨by omega, by omega⟩ _ _ hP hS _ (lv_sub hl [0, 1, 2, 3, 4] rfl)
                    · have t21 : r20.toInt ≤ (1 : Int) := gl_nlt c21
                      refine lv_iload_n hx hb dX11_fit_111 rfl (lv_at hl 1 rfl) ?_
                      refine lv_aload_n hx hb dX11_fit_112 rfl (lv_at hl 2 rfl) ?_
                      refine qf_get hx hb hts inX11 hown hK hP (q0 := 0) (by decide) (hgM_0 ca o) rfl 37 (by decide) wq_1029 (v := .ref (o + 24)) rfl dX11_fit_113 ?_
                      refine lv_iload hx hb dX11_fit_116 (lv_at hl 0 rfl) ?_
                      refine qa_iald hx hb hK hP (q0 := 24) (by decide) 0 (N := 1024) (hgM_24 ca o) rfl (gi_in (by omega) (by omega)) dX11_fit_118 ?_
                      refine lv_topi (fun x23 e23 => ?_)
                      refine lv_iadd hx hb dX11_fit_119 ?_
                      refine lv_topi (fun x24 e24 => ?_)
                      refine lv_istore_n (lv' := [(3, .int x24), (4, .int w16_4), (0, .ref (o + 0)), (1, .int a0), (2, .int a1)]) hx hb dX11_fit_120 rfl hl (by decide) rfl (fun ls hl => ?_)
                      obtain ⟨x25, e25⟩ : ∃ t : Int32, t = w16_4 + 1 := ⟨_, rfl⟩
                      refine lv_iinc (v := x25) (lv' := [(4, .int x25), (3, .int x24), (0, .ref (o + 0)), (1, .int a0), (2, .int a1)]) hx hb dX11_fit_121 hl (k := 1) rfl (by rw [e25]; rfl) (by decide) rfl (fun ls hl => ?_)
                      have t25 : x25.toInt = w16_4.toInt + (1 : Int) := ga_add e25 rfl rfl (by omega) (by omega)
                      refine lv_goto (tgt := 90) hx hb dX11_fit_124 (by decide) ?_
                      exact ih16 x25 x24 (show (1024 - x25.toInt : Int) < (n16 : Int) from by omega) ⟨by omega, by omega⟩ _ _ hP hS _ (lv_sub hl [0, 1, 2, 3, 4] rfl)
              exact loop16 1025 0 0 (show (1024 - (0 : Int) : Int) < ((1025 : Nat) : Int) from by omega) ⟨by decide, by decide⟩ _ _ hP hS _ (lv_sub hl [0, 1, 2, 3, 4] rfl)
            · have t15 : a1.toInt = (100 : Int) := gl_eq c15
              exfalso; omega
          · have t13 : a1.toInt < (100 : Int) := gl_nle c13
            exfalso; omega
        · have t12 : r11.toInt > (200000 : Int) := gl_nle c12
          refine lv_bipush (v := (-3)) hx hb dX11_fit_40 (by decide) ?_
          exact W.iret (v := (-3)) hx hb hr (fun t ht hW => ⟨⟨(-3), (z, y), rfl, ⟨trivial, J0⟩, by rw [ht]; exact hP, va_K.moved hW.alike hK⟩, hS.F ht⟩) hS.2.2 dX11_fit_42
      · have t10 : a1.toInt ≠ (101 : Int) := gl_ne c10
        refine lv_aload_n hx hb dX11_fit_20 rfl (lv_at hl 0 rfl) ?_
        refine lv_iload_n hx hb dX11_fit_21 rfl (lv_at hl 2 rfl) ?_
        refine qc_Vip (As := [.int a1]) (rest := []) (k0 := 1) (m_isPerson l D ca o b z y J0 a1) kc_yX11_isPerson ⟨hx, hb, hml, hown, hts⟩ wq_1194 rfl rfl ⟨Nat.le_of_ble_eq_true rfl, Nat.le_of_ble_eq_true rfl⟩ wq_all hP hK hS qw_Ai (q0 := 0) (by decide) (hgM_0 ca o _ _) rfl rfl hl.1 rfl (Nat.le_of_ble_eq_true rfl) dX11_fit_22 ⟨Nat.zero_le _, Nat.zero_le _⟩ (fun r26 H locs h26 hP hS _ _ => ?_)
        rcases h26 with ⟨hr26, hf26_0, hf26_1⟩ | ⟨hr26, hf26_0⟩
        · subst hr26
          have hg26_0 : pHas (z 0 4) a1 := hf26_0
          have hg26_1 : 0 ≤ a1.toInt ∧ a1.toInt ≤ 5 := hf26_1
          refine lv_if_ne (tgt := 30) hx hb dX11_fit_25 (by decide) (fun _ => ?_) (fun q => absurd q (by decide))
          refine lv_aload_n hx hb dX11_fit_30 rfl (lv_at hl 0 rfl) ?_
          refine qc_Vip (As := []) (rest := []) (k0 := 0) (m_rowMany l D ca o b z y J0) kc_yX11_rowMany ⟨hx, hb, hml, hown, hts⟩ wq_1315 rfl rfl ⟨Nat.le_of_ble_eq_true rfl, Nat.le_of_ble_eq_true rfl⟩ wq_all hP hK hS qw_Ai (q0 := 0) (by decide) (hgM_0 ca o _ _) rfl rfl hl.1 rfl (Nat.le_of_ble_eq_true rfl) dX11_fit_31 ⟨Nat.zero_le _, Nat.zero_le _⟩ (fun r27 H locs h27 hP hS _ _ => ?_)
          have p27_1 : rmI z 6 r27 := h27.2
          refine lv_ldcw (v := 200000) hx hb hown (hts _ wq_1319) dX11_fit_34 ?_
          refine lv_icmp_le (tgt := 43) hx hb dX11_fit_37 (by decide) (fun c28 => ?_) (fun c28 => ?_)
          · have t28 : r27.toInt ≤ (200000 : Int) := gl_le c28
            refine lv_iload_n hx hb dX11_fit_43 rfl (lv_at hl 2 rfl) ?_
            refine lv_bipush (v := 100) hx hb dX11_fit_44 (by decide) ?_
            refine lv_icmp_ge (tgt := 69) hx hb dX11_fit_46 (by decide) (fun c29 => ?_) (fun c29 => ?_)
            · have t29 : a1.toInt ≥ (100 : Int) := gl_le c29
              exfalso; omega
            · have t29 : a1.toInt < (100 : Int) := gl_nle c29
              refine lv_aload_n hx hb dX11_fit_49 rfl (lv_at hl 0 rfl) ?_
              refine lv_iload_n hx hb dX11_fit_50 rfl (lv_at hl 1 rfl) ?_
              refine qc_Vi2 (As := [.int a0]) (rest := []) (k0 := 1) (m_findsRow l D ca o b z y J0 a0) kc_yX11_findsRow ⟨hx, hb, hml, hown, hts⟩ wq_1332 rfl rfl ⟨Nat.le_of_ble_eq_true rfl, Nat.le_of_ble_eq_true rfl⟩ wq_all hP hK hS qw_Ai (q0 := 0) (by decide) (hgM_0 ca o _ _) rfl rfl hl.1 rfl (Nat.le_of_ble_eq_true rfl) dX11_fit_51 ⟨Nat.zero_le _, Nat.zero_le _⟩ (fun r30 z30 y30 H locs h30 hP hS _ _ => ?_)
              have J30 : qJM b z30 := h30.2
              have b30 : (0 : Int) ≤ r30.toInt ∧ r30.toInt ≤ 1 := h30.1
              refine lv_if_eq (tgt := 66) hx hb dX11_fit_54 (by decide) (fun c31 => ?_) (fun c31 => ?_)
              · have t31 : r30.toInt = (0 : Int) := gl_eq c31
                refine lv_bipush (v := (-2)) hx hb dX11_fit_66 (by decide) ?_
                exact W.iret (v := (-2)) hx hb hr (fun t ht hW => ⟨⟨(-2), (z30, y30), rfl, ⟨trivial, J30⟩, by rw [ht]; exact hP, va_K.moved hW.alike hK⟩, hS.F ht⟩) hS.2.2 dX11_fit_68
              · have t31 : r30.toInt ≠ (0 : Int) := gl_ne c31
                refine lv_aload_n hx hb dX11_fit_57 rfl (lv_at hl 0 rfl) ?_
                refine qf_get hx hb hts inX11 hown hK hP (q0 := 0) (by decide) (hgM_0 ca o) rfl 36 (by decide) wq_1028 (v := .ref (o + 23)) rfl dX11_fit_58 ?_
                refine lv_iload_n hx hb dX11_fit_61 rfl (lv_at hl 2 rfl) ?_
                refine qa_iald hx hb hK hP (q0 := 23) (by decide) 0 (N := 6) (hgM_23 ca o) rfl (gi_in (by omega) (by omega)) dX11_fit_62 ?_
                refine lv_topi (fun x32 e32 => ?_)
                have b32 := iM_23 J30 e32
                refine lv_goto (tgt := 68) hx hb dX11_fit_63 (by decide) ?_
                exact W.iret (v := x32) hx hb hr (fun t ht hW => ⟨⟨x32, (z30, y30), rfl, ⟨trivial, J30⟩, by rw [ht]; exact hP, va_K.moved hW.alike hK⟩, hS.F ht⟩) hS.2.2 dX11_fit_68
          · have t28 : r27.toInt > (200000 : Int) := gl_nle c28
            refine lv_bipush (v := (-3)) hx hb dX11_fit_40 (by decide) ?_
            exact W.iret (v := (-3)) hx hb hr (fun t ht hW => ⟨⟨(-3), (z, y), rfl, ⟨trivial, J0⟩, by rw [ht]; exact hP, va_K.moved hW.alike hK⟩, hS.F ht⟩) hS.2.2 dX11_fit_42
        · subst hr26
          have hg26_0 : ¬ pHas (z 0 4) a1 := hf26_0
          refine lv_if_ne (tgt := 30) hx hb dX11_fit_25 (by decide) (fun q => absurd q (by decide)) (fun _ => ?_)
          refine lv_iconst (v := (-1)) hx hb dX11_fit_28 (by decide) ?_
          exact W.iret (v := (-1)) hx hb hr (fun t ht hW => ⟨⟨(-1), (z, y), rfl, ⟨trivial, J0⟩, by rw [ht]; exact hP, va_K.moved hW.alike hK⟩, hS.F ht⟩) hS.2.2 dX11_fit_29
set_option maxRecDepth 100000 in
set_option maxHeartbeats 8000000 in
theorem m_laysAges (l : Launch) (D : va_G) (ca : Nat → ClassId) (o : Nat) (b z : Nat → Nat → Int32) (y : Nat → Nat → Int64) (J0 : qJM b z) (a0 : Int32) (a1 : Int32) (ha1 : (0 : Int) ≤ a1.toInt ∧ a1.toInt ≤ 5) (hp0 : rwp z 6 ≤ 200000) : qM l yX11_laysAges cX11_laysAges 4 none 4 124 (qPre D vwCl (qT6 ca) o 41 (qG (GM ca o) z y) [.ref (o + 0), .int a0, .int a1]) (va_Qv (fun u => qJM b u.1 ∧ (arI u.1)) (qB D vwCl (qT6 ca) o 41 (fun u : qZ => qG (GM ca o) u.1 u.2)) (qw_A o 41)) (qw_A o 41) := by
  refine Met.ofW (cc := cX11_laysAges) (maxL := 4) (ret := none) (by decide) rfl ?_
  intro p e s m args below meth c s₁ B hml hv
  obtain ⟨rfl, hP, hK⟩ := hv
  have hx := B.exec
  have hb := B.bytes
  have hr := B.returns
  have hts0 := atoms_spec (ws := Cond.code yX11_laysAges cX11_laysAges 4 none :: qtbl) B.pre
  have hts : ∀ w ∈ qtbl, w.before _ s = true := fun w h => hts0 w (List.mem_cons_of_mem _ h)
  have hown : s.vm.findClass RX11 = some m.cls := findClass_of_methodNamed B.named
  have hlocks := B.notSynchronized
  have hS : va_S (qw_A o 41) s.heap s.heap [] := va_S.rf
  have hl := lv_entry ([.ref (o + 0), .int a0, .int a1]) (n := 4) (Nat.le_of_ble_eq_true rfl)
  rw [lg_entry_eq]
  generalize (lg_sl ([.ref (o + 0), .int a0, .int a1]) ++ List.replicate (4 - (lg_sl ([.ref (o + 0), .int a0, .int a1])).length) Slot.unset).toArray = ls at hl ⊢
  have hl : lv_has ls 4 [(0, .ref (o + 0)), (1, .int a0), (2, .int a1)] := hl
  refine lv_iconst (v := 0) hx hb dX11_laysAges_0 (by decide) ?_
  refine lv_istore_n (lv' := [(3, .int 0), (0, .ref (o + 0)), (1, .int a0), (2, .int a1)]) hx hb dX11_laysAges_1 rfl hl (by decide) rfl (fun ls hl => ?_)
  have loop1 : ∀ (n : Nat) (w1_3 : Int32) (z1 : Nat → Nat → Int32) (y1 : Nat → Nat → Int64), ((100 - w1_3.toInt : Int) < (n : Int)) → ((0 : Int) ≤ w1_3.toInt ∧ w1_3.toInt ≤ 100) → (qJM b z1) → (zrI z1 25 w1_3) → ∀ (H : Heap) (locs : List Loc), qw_P D vwCl o 41 (qG (GM ca o) z1 y1) H → va_S (qw_A o 41) s.heap H locs → ∀ (ls : Array Slot), lv_has ls 4 [(3, .int w1_3), (0, .ref (o + 0)), (1, .int a0), (2, .int a1)] → W p l e (headSpec (Cond.code yX11_laysAges cX11_laysAges 4 none :: qtbl) ({ frames := 4, cells := 0, slots := 0, locals := 124 })).room s m (([.ref (o + 0), .int a0, .int a1] : List Value).toArray) below meth c H locs 0 0 (MQ below (va_Qv (fun u => qJM b u.1 ∧ (arI u.1)) (qB D vwCl (qT6 ca) o 41 (fun u : qZ => qG (GM ca o) u.1 u.2)) (qw_A o 41)) (([.ref (o + 0), .int a0, .int a1] : List Value).toArray) s 0 0 (qw_A o 41)) (F0 m 2 ls []) := by
    intro n
    induction n with
    | zero => intro w1_3 z1 y1 hb1 hv1_3 J1 v1_0; exfalso; omega
    | succ n1 ih1 =>
      intro w1_3 z1 y1 hb1 hv1_3 J1 v1_0 H locs hP hS ls hl
      refine lv_iload_n hx hb dX11_laysAges_2 rfl (lv_at hl 0 rfl) ?_
      refine lv_bipush (v := 100) hx hb dX11_laysAges_3 (by decide) ?_
      refine lv_icmp_ge (tgt := 21) hx hb dX11_laysAges_5 (by decide) (fun c2 => ?_) (fun c2 => ?_)
      · have t2 : w1_3.toInt ≥ (100 : Int) := gl_le c2
        refine lv_aload_n hx hb dX11_laysAges_21 rfl (lv_at hl 1 rfl) ?_
        refine qc_Vv2 (As := []) (rest := []) (k0 := 0) (m_firstRow l D ca o b z1 y1 J1) kc_yX11_firstRow ⟨hx, hb, hml, hown, hts⟩ wq_1336 rfl rfl ⟨Nat.le_of_ble_eq_true rfl, Nat.le_of_ble_eq_true rfl⟩ wq_all hP hK hS qw_Ai (q0 := 0) (by decide) (hgM_0 ca o _ _) rfl rfl hl.1 rfl (Nat.le_of_ble_eq_true rfl) dX11_laysAges_22 ⟨Nat.zero_le _, Nat.zero_le _⟩ (fun z3 y3 H locs h3 hP hS _ _ => ?_)
        have J3 : qJM b z3 := h3.1
        have p3_3 : rl z3 + 1 = rwp z1 6 := h3.2.2.2
        have ct3 : ctI z3 199999 := ct_0 v1_0 (by omega) (h3.2.2.1) hp0 p3_3 (rwp_K J0.2.1 J1.2.1 6)
        refine lv_iconst (v := 1) hx hb dX11_laysAges_25 (by decide) ?_
        refine lv_istore_n (lv' := [(3, .int 1), (0, .ref (o + 0)), (1, .int a0), (2, .int a1)]) hx hb dX11_laysAges_26 rfl hl (by decide) rfl (fun ls hl => ?_)
        have loop4 : ∀ (n : Nat) (w4_3 : Int32) (z4 : Nat → Nat → Int32) (y4 : Nat → Nat → Int64), (((rl z4 : Int) : Int) < (n : Int)) → ((1 : Int) ≤ w4_3.toInt ∧ w4_3.toInt ≤ 1) → (qJM b z4) → (ctI z4 199999) → ∀ (H : Heap) (locs : List Loc), qw_P D vwCl o 41 (qG (GM ca o) z4 y4) H → va_S (qw_A o 41) s.heap H locs → ∀ (ls : Array Slot), lv_has ls 4 [(3, .int w4_3), (0, .ref (o + 0)), (1, .int a0), (2, .int a1)] → W p l e (headSpec (Cond.code yX11_laysAges cX11_laysAges 4 none :: qtbl) ({ frames := 4, cells := 0, slots := 0, locals := 124 })).room s m (([.ref (o + 0), .int a0, .int a1] : List Value).toArray) below meth c H locs 0 0 (MQ below (va_Qv (fun u => qJM b u.1 ∧ (arI u.1)) (qB D vwCl (qT6 ca) o 41 (fun u : qZ => qG (GM ca o) u.1 u.2)) (qw_A o 41)) (([.ref (o + 0), .int a0, .int a1] : List Value).toArray) s 0 0 (qw_A o 41)) (F0 m 27 ls []) := by
          intro n
          induction n with
          | zero => intro w4_3 z4 y4 hb4 hv4_3 J4 v4_0; exfalso; omega
          | succ n4 ih4 =>
            intro w4_3 z4 y4 hb4 hv4_3 J4 v4_0 H locs hP hS ls hl
            refine lv_iload_n hx hb dX11_laysAges_27 rfl (lv_at hl 0 rfl) ?_
            refine lv_if_eq (tgt := 71) hx hb dX11_laysAges_28 (by decide) (fun c5 => ?_) (fun c5 => ?_)
            · have t5 : w4_3.toInt = (0 : Int) := gl_eq c5
              exfalso; omega
            · have t5 : w4_3.toInt ≠ (0 : Int) := gl_ne c5
              refine lv_aload_n hx hb dX11_laysAges_31 rfl (lv_at hl 1 rfl) ?_
              refine lv_iload_n hx hb dX11_laysAges_32 rfl (lv_at hl 2 rfl) ?_
              refine qc_Vip (As := [.int a0]) (rest := []) (k0 := 1) (m_fitsAll l D ca o b z4 y4 J4 a0) kc_yX11_fitsAll ⟨hx, hb, hml, hown, hts⟩ wq_1340 rfl rfl ⟨Nat.le_of_ble_eq_true rfl, Nat.le_of_ble_eq_true rfl⟩ wq_all hP hK hS qw_Ai (q0 := 0) (by decide) (hgM_0 ca o _ _) rfl rfl hl.1 rfl (Nat.le_of_ble_eq_true rfl) dX11_laysAges_33 ⟨Nat.zero_le _, Nat.zero_le _⟩ (fun r6 H locs h6 hP hS _ _ => ?_)
              have b6 : (0 : Int) ≤ r6.toInt ∧ r6.toInt ≤ 1 := h6
              refine lv_if_eq (tgt := 63) hx hb dX11_laysAges_36 (by decide) (fun c7 => ?_) (fun c7 => ?_)
              · have t7 : r6.toInt = (0 : Int) := gl_eq c7
                refine lv_aload_n hx hb dX11_laysAges_63 rfl (lv_at hl 1 rfl) ?_
                refine qc_Vi2 (As := []) (rest := []) (k0 := 0) (m_nextRow l D ca o b z4 y4 J4) kc_yX11_nextRow ⟨hx, hb, hml, hown, hts⟩ wq_1352 rfl rfl ⟨Nat.le_of_ble_eq_true rfl, Nat.le_of_ble_eq_true rfl⟩ wq_all hP hK hS qw_Ai (q0 := 0) (by decide) (hgM_0 ca o _ _) rfl rfl hl.1 rfl (Nat.le_of_ble_eq_true rfl) dX11_laysAges_64 ⟨Nat.zero_le _, Nat.zero_le _⟩ (fun r8 z8 y8 H locs h8 hP hS _ _ => ?_)
                have J8 : qJM b z8 := h8.2.1
                have p8_4 : (z8 0 41).toInt = (z4 0 41).toInt := h8.2.2.2.2
                rcases h8.1 with ⟨hr8, hf8_0⟩ | hr8
                · subst hr8
                  have hg8_0 : rl z8 + 1 ≤ rl z4 := hf8_0
                  refine lv_istore_n (lv' := [(3, .int 1), (0, .ref (o + 0)), (1, .int a0), (2, .int a1)]) hx hb dX11_laysAges_67 rfl hl (by decide) rfl (fun ls hl => ?_)
                  refine lv_goto (tgt := 27) hx hb dX11_laysAges_68 (by decide) ?_
                  exact ih4 1 z8 y8 (show ((rl z8 : Int) : Int) < (n4 : Int) from by omega) ⟨by decide, by decide⟩ J8 (ct_le (ct_nx v4_0 (h8.2.2.2.1) (by omega)) (by decide)) _ _ hP hS _ (lv_sub hl [0, 1, 2, 3] rfl)
                · subst hr8
                  refine lv_istore_n (lv' := [(3, .int 0), (0, .ref (o + 0)), (1, .int a0), (2, .int a1)]) hx hb dX11_laysAges_67 rfl hl (by decide) rfl (fun ls hl => ?_)
                  refine lv_goto (tgt := 27) hx hb dX11_laysAges_68 (by decide) ?_
                  refine lv_iload_n hx hb dX11_laysAges_27 rfl (lv_at hl 0 rfl) ?_
                  refine lv_if_eq (tgt := 71) hx hb dX11_laysAges_28 (by decide) (fun _ => ?_) (fun q => absurd (by decide) q)
                  exact W.vret hx hb hr (fun t ht hW => ⟨⟨(z8, y8), rfl, ⟨J8, (ar_of v4_0 (by decide) (h8.2.2.2.1))⟩, by rw [ht]; exact hP, va_K.moved hW.alike hK⟩, hS.F ht⟩) hS.2.2 dX11_laysAges_71
              · have t7 : r6.toInt ≠ (0 : Int) := gl_ne c7
                refine lv_aload_n hx hb dX11_laysAges_39 rfl (lv_at hl 1 rfl) ?_
                refine qf_get hx hb hts inX11 hown hK hP (q0 := 0) (by decide) (hgM_0 ca o) rfl 38 (by decide) wq_1030 (v := .ref (o + 25)) rfl dX11_laysAges_40 ?_
                refine lv_aload_n hx hb dX11_laysAges_43 rfl (lv_at hl 1 rfl) ?_
                refine qf_get hx hb hts inX11 hown hK hP (q0 := 0) (by decide) (hgM_0 ca o) rfl 36 (by decide) wq_1028 (v := .ref (o + 23)) rfl dX11_laysAges_44 ?_
                refine lv_iload_n hx hb dX11_laysAges_47 rfl (lv_at hl 3 rfl) ?_
                refine qa_iald hx hb hK hP (q0 := 23) (by decide) 0 (N := 6) (hgM_23 ca o) rfl (gi_in (by omega) (by omega)) dX11_laysAges_48 ?_
                refine lv_topi (fun x9 e9 => ?_)
                have b9 := iM_23 J4 e9
                refine lv_aload_n hx hb dX11_laysAges_49 rfl (lv_at hl 1 rfl) ?_
                refine qf_get hx hb hts inX11 hown hK hP (q0 := 0) (by decide) (hgM_0 ca o) rfl 38 (by decide) wq_1030 (v := .ref (o + 25)) rfl dX11_laysAges_50 ?_
                refine lv_aload_n hx hb dX11_laysAges_53 rfl (lv_at hl 1 rfl) ?_
                refine qf_get hx hb hts inX11 hown hK hP (q0 := 0) (by decide) (hgM_0 ca o) rfl 36 (by decide) wq_1028 (v := .ref (o + 23)) rfl dX11_laysAges_54 ?_
                refine lv_iload_n hx hb dX11_laysAges_57 rfl (lv_at hl 3 rfl) ?_
                refine qa_iald hx hb hK hP (q0 := 23) (by decide) 0 (N := 6) (hgM_23 ca o) rfl (gi_in (by omega) (by omega)) dX11_laysAges_58 ?_
                refine lv_topi (fun x10 e10 => ?_)
                have b10 := iM_23 J4 e10
                have ag10 : x10.toInt = x9.toInt := congrArg Int32.toInt (e10.trans e9.symm)
                refine qa_iald hx hb hK hP (q0 := 25) (by decide) 0 (N := 100) (hgM_25 ca o) rfl (gi_in (by omega) (by omega)) dX11_laysAges_59 ?_
                refine lv_topi (fun x11 e11 => ?_)
                refine lv_iconst (v := 1) hx hb dX11_laysAges_60 (by decide) ?_
                refine lv_iadd hx hb dX11_laysAges_61 ?_
                refine lv_topi (fun x12 e12 => ?_)
                refine qa_iast2 hx hb hK hP hS qw_Ai (q0 := 25) (by decide) 0 (N := 100) (hgM_25 ca o) rfl (i := x9) (x := x12) (gi_in (by omega) (by omega)) dX11_laysAges_62 (fun z13 H locs hz13 hP hS => ?_)
                have J13 := jM_25 J4 hz13
                have rl13 : rl z13 = rl z4 := rl_up hz13 ⟨by decide, by decide, by decide, fun h => absurd h (by decide)⟩
                have cs13 : ctI z13 200000 := ct_st v4_0 hz13 e12 e11 (by rw [e9, e10]) (ga_nat (by omega) (show _ < (100 : Int) from by omega)) (by decide)
                refine lv_aload_n hx hb dX11_laysAges_63 rfl (lv_at hl 1 rfl) ?_
                refine qc_Vi2 (As := []) (rest := []) (k0 := 0) (m_nextRow l D ca o b z13 y4 J13) kc_yX11_nextRow ⟨hx, hb, hml, hown, hts⟩ wq_1352 rfl rfl ⟨Nat.le_of_ble_eq_true rfl, Nat.le_of_ble_eq_true rfl⟩ wq_all hP hK hS qw_Ai (q0 := 0) (by decide) (hgM_0 ca o _ _) rfl rfl hl.1 rfl (Nat.le_of_ble_eq_true rfl) dX11_laysAges_64 ⟨Nat.zero_le _, Nat.zero_le _⟩ (fun r14 z14 y14 H locs h14 hP hS _ _ => ?_)
                have J14 : qJM b z14 := h14.2.1
                have p14_4 : (z14 0 41).toInt = (z13 0 41).toInt := h14.2.2.2.2
                rcases h14.1 with ⟨hr14, hf14_0⟩ | hr14
                · subst hr14
                  have hg14_0 : rl z14 + 1 ≤ rl z13 := hf14_0
                  refine lv_istore_n (lv' := [(3, .int 1), (0, .ref (o + 0)), (1, .int a0), (2, .int a1)]) hx hb dX11_laysAges_67 rfl hl (by decide) rfl (fun ls hl => ?_)
                  refine lv_goto (tgt := 27) hx hb dX11_laysAges_68 (by decide) ?_
                  exact ih4 1 z14 y14 (show ((rl z14 : Int) : Int) < (n4 : Int) from by omega) ⟨by decide, by decide⟩ J14 ((ct_nx cs13 (h14.2.2.2.1) (by omega) : ctI _ (200000 - 1))) _ _ hP hS _ (lv_sub hl [0, 1, 2, 3] rfl)
                · subst hr14
                  refine lv_istore_n (lv' := [(3, .int 0), (0, .ref (o + 0)), (1, .int a0), (2, .int a1)]) hx hb dX11_laysAges_67 rfl hl (by decide) rfl (fun ls hl => ?_)
                  refine lv_goto (tgt := 27) hx hb dX11_laysAges_68 (by decide) ?_
                  refine lv_iload_n hx hb dX11_laysAges_27 rfl (lv_at hl 0 rfl) ?_
                  refine lv_if_eq (tgt := 71) hx hb dX11_laysAges_28 (by decide) (fun _ => ?_) (fun q => absurd (by decide) q)
                  exact W.vret hx hb hr (fun t ht hW => ⟨⟨(z14, y14), rfl, ⟨J14, (ar_of cs13 (by decide) (h14.2.2.2.1))⟩, by rw [ht]; exact hP, va_K.moved hW.alike hK⟩, hS.F ht⟩) hS.2.2 dX11_laysAges_71
        exact loop4 (rl z3 + 1) 1 z3 y3 (show ((rl z3 : Int) : Int) < (((rl z3 + 1) : Nat) : Int) from by omega) ⟨by decide, by decide⟩ J3 (ct3) _ _ hP hS _ (lv_sub hl [0, 1, 2, 3] rfl)
      · have t2 : w1_3.toInt < (100 : Int) := gl_nle c2
        refine lv_aload_n hx hb dX11_laysAges_8 rfl (lv_at hl 1 rfl) ?_
        refine qf_get hx hb hts inX11 hown hK hP (q0 := 0) (by decide) (hgM_0 ca o) rfl 38 (by decide) wq_1030 (v := .ref (o + 25)) rfl dX11_laysAges_9 ?_
        refine lv_iload_n hx hb dX11_laysAges_12 rfl (lv_at hl 0 rfl) ?_
        refine lv_iconst (v := 0) hx hb dX11_laysAges_13 (by decide) ?_
        refine qa_iast2 hx hb hK hP hS qw_Ai (q0 := 25) (by decide) 0 (N := 100) (hgM_25 ca o) rfl (i := w1_3) (x := 0) (gi_in (by omega) (by omega)) dX11_laysAges_14 (fun z15 H locs hz15 hP hS => ?_)
        have J15 := jM_25 J1 hz15
        have rl15 : rl z15 = rl z1 := rl_up hz15 ⟨by decide, by decide, by decide, fun h => absurd h (by decide)⟩
        obtain ⟨x16, e16⟩ : ∃ t : Int32, t = w1_3 + 1 := ⟨_, rfl⟩
        refine lv_iinc (v := x16) (lv' := [(3, .int x16), (0, .ref (o + 0)), (1, .int a0), (2, .int a1)]) hx hb dX11_laysAges_15 hl (k := 0) rfl (by rw [e16]; rfl) (by decide) rfl (fun ls hl => ?_)
        have t16 : x16.toInt = w1_3.toInt + (1 : Int) := ga_add e16 rfl rfl (by omega) (by omega)
        refine lv_goto (tgt := 2) hx hb dX11_laysAges_18 (by decide) ?_
        exact ih1 x16 z15 y1 (show (100 - x16.toInt : Int) < (n1 : Int) from by omega) ⟨by omega, by omega⟩ J15 (zr_step (by omega) (by omega) v1_0 hz15) _ _ hP hS _ (lv_sub hl [0, 1, 2, 3] rfl)
  exact loop1 101 0 z y (show (100 - (0 : Int) : Int) < ((101 : Nat) : Int) from by omega) ⟨by decide, by decide⟩ J0 (zr_0 z 25) _ _ hP hS _ (lv_sub hl [0, 1, 2, 3] rfl)
set_option maxRecDepth 100000 in
set_option maxHeartbeats 8000000 in
theorem m_ageIs (l : Launch) (D : va_G) (ca : Nat → ClassId) (o : Nat) (b z : Nat → Nat → Int32) (y : Nat → Nat → Int64) (J0 : qJM b z) (a0 : Int32) (a1 : Int32) (a2 : Int32)  : qM l yX11_ageIs cX11_ageIs 8 (some .int) 5 147 (qPre D vwCl (qT6 ca) o 41 (qG (GM ca o) z y) [.ref (o + 0), .int a0, .int a1, .int a2]) (va_Qi (fun r u => True ∧ qJM b u.1) (qB D vwCl (qT6 ca) o 41 (fun u : qZ => qG (GM ca o) u.1 u.2)) (qw_A o 41)) (qw_A o 41) := by
  refine Met.ofW (cc := cX11_ageIs) (maxL := 8) (ret := (some .int)) (by decide) rfl ?_
  intro p e s m args below meth c s₁ B hml hv
  obtain ⟨rfl, hP, hK⟩ := hv
  have hx := B.exec
  have hb := B.bytes
  have hr := B.returns
  have hts0 := atoms_spec (ws := Cond.code yX11_ageIs cX11_ageIs 8 (some .int) :: qtbl) B.pre
  have hts : ∀ w ∈ qtbl, w.before _ s = true := fun w h => hts0 w (List.mem_cons_of_mem _ h)
  have hown : s.vm.findClass RX11 = some m.cls := findClass_of_methodNamed B.named
  have hlocks := B.notSynchronized
  have hS : va_S (qw_A o 41) s.heap s.heap [] := va_S.rf
  have hl := lv_entry ([.ref (o + 0), .int a0, .int a1, .int a2]) (n := 8) (Nat.le_of_ble_eq_true rfl)
  rw [lg_entry_eq]
  generalize (lg_sl ([.ref (o + 0), .int a0, .int a1, .int a2]) ++ List.replicate (8 - (lg_sl ([.ref (o + 0), .int a0, .int a1, .int a2])).length) Slot.unset).toArray = ls at hl ⊢
  have hl : lv_has ls 8 [(0, .ref (o + 0)), (1, .int a0), (2, .int a1), (3, .int a2)] := hl
  refine lv_aload_n hx hb dX11_ageIs_0 rfl (lv_at hl 0 rfl) ?_
  refine lv_iload_n hx hb dX11_ageIs_1 rfl (lv_at hl 1 rfl) ?_
  refine qc_Vip (As := [.int a0]) (rest := []) (k0 := 1) (m_areRemarks l D ca o b z y J0 a0) kc_yX11_areRemarks ⟨hx, hb, hml, hown, hts⟩ wq_1324 rfl rfl ⟨Nat.le_of_ble_eq_true rfl, Nat.le_of_ble_eq_true rfl⟩ wq_all hP hK hS qw_Ai (q0 := 0) (by decide) (hgM_0 ca o _ _) rfl rfl hl.1 rfl (Nat.le_of_ble_eq_true rfl) dX11_ageIs_2 ⟨Nat.zero_le _, Nat.zero_le _⟩ (fun r1 H locs h1 hP hS _ _ => ?_)
  have b1 : (0 : Int) ≤ r1.toInt ∧ r1.toInt ≤ 1 := h1
  refine lv_if_eq (tgt := 25) hx hb dX11_ageIs_5 (by decide) (fun c2 => ?_) (fun c2 => ?_)
  · have t2 : r1.toInt = (0 : Int) := gl_eq c2
    refine lv_iconst (v := (-1)) hx hb dX11_ageIs_25 (by decide) ?_
    exact W.iret (v := (-1)) hx hb hr (fun t ht hW => ⟨⟨(-1), (z, y), rfl, ⟨trivial, J0⟩, by rw [ht]; exact hP, va_K.moved hW.alike hK⟩, hS.F ht⟩) hS.2.2 dX11_ageIs_26
  · have t2 : r1.toInt ≠ (0 : Int) := gl_ne c2
    refine lv_aload_n hx hb dX11_ageIs_8 rfl (lv_at hl 0 rfl) ?_
    refine lv_iload_n hx hb dX11_ageIs_9 rfl (lv_at hl 2 rfl) ?_
    refine qc_Vip (As := [.int a1]) (rest := []) (k0 := 1) (m_isPerson l D ca o b z y J0 a1) kc_yX11_isPerson ⟨hx, hb, hml, hown, hts⟩ wq_1194 rfl rfl ⟨Nat.le_of_ble_eq_true rfl, Nat.le_of_ble_eq_true rfl⟩ wq_all hP hK hS qw_Ai (q0 := 0) (by decide) (hgM_0 ca o _ _) rfl rfl hl.1 rfl (Nat.le_of_ble_eq_true rfl) dX11_ageIs_10 ⟨Nat.zero_le _, Nat.zero_le _⟩ (fun r3 H locs h3 hP hS _ _ => ?_)
    rcases h3 with ⟨hr3, hf3_0, hf3_1⟩ | ⟨hr3, hf3_0⟩
    · subst hr3
      have hg3_0 : pHas (z 0 4) a1 := hf3_0
      have hg3_1 : 0 ≤ a1.toInt ∧ a1.toInt ≤ 5 := hf3_1
      refine lv_if_eq (tgt := 25) hx hb dX11_ageIs_13 (by decide) (fun q => absurd q (by decide)) (fun _ => ?_)
      refine lv_iload_n hx hb dX11_ageIs_16 rfl (lv_at hl 3 rfl) ?_
      refine lv_iconst (v := 0) hx hb dX11_ageIs_17 (by decide) ?_
      refine lv_iconst (v := 2) hx hb dX11_ageIs_18 (by decide) ?_
      refine qc_Sip (As := [.int a2, .int 0, .int 2]) (rest := []) (k0 := 3) (m_in l D ca o b z y J0 a2 0 2) kc_yX11_in ⟨hx, hb, hml, hown, hts⟩ wq_1187 rfl rfl ⟨Nat.le_of_ble_eq_true rfl, Nat.le_of_ble_eq_true rfl⟩ wq_all hP hK hS qw_Ai rfl hl.1 rfl (Nat.le_of_ble_eq_true rfl) dX11_ageIs_19 ⟨Nat.zero_le _, Nat.zero_le _⟩ (fun r4 H locs h4 hP hS _ _ => ?_)
      rcases h4 with ⟨hr4, hf4_0⟩ | ⟨hr4, hf4_0⟩
      · subst hr4
        have hg4_0 : (0 : Int) ≤ a2.toInt ∧ a2.toInt ≤ (2 : Int) := hf4_0
        refine lv_if_ne (tgt := 27) hx hb dX11_ageIs_22 (by decide) (fun _ => ?_) (fun q => absurd q (by decide))
        refine lv_aload_n hx hb dX11_ageIs_27 rfl (lv_at hl 0 rfl) ?_
        refine qc_Vip (As := []) (rest := []) (k0 := 0) (m_rowMany l D ca o b z y J0) kc_yX11_rowMany ⟨hx, hb, hml, hown, hts⟩ wq_1315 rfl rfl ⟨Nat.le_of_ble_eq_true rfl, Nat.le_of_ble_eq_true rfl⟩ wq_all hP hK hS qw_Ai (q0 := 0) (by decide) (hgM_0 ca o _ _) rfl rfl hl.1 rfl (Nat.le_of_ble_eq_true rfl) dX11_ageIs_28 ⟨Nat.zero_le _, Nat.zero_le _⟩ (fun r5 H locs h5 hP hS _ _ => ?_)
        have p5_1 : rmI z 6 r5 := h5.2
        refine lv_ldcw (v := 200000) hx hb hown (hts _ wq_1319) dX11_ageIs_31 ?_
        refine lv_icmp_le (tgt := 40) hx hb dX11_ageIs_34 (by decide) (fun c6 => ?_) (fun c6 => ?_)
        · have t6 : r5.toInt ≤ (200000 : Int) := gl_le c6
          refine lv_aload_n hx hb dX11_ageIs_40 rfl (lv_at hl 0 rfl) ?_
          refine lv_iload_n hx hb dX11_ageIs_41 rfl (lv_at hl 1 rfl) ?_
          refine lv_iload_n hx hb dX11_ageIs_42 rfl (lv_at hl 2 rfl) ?_
          refine qc_Vv2 (As := [.int a0, .int a1]) (rest := []) (k0 := 2) (m_laysAges l D ca o b z y J0 a0 a1 ⟨by omega, by omega⟩ (rm_le p5_1 (by omega))) kc_yX11_laysAges ⟨hx, hb, hml, hown, hts⟩ wq_1368 rfl rfl ⟨Nat.le_of_ble_eq_true rfl, Nat.le_of_ble_eq_true rfl⟩ wq_all hP hK hS qw_Ai (q0 := 0) (by decide) (hgM_0 ca o _ _) rfl rfl hl.1 rfl (Nat.le_of_ble_eq_true rfl) dX11_ageIs_43 ⟨Nat.zero_le _, Nat.zero_le _⟩ (fun z7 y7 H locs h7 hP hS _ _ => ?_)
          have J7 : qJM b z7 := h7.1
          have p7_1 : arI z7 := h7.2
          refine lv_bipush (v := (-2)) hx hb dX11_ageIs_46 (by decide) ?_
          refine lv_istore (lv' := [(4, .int ((-2))), (0, .ref (o + 0)), (1, .int a0), (2, .int a1), (3, .int a2)]) hx hb dX11_ageIs_48 hl (by decide) rfl (fun ls hl => ?_)
          refine lv_bipush (v := (-2)) hx hb dX11_ageIs_50 (by decide) ?_
          refine lv_istore (lv' := [(5, .int ((-2))), (4, .int ((-2))), (0, .ref (o + 0)), (1, .int a0), (2, .int a1), (3, .int a2)]) hx hb dX11_ageIs_52 hl (by decide) rfl (fun ls hl => ?_)
          refine lv_iconst (v := 0) hx hb dX11_ageIs_54 (by decide) ?_
          refine lv_istore (lv' := [(6, .int 0), (5, .int ((-2))), (4, .int ((-2))), (0, .ref (o + 0)), (1, .int a0), (2, .int a1), (3, .int a2)]) hx hb dX11_ageIs_55 hl (by decide) rfl (fun ls hl => ?_)
          refine lv_iconst (v := 0) hx hb dX11_ageIs_57 (by decide) ?_
          refine lv_istore (lv' := [(7, .int 0), (6, .int 0), (5, .int ((-2))), (4, .int ((-2))), (0, .ref (o + 0)), (1, .int a0), (2, .int a1), (3, .int a2)]) hx hb dX11_ageIs_58 hl (by decide) rfl (fun ls hl => ?_)
          have loop8 : ∀ (n : Nat) (w8_7 : Int32) (w8_6 : Int32) (w8_5 : Int32) (w8_4 : Int32), ((100 - w8_7.toInt : Int) < (n : Int)) → ((0 : Int) ≤ w8_7.toInt ∧ w8_7.toInt ≤ 100) → ((-2 : Int) ≤ w8_5.toInt ∧ w8_5.toInt ≤ 99) → ((-2 : Int) ≤ w8_4.toInt ∧ w8_4.toInt ≤ 99) → ∀ (H : Heap) (locs : List Loc), qw_P D vwCl o 41 (qG (GM ca o) z7 y7) H → va_S (qw_A o 41) s.heap H locs → ∀ (ls : Array Slot), lv_has ls 8 [(7, .int w8_7), (6, .int w8_6), (5, .int w8_5), (4, .int w8_4), (0, .ref (o + 0)), (1, .int a0), (2, .int a1), (3, .int a2)] → W p l e (headSpec (Cond.code yX11_ageIs cX11_ageIs 8 (some .int) :: qtbl) ({ frames := 5, cells := 0, slots := 0, locals := 147 })).room s m (([.ref (o + 0), .int a0, .int a1, .int a2] : List Value).toArray) below meth c H locs 0 0 (MQ below (va_Qi (fun r u => True ∧ qJM b u.1) (qB D vwCl (qT6 ca) o 41 (fun u : qZ => qG (GM ca o) u.1 u.2)) (qw_A o 41)) (([.ref (o + 0), .int a0, .int a1, .int a2] : List Value).toArray) s 0 0 (qw_A o 41)) (F0 m 60 ls []) := by
            intro n
            induction n with
            | zero => intro w8_7 w8_6 w8_5 w8_4 hb8 hv8_7 hv8_5 hv8_4; exfalso; omega
            | succ n8 ih8 =>
              intro w8_7 w8_6 w8_5 w8_4 hb8 hv8_7 hv8_5 hv8_4 H locs hP hS ls hl
              refine lv_iload hx hb dX11_ageIs_60 (lv_at hl 0 rfl) ?_
              refine lv_bipush (v := 100) hx hb dX11_ageIs_62 (by decide) ?_
              refine lv_icmp_ge (tgt := 112) hx hb dX11_ageIs_64 (by decide) (fun c9 => ?_) (fun c9 => ?_)
              · have t9 : w8_7.toInt ≥ (100 : Int) := gl_le c9
                refine lv_iload_n hx hb dX11_ageIs_112 rfl (lv_at hl 7 rfl) ?_
                refine lv_if_ne (tgt := 121) hx hb dX11_ageIs_113 (by decide) (fun c10 => ?_) (fun c10 => ?_)
                · have t10 : a2.toInt ≠ (0 : Int) := gl_ne c10
                  refine lv_iload_n hx hb dX11_ageIs_121 rfl (lv_at hl 7 rfl) ?_
                  refine lv_iconst (v := 1) hx hb dX11_ageIs_122 (by decide) ?_
                  refine lv_icmp_ne (tgt := 131) hx hb dX11_ageIs_123 (by decide) (fun c11 => ?_) (fun c11 => ?_)
                  · have t11 : a2.toInt ≠ (1 : Int) := gl_ne c11
                    refine lv_iload hx hb dX11_ageIs_131 (lv_at hl 1 rfl) ?_
                    exact W.iret (v := w8_6) hx hb hr (fun t ht hW => ⟨⟨w8_6, (z7, y7), rfl, ⟨trivial, J7⟩, by rw [ht]; exact hP, va_K.moved hW.alike hK⟩, hS.F ht⟩) hS.2.2 dX11_ageIs_133
                  · have t11 : a2.toInt = (1 : Int) := gl_eq c11
                    refine lv_iload hx hb dX11_ageIs_126 (lv_at hl 2 rfl) ?_
                    refine lv_goto (tgt := 133) hx hb dX11_ageIs_128 (by decide) ?_
                    exact W.iret (v := w8_5) hx hb hr (fun t ht hW => ⟨⟨w8_5, (z7, y7), rfl, ⟨trivial, J7⟩, by rw [ht]; exact hP, va_K.moved hW.alike hK⟩, hS.F ht⟩) hS.2.2 dX11_ageIs_133
                · have t10 : a2.toInt = (0 : Int) := gl_eq c10
                  refine lv_iload hx hb dX11_ageIs_116 (lv_at hl 3 rfl) ?_
                  refine lv_goto (tgt := 133) hx hb dX11_ageIs_118 (by decide) ?_
                  exact W.iret (v := w8_4) hx hb hr (fun t ht hW => ⟨⟨w8_4, (z7, y7), rfl, ⟨trivial, J7⟩, by rw [ht]; exact hP, va_K.moved hW.alike hK⟩, hS.F ht⟩) hS.2.2 dX11_ageIs_133
              · have t9 : w8_7.toInt < (100 : Int) := gl_nle c9
                refine lv_aload_n hx hb dX11_ageIs_67 rfl (lv_at hl 4 rfl) ?_
                refine qf_get hx hb hts inX11 hown hK hP (q0 := 0) (by decide) (hgM_0 ca o) rfl 38 (by decide) wq_1030 (v := .ref (o + 25)) rfl dX11_ageIs_68 ?_
                refine lv_iload hx hb dX11_ageIs_71 (lv_at hl 0 rfl) ?_
                refine qa_iald hx hb hK hP (q0 := 25) (by decide) 0 (N := 100) (hgM_25 ca o) rfl (gi_in (by omega) (by omega)) dX11_ageIs_73 ?_
                refine lv_topi (fun x12 e12 => ?_)
                refine lv_if_ne (tgt := 80) hx hb dX11_ageIs_74 (by decide) (fun c13 => ?_) (fun c13 => ?_)
                · have t13 : x12.toInt ≠ (0 : Int) := gl_ne c13
                  refine lv_iload hx hb dX11_ageIs_80 (lv_at hl 3 rfl) ?_
                  refine lv_bipush (v := (-2)) hx hb dX11_ageIs_82 (by decide) ?_
                  refine lv_icmp_ne (tgt := 92) hx hb dX11_ageIs_84 (by decide) (fun c14 => ?_) (fun c14 => ?_)
                  · have t14 : w8_4.toInt ≠ (-2 : Int) := gl_ne c14
                    refine lv_iload hx hb dX11_ageIs_92 (lv_at hl 3 rfl) ?_
                    refine lv_istore (lv' := [(4, .int w8_4), (7, .int w8_7), (6, .int w8_6), (5, .int w8_5), (0, .ref (o + 0)), (1, .int a0), (2, .int a1), (3, .int a2)]) hx hb dX11_ageIs_94 hl (by decide) rfl (fun ls hl => ?_)
                    refine lv_iload hx hb dX11_ageIs_96 (lv_at hl 1 rfl) ?_
                    refine lv_istore (lv' := [(5, .int w8_7), (4, .int w8_4), (7, .int w8_7), (6, .int w8_6), (0, .ref (o + 0)), (1, .int a0), (2, .int a1), (3, .int a2)]) hx hb dX11_ageIs_98 hl (by decide) rfl (fun ls hl => ?_)
                    refine lv_iload hx hb dX11_ageIs_100 (lv_at hl 3 rfl) ?_
                    refine lv_iconst (v := 1) hx hb dX11_ageIs_102 (by decide) ?_
                    refine lv_iadd hx hb dX11_ageIs_103 ?_
                    refine lv_topi (fun x15 e15 => ?_)
                    refine lv_istore (lv' := [(6, .int x15), (5, .int w8_7), (4, .int w8_4), (7, .int w8_7), (0, .ref (o + 0)), (1, .int a0), (2, .int a1), (3, .int a2)]) hx hb dX11_ageIs_104 hl (by decide) rfl (fun ls hl => ?_)
                    obtain ⟨x16, e16⟩ : ∃ t : Int32, t = w8_7 + 1 := ⟨_, rfl⟩
                    refine lv_iinc (v := x16) (lv' := [(7, .int x16), (6, .int x15), (5, .int w8_7), (4, .int w8_4), (0, .ref (o + 0)), (1, .int a0), (2, .int a1), (3, .int a2)]) hx hb dX11_ageIs_106 hl (k := 3) rfl (by rw [e16]; rfl) (by decide) rfl (fun ls hl => ?_)
                    have t16 : x16.toInt = w8_7.toInt + (1 : Int) := ga_add e16 rfl rfl (by omega) (by omega)
                    refine lv_goto (tgt := 60) hx hb dX11_ageIs_109 (by decide) ?_
                    exact ih8 x16 x15 w8_7 w8_4 (show (100 - x16.toInt : Int) < (n8 : Int) from by omega) ⟨by omega, by omega⟩ ⟨by omega, by omega⟩ ⟨by omega, by omega⟩ _ _ hP hS _ (lv_sub hl [0, 1, 2, 3, 4, 5, 6, 7] rfl)
                  · have t14 : w8_4.toInt = (-2 : Int) := gl_eq c14
                    refine lv_iload hx hb dX11_ageIs_87 (lv_at hl 0 rfl) ?_
                    refine lv_goto (tgt := 94) hx hb dX11_ageIs_89 (by decide) ?_
                    refine lv_istore (lv' := [(4, .int w8_7), (7, .int w8_7), (6, .int w8_6), (5, .int w8_5), (0, .ref (o + 0)), (1, .int a0), (2, .int a1), (3, .int a2)]) hx hb dX11_ageIs_94 hl (by decide) rfl (fun ls hl => ?_)
                    refine lv_iload hx hb dX11_ageIs_96 (lv_at hl 1 rfl) ?_
                    refine lv_istore (lv' := [(5, .int w8_7), (4, .int w8_7), (7, .int w8_7), (6, .int w8_6), (0, .ref (o + 0)), (1, .int a0), (2, .int a1), (3, .int a2)]) hx hb dX11_ageIs_98 hl (by decide) rfl (fun ls hl => ?_)
                    refine lv_iload hx hb dX11_ageIs_100 (lv_at hl 3 rfl) ?_
                    refine lv_iconst (v := 1) hx hb dX11_ageIs_102 (by decide) ?_
                    refine lv_iadd hx hb dX11_ageIs_103 ?_
                    refine lv_topi (fun x17 e17 => ?_)
                    refine lv_istore (lv' := [(6, .int x17), (5, .int w8_7), (4, .int w8_7), (7, .int w8_7), (0, .ref (o + 0)), (1, .int a0), (2, .int a1), (3, .int a2)]) hx hb dX11_ageIs_104 hl (by decide) rfl (fun ls hl => ?_)
                    obtain ⟨x18, e18⟩ : ∃ t : Int32, t = w8_7 + 1 := ⟨_, rfl⟩
                    refine lv_iinc (v := x18) (lv' := [(7, .int x18), (6, .int x17), (5, .int w8_7), (4, .int w8_7), (0, .ref (o + 0)), (1, .int a0), (2, .int a1), (3, .int a2)]) hx hb dX11_ageIs_106 hl (k := 3) rfl (by rw [e18]; rfl) (by decide) rfl (fun ls hl => ?_)
                    have t18 : x18.toInt = w8_7.toInt + (1 : Int) := ga_add e18 rfl rfl (by omega) (by omega)
                    refine lv_goto (tgt := 60) hx hb dX11_ageIs_109 (by decide) ?_
                    exact ih8 x18 x17 w8_7 w8_7 (show (100 - x18.toInt : Int) < (n8 : Int) from by omega) ⟨by omega, by omega⟩ ⟨by omega, by omega⟩ ⟨by omega, by omega⟩ _ _ hP hS _ (lv_sub hl [0, 1, 2, 3, 4, 5, 6, 7] rfl)
                · have t13 : x12.toInt = (0 : Int) := gl_eq c13
                  refine lv_goto (tgt := 106) hx hb dX11_ageIs_77 (by decide) ?_
                  obtain ⟨x19, e19⟩ : ∃ t : Int32, t = w8_7 + 1 := ⟨_, rfl⟩
                  refine lv_iinc (v := x19) (lv' := [(7, .int x19), (6, .int w8_6), (5, .int w8_5), (4, .int w8_4), (0, .ref (o + 0)), (1, .int a0), (2, .int a1), (3, .int a2)]) hx hb dX11_ageIs_106 hl (k := 0) rfl (by rw [e19]; rfl) (by decide) rfl (fun ls hl => ?_)
                  have t19 : x19.toInt = w8_7.toInt + (1 : Int) := ga_add e19 rfl rfl (by omega) (by omega)
                  refine lv_goto (tgt := 60) hx hb dX11_ageIs_109 (by decide) ?_
                  exact ih8 x19 w8_6 w8_5 w8_4 (show (100 - x19.toInt : Int) < (n8 : Int) from by omega) ⟨by omega, by omega⟩ ⟨by omega, by omega⟩ ⟨by omega, by omega⟩ _ _ hP hS _ (lv_sub hl [0, 1, 2, 3, 4, 5, 6, 7] rfl)
          exact loop8 101 0 0 (-2) (-2) (show (100 - (0 : Int) : Int) < ((101 : Nat) : Int) from by omega) ⟨by decide, by decide⟩ ⟨by decide, by decide⟩ ⟨by decide, by decide⟩ _ _ hP hS _ (lv_sub hl [0, 1, 2, 3, 4, 5, 6, 7] rfl)
        · have t6 : r5.toInt > (200000 : Int) := gl_nle c6
          refine lv_bipush (v := (-3)) hx hb dX11_ageIs_37 (by decide) ?_
          exact W.iret (v := (-3)) hx hb hr (fun t ht hW => ⟨⟨(-3), (z, y), rfl, ⟨trivial, J0⟩, by rw [ht]; exact hP, va_K.moved hW.alike hK⟩, hS.F ht⟩) hS.2.2 dX11_ageIs_39
      · subst hr4
        have hg4_0 : ¬ ((0 : Int) ≤ a2.toInt ∧ a2.toInt ≤ (2 : Int)) := hf4_0
        refine lv_if_ne (tgt := 27) hx hb dX11_ageIs_22 (by decide) (fun q => absurd q (by decide)) (fun _ => ?_)
        refine lv_iconst (v := (-1)) hx hb dX11_ageIs_25 (by decide) ?_
        exact W.iret (v := (-1)) hx hb hr (fun t ht hW => ⟨⟨(-1), (z, y), rfl, ⟨trivial, J0⟩, by rw [ht]; exact hP, va_K.moved hW.alike hK⟩, hS.F ht⟩) hS.2.2 dX11_ageIs_26
    · subst hr3
      have hg3_0 : ¬ pHas (z 0 4) a1 := hf3_0
      refine lv_if_eq (tgt := 25) hx hb dX11_ageIs_13 (by decide) (fun _ => ?_) (fun q => absurd (by decide) q)
      refine lv_iconst (v := (-1)) hx hb dX11_ageIs_25 (by decide) ?_
      exact W.iret (v := (-1)) hx hb hr (fun t ht hW => ⟨⟨(-1), (z, y), rfl, ⟨trivial, J0⟩, by rw [ht]; exact hP, va_K.moved hW.alike hK⟩, hS.F ht⟩) hS.2.2 dX11_ageIs_26
set_option maxRecDepth 100000 in
set_option maxHeartbeats 8000000 in
theorem m_aged (l : Launch) (D : va_G) (ca : Nat → ClassId) (o : Nat) (b z : Nat → Nat → Int32) (y : Nat → Nat → Int64) (J0 : qJM b z) (a0 : Int32) (a1 : Int32) (a2 : Int32)  : qM l yX11_aged cX11_aged 4 (some .int) 5 147 (qPre D vwCl (qT6 ca) o 41 (qG (GM ca o) z y) [.ref (o + 0), .int a0, .int a1, .int a2]) (va_Qi (fun r u => True ∧ qJM b u.1) (qB D vwCl (qT6 ca) o 41 (fun u : qZ => qG (GM ca o) u.1 u.2)) (qw_A o 41)) (qw_A o 41) := by
  refine Met.ofW (cc := cX11_aged) (maxL := 4) (ret := (some .int)) (by decide) rfl ?_
  intro p e s m args below meth c s₁ B hml hv
  obtain ⟨rfl, hP, hK⟩ := hv
  have hx := B.exec
  have hb := B.bytes
  have hr := B.returns
  have hts0 := atoms_spec (ws := Cond.code yX11_aged cX11_aged 4 (some .int) :: qtbl) B.pre
  have hts : ∀ w ∈ qtbl, w.before _ s = true := fun w h => hts0 w (List.mem_cons_of_mem _ h)
  have hown : s.vm.findClass RX11 = some m.cls := findClass_of_methodNamed B.named
  have hlocks := B.notSynchronized
  have hS : va_S (qw_A o 41) s.heap s.heap [] := va_S.rf
  have hl := lv_entry ([.ref (o + 0), .int a0, .int a1, .int a2]) (n := 4) (Nat.le_of_ble_eq_true rfl)
  rw [lg_entry_eq]
  generalize (lg_sl ([.ref (o + 0), .int a0, .int a1, .int a2]) ++ List.replicate (4 - (lg_sl ([.ref (o + 0), .int a0, .int a1, .int a2])).length) Slot.unset).toArray = ls at hl ⊢
  have hl : lv_has ls 4 [(0, .ref (o + 0)), (1, .int a0), (2, .int a1), (3, .int a2)] := hl
  refine lv_aload_n hx hb dX11_aged_0 rfl (lv_at hl 0 rfl) ?_
  refine lv_iload_n hx hb dX11_aged_1 rfl (lv_at hl 1 rfl) ?_
  refine qc_Vip (As := [.int a0]) (rest := []) (k0 := 1) (m_areRemarks l D ca o b z y J0 a0) kc_yX11_areRemarks ⟨hx, hb, hml, hown, hts⟩ wq_1324 rfl rfl ⟨Nat.le_of_ble_eq_true rfl, Nat.le_of_ble_eq_true rfl⟩ wq_all hP hK hS qw_Ai (q0 := 0) (by decide) (hgM_0 ca o _ _) rfl rfl hl.1 rfl (Nat.le_of_ble_eq_true rfl) dX11_aged_2 ⟨Nat.zero_le _, Nat.zero_le _⟩ (fun r1 H locs h1 hP hS _ _ => ?_)
  have b1 : (0 : Int) ≤ r1.toInt ∧ r1.toInt ≤ 1 := h1
  refine lv_if_eq (tgt := 26) hx hb dX11_aged_5 (by decide) (fun c2 => ?_) (fun c2 => ?_)
  · have t2 : r1.toInt = (0 : Int) := gl_eq c2
    refine lv_iconst (v := (-1)) hx hb dX11_aged_26 (by decide) ?_
    exact W.iret (v := (-1)) hx hb hr (fun t ht hW => ⟨⟨(-1), (z, y), rfl, ⟨trivial, J0⟩, by rw [ht]; exact hP, va_K.moved hW.alike hK⟩, hS.F ht⟩) hS.2.2 dX11_aged_27
  · have t2 : r1.toInt ≠ (0 : Int) := gl_ne c2
    refine lv_aload_n hx hb dX11_aged_8 rfl (lv_at hl 0 rfl) ?_
    refine lv_iload_n hx hb dX11_aged_9 rfl (lv_at hl 2 rfl) ?_
    refine qc_Vip (As := [.int a1]) (rest := []) (k0 := 1) (m_isPerson l D ca o b z y J0 a1) kc_yX11_isPerson ⟨hx, hb, hml, hown, hts⟩ wq_1194 rfl rfl ⟨Nat.le_of_ble_eq_true rfl, Nat.le_of_ble_eq_true rfl⟩ wq_all hP hK hS qw_Ai (q0 := 0) (by decide) (hgM_0 ca o _ _) rfl rfl hl.1 rfl (Nat.le_of_ble_eq_true rfl) dX11_aged_10 ⟨Nat.zero_le _, Nat.zero_le _⟩ (fun r3 H locs h3 hP hS _ _ => ?_)
    rcases h3 with ⟨hr3, hf3_0, hf3_1⟩ | ⟨hr3, hf3_0⟩
    · subst hr3
      have hg3_0 : pHas (z 0 4) a1 := hf3_0
      have hg3_1 : 0 ≤ a1.toInt ∧ a1.toInt ≤ 5 := hf3_1
      refine lv_if_eq (tgt := 26) hx hb dX11_aged_13 (by decide) (fun q => absurd q (by decide)) (fun _ => ?_)
      refine lv_iload_n hx hb dX11_aged_16 rfl (lv_at hl 3 rfl) ?_
      refine lv_iconst (v := 0) hx hb dX11_aged_17 (by decide) ?_
      refine lv_bipush (v := 99) hx hb dX11_aged_18 (by decide) ?_
      refine qc_Sip (As := [.int a2, .int 0, .int 99]) (rest := []) (k0 := 3) (m_in l D ca o b z y J0 a2 0 99) kc_yX11_in ⟨hx, hb, hml, hown, hts⟩ wq_1187 rfl rfl ⟨Nat.le_of_ble_eq_true rfl, Nat.le_of_ble_eq_true rfl⟩ wq_all hP hK hS qw_Ai rfl hl.1 rfl (Nat.le_of_ble_eq_true rfl) dX11_aged_20 ⟨Nat.zero_le _, Nat.zero_le _⟩ (fun r4 H locs h4 hP hS _ _ => ?_)
      rcases h4 with ⟨hr4, hf4_0⟩ | ⟨hr4, hf4_0⟩
      · subst hr4
        have hg4_0 : (0 : Int) ≤ a2.toInt ∧ a2.toInt ≤ (99 : Int) := hf4_0
        refine lv_if_ne (tgt := 28) hx hb dX11_aged_23 (by decide) (fun _ => ?_) (fun q => absurd q (by decide))
        refine lv_aload_n hx hb dX11_aged_28 rfl (lv_at hl 0 rfl) ?_
        refine qc_Vip (As := []) (rest := []) (k0 := 0) (m_rowMany l D ca o b z y J0) kc_yX11_rowMany ⟨hx, hb, hml, hown, hts⟩ wq_1315 rfl rfl ⟨Nat.le_of_ble_eq_true rfl, Nat.le_of_ble_eq_true rfl⟩ wq_all hP hK hS qw_Ai (q0 := 0) (by decide) (hgM_0 ca o _ _) rfl rfl hl.1 rfl (Nat.le_of_ble_eq_true rfl) dX11_aged_29 ⟨Nat.zero_le _, Nat.zero_le _⟩ (fun r5 H locs h5 hP hS _ _ => ?_)
        have p5_1 : rmI z 6 r5 := h5.2
        refine lv_ldcw (v := 200000) hx hb hown (hts _ wq_1319) dX11_aged_32 ?_
        refine lv_icmp_le (tgt := 41) hx hb dX11_aged_35 (by decide) (fun c6 => ?_) (fun c6 => ?_)
        · have t6 : r5.toInt ≤ (200000 : Int) := gl_le c6
          refine lv_aload_n hx hb dX11_aged_41 rfl (lv_at hl 0 rfl) ?_
          refine lv_iload_n hx hb dX11_aged_42 rfl (lv_at hl 1 rfl) ?_
          refine lv_iload_n hx hb dX11_aged_43 rfl (lv_at hl 2 rfl) ?_
          refine qc_Vv2 (As := [.int a0, .int a1]) (rest := []) (k0 := 2) (m_laysAges l D ca o b z y J0 a0 a1 ⟨by omega, by omega⟩ (rm_le p5_1 (by omega))) kc_yX11_laysAges ⟨hx, hb, hml, hown, hts⟩ wq_1368 rfl rfl ⟨Nat.le_of_ble_eq_true rfl, Nat.le_of_ble_eq_true rfl⟩ wq_all hP hK hS qw_Ai (q0 := 0) (by decide) (hgM_0 ca o _ _) rfl rfl hl.1 rfl (Nat.le_of_ble_eq_true rfl) dX11_aged_44 ⟨Nat.zero_le _, Nat.zero_le _⟩ (fun z7 y7 H locs h7 hP hS _ _ => ?_)
          have J7 : qJM b z7 := h7.1
          have p7_1 : arI z7 := h7.2
          refine lv_aload_n hx hb dX11_aged_47 rfl (lv_at hl 0 rfl) ?_
          refine qf_get hx hb hts inX11 hown hK hP (q0 := 0) (by decide) (hgM_0 ca o) rfl 38 (by decide) wq_1030 (v := .ref (o + 25)) rfl dX11_aged_48 ?_
          refine lv_iload_n hx hb dX11_aged_51 rfl (lv_at hl 3 rfl) ?_
          refine qa_iald hx hb hK hP (q0 := 25) (by decide) 0 (N := 100) (hgM_25 ca o) rfl (gi_in (by omega) (by omega)) dX11_aged_52 ?_
          refine lv_topi (fun x8 e8 => ?_)
          exact W.iret (v := x8) hx hb hr (fun t ht hW => ⟨⟨x8, (z7, y7), rfl, ⟨trivial, J7⟩, by rw [ht]; exact hP, va_K.moved hW.alike hK⟩, hS.F ht⟩) hS.2.2 dX11_aged_53
        · have t6 : r5.toInt > (200000 : Int) := gl_nle c6
          refine lv_bipush (v := (-3)) hx hb dX11_aged_38 (by decide) ?_
          exact W.iret (v := (-3)) hx hb hr (fun t ht hW => ⟨⟨(-3), (z, y), rfl, ⟨trivial, J0⟩, by rw [ht]; exact hP, va_K.moved hW.alike hK⟩, hS.F ht⟩) hS.2.2 dX11_aged_40
      · subst hr4
        have hg4_0 : ¬ ((0 : Int) ≤ a2.toInt ∧ a2.toInt ≤ (99 : Int)) := hf4_0
        refine lv_if_ne (tgt := 28) hx hb dX11_aged_23 (by decide) (fun q => absurd q (by decide)) (fun _ => ?_)
        refine lv_iconst (v := (-1)) hx hb dX11_aged_26 (by decide) ?_
        exact W.iret (v := (-1)) hx hb hr (fun t ht hW => ⟨⟨(-1), (z, y), rfl, ⟨trivial, J0⟩, by rw [ht]; exact hP, va_K.moved hW.alike hK⟩, hS.F ht⟩) hS.2.2 dX11_aged_27
    · subst hr3
      have hg3_0 : ¬ pHas (z 0 4) a1 := hf3_0
      refine lv_if_eq (tgt := 26) hx hb dX11_aged_13 (by decide) (fun _ => ?_) (fun q => absurd (by decide) q)
      refine lv_iconst (v := (-1)) hx hb dX11_aged_26 (by decide) ?_
      exact W.iret (v := (-1)) hx hb hr (fun t ht hW => ⟨⟨(-1), (z, y), rfl, ⟨trivial, J0⟩, by rw [ht]; exact hP, va_K.moved hW.alike hK⟩, hS.F ht⟩) hS.2.2 dX11_aged_27
set_option maxRecDepth 100000 in
set_option maxHeartbeats 8000000 in
theorem m_follows (l : Launch) (D : va_G) (ca : Nat → ClassId) (o : Nat) (b z : Nat → Nat → Int32) (y : Nat → Nat → Int64) (J0 : qJM b z) (a0 : Int32) (a1 : Int32)  : qM l yX11_follows cX11_follows 7 (some .int) 5 147 (qPre D vwCl (qT6 ca) o 41 (qG (GM ca o) z y) [.ref (o + 0), .int a0, .int a1]) (va_Qi (fun r u => True ∧ qJM b u.1) (qB D vwCl (qT6 ca) o 41 (fun u : qZ => qG (GM ca o) u.1 u.2)) (qw_A o 41)) (qw_A o 41) := by
  refine Met.ofW (cc := cX11_follows) (maxL := 7) (ret := (some .int)) (by decide) rfl ?_
  intro p e s m args below meth c s₁ B hml hv
  obtain ⟨rfl, hP, hK⟩ := hv
  have hx := B.exec
  have hb := B.bytes
  have hr := B.returns
  have hts0 := atoms_spec (ws := Cond.code yX11_follows cX11_follows 7 (some .int) :: qtbl) B.pre
  have hts : ∀ w ∈ qtbl, w.before _ s = true := fun w h => hts0 w (List.mem_cons_of_mem _ h)
  have hown : s.vm.findClass RX11 = some m.cls := findClass_of_methodNamed B.named
  have hlocks := B.notSynchronized
  have hS : va_S (qw_A o 41) s.heap s.heap [] := va_S.rf
  have hl := lv_entry ([.ref (o + 0), .int a0, .int a1]) (n := 7) (Nat.le_of_ble_eq_true rfl)
  rw [lg_entry_eq]
  generalize (lg_sl ([.ref (o + 0), .int a0, .int a1]) ++ List.replicate (7 - (lg_sl ([.ref (o + 0), .int a0, .int a1])).length) Slot.unset).toArray = ls at hl ⊢
  have hl : lv_has ls 7 [(0, .ref (o + 0)), (1, .int a0), (2, .int a1)] := hl
  refine lv_aload_n hx hb dX11_follows_0 rfl (lv_at hl 0 rfl) ?_
  refine lv_iload_n hx hb dX11_follows_1 rfl (lv_at hl 1 rfl) ?_
  refine qc_Vip (As := [.int a0]) (rest := []) (k0 := 1) (m_areRemarks l D ca o b z y J0 a0) kc_yX11_areRemarks ⟨hx, hb, hml, hown, hts⟩ wq_1324 rfl rfl ⟨Nat.le_of_ble_eq_true rfl, Nat.le_of_ble_eq_true rfl⟩ wq_all hP hK hS qw_Ai (q0 := 0) (by decide) (hgM_0 ca o _ _) rfl rfl hl.1 rfl (Nat.le_of_ble_eq_true rfl) dX11_follows_2 ⟨Nat.zero_le _, Nat.zero_le _⟩ (fun r1 H locs h1 hP hS _ _ => ?_)
  have b1 : (0 : Int) ≤ r1.toInt ∧ r1.toInt ≤ 1 := h1
  refine lv_if_eq (tgt := 17) hx hb dX11_follows_5 (by decide) (fun c2 => ?_) (fun c2 => ?_)
  · have t2 : r1.toInt = (0 : Int) := gl_eq c2
    refine lv_iconst (v := (-1)) hx hb dX11_follows_17 (by decide) ?_
    exact W.iret (v := (-1)) hx hb hr (fun t ht hW => ⟨⟨(-1), (z, y), rfl, ⟨trivial, J0⟩, by rw [ht]; exact hP, va_K.moved hW.alike hK⟩, hS.F ht⟩) hS.2.2 dX11_follows_18
  · have t2 : r1.toInt ≠ (0 : Int) := gl_ne c2
    refine lv_iload_n hx hb dX11_follows_8 rfl (lv_at hl 2 rfl) ?_
    refine lv_iconst (v := 0) hx hb dX11_follows_9 (by decide) ?_
    refine lv_iconst (v := 1) hx hb dX11_follows_10 (by decide) ?_
    refine qc_Sip (As := [.int a1, .int 0, .int 1]) (rest := []) (k0 := 3) (m_in l D ca o b z y J0 a1 0 1) kc_yX11_in ⟨hx, hb, hml, hown, hts⟩ wq_1187 rfl rfl ⟨Nat.le_of_ble_eq_true rfl, Nat.le_of_ble_eq_true rfl⟩ wq_all hP hK hS qw_Ai rfl hl.1 rfl (Nat.le_of_ble_eq_true rfl) dX11_follows_11 ⟨Nat.zero_le _, Nat.zero_le _⟩ (fun r3 H locs h3 hP hS _ _ => ?_)
    rcases h3 with ⟨hr3, hf3_0⟩ | ⟨hr3, hf3_0⟩
    · subst hr3
      have hg3_0 : (0 : Int) ≤ a1.toInt ∧ a1.toInt ≤ (1 : Int) := hf3_0
      refine lv_if_ne (tgt := 19) hx hb dX11_follows_14 (by decide) (fun _ => ?_) (fun q => absurd q (by decide))
      refine lv_aload_n hx hb dX11_follows_19 rfl (lv_at hl 0 rfl) ?_
      refine qc_Vip (As := []) (rest := []) (k0 := 0) (m_rowMany l D ca o b z y J0) kc_yX11_rowMany ⟨hx, hb, hml, hown, hts⟩ wq_1315 rfl rfl ⟨Nat.le_of_ble_eq_true rfl, Nat.le_of_ble_eq_true rfl⟩ wq_all hP hK hS qw_Ai (q0 := 0) (by decide) (hgM_0 ca o _ _) rfl rfl hl.1 rfl (Nat.le_of_ble_eq_true rfl) dX11_follows_20 ⟨Nat.zero_le _, Nat.zero_le _⟩ (fun r4 H locs h4 hP hS _ _ => ?_)
      have p4_1 : rmI z 6 r4 := h4.2
      refine lv_ldcw (v := 200000) hx hb hown (hts _ wq_1319) dX11_follows_23 ?_
      refine lv_icmp_le (tgt := 32) hx hb dX11_follows_26 (by decide) (fun c5 => ?_) (fun c5 => ?_)
      · have t5 : r4.toInt ≤ (200000 : Int) := gl_le c5
        refine lv_aload_n hx hb dX11_follows_32 rfl (lv_at hl 0 rfl) ?_
        refine qc_Vv2 (As := []) (rest := []) (k0 := 0) (m_counts l D ca o b z y J0) kc_yX11_counts ⟨hx, hb, hml, hown, hts⟩ wq_1356 rfl rfl ⟨Nat.le_of_ble_eq_true rfl, Nat.le_of_ble_eq_true rfl⟩ wq_all hP hK hS qw_Ai (q0 := 0) (by decide) (hgM_0 ca o _ _) rfl rfl hl.1 rfl (Nat.le_of_ble_eq_true rfl) dX11_follows_33 ⟨Nat.zero_le _, Nat.zero_le _⟩ (fun z6 y6 H locs h6 hP hS _ _ => ?_)
        have J6 : qJM b z6 := h6
        refine lv_aload_n hx hb dX11_follows_36 rfl (lv_at hl 0 rfl) ?_
        refine lv_iload_n hx hb dX11_follows_37 rfl (lv_at hl 1 rfl) ?_
        refine qc_Vip (As := [.int a0]) (rest := []) (k0 := 1) (m_fitting l D ca o b z6 y6 J6 a0) kc_yX11_fitting ⟨hx, hb, hml, hown, hts⟩ wq_1360 rfl rfl ⟨Nat.le_of_ble_eq_true rfl, Nat.le_of_ble_eq_true rfl⟩ wq_all hP hK hS qw_Ai (q0 := 0) (by decide) (hgM_0 ca o _ _) rfl rfl hl.1 rfl (Nat.le_of_ble_eq_true rfl) dX11_follows_38 ⟨Nat.zero_le _, Nat.zero_le _⟩ (fun r7 H locs h7 hP hS _ _ => ?_)
        refine lv_istore_n (lv' := [(3, .int r7), (0, .ref (o + 0)), (1, .int a0), (2, .int a1)]) hx hb dX11_follows_41 rfl hl (by decide) rfl (fun ls hl => ?_)
        refine lv_iconst (v := 0) hx hb dX11_follows_42 (by decide) ?_
        refine lv_istore (lv' := [(4, .int 0), (3, .int r7), (0, .ref (o + 0)), (1, .int a0), (2, .int a1)]) hx hb dX11_follows_43 hl (by decide) rfl (fun ls hl => ?_)
        refine lv_iconst (v := 0) hx hb dX11_follows_45 (by decide) ?_
        refine lv_istore (lv' := [(5, .int 0), (4, .int 0), (3, .int r7), (0, .ref (o + 0)), (1, .int a0), (2, .int a1)]) hx hb dX11_follows_46 hl (by decide) rfl (fun ls hl => ?_)
        have loop8 : ∀ (n : Nat) (w8_5 : Int32) (w8_4 : Int32), ((10 - w8_5.toInt : Int) < (n : Int)) → ((0 : Int) ≤ w8_5.toInt ∧ w8_5.toInt ≤ 10) → ∀ (H : Heap) (locs : List Loc), qw_P D vwCl o 41 (qG (GM ca o) z6 y6) H → va_S (qw_A o 41) s.heap H locs → ∀ (ls : Array Slot), lv_has ls 7 [(5, .int w8_5), (4, .int w8_4), (3, .int r7), (0, .ref (o + 0)), (1, .int a0), (2, .int a1)] → W p l e (headSpec (Cond.code yX11_follows cX11_follows 7 (some .int) :: qtbl) ({ frames := 5, cells := 0, slots := 0, locals := 147 })).room s m (([.ref (o + 0), .int a0, .int a1] : List Value).toArray) below meth c H locs 0 0 (MQ below (va_Qi (fun r u => True ∧ qJM b u.1) (qB D vwCl (qT6 ca) o 41 (fun u : qZ => qG (GM ca o) u.1 u.2)) (qw_A o 41)) (([.ref (o + 0), .int a0, .int a1] : List Value).toArray) s 0 0 (qw_A o 41)) (F0 m 48 ls []) := by
          intro n
          induction n with
          | zero => intro w8_5 w8_4 hb8 hv8_5; exfalso; omega
          | succ n8 ih8 =>
            intro w8_5 w8_4 hb8 hv8_5 H locs hP hS ls hl
            refine lv_iload hx hb dX11_follows_48 (lv_at hl 0 rfl) ?_
            refine lv_bipush (v := 10) hx hb dX11_follows_50 (by decide) ?_
            refine lv_icmp_ge (tgt := 108) hx hb dX11_follows_52 (by decide) (fun c9 => ?_) (fun c9 => ?_)
            · have t9 : w8_5.toInt ≥ (10 : Int) := gl_le c9
              refine lv_iload hx hb dX11_follows_108 (lv_at hl 1 rfl) ?_
              exact W.iret (v := w8_4) hx hb hr (fun t ht hW => ⟨⟨w8_4, (z6, y6), rfl, ⟨trivial, J6⟩, by rw [ht]; exact hP, va_K.moved hW.alike hK⟩, hS.F ht⟩) hS.2.2 dX11_follows_110
            · have t9 : w8_5.toInt < (10 : Int) := gl_nle c9
              refine lv_aload_n hx hb dX11_follows_55 rfl (lv_at hl 3 rfl) ?_
              refine lv_iload hx hb dX11_follows_56 (lv_at hl 0 rfl) ?_
              refine qc_Vip (As := [.int w8_5]) (rest := []) (k0 := 1) (m_isRemark l D ca o b z6 y6 J6 w8_5) kc_yX11_isRemark ⟨hx, hb, hml, hown, hts⟩ wq_1307 rfl rfl ⟨Nat.le_of_ble_eq_true rfl, Nat.le_of_ble_eq_true rfl⟩ wq_all hP hK hS qw_Ai (q0 := 0) (by decide) (hgM_0 ca o _ _) rfl rfl hl.1 rfl (Nat.le_of_ble_eq_true rfl) dX11_follows_58 ⟨Nat.zero_le _, Nat.zero_le _⟩ (fun r10 H locs h10 hP hS _ _ => ?_)
              rcases h10 with ⟨hr10, hf10_0⟩ | hr10
              · subst hr10
                have hg10_0 : 0 ≤ w8_5.toInt ∧ w8_5.toInt ≤ 9 := hf10_0
                refine lv_if_ne (tgt := 67) hx hb dX11_follows_61 (by decide) (fun _ => ?_) (fun q => absurd q (by decide))
                refine lv_aload_n hx hb dX11_follows_67 rfl (lv_at hl 3 rfl) ?_
                refine lv_iload_n hx hb dX11_follows_68 rfl (lv_at hl 4 rfl) ?_
                refine lv_iconst (v := 1) hx hb dX11_follows_69 (by decide) ?_
                refine lv_iload hx hb dX11_follows_70 (lv_at hl 0 rfl) ?_
                refine lv_ishl hx hb dX11_follows_72 ?_
                refine lv_topi (fun x11 e11 => ?_)
                have t11 : 1 ≤ x11.toInt ∧ x11.toInt ≤ 512 := ga_shl 9 512 e11 (by decide) (by decide) (by omega) (by omega)
                refine lv_ior hx hb dX11_follows_73 ?_
                refine lv_topi (fun x12 e12 => ?_)
                refine qc_Vip (As := [.int x12]) (rest := []) (k0 := 1) (m_fitting l D ca o b z6 y6 J6 x12) kc_yX11_fitting ⟨hx, hb, hml, hown, hts⟩ wq_1360 rfl rfl ⟨Nat.le_of_ble_eq_true rfl, Nat.le_of_ble_eq_true rfl⟩ wq_all hP hK hS qw_Ai (q0 := 0) (by decide) (hgM_0 ca o _ _) rfl rfl hl.1 rfl (Nat.le_of_ble_eq_true rfl) dX11_follows_74 ⟨Nat.zero_le _, Nat.zero_le _⟩ (fun r13 H locs h13 hP hS _ _ => ?_)
                refine lv_istore (lv' := [(6, .int r13), (5, .int w8_5), (4, .int w8_4), (3, .int r7), (0, .ref (o + 0)), (1, .int a0), (2, .int a1)]) hx hb dX11_follows_77 hl (by decide) rfl (fun ls hl => ?_)
                refine lv_iload hx hb dX11_follows_79 (lv_at hl 0 rfl) ?_
                refine lv_iload_n hx hb dX11_follows_81 rfl (lv_at hl 6 rfl) ?_
                refine lv_if_ne (tgt := 89) hx hb dX11_follows_82 (by decide) (fun c14 => ?_) (fun c14 => ?_)
                · have t14 : a1.toInt ≠ (0 : Int) := gl_ne c14
                  refine lv_iconst (v := 0) hx hb dX11_follows_89 (by decide) ?_
                  refine lv_icmp_ne (tgt := 102) hx hb dX11_follows_90 (by decide) (fun c15 => ?_) (fun c15 => ?_)
                  · have t15 : r13.toInt ≠ (0 : Int) := gl_ne c15
                    obtain ⟨x16, e16⟩ : ∃ t : Int32, t = w8_5 + 1 := ⟨_, rfl⟩
                    refine lv_iinc (v := x16) (lv' := [(5, .int x16), (6, .int r13), (4, .int w8_4), (3, .int r7), (0, .ref (o + 0)), (1, .int a0), (2, .int a1)]) hx hb dX11_follows_102 hl (k := 1) rfl (by rw [e16]; rfl) (by decide) rfl (fun ls hl => ?_)
                    have t16 : x16.toInt = w8_5.toInt + (1 : Int) := ga_add e16 rfl rfl (by omega) (by omega)
                    refine lv_goto (tgt := 48) hx hb dX11_follows_105 (by decide) ?_
                    exact ih8 x16 w8_4 (show (10 - x16.toInt : Int) < (n8 : Int) from by omega) ⟨by omega, by omega⟩ _ _ hP hS _ (lv_sub hl [0, 2, 3, 4, 5, 6] rfl)
                  · have t15 : r13.toInt = (0 : Int) := gl_eq c15
                    refine lv_iload hx hb dX11_follows_93 (lv_at hl 2 rfl) ?_
                    refine lv_iconst (v := 1) hx hb dX11_follows_95 (by decide) ?_
                    refine lv_iload hx hb dX11_follows_96 (lv_at hl 1 rfl) ?_
                    refine lv_ishl hx hb dX11_follows_98 ?_
                    refine lv_topi (fun x17 e17 => ?_)
                    have t17 : x17.toInt = x11.toInt := congrArg Int32.toInt (e17.trans e11.symm)
                    refine lv_ior hx hb dX11_follows_99 ?_
                    refine lv_topi (fun x18 e18 => ?_)
                    refine lv_istore (lv' := [(4, .int x18), (6, .int r13), (5, .int w8_5), (3, .int r7), (0, .ref (o + 0)), (1, .int a0), (2, .int a1)]) hx hb dX11_follows_100 hl (by decide) rfl (fun ls hl => ?_)
                    obtain ⟨x19, e19⟩ : ∃ t : Int32, t = w8_5 + 1 := ⟨_, rfl⟩
                    refine lv_iinc (v := x19) (lv' := [(5, .int x19), (4, .int x18), (6, .int r13), (3, .int r7), (0, .ref (o + 0)), (1, .int a0), (2, .int a1)]) hx hb dX11_follows_102 hl (k := 2) rfl (by rw [e19]; rfl) (by decide) rfl (fun ls hl => ?_)
                    have t19 : x19.toInt = w8_5.toInt + (1 : Int) := ga_add e19 rfl rfl (by omega) (by omega)
                    refine lv_goto (tgt := 48) hx hb dX11_follows_105 (by decide) ?_
                    exact ih8 x19 x18 (show (10 - x19.toInt : Int) < (n8 : Int) from by omega) ⟨by omega, by omega⟩ _ _ hP hS _ (lv_sub hl [0, 1, 3, 4, 5, 6] rfl)
                · have t14 : a1.toInt = (0 : Int) := gl_eq c14
                  refine lv_iload_n hx hb dX11_follows_85 rfl (lv_at hl 3 rfl) ?_
                  refine lv_goto (tgt := 90) hx hb dX11_follows_86 (by decide) ?_
                  refine lv_icmp_ne (tgt := 102) hx hb dX11_follows_90 (by decide) (fun c20 => ?_) (fun c20 => ?_)
                  · have t20 : r13.toInt ≠ r7.toInt := gl_ne c20
                    obtain ⟨x21, e21⟩ : ∃ t : Int32, t = w8_5 + 1 := ⟨_, rfl⟩
                    refine lv_iinc (v := x21) (lv' := [(5, .int x21), (6, .int r13), (4, .int w8_4), (3, .int r7), (0, .ref (o + 0)), (1, .int a0), (2, .int a1)]) hx hb dX11_follows_102 hl (k := 1) rfl (by rw [e21]; rfl) (by decide) rfl (fun ls hl => ?_)
                    have t21 : x21.toInt = w8_5.toInt + (1 : Int) := ga_add e21 rfl rfl (by omega) (by omega)
                    refine lv_goto (tgt := 48) hx hb dX11_follows_105 (by decide) ?_
                    exact ih8 x21 w8_4 (show (10 - x21.toInt : Int) < (n8 : Int) from by omega) ⟨by omega, by omega⟩ _ _ hP hS _ (lv_sub hl [0, 2, 3, 4, 5, 6] rfl)
                  · have t20 : r13.toInt = r7.toInt := gl_eq c20
                    refine lv_iload hx hb dX11_follows_93 (lv_at hl 2 rfl) ?_
                    refine lv_iconst (v := 1) hx hb dX11_follows_95 (by decide) ?_
                    refine lv_iload hx hb dX11_follows_96 (lv_at hl 1 rfl) ?_
                    refine lv_ishl hx hb dX11_follows_98 ?_
                    refine lv_topi (fun x22 e22 => ?_)
                    have t22 : x22.toInt = x11.toInt := congrArg Int32.toInt (e22.trans e11.symm)
                    refine lv_ior hx hb dX11_follows_99 ?_
                    refine lv_topi (fun x23 e23 => ?_)
                    refine lv_istore (lv' := [(4, .int x23), (6, .int r13), (5, .int w8_5), (3, .int r7), (0, .ref (o + 0)), (1, .int a0), (2, .int a1)]) hx hb dX11_follows_100 hl (by decide) rfl (fun ls hl => ?_)
                    obtain ⟨x24, e24⟩ : ∃ t : Int32, t = w8_5 + 1 := ⟨_, rfl⟩
                    refine lv_iinc (v := x24) (lv' := [(5, .int x24), (4, .int x23), (6, .int r13), (3, .int r7), (0, .ref (o + 0)), (1, .int a0), (2, .int a1)]) hx hb dX11_follows_102 hl (k := 2) rfl (by rw [e24]; rfl) (by decide) rfl (fun ls hl => ?_)
                    have t24 : x24.toInt = w8_5.toInt + (1 : Int) := ga_add e24 rfl rfl (by omega) (by omega)
                    refine lv_goto (tgt := 48) hx hb dX11_follows_105 (by decide) ?_
                    exact ih8 x24 x23 (show (10 - x24.toInt : Int) < (n8 : Int) from by omega) ⟨by omega, by omega⟩ _ _ hP hS _ (lv_sub hl [0, 1, 3, 4, 5, 6] rfl)
              · subst hr10
                refine lv_if_ne (tgt := 67) hx hb dX11_follows_61 (by decide) (fun q => absurd q (by decide)) (fun _ => ?_)
                refine lv_goto (tgt := 102) hx hb dX11_follows_64 (by decide) ?_
                obtain ⟨x25, e25⟩ : ∃ t : Int32, t = w8_5 + 1 := ⟨_, rfl⟩
                refine lv_iinc (v := x25) (lv' := [(5, .int x25), (4, .int w8_4), (3, .int r7), (0, .ref (o + 0)), (1, .int a0), (2, .int a1)]) hx hb dX11_follows_102 hl (k := 0) rfl (by rw [e25]; rfl) (by decide) rfl (fun ls hl => ?_)
                have t25 : x25.toInt = w8_5.toInt + (1 : Int) := ga_add e25 rfl rfl (by omega) (by omega)
                refine lv_goto (tgt := 48) hx hb dX11_follows_105 (by decide) ?_
                exact ih8 x25 w8_4 (show (10 - x25.toInt : Int) < (n8 : Int) from by omega) ⟨by omega, by omega⟩ _ _ hP hS _ (lv_sub hl [0, 1, 2, 3, 4, 5] rfl)
        exact loop8 11 0 0 (show (10 - (0 : Int) : Int) < ((11 : Nat) : Int) from by omega) ⟨by decide, by decide⟩ _ _ hP hS _ (lv_sub hl [0, 1, 2, 3, 4, 5] rfl)
      · have t5 : r4.toInt > (200000 : Int) := gl_nle c5
        refine lv_bipush (v := (-3)) hx hb dX11_follows_29 (by decide) ?_
        exact W.iret (v := (-3)) hx hb hr (fun t ht hW => ⟨⟨(-3), (z, y), rfl, ⟨trivial, J0⟩, by rw [ht]; exact hP, va_K.moved hW.alike hK⟩, hS.F ht⟩) hS.2.2 dX11_follows_31
    · subst hr3
      have hg3_0 : ¬ ((0 : Int) ≤ a1.toInt ∧ a1.toInt ≤ (1 : Int)) := hf3_0
      refine lv_if_ne (tgt := 19) hx hb dX11_follows_14 (by decide) (fun q => absurd q (by decide)) (fun _ => ?_)
      refine lv_iconst (v := (-1)) hx hb dX11_follows_17 (by decide) ?_
      exact W.iret (v := (-1)) hx hb hr (fun t ht hW => ⟨⟨(-1), (z, y), rfl, ⟨trivial, J0⟩, by rw [ht]; exact hP, va_K.moved hW.alike hK⟩, hS.F ht⟩) hS.2.2 dX11_follows_18
set_option maxRecDepth 100000 in
set_option maxHeartbeats 8000000 in
theorem m_clash (l : Launch) (D : va_G) (ca : Nat → ClassId) (o : Nat) (b z : Nat → Nat → Int32) (y : Nat → Nat → Int64) (J0 : qJM b z) (a0 : Int32) (a1 : Int32)  : qM l yX11_clash cX11_clash 5 (some .int) 5 147 (qPre D vwCl (qT6 ca) o 41 (qG (GM ca o) z y) [.ref (o + 0), .int a0, .int a1]) (va_Qi (fun r u => True ∧ qJM b u.1) (qB D vwCl (qT6 ca) o 41 (fun u : qZ => qG (GM ca o) u.1 u.2)) (qw_A o 41)) (qw_A o 41) := by
  refine Met.ofW (cc := cX11_clash) (maxL := 5) (ret := (some .int)) (by decide) rfl ?_
  intro p e s m args below meth c s₁ B hml hv
  obtain ⟨rfl, hP, hK⟩ := hv
  have hx := B.exec
  have hb := B.bytes
  have hr := B.returns
  have hts0 := atoms_spec (ws := Cond.code yX11_clash cX11_clash 5 (some .int) :: qtbl) B.pre
  have hts : ∀ w ∈ qtbl, w.before _ s = true := fun w h => hts0 w (List.mem_cons_of_mem _ h)
  have hown : s.vm.findClass RX11 = some m.cls := findClass_of_methodNamed B.named
  have hlocks := B.notSynchronized
  have hS : va_S (qw_A o 41) s.heap s.heap [] := va_S.rf
  have hl := lv_entry ([.ref (o + 0), .int a0, .int a1]) (n := 5) (Nat.le_of_ble_eq_true rfl)
  rw [lg_entry_eq]
  generalize (lg_sl ([.ref (o + 0), .int a0, .int a1]) ++ List.replicate (5 - (lg_sl ([.ref (o + 0), .int a0, .int a1])).length) Slot.unset).toArray = ls at hl ⊢
  have hl : lv_has ls 5 [(0, .ref (o + 0)), (1, .int a0), (2, .int a1)] := hl
  refine lv_aload_n hx hb dX11_clash_0 rfl (lv_at hl 0 rfl) ?_
  refine lv_iload_n hx hb dX11_clash_1 rfl (lv_at hl 1 rfl) ?_
  refine qc_Vip (As := [.int a0]) (rest := []) (k0 := 1) (m_areRemarks l D ca o b z y J0 a0) kc_yX11_areRemarks ⟨hx, hb, hml, hown, hts⟩ wq_1324 rfl rfl ⟨Nat.le_of_ble_eq_true rfl, Nat.le_of_ble_eq_true rfl⟩ wq_all hP hK hS qw_Ai (q0 := 0) (by decide) (hgM_0 ca o _ _) rfl rfl hl.1 rfl (Nat.le_of_ble_eq_true rfl) dX11_clash_2 ⟨Nat.zero_le _, Nat.zero_le _⟩ (fun r1 H locs h1 hP hS _ _ => ?_)
  have b1 : (0 : Int) ≤ r1.toInt ∧ r1.toInt ≤ 1 := h1
  refine lv_if_eq (tgt := 17) hx hb dX11_clash_5 (by decide) (fun c2 => ?_) (fun c2 => ?_)
  · have t2 : r1.toInt = (0 : Int) := gl_eq c2
    refine lv_iconst (v := (-1)) hx hb dX11_clash_17 (by decide) ?_
    exact W.iret (v := (-1)) hx hb hr (fun t ht hW => ⟨⟨(-1), (z, y), rfl, ⟨trivial, J0⟩, by rw [ht]; exact hP, va_K.moved hW.alike hK⟩, hS.F ht⟩) hS.2.2 dX11_clash_18
  · have t2 : r1.toInt ≠ (0 : Int) := gl_ne c2
    refine lv_iload_n hx hb dX11_clash_8 rfl (lv_at hl 2 rfl) ?_
    refine lv_iconst (v := 0) hx hb dX11_clash_9 (by decide) ?_
    refine lv_iconst (v := 1) hx hb dX11_clash_10 (by decide) ?_
    refine qc_Sip (As := [.int a1, .int 0, .int 1]) (rest := []) (k0 := 3) (m_in l D ca o b z y J0 a1 0 1) kc_yX11_in ⟨hx, hb, hml, hown, hts⟩ wq_1187 rfl rfl ⟨Nat.le_of_ble_eq_true rfl, Nat.le_of_ble_eq_true rfl⟩ wq_all hP hK hS qw_Ai rfl hl.1 rfl (Nat.le_of_ble_eq_true rfl) dX11_clash_11 ⟨Nat.zero_le _, Nat.zero_le _⟩ (fun r3 H locs h3 hP hS _ _ => ?_)
    rcases h3 with ⟨hr3, hf3_0⟩ | ⟨hr3, hf3_0⟩
    · subst hr3
      have hg3_0 : (0 : Int) ≤ a1.toInt ∧ a1.toInt ≤ (1 : Int) := hf3_0
      refine lv_if_ne (tgt := 19) hx hb dX11_clash_14 (by decide) (fun _ => ?_) (fun q => absurd q (by decide))
      refine lv_aload_n hx hb dX11_clash_19 rfl (lv_at hl 0 rfl) ?_
      refine qc_Vip (As := []) (rest := []) (k0 := 0) (m_rowMany l D ca o b z y J0) kc_yX11_rowMany ⟨hx, hb, hml, hown, hts⟩ wq_1315 rfl rfl ⟨Nat.le_of_ble_eq_true rfl, Nat.le_of_ble_eq_true rfl⟩ wq_all hP hK hS qw_Ai (q0 := 0) (by decide) (hgM_0 ca o _ _) rfl rfl hl.1 rfl (Nat.le_of_ble_eq_true rfl) dX11_clash_20 ⟨Nat.zero_le _, Nat.zero_le _⟩ (fun r4 H locs h4 hP hS _ _ => ?_)
      have p4_1 : rmI z 6 r4 := h4.2
      refine lv_ldcw (v := 200000) hx hb hown (hts _ wq_1319) dX11_clash_23 ?_
      refine lv_icmp_le (tgt := 32) hx hb dX11_clash_26 (by decide) (fun c5 => ?_) (fun c5 => ?_)
      · have t5 : r4.toInt ≤ (200000 : Int) := gl_le c5
        refine lv_aload_n hx hb dX11_clash_32 rfl (lv_at hl 0 rfl) ?_
        refine qc_Vv2 (As := []) (rest := []) (k0 := 0) (m_counts l D ca o b z y J0) kc_yX11_counts ⟨hx, hb, hml, hown, hts⟩ wq_1356 rfl rfl ⟨Nat.le_of_ble_eq_true rfl, Nat.le_of_ble_eq_true rfl⟩ wq_all hP hK hS qw_Ai (q0 := 0) (by decide) (hgM_0 ca o _ _) rfl rfl hl.1 rfl (Nat.le_of_ble_eq_true rfl) dX11_clash_33 ⟨Nat.zero_le _, Nat.zero_le _⟩ (fun z6 y6 H locs h6 hP hS _ _ => ?_)
        have J6 : qJM b z6 := h6
        refine lv_bipush (v := (-2)) hx hb dX11_clash_36 (by decide) ?_
        refine lv_istore_n (lv' := [(3, .int ((-2))), (0, .ref (o + 0)), (1, .int a0), (2, .int a1)]) hx hb dX11_clash_38 rfl hl (by decide) rfl (fun ls hl => ?_)
        refine lv_iconst (v := 0) hx hb dX11_clash_39 (by decide) ?_
        refine lv_istore (lv' := [(4, .int 0), (3, .int ((-2))), (0, .ref (o + 0)), (1, .int a0), (2, .int a1)]) hx hb dX11_clash_40 hl (by decide) rfl (fun ls hl => ?_)
        have loop7 : ∀ (n : Nat) (w7_4 : Int32) (w7_3 : Int32), ((1024 - w7_4.toInt : Int) < (n : Int)) → ((0 : Int) ≤ w7_4.toInt ∧ w7_4.toInt ≤ 1024) → ((-2 : Int) ≤ w7_3.toInt ∧ w7_3.toInt ≤ 1023) → ∀ (H : Heap) (locs : List Loc), qw_P D vwCl o 41 (qG (GM ca o) z6 y6) H → va_S (qw_A o 41) s.heap H locs → ∀ (ls : Array Slot), lv_has ls 5 [(4, .int w7_4), (3, .int w7_3), (0, .ref (o + 0)), (1, .int a0), (2, .int a1)] → W p l e (headSpec (Cond.code yX11_clash cX11_clash 5 (some .int) :: qtbl) ({ frames := 5, cells := 0, slots := 0, locals := 147 })).room s m (([.ref (o + 0), .int a0, .int a1] : List Value).toArray) below meth c H locs 0 0 (MQ below (va_Qi (fun r u => True ∧ qJM b u.1) (qB D vwCl (qT6 ca) o 41 (fun u : qZ => qG (GM ca o) u.1 u.2)) (qw_A o 41)) (([.ref (o + 0), .int a0, .int a1] : List Value).toArray) s 0 0 (qw_A o 41)) (F0 m 42 ls []) := by
          intro n
          induction n with
          | zero => intro w7_4 w7_3 hb7 hv7_4 hv7_3; exfalso; omega
          | succ n7 ih7 =>
            intro w7_4 w7_3 hb7 hv7_4 hv7_3 H locs hP hS ls hl
            refine lv_iload hx hb dX11_clash_42 (lv_at hl 0 rfl) ?_
            refine lv_sipush (v := 1024) hx hb dX11_clash_44 (by decide) ?_
            refine lv_icmp_ge (tgt := 98) hx hb dX11_clash_47 (by decide) (fun c8 => ?_) (fun c8 => ?_)
            · have t8 : w7_4.toInt ≥ (1024 : Int) := gl_le c8
              refine lv_iload_n hx hb dX11_clash_98 rfl (lv_at hl 4 rfl) ?_
              refine lv_iconst (v := 1) hx hb dX11_clash_99 (by decide) ?_
              refine lv_icmp_eq (tgt := 109) hx hb dX11_clash_100 (by decide) (fun c9 => ?_) (fun c9 => ?_)
              · have t9 : a1.toInt = (1 : Int) := gl_eq c9
                refine lv_iload_n hx hb dX11_clash_109 rfl (lv_at hl 1 rfl) ?_
                refine lv_goto (tgt := 117) hx hb dX11_clash_110 (by decide) ?_
                exact W.iret (v := w7_3) hx hb hr (fun t ht hW => ⟨⟨w7_3, (z6, y6), rfl, ⟨trivial, J6⟩, by rw [ht]; exact hP, va_K.moved hW.alike hK⟩, hS.F ht⟩) hS.2.2 dX11_clash_117
              · have t9 : a1.toInt ≠ (1 : Int) := gl_ne c9
                refine lv_iload_n hx hb dX11_clash_103 rfl (lv_at hl 1 rfl) ?_
                refine lv_bipush (v := (-2)) hx hb dX11_clash_104 (by decide) ?_
                refine lv_icmp_ne (tgt := 113) hx hb dX11_clash_106 (by decide) (fun c10 => ?_) (fun c10 => ?_)
                · have t10 : w7_3.toInt ≠ (-2 : Int) := gl_ne c10
                  refine lv_iload_n hx hb dX11_clash_113 rfl (lv_at hl 1 rfl) ?_
                  refine qc_Sip (As := [.int w7_3]) (rest := []) (k0 := 1) (m_bits l D ca o b z6 y6 J6 w7_3) kc_yX11_bits ⟨hx, hb, hml, hown, hts⟩ wq_1296 rfl rfl ⟨Nat.le_of_ble_eq_true rfl, Nat.le_of_ble_eq_true rfl⟩ wq_all hP hK hS qw_Ai rfl hl.1 rfl (Nat.le_of_ble_eq_true rfl) dX11_clash_114 ⟨Nat.zero_le _, Nat.zero_le _⟩ (fun r11 H locs h11 hP hS _ _ => ?_)
                  have p11_1 : r11 = bsum w7_3 16 := h11.2
                  exact W.iret (v := r11) hx hb hr (fun t ht hW => ⟨⟨r11, (z6, y6), rfl, ⟨trivial, J6⟩, by rw [ht]; exact hP, va_K.moved hW.alike hK⟩, hS.F ht⟩) hS.2.2 dX11_clash_117
                · have t10 : w7_3.toInt = (-2 : Int) := gl_eq c10
                  refine lv_iload_n hx hb dX11_clash_109 rfl (lv_at hl 1 rfl) ?_
                  refine lv_goto (tgt := 117) hx hb dX11_clash_110 (by decide) ?_
                  exact W.iret (v := w7_3) hx hb hr (fun t ht hW => ⟨⟨w7_3, (z6, y6), rfl, ⟨trivial, J6⟩, by rw [ht]; exact hP, va_K.moved hW.alike hK⟩, hS.F ht⟩) hS.2.2 dX11_clash_117
            · have t8 : w7_4.toInt < (1024 : Int) := gl_nle c8
              refine lv_iload hx hb dX11_clash_50 (lv_at hl 0 rfl) ?_
              refine lv_iload_n hx hb dX11_clash_52 rfl (lv_at hl 3 rfl) ?_
              refine lv_iconst (v := (-1)) hx hb dX11_clash_53 (by decide) ?_
              refine lv_ixor hx hb dX11_clash_54 ?_
              refine lv_topi (fun x12 e12 => ?_)
              refine lv_iand hx hb dX11_clash_55 ?_
              refine lv_topi (fun x13 e13 => ?_)
              have t13 : 0 ≤ x13.toInt ∧ x13.toInt ≤ w7_4.toInt := ga_and' e13 rfl (by omega)
              refine lv_if_ne (tgt := 92) hx hb dX11_clash_56 (by decide) (fun c14 => ?_) (fun c14 => ?_)
              · have t14 : x13.toInt ≠ (0 : Int) := gl_ne c14
                obtain ⟨x15, e15⟩ : ∃ t : Int32, t = w7_4 + 1 := ⟨_, rfl⟩
                refine lv_iinc (v := x15) (lv' := [(4, .int x15), (3, .int w7_3), (0, .ref (o + 0)), (1, .int a0), (2, .int a1)]) hx hb dX11_clash_92 hl (k := 0) rfl (by rw [e15]; rfl) (by decide) rfl (fun ls hl => ?_)
                have t15 : x15.toInt = w7_4.toInt + (1 : Int) := ga_add e15 rfl rfl (by omega) (by omega)
                refine lv_goto (tgt := 42) hx hb dX11_clash_95 (by decide) ?_
                exact ih7 x15 w7_3 (show (1024 - x15.toInt : Int) < (n7 : Int) from by omega) ⟨by omega, by omega⟩ ⟨by omega, by omega⟩ _ _ hP hS _ (lv_sub hl [0, 1, 2, 3, 4] rfl)
              · have t14 : x13.toInt = (0 : Int) := gl_eq c14
                refine lv_iload_n hx hb dX11_clash_59 rfl (lv_at hl 1 rfl) ?_
                refine lv_bipush (v := (-2)) hx hb dX11_clash_60 (by decide) ?_
                refine lv_icmp_eq (tgt := 80) hx hb dX11_clash_62 (by decide) (fun c16 => ?_) (fun c16 => ?_)
                · have t16 : w7_3.toInt = (-2 : Int) := gl_eq c16
                  refine lv_aload_n hx hb dX11_clash_80 rfl (lv_at hl 2 rfl) ?_
                  refine lv_iload hx hb dX11_clash_81 (lv_at hl 0 rfl) ?_
                  refine qc_Vip (As := [.int w7_4]) (rest := []) (k0 := 1) (m_fitting l D ca o b z6 y6 J6 w7_4) kc_yX11_fitting ⟨hx, hb, hml, hown, hts⟩ wq_1360 rfl rfl ⟨Nat.le_of_ble_eq_true rfl, Nat.le_of_ble_eq_true rfl⟩ wq_all hP hK hS qw_Ai (q0 := 0) (by decide) (hgM_0 ca o _ _) rfl rfl hl.1 rfl (Nat.le_of_ble_eq_true rfl) dX11_clash_83 ⟨Nat.zero_le _, Nat.zero_le _⟩ (fun r17 H locs h17 hP hS _ _ => ?_)
                  refine lv_if_ne (tgt := 92) hx hb dX11_clash_86 (by decide) (fun c18 => ?_) (fun c18 => ?_)
                  · have t18 : r17.toInt ≠ (0 : Int) := gl_ne c18
                    obtain ⟨x19, e19⟩ : ∃ t : Int32, t = w7_4 + 1 := ⟨_, rfl⟩
                    refine lv_iinc (v := x19) (lv' := [(4, .int x19), (3, .int w7_3), (0, .ref (o + 0)), (1, .int a0), (2, .int a1)]) hx hb dX11_clash_92 hl (k := 0) rfl (by rw [e19]; rfl) (by decide) rfl (fun ls hl => ?_)
                    have t19 : x19.toInt = w7_4.toInt + (1 : Int) := ga_add e19 rfl rfl (by omega) (by omega)
                    refine lv_goto (tgt := 42) hx hb dX11_clash_95 (by decide) ?_
                    exact ih7 x19 w7_3 (show (1024 - x19.toInt : Int) < (n7 : Int) from by omega) ⟨by omega, by omega⟩ ⟨by omega, by omega⟩ _ _ hP hS _ (lv_sub hl [0, 1, 2, 3, 4] rfl)
                  · have t18 : r17.toInt = (0 : Int) := gl_eq c18
                    refine lv_iload hx hb dX11_clash_89 (lv_at hl 0 rfl) ?_
                    refine lv_istore_n (lv' := [(3, .int w7_4), (4, .int w7_4), (0, .ref (o + 0)), (1, .int a0), (2, .int a1)]) hx hb dX11_clash_91 rfl hl (by decide) rfl (fun ls hl => ?_)
                    obtain ⟨x20, e20⟩ : ∃ t : Int32, t = w7_4 + 1 := ⟨_, rfl⟩
                    refine lv_iinc (v := x20) (lv' := [(4, .int x20), (3, .int w7_4), (0, .ref (o + 0)), (1, .int a0), (2, .int a1)]) hx hb dX11_clash_92 hl (k := 1) rfl (by rw [e20]; rfl) (by decide) rfl (fun ls hl => ?_)
                    have t20 : x20.toInt = w7_4.toInt + (1 : Int) := ga_add e20 rfl rfl (by omega) (by omega)
                    refine lv_goto (tgt := 42) hx hb dX11_clash_95 (by decide) ?_
                    exact ih7 x20 w7_4 (show (1024 - x20.toInt : Int) < (n7 : Int) from by omega) ⟨by omega, by omega⟩ ⟨by omega, by omega⟩ _ _ hP hS _ (lv_sub hl [0, 1, 2, 3, 4] rfl)
                · have t16 : w7_3.toInt ≠ (-2 : Int) := gl_ne c16
                  refine lv_iload hx hb dX11_clash_65 (lv_at hl 0 rfl) ?_
                  refine qc_Sip (As := [.int w7_4]) (rest := []) (k0 := 1) (m_bits l D ca o b z6 y6 J6 w7_4) kc_yX11_bits ⟨hx, hb, hml, hown, hts⟩ wq_1296 rfl rfl ⟨Nat.le_of_ble_eq_true rfl, Nat.le_of_ble_eq_true rfl⟩ wq_all hP hK hS qw_Ai rfl hl.1 rfl (Nat.le_of_ble_eq_true rfl) dX11_clash_67 ⟨Nat.zero_le _, Nat.zero_le _⟩ (fun r21 H locs h21 hP hS _ _ => ?_)
                  have p21_1 : r21 = bsum w7_4 16 := h21.2
                  refine lv_iload_n hx hb dX11_clash_70 rfl (lv_at hl 1 rfl) ?_
                  refine qc_Sip (As := [.int w7_3]) (rest := [.int r21]) (k0 := 1) (m_bits l D ca o b z6 y6 J6 w7_3) kc_yX11_bits ⟨hx, hb, hml, hown, hts⟩ wq_1296 rfl rfl ⟨Nat.le_of_ble_eq_true rfl, Nat.le_of_ble_eq_true rfl⟩ wq_all hP hK hS qw_Ai rfl hl.1 rfl (Nat.le_of_ble_eq_true rfl) dX11_clash_71 ⟨Nat.zero_le _, Nat.zero_le _⟩ (fun r22 H locs h22 hP hS _ _ => ?_)
                  have p22_1 : r22 = bsum w7_3 16 := h22.2
                  refine lv_icmp_lt (tgt := 80) hx hb dX11_clash_74 (by decide) (fun c23 => ?_) (fun c23 => ?_)
                  · have t23 : r21.toInt < r22.toInt := gl_lt c23
                    refine lv_aload_n hx hb dX11_clash_80 rfl (lv_at hl 2 rfl) ?_
                    refine lv_iload hx hb dX11_clash_81 (lv_at hl 0 rfl) ?_
                    refine qc_Vip (As := [.int w7_4]) (rest := []) (k0 := 1) (m_fitting l D ca o b z6 y6 J6 w7_4) kc_yX11_fitting ⟨hx, hb, hml, hown, hts⟩ wq_1360 rfl rfl ⟨Nat.le_of_ble_eq_true rfl, Nat.le_of_ble_eq_true rfl⟩ wq_all hP hK hS qw_Ai (q0 := 0) (by decide) (hgM_0 ca o _ _) rfl rfl hl.1 rfl (Nat.le_of_ble_eq_true rfl) dX11_clash_83 ⟨Nat.zero_le _, Nat.zero_le _⟩ (fun r24 H locs h24 hP hS _ _ => ?_)
                    refine lv_if_ne (tgt := 92) hx hb dX11_clash_86 (by decide) (fun c25 => ?_) (fun c25 => ?_)
                    · have t25 : r24.toInt ≠ (0 : Int) := gl_ne c25
                      obtain ⟨x26, e26⟩ : ∃ t : Int32, t = w7_4 + 1 := ⟨_, rfl⟩
                      refine lv_iinc (v := x26) (lv' := [(4, .int x26), (3, .int w7_3), (0, .ref (o + 0)), (1, .int a0), (2, .int a1)]) hx hb dX11_clash_92 hl (k := 0) rfl (by rw [e26]; rfl) (by decide) rfl (fun ls hl => ?_)
                      have t26 : x26.toInt = w7_4.toInt + (1 : Int) := ga_add e26 rfl rfl (by omega) (by omega)
                      refine lv_goto (tgt := 42) hx hb dX11_clash_95 (by decide) ?_
                      exact ih7 x26 w7_3 (show (1024 - x26.toInt : Int) < (n7 : Int) from by omega) ⟨by omega, by omega⟩ ⟨by omega, by omega⟩ _ _ hP hS _ (lv_sub hl [0, 1, 2, 3, 4] rfl)
                    · have t25 : r24.toInt = (0 : Int) := gl_eq c25
                      refine lv_iload hx hb dX11_clash_89 (lv_at hl 0 rfl) ?_
                      refine lv_istore_n (lv' := [(3, .int w7_4), (4, .int w7_4), (0, .ref (o + 0)), (1, .int a0), (2, .int a1)]) hx hb dX11_clash_91 rfl hl (by decide) rfl (fun ls hl => ?_)
                      obtain ⟨x27, e27⟩ : ∃ t : Int32, t = w7_4 + 1 := ⟨_, rfl⟩
                      refine lv_iinc (v := x27) (lv' := [(4, .int x27), (3, .int w7_4), (0, .ref (o + 0)), (1, .int a0), (2, .int a1)]) hx hb dX11_clash_92 hl (k := 1) rfl (by rw [e27]; rfl) (by decide) rfl (fun ls hl => ?_)
                      have t27 : x27.toInt = w7_4.toInt + (1 : Int) := ga_add e27 rfl rfl (by omega) (by omega)
                      refine lv_goto (tgt := 42) hx hb dX11_clash_95 (by decide) ?_
                      exact ih7 x27 w7_4 (show (1024 - x27.toInt : Int) < (n7 : Int) from by omega) ⟨by omega, by omega⟩ ⟨by omega, by omega⟩ _ _ hP hS _ (lv_sub hl [0, 1, 2, 3, 4] rfl)
                  · have t23 : r21.toInt ≥ r22.toInt := gl_nlt c23
                    refine lv_goto (tgt := 92) hx hb dX11_clash_77 (by decide) ?_
                    obtain ⟨x28, e28⟩ : ∃ t : Int32, t = w7_4 + 1 := ⟨_, rfl⟩
                    refine lv_iinc (v := x28) (lv' := [(4, .int x28), (3, .int w7_3), (0, .ref (o + 0)), (1, .int a0), (2, .int a1)]) hx hb dX11_clash_92 hl (k := 0) rfl (by rw [e28]; rfl) (by decide) rfl (fun ls hl => ?_)
                    have t28 : x28.toInt = w7_4.toInt + (1 : Int) := ga_add e28 rfl rfl (by omega) (by omega)
                    refine lv_goto (tgt := 42) hx hb dX11_clash_95 (by decide) ?_
                    exact ih7 x28 w7_3 (show (1024 - x28.toInt : Int) < (n7 : Int) from by omega) ⟨by omega, by omega⟩ ⟨by omega, by omega⟩ _ _ hP hS _ (lv_sub hl [0, 1, 2, 3, 4] rfl)
        exact loop7 1025 0 (-2) (show (1024 - (0 : Int) : Int) < ((1025 : Nat) : Int) from by omega) ⟨by decide, by decide⟩ ⟨by decide, by decide⟩ _ _ hP hS _ (lv_sub hl [0, 1, 2, 3, 4] rfl)
      · have t5 : r4.toInt > (200000 : Int) := gl_nle c5
        refine lv_bipush (v := (-3)) hx hb dX11_clash_29 (by decide) ?_
        exact W.iret (v := (-3)) hx hb hr (fun t ht hW => ⟨⟨(-3), (z, y), rfl, ⟨trivial, J0⟩, by rw [ht]; exact hP, va_K.moved hW.alike hK⟩, hS.F ht⟩) hS.2.2 dX11_clash_31
    · subst hr3
      have hg3_0 : ¬ ((0 : Int) ≤ a1.toInt ∧ a1.toInt ≤ (1 : Int)) := hf3_0
      refine lv_if_ne (tgt := 19) hx hb dX11_clash_14 (by decide) (fun q => absurd q (by decide)) (fun _ => ?_)
      refine lv_iconst (v := (-1)) hx hb dX11_clash_17 (by decide) ?_
      exact W.iret (v := (-1)) hx hb hr (fun t ht hW => ⟨⟨(-1), (z, y), rfl, ⟨trivial, J0⟩, by rw [ht]; exact hP, va_K.moved hW.alike hK⟩, hS.F ht⟩) hS.2.2 dX11_clash_18
set_option maxRecDepth 100000 in
set_option maxHeartbeats 8000000 in
theorem m_needless (l : Launch) (D : va_G) (ca : Nat → ClassId) (o : Nat) (b z : Nat → Nat → Int32) (y : Nat → Nat → Int64) (J0 : qJM b z) (a0 : Int32)  : qM l yX11_needless cX11_needless 5 (some .int) 5 147 (qPre D vwCl (qT6 ca) o 41 (qG (GM ca o) z y) [.ref (o + 0), .int a0]) (va_Qi (fun r u => True ∧ qJM b u.1) (qB D vwCl (qT6 ca) o 41 (fun u : qZ => qG (GM ca o) u.1 u.2)) (qw_A o 41)) (qw_A o 41) := by
  refine Met.ofW (cc := cX11_needless) (maxL := 5) (ret := (some .int)) (by decide) rfl ?_
  intro p e s m args below meth c s₁ B hml hv
  obtain ⟨rfl, hP, hK⟩ := hv
  have hx := B.exec
  have hb := B.bytes
  have hr := B.returns
  have hts0 := atoms_spec (ws := Cond.code yX11_needless cX11_needless 5 (some .int) :: qtbl) B.pre
  have hts : ∀ w ∈ qtbl, w.before _ s = true := fun w h => hts0 w (List.mem_cons_of_mem _ h)
  have hown : s.vm.findClass RX11 = some m.cls := findClass_of_methodNamed B.named
  have hlocks := B.notSynchronized
  have hS : va_S (qw_A o 41) s.heap s.heap [] := va_S.rf
  have hl := lv_entry ([.ref (o + 0), .int a0]) (n := 5) (Nat.le_of_ble_eq_true rfl)
  rw [lg_entry_eq]
  generalize (lg_sl ([.ref (o + 0), .int a0]) ++ List.replicate (5 - (lg_sl ([.ref (o + 0), .int a0])).length) Slot.unset).toArray = ls at hl ⊢
  have hl : lv_has ls 5 [(0, .ref (o + 0)), (1, .int a0)] := hl
  refine lv_aload_n hx hb dX11_needless_0 rfl (lv_at hl 0 rfl) ?_
  refine lv_iload_n hx hb dX11_needless_1 rfl (lv_at hl 1 rfl) ?_
  refine qc_Vip (As := [.int a0]) (rest := []) (k0 := 1) (m_areRemarks l D ca o b z y J0 a0) kc_yX11_areRemarks ⟨hx, hb, hml, hown, hts⟩ wq_1324 rfl rfl ⟨Nat.le_of_ble_eq_true rfl, Nat.le_of_ble_eq_true rfl⟩ wq_all hP hK hS qw_Ai (q0 := 0) (by decide) (hgM_0 ca o _ _) rfl rfl hl.1 rfl (Nat.le_of_ble_eq_true rfl) dX11_needless_2 ⟨Nat.zero_le _, Nat.zero_le _⟩ (fun r1 H locs h1 hP hS _ _ => ?_)
  have b1 : (0 : Int) ≤ r1.toInt ∧ r1.toInt ≤ 1 := h1
  refine lv_if_ne (tgt := 10) hx hb dX11_needless_5 (by decide) (fun c2 => ?_) (fun c2 => ?_)
  · have t2 : r1.toInt ≠ (0 : Int) := gl_ne c2
    refine lv_aload_n hx hb dX11_needless_10 rfl (lv_at hl 0 rfl) ?_
    refine qc_Vip (As := []) (rest := []) (k0 := 0) (m_rowMany l D ca o b z y J0) kc_yX11_rowMany ⟨hx, hb, hml, hown, hts⟩ wq_1315 rfl rfl ⟨Nat.le_of_ble_eq_true rfl, Nat.le_of_ble_eq_true rfl⟩ wq_all hP hK hS qw_Ai (q0 := 0) (by decide) (hgM_0 ca o _ _) rfl rfl hl.1 rfl (Nat.le_of_ble_eq_true rfl) dX11_needless_11 ⟨Nat.zero_le _, Nat.zero_le _⟩ (fun r3 H locs h3 hP hS _ _ => ?_)
    have p3_1 : rmI z 6 r3 := h3.2
    refine lv_ldcw (v := 200000) hx hb hown (hts _ wq_1319) dX11_needless_14 ?_
    refine lv_icmp_le (tgt := 23) hx hb dX11_needless_17 (by decide) (fun c4 => ?_) (fun c4 => ?_)
    · have t4 : r3.toInt ≤ (200000 : Int) := gl_le c4
      refine lv_aload_n hx hb dX11_needless_23 rfl (lv_at hl 0 rfl) ?_
      refine qc_Vv2 (As := []) (rest := []) (k0 := 0) (m_counts l D ca o b z y J0) kc_yX11_counts ⟨hx, hb, hml, hown, hts⟩ wq_1356 rfl rfl ⟨Nat.le_of_ble_eq_true rfl, Nat.le_of_ble_eq_true rfl⟩ wq_all hP hK hS qw_Ai (q0 := 0) (by decide) (hgM_0 ca o _ _) rfl rfl hl.1 rfl (Nat.le_of_ble_eq_true rfl) dX11_needless_24 ⟨Nat.zero_le _, Nat.zero_le _⟩ (fun z5 y5 H locs h5 hP hS _ _ => ?_)
      have J5 : qJM b z5 := h5
      refine lv_aload_n hx hb dX11_needless_27 rfl (lv_at hl 0 rfl) ?_
      refine lv_iload_n hx hb dX11_needless_28 rfl (lv_at hl 1 rfl) ?_
      refine qc_Vip (As := [.int a0]) (rest := []) (k0 := 1) (m_fitting l D ca o b z5 y5 J5 a0) kc_yX11_fitting ⟨hx, hb, hml, hown, hts⟩ wq_1360 rfl rfl ⟨Nat.le_of_ble_eq_true rfl, Nat.le_of_ble_eq_true rfl⟩ wq_all hP hK hS qw_Ai (q0 := 0) (by decide) (hgM_0 ca o _ _) rfl rfl hl.1 rfl (Nat.le_of_ble_eq_true rfl) dX11_needless_29 ⟨Nat.zero_le _, Nat.zero_le _⟩ (fun r6 H locs h6 hP hS _ _ => ?_)
      refine lv_istore_n (lv' := [(2, .int r6), (0, .ref (o + 0)), (1, .int a0)]) hx hb dX11_needless_32 rfl hl (by decide) rfl (fun ls hl => ?_)
      refine lv_iconst (v := 0) hx hb dX11_needless_33 (by decide) ?_
      refine lv_istore_n (lv' := [(3, .int 0), (2, .int r6), (0, .ref (o + 0)), (1, .int a0)]) hx hb dX11_needless_34 rfl hl (by decide) rfl (fun ls hl => ?_)
      refine lv_iconst (v := 0) hx hb dX11_needless_35 (by decide) ?_
      refine lv_istore (lv' := [(4, .int 0), (3, .int 0), (2, .int r6), (0, .ref (o + 0)), (1, .int a0)]) hx hb dX11_needless_36 hl (by decide) rfl (fun ls hl => ?_)
      have loop7 : ∀ (n : Nat) (w7_4 : Int32) (w7_3 : Int32), ((10 - w7_4.toInt : Int) < (n : Int)) → ((0 : Int) ≤ w7_4.toInt ∧ w7_4.toInt ≤ 10) → ∀ (H : Heap) (locs : List Loc), qw_P D vwCl o 41 (qG (GM ca o) z5 y5) H → va_S (qw_A o 41) s.heap H locs → ∀ (ls : Array Slot), lv_has ls 5 [(4, .int w7_4), (3, .int w7_3), (2, .int r6), (0, .ref (o + 0)), (1, .int a0)] → W p l e (headSpec (Cond.code yX11_needless cX11_needless 5 (some .int) :: qtbl) ({ frames := 5, cells := 0, slots := 0, locals := 147 })).room s m (([.ref (o + 0), .int a0] : List Value).toArray) below meth c H locs 0 0 (MQ below (va_Qi (fun r u => True ∧ qJM b u.1) (qB D vwCl (qT6 ca) o 41 (fun u : qZ => qG (GM ca o) u.1 u.2)) (qw_A o 41)) (([.ref (o + 0), .int a0] : List Value).toArray) s 0 0 (qw_A o 41)) (F0 m 38 ls []) := by
        intro n
        induction n with
        | zero => intro w7_4 w7_3 hb7 hv7_4; exfalso; omega
        | succ n7 ih7 =>
          intro w7_4 w7_3 hb7 hv7_4 H locs hP hS ls hl
          refine lv_iload hx hb dX11_needless_38 (lv_at hl 0 rfl) ?_
          refine lv_bipush (v := 10) hx hb dX11_needless_40 (by decide) ?_
          refine lv_icmp_ge (tgt := 83) hx hb dX11_needless_42 (by decide) (fun c8 => ?_) (fun c8 => ?_)
          · have t8 : w7_4.toInt ≥ (10 : Int) := gl_le c8
            refine lv_iload_n hx hb dX11_needless_83 rfl (lv_at hl 1 rfl) ?_
            exact W.iret (v := w7_3) hx hb hr (fun t ht hW => ⟨⟨w7_3, (z5, y5), rfl, ⟨trivial, J5⟩, by rw [ht]; exact hP, va_K.moved hW.alike hK⟩, hS.F ht⟩) hS.2.2 dX11_needless_84
          · have t8 : w7_4.toInt < (10 : Int) := gl_nle c8
            refine lv_iload_n hx hb dX11_needless_45 rfl (lv_at hl 4 rfl) ?_
            refine lv_iload hx hb dX11_needless_46 (lv_at hl 0 rfl) ?_
            refine qc_Sip (As := [.int a0, .int w7_4]) (rest := []) (k0 := 2) (m_has l D ca o b z5 y5 J5 a0 w7_4) kc_yX11_has ⟨hx, hb, hml, hown, hts⟩ wq_1198 rfl rfl ⟨Nat.le_of_ble_eq_true rfl, Nat.le_of_ble_eq_true rfl⟩ wq_all hP hK hS qw_Ai rfl hl.1 rfl (Nat.le_of_ble_eq_true rfl) dX11_needless_48 ⟨Nat.zero_le _, Nat.zero_le _⟩ (fun r9 H locs h9 hP hS _ _ => ?_)
            rcases h9 with ⟨hr9, hf9_0⟩ | ⟨hr9, hf9_0⟩
            · subst hr9
              have hg9_0 : bitAt a0 w7_4 ≠ 0 := hf9_0
              refine lv_if_eq (tgt := 77) hx hb dX11_needless_51 (by decide) (fun q => absurd q (by decide)) (fun _ => ?_)
              refine lv_aload_n hx hb dX11_needless_54 rfl (lv_at hl 3 rfl) ?_
              refine lv_iload_n hx hb dX11_needless_55 rfl (lv_at hl 4 rfl) ?_
              refine lv_iconst (v := 1) hx hb dX11_needless_56 (by decide) ?_
              refine lv_iload hx hb dX11_needless_57 (lv_at hl 0 rfl) ?_
              refine lv_ishl hx hb dX11_needless_59 ?_
              refine lv_topi (fun x10 e10 => ?_)
              have t10 : 1 ≤ x10.toInt ∧ x10.toInt ≤ 512 := ga_shl 9 512 e10 (by decide) (by decide) (by omega) (by omega)
              refine lv_iconst (v := (-1)) hx hb dX11_needless_60 (by decide) ?_
              refine lv_ixor hx hb dX11_needless_61 ?_
              refine lv_topi (fun x11 e11 => ?_)
              refine lv_iand hx hb dX11_needless_62 ?_
              refine lv_topi (fun x12 e12 => ?_)
              refine qc_Vip (As := [.int x12]) (rest := []) (k0 := 1) (m_fitting l D ca o b z5 y5 J5 x12) kc_yX11_fitting ⟨hx, hb, hml, hown, hts⟩ wq_1360 rfl rfl ⟨Nat.le_of_ble_eq_true rfl, Nat.le_of_ble_eq_true rfl⟩ wq_all hP hK hS qw_Ai (q0 := 0) (by decide) (hgM_0 ca o _ _) rfl rfl hl.1 rfl (Nat.le_of_ble_eq_true rfl) dX11_needless_63 ⟨Nat.zero_le _, Nat.zero_le _⟩ (fun r13 H locs h13 hP hS _ _ => ?_)
              refine lv_iload_n hx hb dX11_needless_66 rfl (lv_at hl 2 rfl) ?_
              refine lv_icmp_ne (tgt := 77) hx hb dX11_needless_67 (by decide) (fun c14 => ?_) (fun c14 => ?_)
              · have t14 : r13.toInt ≠ r6.toInt := gl_ne c14
                obtain ⟨x15, e15⟩ : ∃ t : Int32, t = w7_4 + 1 := ⟨_, rfl⟩
                refine lv_iinc (v := x15) (lv' := [(4, .int x15), (3, .int w7_3), (2, .int r6), (0, .ref (o + 0)), (1, .int a0)]) hx hb dX11_needless_77 hl (k := 0) rfl (by rw [e15]; rfl) (by decide) rfl (fun ls hl => ?_)
                have t15 : x15.toInt = w7_4.toInt + (1 : Int) := ga_add e15 rfl rfl (by omega) (by omega)
                refine lv_goto (tgt := 38) hx hb dX11_needless_80 (by decide) ?_
                exact ih7 x15 w7_3 (show (10 - x15.toInt : Int) < (n7 : Int) from by omega) ⟨by omega, by omega⟩ _ _ hP hS _ (lv_sub hl [0, 1, 2, 3, 4] rfl)
              · have t14 : r13.toInt = r6.toInt := gl_eq c14
                refine lv_iload_n hx hb dX11_needless_70 rfl (lv_at hl 1 rfl) ?_
                refine lv_iconst (v := 1) hx hb dX11_needless_71 (by decide) ?_
                refine lv_iload hx hb dX11_needless_72 (lv_at hl 0 rfl) ?_
                refine lv_ishl hx hb dX11_needless_74 ?_
                refine lv_topi (fun x16 e16 => ?_)
                have t16 : x16.toInt = x10.toInt := congrArg Int32.toInt (e16.trans e10.symm)
                refine lv_ior hx hb dX11_needless_75 ?_
                refine lv_topi (fun x17 e17 => ?_)
                refine lv_istore_n (lv' := [(3, .int x17), (4, .int w7_4), (2, .int r6), (0, .ref (o + 0)), (1, .int a0)]) hx hb dX11_needless_76 rfl hl (by decide) rfl (fun ls hl => ?_)
                obtain ⟨x18, e18⟩ : ∃ t : Int32, t = w7_4 + 1 := ⟨_, rfl⟩
                refine lv_iinc (v := x18) (lv' := [(4, .int x18), (3, .int x17), (2, .int r6), (0, .ref (o + 0)), (1, .int a0)]) hx hb dX11_needless_77 hl (k := 1) rfl (by rw [e18]; rfl) (by decide) rfl (fun ls hl => ?_)
                have t18 : x18.toInt = w7_4.toInt + (1 : Int) := ga_add e18 rfl rfl (by omega) (by omega)
                refine lv_goto (tgt := 38) hx hb dX11_needless_80 (by decide) ?_
                exact ih7 x18 x17 (show (10 - x18.toInt : Int) < (n7 : Int) from by omega) ⟨by omega, by omega⟩ _ _ hP hS _ (lv_sub hl [0, 1, 2, 3, 4] rfl)
            · subst hr9
              have hg9_0 : bitAt a0 w7_4 = 0 := hf9_0
              refine lv_if_eq (tgt := 77) hx hb dX11_needless_51 (by decide) (fun _ => ?_) (fun q => absurd (by decide) q)
              obtain ⟨x19, e19⟩ : ∃ t : Int32, t = w7_4 + 1 := ⟨_, rfl⟩
              refine lv_iinc (v := x19) (lv' := [(4, .int x19), (3, .int w7_3), (2, .int r6), (0, .ref (o + 0)), (1, .int a0)]) hx hb dX11_needless_77 hl (k := 0) rfl (by rw [e19]; rfl) (by decide) rfl (fun ls hl => ?_)
              have t19 : x19.toInt = w7_4.toInt + (1 : Int) := ga_add e19 rfl rfl (by omega) (by omega)
              refine lv_goto (tgt := 38) hx hb dX11_needless_80 (by decide) ?_
              exact ih7 x19 w7_3 (show (10 - x19.toInt : Int) < (n7 : Int) from by omega) ⟨by omega, by omega⟩ _ _ hP hS _ (lv_sub hl [0, 1, 2, 3, 4] rfl)
      exact loop7 11 0 0 (show (10 - (0 : Int) : Int) < ((11 : Nat) : Int) from by omega) ⟨by decide, by decide⟩ _ _ hP hS _ (lv_sub hl [0, 1, 2, 3, 4] rfl)
    · have t4 : r3.toInt > (200000 : Int) := gl_nle c4
      refine lv_bipush (v := (-3)) hx hb dX11_needless_20 (by decide) ?_
      exact W.iret (v := (-3)) hx hb hr (fun t ht hW => ⟨⟨(-3), (z, y), rfl, ⟨trivial, J0⟩, by rw [ht]; exact hP, va_K.moved hW.alike hK⟩, hS.F ht⟩) hS.2.2 dX11_needless_22
  · have t2 : r1.toInt = (0 : Int) := gl_eq c2
    refine lv_iconst (v := (-1)) hx hb dX11_needless_8 (by decide) ?_
    exact W.iret (v := (-1)) hx hb hr (fun t ht hW => ⟨⟨(-1), (z, y), rfl, ⟨trivial, J0⟩, by rw [ht]; exact hP, va_K.moved hW.alike hK⟩, hS.F ht⟩) hS.2.2 dX11_needless_9
set_option maxRecDepth 100000 in
set_option maxHeartbeats 8000000 in
theorem m_settles (l : Launch) (D : va_G) (ca : Nat → ClassId) (o : Nat) (b z : Nat → Nat → Int32) (y : Nat → Nat → Int64) (J0 : qJM b z) (a0 : Int32)  : qM l yX11_settles cX11_settles 3 (some .int) 5 147 (qPre D vwCl (qT6 ca) o 41 (qG (GM ca o) z y) [.ref (o + 0), .int a0]) (va_Qi (fun r u => ((-3 : Int) ≤ r.toInt ∧ r.toInt ≤ 9) ∧ qJM b u.1) (qB D vwCl (qT6 ca) o 41 (fun u : qZ => qG (GM ca o) u.1 u.2)) (qw_A o 41)) (qw_A o 41) := by
  refine Met.ofW (cc := cX11_settles) (maxL := 3) (ret := (some .int)) (by decide) rfl ?_
  intro p e s m args below meth c s₁ B hml hv
  obtain ⟨rfl, hP, hK⟩ := hv
  have hx := B.exec
  have hb := B.bytes
  have hr := B.returns
  have hts0 := atoms_spec (ws := Cond.code yX11_settles cX11_settles 3 (some .int) :: qtbl) B.pre
  have hts : ∀ w ∈ qtbl, w.before _ s = true := fun w h => hts0 w (List.mem_cons_of_mem _ h)
  have hown : s.vm.findClass RX11 = some m.cls := findClass_of_methodNamed B.named
  have hlocks := B.notSynchronized
  have hS : va_S (qw_A o 41) s.heap s.heap [] := va_S.rf
  have hl := lv_entry ([.ref (o + 0), .int a0]) (n := 3) (Nat.le_of_ble_eq_true rfl)
  rw [lg_entry_eq]
  generalize (lg_sl ([.ref (o + 0), .int a0]) ++ List.replicate (3 - (lg_sl ([.ref (o + 0), .int a0])).length) Slot.unset).toArray = ls at hl ⊢
  have hl : lv_has ls 3 [(0, .ref (o + 0)), (1, .int a0)] := hl
  refine lv_aload_n hx hb dX11_settles_0 rfl (lv_at hl 0 rfl) ?_
  refine lv_iload_n hx hb dX11_settles_1 rfl (lv_at hl 1 rfl) ?_
  refine qc_Vip (As := [.int a0]) (rest := []) (k0 := 1) (m_areRemarks l D ca o b z y J0 a0) kc_yX11_areRemarks ⟨hx, hb, hml, hown, hts⟩ wq_1324 rfl rfl ⟨Nat.le_of_ble_eq_true rfl, Nat.le_of_ble_eq_true rfl⟩ wq_all hP hK hS qw_Ai (q0 := 0) (by decide) (hgM_0 ca o _ _) rfl rfl hl.1 rfl (Nat.le_of_ble_eq_true rfl) dX11_settles_2 ⟨Nat.zero_le _, Nat.zero_le _⟩ (fun r1 H locs h1 hP hS _ _ => ?_)
  have b1 : (0 : Int) ≤ r1.toInt ∧ r1.toInt ≤ 1 := h1
  refine lv_if_ne (tgt := 10) hx hb dX11_settles_5 (by decide) (fun c2 => ?_) (fun c2 => ?_)
  · have t2 : r1.toInt ≠ (0 : Int) := gl_ne c2
    refine lv_aload_n hx hb dX11_settles_10 rfl (lv_at hl 0 rfl) ?_
    refine qc_Vip (As := []) (rest := []) (k0 := 0) (m_rowMany l D ca o b z y J0) kc_yX11_rowMany ⟨hx, hb, hml, hown, hts⟩ wq_1315 rfl rfl ⟨Nat.le_of_ble_eq_true rfl, Nat.le_of_ble_eq_true rfl⟩ wq_all hP hK hS qw_Ai (q0 := 0) (by decide) (hgM_0 ca o _ _) rfl rfl hl.1 rfl (Nat.le_of_ble_eq_true rfl) dX11_settles_11 ⟨Nat.zero_le _, Nat.zero_le _⟩ (fun r3 H locs h3 hP hS _ _ => ?_)
    have p3_1 : rmI z 6 r3 := h3.2
    refine lv_ldcw (v := 200000) hx hb hown (hts _ wq_1319) dX11_settles_14 ?_
    refine lv_icmp_le (tgt := 23) hx hb dX11_settles_17 (by decide) (fun c4 => ?_) (fun c4 => ?_)
    · have t4 : r3.toInt ≤ (200000 : Int) := gl_le c4
      refine lv_aload_n hx hb dX11_settles_23 rfl (lv_at hl 0 rfl) ?_
      refine qc_Vv2 (As := []) (rest := []) (k0 := 0) (m_counts l D ca o b z y J0) kc_yX11_counts ⟨hx, hb, hml, hown, hts⟩ wq_1356 rfl rfl ⟨Nat.le_of_ble_eq_true rfl, Nat.le_of_ble_eq_true rfl⟩ wq_all hP hK hS qw_Ai (q0 := 0) (by decide) (hgM_0 ca o _ _) rfl rfl hl.1 rfl (Nat.le_of_ble_eq_true rfl) dX11_settles_24 ⟨Nat.zero_le _, Nat.zero_le _⟩ (fun z5 y5 H locs h5 hP hS _ _ => ?_)
      have J5 : qJM b z5 := h5
      refine lv_iconst (v := 0) hx hb dX11_settles_27 (by decide) ?_
      refine lv_istore_n (lv' := [(2, .int 0), (0, .ref (o + 0)), (1, .int a0)]) hx hb dX11_settles_28 rfl hl (by decide) rfl (fun ls hl => ?_)
      have loop6 : ∀ (n : Nat) (w6_2 : Int32), ((10 - w6_2.toInt : Int) < (n : Int)) → ((0 : Int) ≤ w6_2.toInt ∧ w6_2.toInt ≤ 10) → ∀ (H : Heap) (locs : List Loc), qw_P D vwCl o 41 (qG (GM ca o) z5 y5) H → va_S (qw_A o 41) s.heap H locs → ∀ (ls : Array Slot), lv_has ls 3 [(2, .int w6_2), (0, .ref (o + 0)), (1, .int a0)] → W p l e (headSpec (Cond.code yX11_settles cX11_settles 3 (some .int) :: qtbl) ({ frames := 5, cells := 0, slots := 0, locals := 147 })).room s m (([.ref (o + 0), .int a0] : List Value).toArray) below meth c H locs 0 0 (MQ below (va_Qi (fun r u => ((-3 : Int) ≤ r.toInt ∧ r.toInt ≤ 9) ∧ qJM b u.1) (qB D vwCl (qT6 ca) o 41 (fun u : qZ => qG (GM ca o) u.1 u.2)) (qw_A o 41)) (([.ref (o + 0), .int a0] : List Value).toArray) s 0 0 (qw_A o 41)) (F0 m 29 ls []) := by
        intro n
        induction n with
        | zero => intro w6_2 hb6 hv6_2; exfalso; omega
        | succ n6 ih6 =>
          intro w6_2 hb6 hv6_2 H locs hP hS ls hl
          refine lv_iload_n hx hb dX11_settles_29 rfl (lv_at hl 0 rfl) ?_
          refine lv_bipush (v := 10) hx hb dX11_settles_30 (by decide) ?_
          refine lv_icmp_ge (tgt := 72) hx hb dX11_settles_32 (by decide) (fun c7 => ?_) (fun c7 => ?_)
          · have t7 : w6_2.toInt ≥ (10 : Int) := gl_le c7
            refine lv_bipush (v := (-2)) hx hb dX11_settles_72 (by decide) ?_
            exact W.iret (v := (-2)) hx hb hr (fun t ht hW => ⟨⟨(-2), (z5, y5), rfl, ⟨⟨by decide, by decide⟩, J5⟩, by rw [ht]; exact hP, va_K.moved hW.alike hK⟩, hS.F ht⟩) hS.2.2 dX11_settles_74
          · have t7 : w6_2.toInt < (10 : Int) := gl_nle c7
            refine lv_aload_n hx hb dX11_settles_35 rfl (lv_at hl 1 rfl) ?_
            refine lv_iload_n hx hb dX11_settles_36 rfl (lv_at hl 0 rfl) ?_
            refine qc_Vip (As := [.int w6_2]) (rest := []) (k0 := 1) (m_isRemark l D ca o b z5 y5 J5 w6_2) kc_yX11_isRemark ⟨hx, hb, hml, hown, hts⟩ wq_1307 rfl rfl ⟨Nat.le_of_ble_eq_true rfl, Nat.le_of_ble_eq_true rfl⟩ wq_all hP hK hS qw_Ai (q0 := 0) (by decide) (hgM_0 ca o _ _) rfl rfl hl.1 rfl (Nat.le_of_ble_eq_true rfl) dX11_settles_37 ⟨Nat.zero_le _, Nat.zero_le _⟩ (fun r8 H locs h8 hP hS _ _ => ?_)
            rcases h8 with ⟨hr8, hf8_0⟩ | hr8
            · subst hr8
              have hg8_0 : 0 ≤ w6_2.toInt ∧ w6_2.toInt ≤ 9 := hf8_0
              refine lv_if_eq (tgt := 66) hx hb dX11_settles_40 (by decide) (fun q => absurd q (by decide)) (fun _ => ?_)
              refine lv_iload_n hx hb dX11_settles_43 rfl (lv_at hl 2 rfl) ?_
              refine lv_iload_n hx hb dX11_settles_44 rfl (lv_at hl 0 rfl) ?_
              refine qc_Sip (As := [.int a0, .int w6_2]) (rest := []) (k0 := 2) (m_has l D ca o b z5 y5 J5 a0 w6_2) kc_yX11_has ⟨hx, hb, hml, hown, hts⟩ wq_1198 rfl rfl ⟨Nat.le_of_ble_eq_true rfl, Nat.le_of_ble_eq_true rfl⟩ wq_all hP hK hS qw_Ai rfl hl.1 rfl (Nat.le_of_ble_eq_true rfl) dX11_settles_45 ⟨Nat.zero_le _, Nat.zero_le _⟩ (fun r9 H locs h9 hP hS _ _ => ?_)
              rcases h9 with ⟨hr9, hf9_0⟩ | ⟨hr9, hf9_0⟩
              · subst hr9
                have hg9_0 : bitAt a0 w6_2 ≠ 0 := hf9_0
                refine lv_if_ne (tgt := 66) hx hb dX11_settles_48 (by decide) (fun _ => ?_) (fun q => absurd q (by decide))
                obtain ⟨x10, e10⟩ : ∃ t : Int32, t = w6_2 + 1 := ⟨_, rfl⟩
                refine lv_iinc (v := x10) (lv' := [(2, .int x10), (0, .ref (o + 0)), (1, .int a0)]) hx hb dX11_settles_66 hl (k := 0) rfl (by rw [e10]; rfl) (by decide) rfl (fun ls hl => ?_)
                have t10 : x10.toInt = w6_2.toInt + (1 : Int) := ga_add e10 rfl rfl (by omega) (by omega)
                refine lv_goto (tgt := 29) hx hb dX11_settles_69 (by decide) ?_
                exact ih6 x10 (show (10 - x10.toInt : Int) < (n6 : Int) from by omega) ⟨by omega, by omega⟩ _ _ hP hS _ (lv_sub hl [0, 1, 2] rfl)
              · subst hr9
                have hg9_0 : bitAt a0 w6_2 = 0 := hf9_0
                refine lv_if_ne (tgt := 66) hx hb dX11_settles_48 (by decide) (fun q => absurd q (by decide)) (fun _ => ?_)
                refine lv_aload_n hx hb dX11_settles_51 rfl (lv_at hl 1 rfl) ?_
                refine lv_iload_n hx hb dX11_settles_52 rfl (lv_at hl 2 rfl) ?_
                refine lv_iconst (v := 1) hx hb dX11_settles_53 (by decide) ?_
                refine lv_iload_n hx hb dX11_settles_54 rfl (lv_at hl 0 rfl) ?_
                refine lv_ishl hx hb dX11_settles_55 ?_
                refine lv_topi (fun x11 e11 => ?_)
                have t11 : 1 ≤ x11.toInt ∧ x11.toInt ≤ 512 := ga_shl 9 512 e11 (by decide) (by decide) (by omega) (by omega)
                refine lv_ior hx hb dX11_settles_56 ?_
                refine lv_topi (fun x12 e12 => ?_)
                refine qc_Vip (As := [.int x12]) (rest := []) (k0 := 1) (m_fitting l D ca o b z5 y5 J5 x12) kc_yX11_fitting ⟨hx, hb, hml, hown, hts⟩ wq_1360 rfl rfl ⟨Nat.le_of_ble_eq_true rfl, Nat.le_of_ble_eq_true rfl⟩ wq_all hP hK hS qw_Ai (q0 := 0) (by decide) (hgM_0 ca o _ _) rfl rfl hl.1 rfl (Nat.le_of_ble_eq_true rfl) dX11_settles_57 ⟨Nat.zero_le _, Nat.zero_le _⟩ (fun r13 H locs h13 hP hS _ _ => ?_)
                refine lv_iconst (v := 1) hx hb dX11_settles_60 (by decide) ?_
                refine lv_icmp_ne (tgt := 66) hx hb dX11_settles_61 (by decide) (fun c14 => ?_) (fun c14 => ?_)
                · have t14 : r13.toInt ≠ (1 : Int) := gl_ne c14
                  obtain ⟨x15, e15⟩ : ∃ t : Int32, t = w6_2 + 1 := ⟨_, rfl⟩
                  refine lv_iinc (v := x15) (lv' := [(2, .int x15), (0, .ref (o + 0)), (1, .int a0)]) hx hb dX11_settles_66 hl (k := 0) rfl (by rw [e15]; rfl) (by decide) rfl (fun ls hl => ?_)
                  have t15 : x15.toInt = w6_2.toInt + (1 : Int) := ga_add e15 rfl rfl (by omega) (by omega)
                  refine lv_goto (tgt := 29) hx hb dX11_settles_69 (by decide) ?_
                  exact ih6 x15 (show (10 - x15.toInt : Int) < (n6 : Int) from by omega) ⟨by omega, by omega⟩ _ _ hP hS _ (lv_sub hl [0, 1, 2] rfl)
                · have t14 : r13.toInt = (1 : Int) := gl_eq c14
                  refine lv_iload_n hx hb dX11_settles_64 rfl (lv_at hl 0 rfl) ?_
                  exact W.iret (v := w6_2) hx hb hr (fun t ht hW => ⟨⟨w6_2, (z5, y5), rfl, ⟨⟨by omega, by omega⟩, J5⟩, by rw [ht]; exact hP, va_K.moved hW.alike hK⟩, hS.F ht⟩) hS.2.2 dX11_settles_65
            · subst hr8
              refine lv_if_eq (tgt := 66) hx hb dX11_settles_40 (by decide) (fun _ => ?_) (fun q => absurd (by decide) q)
              obtain ⟨x16, e16⟩ : ∃ t : Int32, t = w6_2 + 1 := ⟨_, rfl⟩
              refine lv_iinc (v := x16) (lv' := [(2, .int x16), (0, .ref (o + 0)), (1, .int a0)]) hx hb dX11_settles_66 hl (k := 0) rfl (by rw [e16]; rfl) (by decide) rfl (fun ls hl => ?_)
              have t16 : x16.toInt = w6_2.toInt + (1 : Int) := ga_add e16 rfl rfl (by omega) (by omega)
              refine lv_goto (tgt := 29) hx hb dX11_settles_69 (by decide) ?_
              exact ih6 x16 (show (10 - x16.toInt : Int) < (n6 : Int) from by omega) ⟨by omega, by omega⟩ _ _ hP hS _ (lv_sub hl [0, 1, 2] rfl)
      exact loop6 11 0 (show (10 - (0 : Int) : Int) < ((11 : Nat) : Int) from by omega) ⟨by decide, by decide⟩ _ _ hP hS _ (lv_sub hl [0, 1, 2] rfl)
    · have t4 : r3.toInt > (200000 : Int) := gl_nle c4
      refine lv_bipush (v := (-3)) hx hb dX11_settles_20 (by decide) ?_
      exact W.iret (v := (-3)) hx hb hr (fun t ht hW => ⟨⟨(-3), (z, y), rfl, ⟨⟨by decide, by decide⟩, J0⟩, by rw [ht]; exact hP, va_K.moved hW.alike hK⟩, hS.F ht⟩) hS.2.2 dX11_settles_22
  · have t2 : r1.toInt = (0 : Int) := gl_eq c2
    refine lv_iconst (v := (-1)) hx hb dX11_settles_8 (by decide) ?_
    exact W.iret (v := (-1)) hx hb hr (fun t ht hW => ⟨⟨(-1), (z, y), rfl, ⟨⟨by decide, by decide⟩, J0⟩, by rw [ht]; exact hP, va_K.moved hW.alike hK⟩, hS.F ht⟩) hS.2.2 dX11_settles_9
set_option maxRecDepth 100000 in
set_option maxHeartbeats 8000000 in
theorem m_fewest (l : Launch) (D : va_G) (ca : Nat → ClassId) (o : Nat) (b z : Nat → Nat → Int32) (y : Nat → Nat → Int64) (J0 : qJM b z) (a0 : Int32) (a1 : Int32)  : qM l yX11_fewest cX11_fewest 6 (some .int) 5 147 (qPre D vwCl (qT6 ca) o 41 (qG (GM ca o) z y) [.ref (o + 0), .int a0, .int a1]) (va_Qi (fun r u => True ∧ qJM b u.1) (qB D vwCl (qT6 ca) o 41 (fun u : qZ => qG (GM ca o) u.1 u.2)) (qw_A o 41)) (qw_A o 41) := by
  refine Met.ofW (cc := cX11_fewest) (maxL := 6) (ret := (some .int)) (by decide) rfl ?_
  intro p e s m args below meth c s₁ B hml hv
  obtain ⟨rfl, hP, hK⟩ := hv
  have hx := B.exec
  have hb := B.bytes
  have hr := B.returns
  have hts0 := atoms_spec (ws := Cond.code yX11_fewest cX11_fewest 6 (some .int) :: qtbl) B.pre
  have hts : ∀ w ∈ qtbl, w.before _ s = true := fun w h => hts0 w (List.mem_cons_of_mem _ h)
  have hown : s.vm.findClass RX11 = some m.cls := findClass_of_methodNamed B.named
  have hlocks := B.notSynchronized
  have hS : va_S (qw_A o 41) s.heap s.heap [] := va_S.rf
  have hl := lv_entry ([.ref (o + 0), .int a0, .int a1]) (n := 6) (Nat.le_of_ble_eq_true rfl)
  rw [lg_entry_eq]
  generalize (lg_sl ([.ref (o + 0), .int a0, .int a1]) ++ List.replicate (6 - (lg_sl ([.ref (o + 0), .int a0, .int a1])).length) Slot.unset).toArray = ls at hl ⊢
  have hl : lv_has ls 6 [(0, .ref (o + 0)), (1, .int a0), (2, .int a1)] := hl
  refine lv_aload_n hx hb dX11_fewest_0 rfl (lv_at hl 0 rfl) ?_
  refine lv_iload_n hx hb dX11_fewest_1 rfl (lv_at hl 1 rfl) ?_
  refine qc_Vip (As := [.int a0]) (rest := []) (k0 := 1) (m_areRemarks l D ca o b z y J0 a0) kc_yX11_areRemarks ⟨hx, hb, hml, hown, hts⟩ wq_1324 rfl rfl ⟨Nat.le_of_ble_eq_true rfl, Nat.le_of_ble_eq_true rfl⟩ wq_all hP hK hS qw_Ai (q0 := 0) (by decide) (hgM_0 ca o _ _) rfl rfl hl.1 rfl (Nat.le_of_ble_eq_true rfl) dX11_fewest_2 ⟨Nat.zero_le _, Nat.zero_le _⟩ (fun r1 H locs h1 hP hS _ _ => ?_)
  have b1 : (0 : Int) ≤ r1.toInt ∧ r1.toInt ≤ 1 := h1
  refine lv_if_eq (tgt := 17) hx hb dX11_fewest_5 (by decide) (fun c2 => ?_) (fun c2 => ?_)
  · have t2 : r1.toInt = (0 : Int) := gl_eq c2
    refine lv_iconst (v := (-1)) hx hb dX11_fewest_17 (by decide) ?_
    exact W.iret (v := (-1)) hx hb hr (fun t ht hW => ⟨⟨(-1), (z, y), rfl, ⟨trivial, J0⟩, by rw [ht]; exact hP, va_K.moved hW.alike hK⟩, hS.F ht⟩) hS.2.2 dX11_fewest_18
  · have t2 : r1.toInt ≠ (0 : Int) := gl_ne c2
    refine lv_iload_n hx hb dX11_fewest_8 rfl (lv_at hl 2 rfl) ?_
    refine lv_iconst (v := 0) hx hb dX11_fewest_9 (by decide) ?_
    refine lv_iconst (v := 1) hx hb dX11_fewest_10 (by decide) ?_
    refine qc_Sip (As := [.int a1, .int 0, .int 1]) (rest := []) (k0 := 3) (m_in l D ca o b z y J0 a1 0 1) kc_yX11_in ⟨hx, hb, hml, hown, hts⟩ wq_1187 rfl rfl ⟨Nat.le_of_ble_eq_true rfl, Nat.le_of_ble_eq_true rfl⟩ wq_all hP hK hS qw_Ai rfl hl.1 rfl (Nat.le_of_ble_eq_true rfl) dX11_fewest_11 ⟨Nat.zero_le _, Nat.zero_le _⟩ (fun r3 H locs h3 hP hS _ _ => ?_)
    rcases h3 with ⟨hr3, hf3_0⟩ | ⟨hr3, hf3_0⟩
    · subst hr3
      have hg3_0 : (0 : Int) ≤ a1.toInt ∧ a1.toInt ≤ (1 : Int) := hf3_0
      refine lv_if_ne (tgt := 19) hx hb dX11_fewest_14 (by decide) (fun _ => ?_) (fun q => absurd q (by decide))
      refine lv_aload_n hx hb dX11_fewest_19 rfl (lv_at hl 0 rfl) ?_
      refine qc_Vip (As := []) (rest := []) (k0 := 0) (m_rowMany l D ca o b z y J0) kc_yX11_rowMany ⟨hx, hb, hml, hown, hts⟩ wq_1315 rfl rfl ⟨Nat.le_of_ble_eq_true rfl, Nat.le_of_ble_eq_true rfl⟩ wq_all hP hK hS qw_Ai (q0 := 0) (by decide) (hgM_0 ca o _ _) rfl rfl hl.1 rfl (Nat.le_of_ble_eq_true rfl) dX11_fewest_20 ⟨Nat.zero_le _, Nat.zero_le _⟩ (fun r4 H locs h4 hP hS _ _ => ?_)
      have p4_1 : rmI z 6 r4 := h4.2
      refine lv_ldcw (v := 200000) hx hb hown (hts _ wq_1319) dX11_fewest_23 ?_
      refine lv_icmp_le (tgt := 32) hx hb dX11_fewest_26 (by decide) (fun c5 => ?_) (fun c5 => ?_)
      · have t5 : r4.toInt ≤ (200000 : Int) := gl_le c5
        refine lv_aload_n hx hb dX11_fewest_32 rfl (lv_at hl 0 rfl) ?_
        refine qc_Vv2 (As := []) (rest := []) (k0 := 0) (m_counts l D ca o b z y J0) kc_yX11_counts ⟨hx, hb, hml, hown, hts⟩ wq_1356 rfl rfl ⟨Nat.le_of_ble_eq_true rfl, Nat.le_of_ble_eq_true rfl⟩ wq_all hP hK hS qw_Ai (q0 := 0) (by decide) (hgM_0 ca o _ _) rfl rfl hl.1 rfl (Nat.le_of_ble_eq_true rfl) dX11_fewest_33 ⟨Nat.zero_le _, Nat.zero_le _⟩ (fun z6 y6 H locs h6 hP hS _ _ => ?_)
        have J6 : qJM b z6 := h6
        refine lv_aload_n hx hb dX11_fewest_36 rfl (lv_at hl 0 rfl) ?_
        refine qc_Vip (As := []) (rest := []) (k0 := 0) (m_toldRemarks l D ca o b z6 y6 J6) kc_yX11_toldRemarks ⟨hx, hb, hml, hown, hts⟩ wq_1328 rfl rfl ⟨Nat.le_of_ble_eq_true rfl, Nat.le_of_ble_eq_true rfl⟩ wq_all hP hK hS qw_Ai (q0 := 0) (by decide) (hgM_0 ca o _ _) rfl rfl hl.1 rfl (Nat.le_of_ble_eq_true rfl) dX11_fewest_37 ⟨Nat.zero_le _, Nat.zero_le _⟩ (fun r7 H locs h7 hP hS _ _ => ?_)
        have b7 : (0 : Int) ≤ r7.toInt ∧ r7.toInt ≤ 1023 := h7
        refine lv_iload_n hx hb dX11_fewest_40 rfl (lv_at hl 1 rfl) ?_
        refine lv_iconst (v := (-1)) hx hb dX11_fewest_41 (by decide) ?_
        refine lv_ixor hx hb dX11_fewest_42 ?_
        refine lv_topi (fun x8 e8 => ?_)
        refine lv_iand hx hb dX11_fewest_43 ?_
        refine lv_topi (fun x9 e9 => ?_)
        have t9 : 0 ≤ x9.toInt ∧ x9.toInt ≤ r7.toInt := ga_and' e9 rfl (by omega)
        refine lv_istore_n (lv' := [(3, .int x9), (0, .ref (o + 0)), (1, .int a0), (2, .int a1)]) hx hb dX11_fewest_44 rfl hl (by decide) rfl (fun ls hl => ?_)
        refine lv_bipush (v := (-2)) hx hb dX11_fewest_45 (by decide) ?_
        refine lv_istore (lv' := [(4, .int ((-2))), (3, .int x9), (0, .ref (o + 0)), (1, .int a0), (2, .int a1)]) hx hb dX11_fewest_47 hl (by decide) rfl (fun ls hl => ?_)
        refine lv_iconst (v := 0) hx hb dX11_fewest_49 (by decide) ?_
        refine lv_istore (lv' := [(5, .int 0), (4, .int ((-2))), (3, .int x9), (0, .ref (o + 0)), (1, .int a0), (2, .int a1)]) hx hb dX11_fewest_50 hl (by decide) rfl (fun ls hl => ?_)
        have loop10 : ∀ (n : Nat) (w10_5 : Int32) (w10_4 : Int32), ((1024 - w10_5.toInt : Int) < (n : Int)) → ((0 : Int) ≤ w10_5.toInt ∧ w10_5.toInt ≤ 1024) → ((-2 : Int) ≤ w10_4.toInt ∧ w10_4.toInt ≤ 1023) → ∀ (H : Heap) (locs : List Loc), qw_P D vwCl o 41 (qG (GM ca o) z6 y6) H → va_S (qw_A o 41) s.heap H locs → ∀ (ls : Array Slot), lv_has ls 6 [(5, .int w10_5), (4, .int w10_4), (3, .int x9), (0, .ref (o + 0)), (1, .int a0), (2, .int a1)] → W p l e (headSpec (Cond.code yX11_fewest cX11_fewest 6 (some .int) :: qtbl) ({ frames := 5, cells := 0, slots := 0, locals := 147 })).room s m (([.ref (o + 0), .int a0, .int a1] : List Value).toArray) below meth c H locs 0 0 (MQ below (va_Qi (fun r u => True ∧ qJM b u.1) (qB D vwCl (qT6 ca) o 41 (fun u : qZ => qG (GM ca o) u.1 u.2)) (qw_A o 41)) (([.ref (o + 0), .int a0, .int a1] : List Value).toArray) s 0 0 (qw_A o 41)) (F0 m 52 ls []) := by
          intro n
          induction n with
          | zero => intro w10_5 w10_4 hb10 hv10_5 hv10_4; exfalso; omega
          | succ n10 ih10 =>
            intro w10_5 w10_4 hb10 hv10_5 hv10_4 H locs hP hS ls hl
            refine lv_iload hx hb dX11_fewest_52 (lv_at hl 0 rfl) ?_
            refine lv_sipush (v := 1024) hx hb dX11_fewest_54 (by decide) ?_
            refine lv_icmp_ge (tgt := 123) hx hb dX11_fewest_57 (by decide) (fun c11 => ?_) (fun c11 => ?_)
            · have t11 : w10_5.toInt ≥ (1024 : Int) := gl_le c11
              refine lv_iload_n hx hb dX11_fewest_123 rfl (lv_at hl 5 rfl) ?_
              refine lv_iconst (v := 1) hx hb dX11_fewest_124 (by decide) ?_
              refine lv_icmp_eq (tgt := 135) hx hb dX11_fewest_125 (by decide) (fun c12 => ?_) (fun c12 => ?_)
              · have t12 : a1.toInt = (1 : Int) := gl_eq c12
                refine lv_iload hx hb dX11_fewest_135 (lv_at hl 1 rfl) ?_
                refine lv_goto (tgt := 145) hx hb dX11_fewest_137 (by decide) ?_
                exact W.iret (v := w10_4) hx hb hr (fun t ht hW => ⟨⟨w10_4, (z6, y6), rfl, ⟨trivial, J6⟩, by rw [ht]; exact hP, va_K.moved hW.alike hK⟩, hS.F ht⟩) hS.2.2 dX11_fewest_145
              · have t12 : a1.toInt ≠ (1 : Int) := gl_ne c12
                refine lv_iload hx hb dX11_fewest_128 (lv_at hl 1 rfl) ?_
                refine lv_bipush (v := (-2)) hx hb dX11_fewest_130 (by decide) ?_
                refine lv_icmp_ne (tgt := 140) hx hb dX11_fewest_132 (by decide) (fun c13 => ?_) (fun c13 => ?_)
                · have t13 : w10_4.toInt ≠ (-2 : Int) := gl_ne c13
                  refine lv_iload hx hb dX11_fewest_140 (lv_at hl 1 rfl) ?_
                  refine qc_Sip (As := [.int w10_4]) (rest := []) (k0 := 1) (m_bits l D ca o b z6 y6 J6 w10_4) kc_yX11_bits ⟨hx, hb, hml, hown, hts⟩ wq_1296 rfl rfl ⟨Nat.le_of_ble_eq_true rfl, Nat.le_of_ble_eq_true rfl⟩ wq_all hP hK hS qw_Ai rfl hl.1 rfl (Nat.le_of_ble_eq_true rfl) dX11_fewest_142 ⟨Nat.zero_le _, Nat.zero_le _⟩ (fun r14 H locs h14 hP hS _ _ => ?_)
                  have p14_1 : r14 = bsum w10_4 16 := h14.2
                  exact W.iret (v := r14) hx hb hr (fun t ht hW => ⟨⟨r14, (z6, y6), rfl, ⟨trivial, J6⟩, by rw [ht]; exact hP, va_K.moved hW.alike hK⟩, hS.F ht⟩) hS.2.2 dX11_fewest_145
                · have t13 : w10_4.toInt = (-2 : Int) := gl_eq c13
                  refine lv_iload hx hb dX11_fewest_135 (lv_at hl 1 rfl) ?_
                  refine lv_goto (tgt := 145) hx hb dX11_fewest_137 (by decide) ?_
                  exact W.iret (v := w10_4) hx hb hr (fun t ht hW => ⟨⟨w10_4, (z6, y6), rfl, ⟨trivial, J6⟩, by rw [ht]; exact hP, va_K.moved hW.alike hK⟩, hS.F ht⟩) hS.2.2 dX11_fewest_145
            · have t11 : w10_5.toInt < (1024 : Int) := gl_nle c11
              refine lv_iload hx hb dX11_fewest_60 (lv_at hl 0 rfl) ?_
              refine lv_iload_n hx hb dX11_fewest_62 rfl (lv_at hl 2 rfl) ?_
              refine lv_iconst (v := (-1)) hx hb dX11_fewest_63 (by decide) ?_
              refine lv_ixor hx hb dX11_fewest_64 ?_
              refine lv_topi (fun x15 e15 => ?_)
              refine lv_iand hx hb dX11_fewest_65 ?_
              refine lv_topi (fun x16 e16 => ?_)
              have t16 : 0 ≤ x16.toInt ∧ x16.toInt ≤ w10_5.toInt := ga_and' e16 rfl (by omega)
              refine lv_if_ne (tgt := 117) hx hb dX11_fewest_66 (by decide) (fun c17 => ?_) (fun c17 => ?_)
              · have t17 : x16.toInt ≠ (0 : Int) := gl_ne c17
                obtain ⟨x18, e18⟩ : ∃ t : Int32, t = w10_5 + 1 := ⟨_, rfl⟩
                refine lv_iinc (v := x18) (lv' := [(5, .int x18), (4, .int w10_4), (3, .int x9), (0, .ref (o + 0)), (1, .int a0), (2, .int a1)]) hx hb dX11_fewest_117 hl (k := 0) rfl (by rw [e18]; rfl) (by decide) rfl (fun ls hl => ?_)
                have t18 : x18.toInt = w10_5.toInt + (1 : Int) := ga_add e18 rfl rfl (by omega) (by omega)
                refine lv_goto (tgt := 52) hx hb dX11_fewest_120 (by decide) ?_
                exact ih10 x18 w10_4 (show (1024 - x18.toInt : Int) < (n10 : Int) from by omega) ⟨by omega, by omega⟩ ⟨by omega, by omega⟩ _ _ hP hS _ (lv_sub hl [0, 1, 2, 3, 4, 5] rfl)
              · have t17 : x16.toInt = (0 : Int) := gl_eq c17
                refine lv_iload hx hb dX11_fewest_69 (lv_at hl 0 rfl) ?_
                refine qc_Sip (As := [.int w10_5]) (rest := []) (k0 := 1) (m_bits l D ca o b z6 y6 J6 w10_5) kc_yX11_bits ⟨hx, hb, hml, hown, hts⟩ wq_1296 rfl rfl ⟨Nat.le_of_ble_eq_true rfl, Nat.le_of_ble_eq_true rfl⟩ wq_all hP hK hS qw_Ai rfl hl.1 rfl (Nat.le_of_ble_eq_true rfl) dX11_fewest_71 ⟨Nat.zero_le _, Nat.zero_le _⟩ (fun r19 H locs h19 hP hS _ _ => ?_)
                have p19_1 : r19 = bsum w10_5 16 := h19.2
                refine lv_iconst (v := 3) hx hb dX11_fewest_74 (by decide) ?_
                refine lv_icmp_gt (tgt := 117) hx hb dX11_fewest_75 (by decide) (fun c20 => ?_) (fun c20 => ?_)
                · have t20 : r19.toInt > (3 : Int) := gl_lt c20
                  obtain ⟨x21, e21⟩ : ∃ t : Int32, t = w10_5 + 1 := ⟨_, rfl⟩
                  refine lv_iinc (v := x21) (lv' := [(5, .int x21), (4, .int w10_4), (3, .int x9), (0, .ref (o + 0)), (1, .int a0), (2, .int a1)]) hx hb dX11_fewest_117 hl (k := 0) rfl (by rw [e21]; rfl) (by decide) rfl (fun ls hl => ?_)
                  have t21 : x21.toInt = w10_5.toInt + (1 : Int) := ga_add e21 rfl rfl (by omega) (by omega)
                  refine lv_goto (tgt := 52) hx hb dX11_fewest_120 (by decide) ?_
                  exact ih10 x21 w10_4 (show (1024 - x21.toInt : Int) < (n10 : Int) from by omega) ⟨by omega, by omega⟩ ⟨by omega, by omega⟩ _ _ hP hS _ (lv_sub hl [0, 1, 2, 3, 4, 5] rfl)
                · have t20 : r19.toInt ≤ (3 : Int) := gl_nlt c20
                  refine lv_iload hx hb dX11_fewest_78 (lv_at hl 1 rfl) ?_
                  refine lv_bipush (v := (-2)) hx hb dX11_fewest_80 (by decide) ?_
                  refine lv_icmp_eq (tgt := 101) hx hb dX11_fewest_82 (by decide) (fun c22 => ?_) (fun c22 => ?_)
                  · have t22 : w10_4.toInt = (-2 : Int) := gl_eq c22
                    refine lv_aload_n hx hb dX11_fewest_101 rfl (lv_at hl 3 rfl) ?_
                    refine lv_iload_n hx hb dX11_fewest_102 rfl (lv_at hl 4 rfl) ?_
                    refine lv_iload hx hb dX11_fewest_103 (lv_at hl 0 rfl) ?_
                    refine lv_ior hx hb dX11_fewest_105 ?_
                    refine lv_topi (fun x23 e23 => ?_)
                    refine qc_Vip (As := [.int x23]) (rest := []) (k0 := 1) (m_fitting l D ca o b z6 y6 J6 x23) kc_yX11_fitting ⟨hx, hb, hml, hown, hts⟩ wq_1360 rfl rfl ⟨Nat.le_of_ble_eq_true rfl, Nat.le_of_ble_eq_true rfl⟩ wq_all hP hK hS qw_Ai (q0 := 0) (by decide) (hgM_0 ca o _ _) rfl rfl hl.1 rfl (Nat.le_of_ble_eq_true rfl) dX11_fewest_106 ⟨Nat.zero_le _, Nat.zero_le _⟩ (fun r24 H locs h24 hP hS _ _ => ?_)
                    refine lv_iconst (v := 1) hx hb dX11_fewest_109 (by decide) ?_
                    refine lv_icmp_ne (tgt := 117) hx hb dX11_fewest_110 (by decide) (fun c25 => ?_) (fun c25 => ?_)
                    · have t25 : r24.toInt ≠ (1 : Int) := gl_ne c25
                      obtain ⟨x26, e26⟩ : ∃ t : Int32, t = w10_5 + 1 := ⟨_, rfl⟩
                      refine lv_iinc (v := x26) (lv' := [(5, .int x26), (4, .int w10_4), (3, .int x9), (0, .ref (o + 0)), (1, .int a0), (2, .int a1)]) hx hb dX11_fewest_117 hl (k := 0) rfl (by rw [e26]; rfl) (by decide) rfl (fun ls hl => ?_)
                      have t26 : x26.toInt = w10_5.toInt + (1 : Int) := ga_add e26 rfl rfl (by omega) (by omega)
                      refine lv_goto (tgt := 52) hx hb dX11_fewest_120 (by decide) ?_
                      exact ih10 x26 w10_4 (show (1024 - x26.toInt : Int) < (n10 : Int) from by omega) ⟨by omega, by omega⟩ ⟨by omega, by omega⟩ _ _ hP hS _ (lv_sub hl [0, 1, 2, 3, 4, 5] rfl)
                    · have t25 : r24.toInt = (1 : Int) := gl_eq c25
                      refine lv_iload hx hb dX11_fewest_113 (lv_at hl 0 rfl) ?_
                      refine lv_istore (lv' := [(4, .int w10_5), (5, .int w10_5), (3, .int x9), (0, .ref (o + 0)), (1, .int a0), (2, .int a1)]) hx hb dX11_fewest_115 hl (by decide) rfl (fun ls hl => ?_)
                      obtain ⟨x27, e27⟩ : ∃ t : Int32, t = w10_5 + 1 := ⟨_, rfl⟩
                      refine lv_iinc (v := x27) (lv' := [(5, .int x27), (4, .int w10_5), (3, .int x9), (0, .ref (o + 0)), (1, .int a0), (2, .int a1)]) hx hb dX11_fewest_117 hl (k := 1) rfl (by rw [e27]; rfl) (by decide) rfl (fun ls hl => ?_)
                      have t27 : x27.toInt = w10_5.toInt + (1 : Int) := ga_add e27 rfl rfl (by omega) (by omega)
                      refine lv_goto (tgt := 52) hx hb dX11_fewest_120 (by decide) ?_
                      exact ih10 x27 w10_5 (show (1024 - x27.toInt : Int) < (n10 : Int) from by omega) ⟨by omega, by omega⟩ ⟨by omega, by omega⟩ _ _ hP hS _ (lv_sub hl [0, 1, 2, 3, 4, 5] rfl)
                  · have t22 : w10_4.toInt ≠ (-2 : Int) := gl_ne c22
                    refine lv_iload hx hb dX11_fewest_85 (lv_at hl 0 rfl) ?_
                    refine qc_Sip (As := [.int w10_5]) (rest := []) (k0 := 1) (m_bits l D ca o b z6 y6 J6 w10_5) kc_yX11_bits ⟨hx, hb, hml, hown, hts⟩ wq_1296 rfl rfl ⟨Nat.le_of_ble_eq_true rfl, Nat.le_of_ble_eq_true rfl⟩ wq_all hP hK hS qw_Ai rfl hl.1 rfl (Nat.le_of_ble_eq_true rfl) dX11_fewest_87 ⟨Nat.zero_le _, Nat.zero_le _⟩ (fun r28 H locs h28 hP hS _ _ => ?_)
                    have p28_1 : r28 = bsum w10_5 16 := h28.2
                    refine lv_iload hx hb dX11_fewest_90 (lv_at hl 1 rfl) ?_
                    refine qc_Sip (As := [.int w10_4]) (rest := [.int r28]) (k0 := 1) (m_bits l D ca o b z6 y6 J6 w10_4) kc_yX11_bits ⟨hx, hb, hml, hown, hts⟩ wq_1296 rfl rfl ⟨Nat.le_of_ble_eq_true rfl, Nat.le_of_ble_eq_true rfl⟩ wq_all hP hK hS qw_Ai rfl hl.1 rfl (Nat.le_of_ble_eq_true rfl) dX11_fewest_92 ⟨Nat.zero_le _, Nat.zero_le _⟩ (fun r29 H locs h29 hP hS _ _ => ?_)
                    have p29_1 : r29 = bsum w10_4 16 := h29.2
                    refine lv_icmp_lt (tgt := 101) hx hb dX11_fewest_95 (by decide) (fun c30 => ?_) (fun c30 => ?_)
                    · have t30 : r28.toInt < r29.toInt := gl_lt c30
                      refine lv_aload_n hx hb dX11_fewest_101 rfl (lv_at hl 3 rfl) ?_
                      refine lv_iload_n hx hb dX11_fewest_102 rfl (lv_at hl 4 rfl) ?_
                      refine lv_iload hx hb dX11_fewest_103 (lv_at hl 0 rfl) ?_
                      refine lv_ior hx hb dX11_fewest_105 ?_
                      refine lv_topi (fun x31 e31 => ?_)
                      refine qc_Vip (As := [.int x31]) (rest := []) (k0 := 1) (m_fitting l D ca o b z6 y6 J6 x31) kc_yX11_fitting ⟨hx, hb, hml, hown, hts⟩ wq_1360 rfl rfl ⟨Nat.le_of_ble_eq_true rfl, Nat.le_of_ble_eq_true rfl⟩ wq_all hP hK hS qw_Ai (q0 := 0) (by decide) (hgM_0 ca o _ _) rfl rfl hl.1 rfl (Nat.le_of_ble_eq_true rfl) dX11_fewest_106 ⟨Nat.zero_le _, Nat.zero_le _⟩ (fun r32 H locs h32 hP hS _ _ => ?_)
                      refine lv_iconst (v := 1) hx hb dX11_fewest_109 (by decide) ?_
                      refine lv_icmp_ne (tgt := 117) hx hb dX11_fewest_110 (by decide) (fun c33 => ?_) (fun c33 => ?_)
                      · have t33 : r32.toInt ≠ (1 : Int) := gl_ne c33
                        obtain ⟨x34, e34⟩ : ∃ t : Int32, t = w10_5 + 1 := ⟨_, rfl⟩
                        refine lv_iinc (v := x34) (lv' := [(5, .int x34), (4, .int w10_4), (3, .int x9), (0, .ref (o + 0)), (1, .int a0), (2, .int a1)]) hx hb dX11_fewest_117 hl (k := 0) rfl (by rw [e34]; rfl) (by decide) rfl (fun ls hl => ?_)
                        have t34 : x34.toInt = w10_5.toInt + (1 : Int) := ga_add e34 rfl rfl (by omega) (by omega)
                        refine lv_goto (tgt := 52) hx hb dX11_fewest_120 (by decide) ?_
                        exact ih10 x34 w10_4 (show (1024 - x34.toInt : Int) < (n10 : Int) from by omega) ⟨by omega, by omega⟩ ⟨by omega, by omega⟩ _ _ hP hS _ (lv_sub hl [0, 1, 2, 3, 4, 5] rfl)
                      · have t33 : r32.toInt = (1 : Int) := gl_eq c33
                        refine lv_iload hx hb dX11_fewest_113 (lv_at hl 0 rfl) ?_
                        refine lv_istore (lv' := [(4, .int w10_5), (5, .int w10_5), (3, .int x9), (0, .ref (o + 0)), (1, .int a0), (2, .int a1)]) hx hb dX11_fewest_115 hl (by decide) rfl (fun ls hl => ?_)
                        obtain ⟨x35, e35⟩ : ∃ t : Int32, t = w10_5 + 1 := ⟨_, rfl⟩
                        refine lv_iinc (v := x35) (lv' := [(5, .int x35), (4, .int w10_5), (3, .int x9), (0, .ref (o + 0)), (1, .int a0), (2, .int a1)]) hx hb dX11_fewest_117 hl (k := 1) rfl (by rw [e35]; rfl) (by decide) rfl (fun ls hl => ?_)
                        have t35 : x35.toInt = w10_5.toInt + (1 : Int) := ga_add e35 rfl rfl (by omega) (by omega)
                        refine lv_goto (tgt := 52) hx hb dX11_fewest_120 (by decide) ?_
                        exact ih10 x35 w10_5 (show (1024 - x35.toInt : Int) < (n10 : Int) from by omega) ⟨by omega, by omega⟩ ⟨by omega, by omega⟩ _ _ hP hS _ (lv_sub hl [0, 1, 2, 3, 4, 5] rfl)
                    · have t30 : r28.toInt ≥ r29.toInt := gl_nlt c30
                      refine lv_goto (tgt := 117) hx hb dX11_fewest_98 (by decide) ?_
                      obtain ⟨x36, e36⟩ : ∃ t : Int32, t = w10_5 + 1 := ⟨_, rfl⟩
                      refine lv_iinc (v := x36) (lv' := [(5, .int x36), (4, .int w10_4), (3, .int x9), (0, .ref (o + 0)), (1, .int a0), (2, .int a1)]) hx hb dX11_fewest_117 hl (k := 0) rfl (by rw [e36]; rfl) (by decide) rfl (fun ls hl => ?_)
                      have t36 : x36.toInt = w10_5.toInt + (1 : Int) := ga_add e36 rfl rfl (by omega) (by omega)
                      refine lv_goto (tgt := 52) hx hb dX11_fewest_120 (by decide) ?_
                      exact ih10 x36 w10_4 (show (1024 - x36.toInt : Int) < (n10 : Int) from by omega) ⟨by omega, by omega⟩ ⟨by omega, by omega⟩ _ _ hP hS _ (lv_sub hl [0, 1, 2, 3, 4, 5] rfl)
        exact loop10 1025 0 (-2) (show (1024 - (0 : Int) : Int) < ((1025 : Nat) : Int) from by omega) ⟨by decide, by decide⟩ ⟨by decide, by decide⟩ _ _ hP hS _ (lv_sub hl [0, 1, 2, 3, 4, 5] rfl)
      · have t5 : r4.toInt > (200000 : Int) := gl_nle c5
        refine lv_bipush (v := (-3)) hx hb dX11_fewest_29 (by decide) ?_
        exact W.iret (v := (-3)) hx hb hr (fun t ht hW => ⟨⟨(-3), (z, y), rfl, ⟨trivial, J0⟩, by rw [ht]; exact hP, va_K.moved hW.alike hK⟩, hS.F ht⟩) hS.2.2 dX11_fewest_31
    · subst hr3
      have hg3_0 : ¬ ((0 : Int) ≤ a1.toInt ∧ a1.toInt ≤ (1 : Int)) := hf3_0
      refine lv_if_ne (tgt := 19) hx hb dX11_fewest_14 (by decide) (fun q => absurd q (by decide)) (fun _ => ?_)
      refine lv_iconst (v := (-1)) hx hb dX11_fewest_17 (by decide) ?_
      exact W.iret (v := (-1)) hx hb hr (fun t ht hW => ⟨⟨(-1), (z, y), rfl, ⟨trivial, J0⟩, by rw [ht]; exact hP, va_K.moved hW.alike hK⟩, hS.F ht⟩) hS.2.2 dX11_fewest_18
set_option maxRecDepth 100000 in
set_option maxHeartbeats 8000000 in
theorem m_offIn (l : Launch) (D : va_G) (ca : Nat → ClassId) (o : Nat) (b z : Nat → Nat → Int32) (y : Nat → Nat → Int64) (J0 : qJM b z) (a0 : Int32)  : qM l yX11_offIn cX11_offIn 5 (some .int) 2 83 (qPre D vwCl (qT6 ca) o 41 (qG (GM ca o) z y) [.ref (o + 0), .int a0]) (va_Qi (fun r (_ : Unit) => True) (qB D vwCl (qT6 ca) o 41 (fun _ : Unit => qG (GM ca o) z y)) (qw_A o 41)) (qw_A o 41) := by
  refine Met.ofW (cc := cX11_offIn) (maxL := 5) (ret := (some .int)) (by decide) rfl ?_
  intro p e s m args below meth c s₁ B hml hv
  obtain ⟨rfl, hP, hK⟩ := hv
  have hx := B.exec
  have hb := B.bytes
  have hr := B.returns
  have hts0 := atoms_spec (ws := Cond.code yX11_offIn cX11_offIn 5 (some .int) :: qtbl) B.pre
  have hts : ∀ w ∈ qtbl, w.before _ s = true := fun w h => hts0 w (List.mem_cons_of_mem _ h)
  have hown : s.vm.findClass RX11 = some m.cls := findClass_of_methodNamed B.named
  have hlocks := B.notSynchronized
  have hS : va_S (qw_A o 41) s.heap s.heap [] := va_S.rf
  have hl := lv_entry ([.ref (o + 0), .int a0]) (n := 5) (Nat.le_of_ble_eq_true rfl)
  rw [lg_entry_eq]
  generalize (lg_sl ([.ref (o + 0), .int a0]) ++ List.replicate (5 - (lg_sl ([.ref (o + 0), .int a0])).length) Slot.unset).toArray = ls at hl ⊢
  have hl : lv_has ls 5 [(0, .ref (o + 0)), (1, .int a0)] := hl
  refine lv_iconst (v := 0) hx hb dX11_offIn_0 (by decide) ?_
  refine lv_istore_n (lv' := [(2, .int 0), (0, .ref (o + 0)), (1, .int a0)]) hx hb dX11_offIn_1 rfl hl (by decide) rfl (fun ls hl => ?_)
  refine lv_iconst (v := 0) hx hb dX11_offIn_2 (by decide) ?_
  refine lv_istore_n (lv' := [(3, .int 0), (2, .int 0), (0, .ref (o + 0)), (1, .int a0)]) hx hb dX11_offIn_3 rfl hl (by decide) rfl (fun ls hl => ?_)
  have loop1 : ∀ (n : Nat) (w1_3 : Int32) (w1_2 : Int32), ((10 - w1_3.toInt : Int) < (n : Int)) → ((0 : Int) ≤ w1_3.toInt ∧ w1_3.toInt ≤ 10) → ∀ (H : Heap) (locs : List Loc), qw_P D vwCl o 41 (qG (GM ca o) z y) H → va_S (qw_A o 41) s.heap H locs → ∀ (ls : Array Slot), lv_has ls 5 [(3, .int w1_3), (2, .int w1_2), (0, .ref (o + 0)), (1, .int a0)] → W p l e (headSpec (Cond.code yX11_offIn cX11_offIn 5 (some .int) :: qtbl) ({ frames := 2, cells := 0, slots := 0, locals := 83 })).room s m (([.ref (o + 0), .int a0] : List Value).toArray) below meth c H locs 0 0 (MQ below (va_Qi (fun r (_ : Unit) => True) (qB D vwCl (qT6 ca) o 41 (fun _ : Unit => qG (GM ca o) z y)) (qw_A o 41)) (([.ref (o + 0), .int a0] : List Value).toArray) s 0 0 (qw_A o 41)) (F0 m 4 ls []) := by
    intro n
    induction n with
    | zero => intro w1_3 w1_2 hb1 hv1_3; exfalso; omega
    | succ n1 ih1 =>
      intro w1_3 w1_2 hb1 hv1_3 H locs hP hS ls hl
      refine lv_iload_n hx hb dX11_offIn_4 rfl (lv_at hl 0 rfl) ?_
      refine lv_bipush (v := 10) hx hb dX11_offIn_5 (by decide) ?_
      refine lv_icmp_ge (tgt := 76) hx hb dX11_offIn_7 (by decide) (fun c2 => ?_) (fun c2 => ?_)
      · have t2 : w1_3.toInt ≥ (10 : Int) := gl_le c2
        refine lv_iload_n hx hb dX11_offIn_76 rfl (lv_at hl 1 rfl) ?_
        exact W.iret (v := w1_2) hx hb hr (fun t ht hW => ⟨⟨w1_2, (), rfl, trivial, by rw [ht]; exact hP, va_K.moved hW.alike hK⟩, hS.F ht⟩) hS.2.2 dX11_offIn_77
      · have t2 : w1_3.toInt < (10 : Int) := gl_nle c2
        refine lv_iload_n hx hb dX11_offIn_10 rfl (lv_at hl 3 rfl) ?_
        refine lv_iload_n hx hb dX11_offIn_11 rfl (lv_at hl 0 rfl) ?_
        refine qc_Sip (As := [.int a0, .int w1_3]) (rest := []) (k0 := 2) (m_has l D ca o b z y J0 a0 w1_3) kc_yX11_has ⟨hx, hb, hml, hown, hts⟩ wq_1198 rfl rfl ⟨Nat.le_of_ble_eq_true rfl, Nat.le_of_ble_eq_true rfl⟩ wq_all hP hK hS qw_Ai rfl hl.1 rfl (Nat.le_of_ble_eq_true rfl) dX11_offIn_12 ⟨Nat.zero_le _, Nat.zero_le _⟩ (fun r3 H locs h3 hP hS _ _ => ?_)
        rcases h3 with ⟨hr3, hf3_0⟩ | ⟨hr3, hf3_0⟩
        · subst hr3
          have hg3_0 : bitAt a0 w1_3 ≠ 0 := hf3_0
          refine lv_if_ne (tgt := 21) hx hb dX11_offIn_15 (by decide) (fun _ => ?_) (fun q => absurd q (by decide))
          refine lv_aload_n hx hb dX11_offIn_21 rfl (lv_at hl 2 rfl) ?_
          refine lv_iload_n hx hb dX11_offIn_22 rfl (lv_at hl 0 rfl) ?_
          refine qc_Vip (As := [.int w1_3]) (rest := []) (k0 := 1) (m_valueOf l D ca o b z y J0 w1_3 ⟨by omega, by omega⟩) kc_yX11_valueOf ⟨hx, hb, hml, hown, hts⟩ wq_1344 rfl rfl ⟨Nat.le_of_ble_eq_true rfl, Nat.le_of_ble_eq_true rfl⟩ wq_all hP hK hS qw_Ai (q0 := 0) (by decide) (hgM_0 ca o _ _) rfl rfl hl.1 rfl (Nat.le_of_ble_eq_true rfl) dX11_offIn_23 ⟨Nat.zero_le _, Nat.zero_le _⟩ (fun r4 H locs h4 hP hS _ _ => ?_)
          refine lv_istore (lv' := [(4, .int r4), (3, .int w1_3), (2, .int w1_2), (0, .ref (o + 0)), (1, .int a0)]) hx hb dX11_offIn_26 hl (by decide) rfl (fun ls hl => ?_)
          refine lv_aload_n hx hb dX11_offIn_28 rfl (lv_at hl 3 rfl) ?_
          refine lv_iload_n hx hb dX11_offIn_29 rfl (lv_at hl 1 rfl) ?_
          refine lv_iload hx hb dX11_offIn_30 (lv_at hl 0 rfl) ?_
          refine qc_Vip (As := [.int w1_3, .int r4]) (rest := []) (k0 := 2) (m_isSo l D ca o b z y J0 w1_3 r4 ⟨by omega, by omega⟩) kc_yX11_isSo ⟨hx, hb, hml, hown, hts⟩ wq_1348 rfl rfl ⟨Nat.le_of_ble_eq_true rfl, Nat.le_of_ble_eq_true rfl⟩ wq_all hP hK hS qw_Ai (q0 := 0) (by decide) (hgM_0 ca o _ _) rfl rfl hl.1 rfl (Nat.le_of_ble_eq_true rfl) dX11_offIn_32 ⟨Nat.zero_le _, Nat.zero_le _⟩ (fun r5 H locs h5 hP hS _ _ => ?_)
          have b5 : (0 : Int) ≤ r5.toInt ∧ r5.toInt ≤ 1 := h5
          refine lv_if_eq (tgt := 41) hx hb dX11_offIn_35 (by decide) (fun c6 => ?_) (fun c6 => ?_)
          · have t6 : r5.toInt = (0 : Int) := gl_eq c6
            refine lv_aload_n hx hb dX11_offIn_41 rfl (lv_at hl 3 rfl) ?_
            refine qf_get hx hb hts inX11 hown hK hP (q0 := 0) (by decide) (hgM_0 ca o) rfl 10 (by decide) wq_1003 (v := .ref (o + 8)) rfl dX11_offIn_42 ?_
            refine lv_iload_n hx hb dX11_offIn_45 rfl (lv_at hl 1 rfl) ?_
            refine qa_iald hx hb hK hP (q0 := 8) (by decide) 0 (N := 16) (hgM_8 ca o) rfl (gi_in (by omega) (by omega)) dX11_offIn_46 ?_
            refine lv_topi (fun x7 e7 => ?_)
            have b7 := iM_8 J0 e7
            refine lv_if_ne (tgt := 62) hx hb dX11_offIn_47 (by decide) (fun c8 => ?_) (fun c8 => ?_)
            · have t8 : x7.toInt ≠ (0 : Int) := gl_ne c8
              refine lv_iconst (v := (-1)) hx hb dX11_offIn_62 (by decide) ?_
              exact W.iret (v := (-1)) hx hb hr (fun t ht hW => ⟨⟨(-1), (), rfl, trivial, by rw [ht]; exact hP, va_K.moved hW.alike hK⟩, hS.F ht⟩) hS.2.2 dX11_offIn_63
            · have t8 : x7.toInt = (0 : Int) := gl_eq c8
              refine lv_iload hx hb dX11_offIn_50 (lv_at hl 0 rfl) ?_
              refine lv_iconst (v := 1) hx hb dX11_offIn_52 (by decide) ?_
              refine lv_icmp_eq (tgt := 64) hx hb dX11_offIn_53 (by decide) (fun c9 => ?_) (fun c9 => ?_)
              · have t9 : r4.toInt = (1 : Int) := gl_eq c9
                refine lv_iload_n hx hb dX11_offIn_64 rfl (lv_at hl 2 rfl) ?_
                refine lv_iconst (v := 1) hx hb dX11_offIn_65 (by decide) ?_
                refine lv_iload_n hx hb dX11_offIn_66 rfl (lv_at hl 1 rfl) ?_
                refine lv_ishl hx hb dX11_offIn_67 ?_
                refine lv_topi (fun x10 e10 => ?_)
                have t10 : 1 ≤ x10.toInt ∧ x10.toInt ≤ 512 := ga_shl 9 512 e10 (by decide) (by decide) (by omega) (by omega)
                refine lv_ior hx hb dX11_offIn_68 ?_
                refine lv_topi (fun x11 e11 => ?_)
                refine lv_istore_n (lv' := [(2, .int x11), (4, .int r4), (3, .int w1_3), (0, .ref (o + 0)), (1, .int a0)]) hx hb dX11_offIn_69 rfl hl (by decide) rfl (fun ls hl => ?_)
                obtain ⟨x12, e12⟩ : ∃ t : Int32, t = w1_3 + 1 := ⟨_, rfl⟩
                refine lv_iinc (v := x12) (lv' := [(3, .int x12), (2, .int x11), (4, .int r4), (0, .ref (o + 0)), (1, .int a0)]) hx hb dX11_offIn_70 hl (k := 2) rfl (by rw [e12]; rfl) (by decide) rfl (fun ls hl => ?_)
                have t12 : x12.toInt = w1_3.toInt + (1 : Int) := ga_add e12 rfl rfl (by omega) (by omega)
                refine lv_goto (tgt := 4) hx hb dX11_offIn_73 (by decide) ?_
                exact ih1 x12 x11 (show (10 - x12.toInt : Int) < (n1 : Int) from by omega) ⟨by omega, by omega⟩ _ _ hP hS _ (lv_sub hl [0, 1, 3, 4] rfl)
              · have t9 : r4.toInt ≠ (1 : Int) := gl_ne c9
                refine lv_iload hx hb dX11_offIn_56 (lv_at hl 0 rfl) ?_
                refine lv_iconst (v := (-1)) hx hb dX11_offIn_58 (by decide) ?_
                refine lv_icmp_eq (tgt := 64) hx hb dX11_offIn_59 (by decide) (fun c13 => ?_) (fun c13 => ?_)
                · have t13 : r4.toInt = (-1 : Int) := gl_eq c13
                  refine lv_iload_n hx hb dX11_offIn_64 rfl (lv_at hl 2 rfl) ?_
                  refine lv_iconst (v := 1) hx hb dX11_offIn_65 (by decide) ?_
                  refine lv_iload_n hx hb dX11_offIn_66 rfl (lv_at hl 1 rfl) ?_
                  refine lv_ishl hx hb dX11_offIn_67 ?_
                  refine lv_topi (fun x14 e14 => ?_)
                  have t14 : 1 ≤ x14.toInt ∧ x14.toInt ≤ 512 := ga_shl 9 512 e14 (by decide) (by decide) (by omega) (by omega)
                  refine lv_ior hx hb dX11_offIn_68 ?_
                  refine lv_topi (fun x15 e15 => ?_)
                  refine lv_istore_n (lv' := [(2, .int x15), (4, .int r4), (3, .int w1_3), (0, .ref (o + 0)), (1, .int a0)]) hx hb dX11_offIn_69 rfl hl (by decide) rfl (fun ls hl => ?_)
                  obtain ⟨x16, e16⟩ : ∃ t : Int32, t = w1_3 + 1 := ⟨_, rfl⟩
                  refine lv_iinc (v := x16) (lv' := [(3, .int x16), (2, .int x15), (4, .int r4), (0, .ref (o + 0)), (1, .int a0)]) hx hb dX11_offIn_70 hl (k := 2) rfl (by rw [e16]; rfl) (by decide) rfl (fun ls hl => ?_)
                  have t16 : x16.toInt = w1_3.toInt + (1 : Int) := ga_add e16 rfl rfl (by omega) (by omega)
                  refine lv_goto (tgt := 4) hx hb dX11_offIn_73 (by decide) ?_
                  exact ih1 x16 x15 (show (10 - x16.toInt : Int) < (n1 : Int) from by omega) ⟨by omega, by omega⟩ _ _ hP hS _ (lv_sub hl [0, 1, 3, 4] rfl)
                · have t13 : r4.toInt ≠ (-1 : Int) := gl_ne c13
                  refine lv_iconst (v := (-1)) hx hb dX11_offIn_62 (by decide) ?_
                  exact W.iret (v := (-1)) hx hb hr (fun t ht hW => ⟨⟨(-1), (), rfl, trivial, by rw [ht]; exact hP, va_K.moved hW.alike hK⟩, hS.F ht⟩) hS.2.2 dX11_offIn_63
          · have t6 : r5.toInt ≠ (0 : Int) := gl_ne c6
            refine lv_goto (tgt := 70) hx hb dX11_offIn_38 (by decide) ?_
            obtain ⟨x17, e17⟩ : ∃ t : Int32, t = w1_3 + 1 := ⟨_, rfl⟩
            refine lv_iinc (v := x17) (lv' := [(3, .int x17), (4, .int r4), (2, .int w1_2), (0, .ref (o + 0)), (1, .int a0)]) hx hb dX11_offIn_70 hl (k := 1) rfl (by rw [e17]; rfl) (by decide) rfl (fun ls hl => ?_)
            have t17 : x17.toInt = w1_3.toInt + (1 : Int) := ga_add e17 rfl rfl (by omega) (by omega)
            refine lv_goto (tgt := 4) hx hb dX11_offIn_73 (by decide) ?_
            exact ih1 x17 w1_2 (show (10 - x17.toInt : Int) < (n1 : Int) from by omega) ⟨by omega, by omega⟩ _ _ hP hS _ (lv_sub hl [0, 2, 3, 4] rfl)
        · subst hr3
          have hg3_0 : bitAt a0 w1_3 = 0 := hf3_0
          refine lv_if_ne (tgt := 21) hx hb dX11_offIn_15 (by decide) (fun q => absurd q (by decide)) (fun _ => ?_)
          refine lv_goto (tgt := 70) hx hb dX11_offIn_18 (by decide) ?_
          obtain ⟨x18, e18⟩ : ∃ t : Int32, t = w1_3 + 1 := ⟨_, rfl⟩
          refine lv_iinc (v := x18) (lv' := [(3, .int x18), (2, .int w1_2), (0, .ref (o + 0)), (1, .int a0)]) hx hb dX11_offIn_70 hl (k := 0) rfl (by rw [e18]; rfl) (by decide) rfl (fun ls hl => ?_)
          have t18 : x18.toInt = w1_3.toInt + (1 : Int) := ga_add e18 rfl rfl (by omega) (by omega)
          refine lv_goto (tgt := 4) hx hb dX11_offIn_73 (by decide) ?_
          exact ih1 x18 w1_2 (show (10 - x18.toInt : Int) < (n1 : Int) from by omega) ⟨by omega, by omega⟩ _ _ hP hS _ (lv_sub hl [0, 1, 2, 3] rfl)
  exact loop1 11 0 0 (show (10 - (0 : Int) : Int) < ((11 : Nat) : Int) from by omega) ⟨by decide, by decide⟩ _ _ hP hS _ (lv_sub hl [0, 1, 2, 3] rfl)
set_option maxRecDepth 100000 in
set_option maxHeartbeats 8000000 in
theorem m_offByAYear (l : Launch) (D : va_G) (ca : Nat → ClassId) (o : Nat) (b z : Nat → Nat → Int32) (y : Nat → Nat → Int64) (J0 : qJM b z) (a0 : Int32) (a1 : Int32)  : qM l yX11_offByAYear cX11_offByAYear 7 (some .int) 4 125 (qPre D vwCl (qT6 ca) o 41 (qG (GM ca o) z y) [.ref (o + 0), .int a0, .int a1]) (va_Qi (fun r u => True ∧ qJM b u.1) (qB D vwCl (qT6 ca) o 41 (fun u : qZ => qG (GM ca o) u.1 u.2)) (qw_A o 41)) (qw_A o 41) := by
  refine Met.ofW (cc := cX11_offByAYear) (maxL := 7) (ret := (some .int)) (by decide) rfl ?_
  intro p e s m args below meth c s₁ B hml hv
  obtain ⟨rfl, hP, hK⟩ := hv
  have hx := B.exec
  have hb := B.bytes
  have hr := B.returns
  have hts0 := atoms_spec (ws := Cond.code yX11_offByAYear cX11_offByAYear 7 (some .int) :: qtbl) B.pre
  have hts : ∀ w ∈ qtbl, w.before _ s = true := fun w h => hts0 w (List.mem_cons_of_mem _ h)
  have hown : s.vm.findClass RX11 = some m.cls := findClass_of_methodNamed B.named
  have hlocks := B.notSynchronized
  have hS : va_S (qw_A o 41) s.heap s.heap [] := va_S.rf
  have hl := lv_entry ([.ref (o + 0), .int a0, .int a1]) (n := 7) (Nat.le_of_ble_eq_true rfl)
  rw [lg_entry_eq]
  generalize (lg_sl ([.ref (o + 0), .int a0, .int a1]) ++ List.replicate (7 - (lg_sl ([.ref (o + 0), .int a0, .int a1])).length) Slot.unset).toArray = ls at hl ⊢
  have hl : lv_has ls 7 [(0, .ref (o + 0)), (1, .int a0), (2, .int a1)] := hl
  refine lv_aload_n hx hb dX11_offByAYear_0 rfl (lv_at hl 0 rfl) ?_
  refine lv_iload_n hx hb dX11_offByAYear_1 rfl (lv_at hl 1 rfl) ?_
  refine qc_Vip (As := [.int a0]) (rest := []) (k0 := 1) (m_areRemarks l D ca o b z y J0 a0) kc_yX11_areRemarks ⟨hx, hb, hml, hown, hts⟩ wq_1324 rfl rfl ⟨Nat.le_of_ble_eq_true rfl, Nat.le_of_ble_eq_true rfl⟩ wq_all hP hK hS qw_Ai (q0 := 0) (by decide) (hgM_0 ca o _ _) rfl rfl hl.1 rfl (Nat.le_of_ble_eq_true rfl) dX11_offByAYear_2 ⟨Nat.zero_le _, Nat.zero_le _⟩ (fun r1 H locs h1 hP hS _ _ => ?_)
  have b1 : (0 : Int) ≤ r1.toInt ∧ r1.toInt ≤ 1 := h1
  refine lv_if_eq (tgt := 17) hx hb dX11_offByAYear_5 (by decide) (fun c2 => ?_) (fun c2 => ?_)
  · have t2 : r1.toInt = (0 : Int) := gl_eq c2
    refine lv_iconst (v := (-1)) hx hb dX11_offByAYear_17 (by decide) ?_
    exact W.iret (v := (-1)) hx hb hr (fun t ht hW => ⟨⟨(-1), (z, y), rfl, ⟨trivial, J0⟩, by rw [ht]; exact hP, va_K.moved hW.alike hK⟩, hS.F ht⟩) hS.2.2 dX11_offByAYear_18
  · have t2 : r1.toInt ≠ (0 : Int) := gl_ne c2
    refine lv_iload_n hx hb dX11_offByAYear_8 rfl (lv_at hl 2 rfl) ?_
    refine lv_iconst (v := 0) hx hb dX11_offByAYear_9 (by decide) ?_
    refine lv_iconst (v := 1) hx hb dX11_offByAYear_10 (by decide) ?_
    refine qc_Sip (As := [.int a1, .int 0, .int 1]) (rest := []) (k0 := 3) (m_in l D ca o b z y J0 a1 0 1) kc_yX11_in ⟨hx, hb, hml, hown, hts⟩ wq_1187 rfl rfl ⟨Nat.le_of_ble_eq_true rfl, Nat.le_of_ble_eq_true rfl⟩ wq_all hP hK hS qw_Ai rfl hl.1 rfl (Nat.le_of_ble_eq_true rfl) dX11_offByAYear_11 ⟨Nat.zero_le _, Nat.zero_le _⟩ (fun r3 H locs h3 hP hS _ _ => ?_)
    rcases h3 with ⟨hr3, hf3_0⟩ | ⟨hr3, hf3_0⟩
    · subst hr3
      have hg3_0 : (0 : Int) ≤ a1.toInt ∧ a1.toInt ≤ (1 : Int) := hf3_0
      refine lv_if_ne (tgt := 19) hx hb dX11_offByAYear_14 (by decide) (fun _ => ?_) (fun q => absurd q (by decide))
      refine lv_aload_n hx hb dX11_offByAYear_19 rfl (lv_at hl 0 rfl) ?_
      refine qc_Vip (As := []) (rest := []) (k0 := 0) (m_rowMany l D ca o b z y J0) kc_yX11_rowMany ⟨hx, hb, hml, hown, hts⟩ wq_1315 rfl rfl ⟨Nat.le_of_ble_eq_true rfl, Nat.le_of_ble_eq_true rfl⟩ wq_all hP hK hS qw_Ai (q0 := 0) (by decide) (hgM_0 ca o _ _) rfl rfl hl.1 rfl (Nat.le_of_ble_eq_true rfl) dX11_offByAYear_20 ⟨Nat.zero_le _, Nat.zero_le _⟩ (fun r4 H locs h4 hP hS _ _ => ?_)
      have p4_1 : rmI z 6 r4 := h4.2
      refine lv_ldcw (v := 200000) hx hb hown (hts _ wq_1319) dX11_offByAYear_23 ?_
      refine lv_icmp_le (tgt := 32) hx hb dX11_offByAYear_26 (by decide) (fun c5 => ?_) (fun c5 => ?_)
      · have t5 : r4.toInt ≤ (200000 : Int) := gl_le c5
        refine lv_bipush (v := (-2)) hx hb dX11_offByAYear_32 (by decide) ?_
        refine lv_istore_n (lv' := [(3, .int ((-2))), (0, .ref (o + 0)), (1, .int a0), (2, .int a1)]) hx hb dX11_offByAYear_34 rfl hl (by decide) rfl (fun ls hl => ?_)
        refine lv_aload_n hx hb dX11_offByAYear_35 rfl (lv_at hl 1 rfl) ?_
        refine qc_Vv2 (As := []) (rest := []) (k0 := 0) (m_firstRow l D ca o b z y J0) kc_yX11_firstRow ⟨hx, hb, hml, hown, hts⟩ wq_1336 rfl rfl ⟨Nat.le_of_ble_eq_true rfl, Nat.le_of_ble_eq_true rfl⟩ wq_all hP hK hS qw_Ai (q0 := 0) (by decide) (hgM_0 ca o _ _) rfl rfl hl.1 rfl (Nat.le_of_ble_eq_true rfl) dX11_offByAYear_36 ⟨Nat.zero_le _, Nat.zero_le _⟩ (fun z6 y6 H locs h6 hP hS _ _ => ?_)
        have J6 : qJM b z6 := h6.1
        have p6_3 : rl z6 + 1 = rwp z 6 := h6.2.2.2
        refine lv_iconst (v := 1) hx hb dX11_offByAYear_39 (by decide) ?_
        refine lv_istore (lv' := [(4, .int 1), (3, .int ((-2))), (0, .ref (o + 0)), (1, .int a0), (2, .int a1)]) hx hb dX11_offByAYear_40 hl (by decide) rfl (fun ls hl => ?_)
        have loop7 : ∀ (n : Nat) (w7_4 : Int32) (w7_3 : Int32) (z7 : Nat → Nat → Int32) (y7 : Nat → Nat → Int64), (((rl z7 : Int) : Int) < (n : Int)) → ((1 : Int) ≤ w7_4.toInt ∧ w7_4.toInt ≤ 1) → (qJM b z7) → ∀ (H : Heap) (locs : List Loc), qw_P D vwCl o 41 (qG (GM ca o) z7 y7) H → va_S (qw_A o 41) s.heap H locs → ∀ (ls : Array Slot), lv_has ls 7 [(4, .int w7_4), (3, .int w7_3), (0, .ref (o + 0)), (1, .int a0), (2, .int a1)] → W p l e (headSpec (Cond.code yX11_offByAYear cX11_offByAYear 7 (some .int) :: qtbl) ({ frames := 4, cells := 0, slots := 0, locals := 125 })).room s m (([.ref (o + 0), .int a0, .int a1] : List Value).toArray) below meth c H locs 0 0 (MQ below (va_Qi (fun r u => True ∧ qJM b u.1) (qB D vwCl (qT6 ca) o 41 (fun u : qZ => qG (GM ca o) u.1 u.2)) (qw_A o 41)) (([.ref (o + 0), .int a0, .int a1] : List Value).toArray) s 0 0 (qw_A o 41)) (F0 m 42 ls []) := by
          intro n
          induction n with
          | zero => intro w7_4 w7_3 z7 y7 hb7 hv7_4 J7; exfalso; omega
          | succ n7 ih7 =>
            intro w7_4 w7_3 z7 y7 hb7 hv7_4 J7 H locs hP hS ls hl
            refine lv_iload hx hb dX11_offByAYear_42 (lv_at hl 0 rfl) ?_
            refine lv_if_eq (tgt := 120) hx hb dX11_offByAYear_44 (by decide) (fun c8 => ?_) (fun c8 => ?_)
            · have t8 : w7_4.toInt = (0 : Int) := gl_eq c8
              exfalso; omega
            · have t8 : w7_4.toInt ≠ (0 : Int) := gl_ne c8
              refine lv_aload_n hx hb dX11_offByAYear_47 rfl (lv_at hl 2 rfl) ?_
              refine lv_iload_n hx hb dX11_offByAYear_48 rfl (lv_at hl 3 rfl) ?_
              refine qc_Vip (As := [.int a0]) (rest := []) (k0 := 1) (m_offIn l D ca o b z7 y7 J7 a0) kc_yX11_offIn ⟨hx, hb, hml, hown, hts⟩ wq_1417 rfl rfl ⟨Nat.le_of_ble_eq_true rfl, Nat.le_of_ble_eq_true rfl⟩ wq_all hP hK hS qw_Ai (q0 := 0) (by decide) (hgM_0 ca o _ _) rfl rfl hl.1 rfl (Nat.le_of_ble_eq_true rfl) dX11_offByAYear_49 ⟨Nat.zero_le _, Nat.zero_le _⟩ (fun r9 H locs h9 hP hS _ _ => ?_)
              refine lv_istore (lv' := [(5, .int r9), (4, .int w7_4), (3, .int w7_3), (0, .ref (o + 0)), (1, .int a0), (2, .int a1)]) hx hb dX11_offByAYear_52 hl (by decide) rfl (fun ls hl => ?_)
              refine lv_iload hx hb dX11_offByAYear_54 (lv_at hl 0 rfl) ?_
              refine lv_iconst (v := (-1)) hx hb dX11_offByAYear_56 (by decide) ?_
              refine lv_icmp_eq (tgt := 100) hx hb dX11_offByAYear_57 (by decide) (fun c10 => ?_) (fun c10 => ?_)
              · have t10 : r9.toInt = (-1 : Int) := gl_eq c10
                refine lv_iconst (v := 0) hx hb dX11_offByAYear_100 (by decide) ?_
                refine lv_istore (lv' := [(6, .int 0), (5, .int r9), (4, .int w7_4), (3, .int w7_3), (0, .ref (o + 0)), (1, .int a0), (2, .int a1)]) hx hb dX11_offByAYear_101 hl (by decide) rfl (fun ls hl => ?_)
                refine lv_iload hx hb dX11_offByAYear_103 (lv_at hl 0 rfl) ?_
                refine lv_if_eq (tgt := 111) hx hb dX11_offByAYear_105 (by decide) (fun _ => ?_) (fun q => absurd (by decide) q)
                refine lv_aload_n hx hb dX11_offByAYear_111 rfl (lv_at hl 4 rfl) ?_
                refine qc_Vi2 (As := []) (rest := []) (k0 := 0) (m_nextRow l D ca o b z7 y7 J7) kc_yX11_nextRow ⟨hx, hb, hml, hown, hts⟩ wq_1352 rfl rfl ⟨Nat.le_of_ble_eq_true rfl, Nat.le_of_ble_eq_true rfl⟩ wq_all hP hK hS qw_Ai (q0 := 0) (by decide) (hgM_0 ca o _ _) rfl rfl hl.1 rfl (Nat.le_of_ble_eq_true rfl) dX11_offByAYear_112 ⟨Nat.zero_le _, Nat.zero_le _⟩ (fun r11 z11 y11 H locs h11 hP hS _ _ => ?_)
                have J11 : qJM b z11 := h11.2.1
                have p11_4 : (z11 0 41).toInt = (z7 0 41).toInt := h11.2.2.2.2
                rcases h11.1 with ⟨hr11, hf11_0⟩ | hr11
                · subst hr11
                  have hg11_0 : rl z11 + 1 ≤ rl z7 := hf11_0
                  refine lv_istore (lv' := [(4, .int 1), (6, .int 0), (5, .int r9), (3, .int w7_3), (0, .ref (o + 0)), (1, .int a0), (2, .int a1)]) hx hb dX11_offByAYear_115 hl (by decide) rfl (fun ls hl => ?_)
                  refine lv_goto (tgt := 42) hx hb dX11_offByAYear_117 (by decide) ?_
                  exact ih7 1 w7_3 z11 y11 (show ((rl z11 : Int) : Int) < (n7 : Int) from by omega) ⟨by decide, by decide⟩ J11 _ _ hP hS _ (lv_sub hl [0, 3, 4, 5, 6] rfl)
                · subst hr11
                  refine lv_istore (lv' := [(4, .int 0), (6, .int 0), (5, .int r9), (3, .int w7_3), (0, .ref (o + 0)), (1, .int a0), (2, .int a1)]) hx hb dX11_offByAYear_115 hl (by decide) rfl (fun ls hl => ?_)
                  refine lv_goto (tgt := 42) hx hb dX11_offByAYear_117 (by decide) ?_
                  refine lv_iload hx hb dX11_offByAYear_42 (lv_at hl 0 rfl) ?_
                  refine lv_if_eq (tgt := 120) hx hb dX11_offByAYear_44 (by decide) (fun _ => ?_) (fun q => absurd (by decide) q)
                  refine lv_iload_n hx hb dX11_offByAYear_120 rfl (lv_at hl 6 rfl) ?_
                  refine lv_iconst (v := 1) hx hb dX11_offByAYear_121 (by decide) ?_
                  refine lv_icmp_eq (tgt := 131) hx hb dX11_offByAYear_122 (by decide) (fun c12 => ?_) (fun c12 => ?_)
                  · have t12 : a1.toInt = (1 : Int) := gl_eq c12
                    refine lv_iload_n hx hb dX11_offByAYear_131 rfl (lv_at hl 3 rfl) ?_
                    refine lv_goto (tgt := 139) hx hb dX11_offByAYear_132 (by decide) ?_
                    exact W.iret (v := w7_3) hx hb hr (fun t ht hW => ⟨⟨w7_3, (z11, y11), rfl, ⟨trivial, J11⟩, by rw [ht]; exact hP, va_K.moved hW.alike hK⟩, hS.F ht⟩) hS.2.2 dX11_offByAYear_139
                  · have t12 : a1.toInt ≠ (1 : Int) := gl_ne c12
                    refine lv_iload_n hx hb dX11_offByAYear_125 rfl (lv_at hl 3 rfl) ?_
                    refine lv_bipush (v := (-2)) hx hb dX11_offByAYear_126 (by decide) ?_
                    refine lv_icmp_ne (tgt := 135) hx hb dX11_offByAYear_128 (by decide) (fun c13 => ?_) (fun c13 => ?_)
                    · have t13 : w7_3.toInt ≠ (-2 : Int) := gl_ne c13
                      refine lv_iload_n hx hb dX11_offByAYear_135 rfl (lv_at hl 3 rfl) ?_
                      refine qc_Sip (As := [.int w7_3]) (rest := []) (k0 := 1) (m_bits l D ca o b z11 y11 J11 w7_3) kc_yX11_bits ⟨hx, hb, hml, hown, hts⟩ wq_1296 rfl rfl ⟨Nat.le_of_ble_eq_true rfl, Nat.le_of_ble_eq_true rfl⟩ wq_all hP hK hS qw_Ai rfl hl.1 rfl (Nat.le_of_ble_eq_true rfl) dX11_offByAYear_136 ⟨Nat.zero_le _, Nat.zero_le _⟩ (fun r14 H locs h14 hP hS _ _ => ?_)
                      have p14_1 : r14 = bsum w7_3 16 := h14.2
                      exact W.iret (v := r14) hx hb hr (fun t ht hW => ⟨⟨r14, (z11, y11), rfl, ⟨trivial, J11⟩, by rw [ht]; exact hP, va_K.moved hW.alike hK⟩, hS.F ht⟩) hS.2.2 dX11_offByAYear_139
                    · have t13 : w7_3.toInt = (-2 : Int) := gl_eq c13
                      refine lv_iload_n hx hb dX11_offByAYear_131 rfl (lv_at hl 3 rfl) ?_
                      refine lv_goto (tgt := 139) hx hb dX11_offByAYear_132 (by decide) ?_
                      exact W.iret (v := w7_3) hx hb hr (fun t ht hW => ⟨⟨w7_3, (z11, y11), rfl, ⟨trivial, J11⟩, by rw [ht]; exact hP, va_K.moved hW.alike hK⟩, hS.F ht⟩) hS.2.2 dX11_offByAYear_139
              · have t10 : r9.toInt ≠ (-1 : Int) := gl_ne c10
                refine lv_iload_n hx hb dX11_offByAYear_60 rfl (lv_at hl 2 rfl) ?_
                refine lv_bipush (v := (-2)) hx hb dX11_offByAYear_61 (by decide) ?_
                refine lv_icmp_eq (tgt := 96) hx hb dX11_offByAYear_63 (by decide) (fun c15 => ?_) (fun c15 => ?_)
                · have t15 : w7_3.toInt = (-2 : Int) := gl_eq c15
                  refine lv_iconst (v := 1) hx hb dX11_offByAYear_96 (by decide) ?_
                  refine lv_goto (tgt := 101) hx hb dX11_offByAYear_97 (by decide) ?_
                  refine lv_istore (lv' := [(6, .int 1), (5, .int r9), (4, .int w7_4), (3, .int w7_3), (0, .ref (o + 0)), (1, .int a0), (2, .int a1)]) hx hb dX11_offByAYear_101 hl (by decide) rfl (fun ls hl => ?_)
                  refine lv_iload hx hb dX11_offByAYear_103 (lv_at hl 0 rfl) ?_
                  refine lv_if_eq (tgt := 111) hx hb dX11_offByAYear_105 (by decide) (fun q => absurd q (by decide)) (fun _ => ?_)
                  refine lv_iload hx hb dX11_offByAYear_108 (lv_at hl 1 rfl) ?_
                  refine lv_istore_n (lv' := [(3, .int r9), (6, .int 1), (5, .int r9), (4, .int w7_4), (0, .ref (o + 0)), (1, .int a0), (2, .int a1)]) hx hb dX11_offByAYear_110 rfl hl (by decide) rfl (fun ls hl => ?_)
                  refine lv_aload_n hx hb dX11_offByAYear_111 rfl (lv_at hl 4 rfl) ?_
                  refine qc_Vi2 (As := []) (rest := []) (k0 := 0) (m_nextRow l D ca o b z7 y7 J7) kc_yX11_nextRow ⟨hx, hb, hml, hown, hts⟩ wq_1352 rfl rfl ⟨Nat.le_of_ble_eq_true rfl, Nat.le_of_ble_eq_true rfl⟩ wq_all hP hK hS qw_Ai (q0 := 0) (by decide) (hgM_0 ca o _ _) rfl rfl hl.1 rfl (Nat.le_of_ble_eq_true rfl) dX11_offByAYear_112 ⟨Nat.zero_le _, Nat.zero_le _⟩ (fun r16 z16 y16 H locs h16 hP hS _ _ => ?_)
                  have J16 : qJM b z16 := h16.2.1
                  have p16_4 : (z16 0 41).toInt = (z7 0 41).toInt := h16.2.2.2.2
                  rcases h16.1 with ⟨hr16, hf16_0⟩ | hr16
                  · subst hr16
                    have hg16_0 : rl z16 + 1 ≤ rl z7 := hf16_0
                    refine lv_istore (lv' := [(4, .int 1), (3, .int r9), (6, .int 1), (5, .int r9), (0, .ref (o + 0)), (1, .int a0), (2, .int a1)]) hx hb dX11_offByAYear_115 hl (by decide) rfl (fun ls hl => ?_)
                    refine lv_goto (tgt := 42) hx hb dX11_offByAYear_117 (by decide) ?_
                    exact ih7 1 r9 z16 y16 (show ((rl z16 : Int) : Int) < (n7 : Int) from by omega) ⟨by decide, by decide⟩ J16 _ _ hP hS _ (lv_sub hl [0, 1, 4, 5, 6] rfl)
                  · subst hr16
                    refine lv_istore (lv' := [(4, .int 0), (3, .int r9), (6, .int 1), (5, .int r9), (0, .ref (o + 0)), (1, .int a0), (2, .int a1)]) hx hb dX11_offByAYear_115 hl (by decide) rfl (fun ls hl => ?_)
                    refine lv_goto (tgt := 42) hx hb dX11_offByAYear_117 (by decide) ?_
                    refine lv_iload hx hb dX11_offByAYear_42 (lv_at hl 0 rfl) ?_
                    refine lv_if_eq (tgt := 120) hx hb dX11_offByAYear_44 (by decide) (fun _ => ?_) (fun q => absurd (by decide) q)
                    refine lv_iload_n hx hb dX11_offByAYear_120 rfl (lv_at hl 6 rfl) ?_
                    refine lv_iconst (v := 1) hx hb dX11_offByAYear_121 (by decide) ?_
                    refine lv_icmp_eq (tgt := 131) hx hb dX11_offByAYear_122 (by decide) (fun c17 => ?_) (fun c17 => ?_)
                    · have t17 : a1.toInt = (1 : Int) := gl_eq c17
                      refine lv_iload_n hx hb dX11_offByAYear_131 rfl (lv_at hl 1 rfl) ?_
                      refine lv_goto (tgt := 139) hx hb dX11_offByAYear_132 (by decide) ?_
                      exact W.iret (v := r9) hx hb hr (fun t ht hW => ⟨⟨r9, (z16, y16), rfl, ⟨trivial, J16⟩, by rw [ht]; exact hP, va_K.moved hW.alike hK⟩, hS.F ht⟩) hS.2.2 dX11_offByAYear_139
                    · have t17 : a1.toInt ≠ (1 : Int) := gl_ne c17
                      refine lv_iload_n hx hb dX11_offByAYear_125 rfl (lv_at hl 1 rfl) ?_
                      refine lv_bipush (v := (-2)) hx hb dX11_offByAYear_126 (by decide) ?_
                      refine lv_icmp_ne (tgt := 135) hx hb dX11_offByAYear_128 (by decide) (fun c18 => ?_) (fun c18 => ?_)
                      · have t18 : r9.toInt ≠ (-2 : Int) := gl_ne c18
                        refine lv_iload_n hx hb dX11_offByAYear_135 rfl (lv_at hl 1 rfl) ?_
                        refine qc_Sip (As := [.int r9]) (rest := []) (k0 := 1) (m_bits l D ca o b z16 y16 J16 r9) kc_yX11_bits ⟨hx, hb, hml, hown, hts⟩ wq_1296 rfl rfl ⟨Nat.le_of_ble_eq_true rfl, Nat.le_of_ble_eq_true rfl⟩ wq_all hP hK hS qw_Ai rfl hl.1 rfl (Nat.le_of_ble_eq_true rfl) dX11_offByAYear_136 ⟨Nat.zero_le _, Nat.zero_le _⟩ (fun r19 H locs h19 hP hS _ _ => ?_)
                        have p19_1 : r19 = bsum r9 16 := h19.2
                        exact W.iret (v := r19) hx hb hr (fun t ht hW => ⟨⟨r19, (z16, y16), rfl, ⟨trivial, J16⟩, by rw [ht]; exact hP, va_K.moved hW.alike hK⟩, hS.F ht⟩) hS.2.2 dX11_offByAYear_139
                      · have t18 : r9.toInt = (-2 : Int) := gl_eq c18
                        refine lv_iload_n hx hb dX11_offByAYear_131 rfl (lv_at hl 1 rfl) ?_
                        refine lv_goto (tgt := 139) hx hb dX11_offByAYear_132 (by decide) ?_
                        exact W.iret (v := r9) hx hb hr (fun t ht hW => ⟨⟨r9, (z16, y16), rfl, ⟨trivial, J16⟩, by rw [ht]; exact hP, va_K.moved hW.alike hK⟩, hS.F ht⟩) hS.2.2 dX11_offByAYear_139
                · have t15 : w7_3.toInt ≠ (-2 : Int) := gl_ne c15
                  refine lv_iload hx hb dX11_offByAYear_66 (lv_at hl 0 rfl) ?_
                  refine qc_Sip (As := [.int r9]) (rest := []) (k0 := 1) (m_bits l D ca o b z7 y7 J7 r9) kc_yX11_bits ⟨hx, hb, hml, hown, hts⟩ wq_1296 rfl rfl ⟨Nat.le_of_ble_eq_true rfl, Nat.le_of_ble_eq_true rfl⟩ wq_all hP hK hS qw_Ai rfl hl.1 rfl (Nat.le_of_ble_eq_true rfl) dX11_offByAYear_68 ⟨Nat.zero_le _, Nat.zero_le _⟩ (fun r20 H locs h20 hP hS _ _ => ?_)
                  have p20_1 : r20 = bsum r9 16 := h20.2
                  refine lv_iload_n hx hb dX11_offByAYear_71 rfl (lv_at hl 2 rfl) ?_
                  refine qc_Sip (As := [.int w7_3]) (rest := [.int r20]) (k0 := 1) (m_bits l D ca o b z7 y7 J7 w7_3) kc_yX11_bits ⟨hx, hb, hml, hown, hts⟩ wq_1296 rfl rfl ⟨Nat.le_of_ble_eq_true rfl, Nat.le_of_ble_eq_true rfl⟩ wq_all hP hK hS qw_Ai rfl hl.1 rfl (Nat.le_of_ble_eq_true rfl) dX11_offByAYear_72 ⟨Nat.zero_le _, Nat.zero_le _⟩ (fun r21 H locs h21 hP hS _ _ => ?_)
                  have p21_1 : r21 = bsum w7_3 16 := h21.2
                  refine lv_icmp_lt (tgt := 96) hx hb dX11_offByAYear_75 (by decide) (fun c22 => ?_) (fun c22 => ?_)
                  · have t22 : r20.toInt < r21.toInt := gl_lt c22
                    refine lv_iconst (v := 1) hx hb dX11_offByAYear_96 (by decide) ?_
                    refine lv_goto (tgt := 101) hx hb dX11_offByAYear_97 (by decide) ?_
                    refine lv_istore (lv' := [(6, .int 1), (5, .int r9), (4, .int w7_4), (3, .int w7_3), (0, .ref (o + 0)), (1, .int a0), (2, .int a1)]) hx hb dX11_offByAYear_101 hl (by decide) rfl (fun ls hl => ?_)
                    refine lv_iload hx hb dX11_offByAYear_103 (lv_at hl 0 rfl) ?_
                    refine lv_if_eq (tgt := 111) hx hb dX11_offByAYear_105 (by decide) (fun q => absurd q (by decide)) (fun _ => ?_)
                    refine lv_iload hx hb dX11_offByAYear_108 (lv_at hl 1 rfl) ?_
                    refine lv_istore_n (lv' := [(3, .int r9), (6, .int 1), (5, .int r9), (4, .int w7_4), (0, .ref (o + 0)), (1, .int a0), (2, .int a1)]) hx hb dX11_offByAYear_110 rfl hl (by decide) rfl (fun ls hl => ?_)
                    refine lv_aload_n hx hb dX11_offByAYear_111 rfl (lv_at hl 4 rfl) ?_
                    refine qc_Vi2 (As := []) (rest := []) (k0 := 0) (m_nextRow l D ca o b z7 y7 J7) kc_yX11_nextRow ⟨hx, hb, hml, hown, hts⟩ wq_1352 rfl rfl ⟨Nat.le_of_ble_eq_true rfl, Nat.le_of_ble_eq_true rfl⟩ wq_all hP hK hS qw_Ai (q0 := 0) (by decide) (hgM_0 ca o _ _) rfl rfl hl.1 rfl (Nat.le_of_ble_eq_true rfl) dX11_offByAYear_112 ⟨Nat.zero_le _, Nat.zero_le _⟩ (fun r23 z23 y23 H locs h23 hP hS _ _ => ?_)
                    have J23 : qJM b z23 := h23.2.1
                    have p23_4 : (z23 0 41).toInt = (z7 0 41).toInt := h23.2.2.2.2
                    rcases h23.1 with ⟨hr23, hf23_0⟩ | hr23
                    · subst hr23
                      have hg23_0 : rl z23 + 1 ≤ rl z7 := hf23_0
                      refine lv_istore (lv' := [(4, .int 1), (3, .int r9), (6, .int 1), (5, .int r9), (0, .ref (o + 0)), (1, .int a0), (2, .int a1)]) hx hb dX11_offByAYear_115 hl (by decide) rfl (fun ls hl => ?_)
                      refine lv_goto (tgt := 42) hx hb dX11_offByAYear_117 (by decide) ?_
                      exact ih7 1 r9 z23 y23 (show ((rl z23 : Int) : Int) < (n7 : Int) from by omega) ⟨by decide, by decide⟩ J23 _ _ hP hS _ (lv_sub hl [0, 1, 4, 5, 6] rfl)
                    · subst hr23
                      refine lv_istore (lv' := [(4, .int 0), (3, .int r9), (6, .int 1), (5, .int r9), (0, .ref (o + 0)), (1, .int a0), (2, .int a1)]) hx hb dX11_offByAYear_115 hl (by decide) rfl (fun ls hl => ?_)
                      refine lv_goto (tgt := 42) hx hb dX11_offByAYear_117 (by decide) ?_
                      refine lv_iload hx hb dX11_offByAYear_42 (lv_at hl 0 rfl) ?_
                      refine lv_if_eq (tgt := 120) hx hb dX11_offByAYear_44 (by decide) (fun _ => ?_) (fun q => absurd (by decide) q)
                      refine lv_iload_n hx hb dX11_offByAYear_120 rfl (lv_at hl 6 rfl) ?_
                      refine lv_iconst (v := 1) hx hb dX11_offByAYear_121 (by decide) ?_
                      refine lv_icmp_eq (tgt := 131) hx hb dX11_offByAYear_122 (by decide) (fun c24 => ?_) (fun c24 => ?_)
                      · have t24 : a1.toInt = (1 : Int) := gl_eq c24
                        refine lv_iload_n hx hb dX11_offByAYear_131 rfl (lv_at hl 1 rfl) ?_
                        refine lv_goto (tgt := 139) hx hb dX11_offByAYear_132 (by decide) ?_
                        exact W.iret (v := r9) hx hb hr (fun t ht hW => ⟨⟨r9, (z23, y23), rfl, ⟨trivial, J23⟩, by rw [ht]; exact hP, va_K.moved hW.alike hK⟩, hS.F ht⟩) hS.2.2 dX11_offByAYear_139
                      · have t24 : a1.toInt ≠ (1 : Int) := gl_ne c24
                        refine lv_iload_n hx hb dX11_offByAYear_125 rfl (lv_at hl 1 rfl) ?_
                        refine lv_bipush (v := (-2)) hx hb dX11_offByAYear_126 (by decide) ?_
                        refine lv_icmp_ne (tgt := 135) hx hb dX11_offByAYear_128 (by decide) (fun c25 => ?_) (fun c25 => ?_)
                        · have t25 : r9.toInt ≠ (-2 : Int) := gl_ne c25
                          refine lv_iload_n hx hb dX11_offByAYear_135 rfl (lv_at hl 1 rfl) ?_
                          refine qc_Sip (As := [.int r9]) (rest := []) (k0 := 1) (m_bits l D ca o b z23 y23 J23 r9) kc_yX11_bits ⟨hx, hb, hml, hown, hts⟩ wq_1296 rfl rfl ⟨Nat.le_of_ble_eq_true rfl, Nat.le_of_ble_eq_true rfl⟩ wq_all hP hK hS qw_Ai rfl hl.1 rfl (Nat.le_of_ble_eq_true rfl) dX11_offByAYear_136 ⟨Nat.zero_le _, Nat.zero_le _⟩ (fun r26 H locs h26 hP hS _ _ => ?_)
                          have p26_1 : r26 = bsum r9 16 := h26.2
                          exact W.iret (v := r26) hx hb hr (fun t ht hW => ⟨⟨r26, (z23, y23), rfl, ⟨trivial, J23⟩, by rw [ht]; exact hP, va_K.moved hW.alike hK⟩, hS.F ht⟩) hS.2.2 dX11_offByAYear_139
                        · have t25 : r9.toInt = (-2 : Int) := gl_eq c25
                          refine lv_iload_n hx hb dX11_offByAYear_131 rfl (lv_at hl 1 rfl) ?_
                          refine lv_goto (tgt := 139) hx hb dX11_offByAYear_132 (by decide) ?_
                          exact W.iret (v := r9) hx hb hr (fun t ht hW => ⟨⟨r9, (z23, y23), rfl, ⟨trivial, J23⟩, by rw [ht]; exact hP, va_K.moved hW.alike hK⟩, hS.F ht⟩) hS.2.2 dX11_offByAYear_139
                  · have t22 : r20.toInt ≥ r21.toInt := gl_nlt c22
                    refine lv_iload hx hb dX11_offByAYear_78 (lv_at hl 0 rfl) ?_
                    refine qc_Sip (As := [.int r9]) (rest := []) (k0 := 1) (m_bits l D ca o b z7 y7 J7 r9) kc_yX11_bits ⟨hx, hb, hml, hown, hts⟩ wq_1296 rfl rfl ⟨Nat.le_of_ble_eq_true rfl, Nat.le_of_ble_eq_true rfl⟩ wq_all hP hK hS qw_Ai rfl hl.1 rfl (Nat.le_of_ble_eq_true rfl) dX11_offByAYear_80 ⟨Nat.zero_le _, Nat.zero_le _⟩ (fun r27 H locs h27 hP hS _ _ => ?_)
                    have p27_1 : r27 = bsum r9 16 := h27.2
                    refine lv_iload_n hx hb dX11_offByAYear_83 rfl (lv_at hl 2 rfl) ?_
                    refine qc_Sip (As := [.int w7_3]) (rest := [.int r27]) (k0 := 1) (m_bits l D ca o b z7 y7 J7 w7_3) kc_yX11_bits ⟨hx, hb, hml, hown, hts⟩ wq_1296 rfl rfl ⟨Nat.le_of_ble_eq_true rfl, Nat.le_of_ble_eq_true rfl⟩ wq_all hP hK hS qw_Ai rfl hl.1 rfl (Nat.le_of_ble_eq_true rfl) dX11_offByAYear_84 ⟨Nat.zero_le _, Nat.zero_le _⟩ (fun r28 H locs h28 hP hS _ _ => ?_)
                    have p28_1 : r28 = bsum w7_3 16 := h28.2
                    refine lv_icmp_ne (tgt := 100) hx hb dX11_offByAYear_87 (by decide) (fun c29 => ?_) (fun c29 => ?_)
                    · have t29 : r27.toInt ≠ r28.toInt := gl_ne c29
                      refine lv_iconst (v := 0) hx hb dX11_offByAYear_100 (by decide) ?_
                      refine lv_istore (lv' := [(6, .int 0), (5, .int r9), (4, .int w7_4), (3, .int w7_3), (0, .ref (o + 0)), (1, .int a0), (2, .int a1)]) hx hb dX11_offByAYear_101 hl (by decide) rfl (fun ls hl => ?_)
                      refine lv_iload hx hb dX11_offByAYear_103 (lv_at hl 0 rfl) ?_
                      refine lv_if_eq (tgt := 111) hx hb dX11_offByAYear_105 (by decide) (fun _ => ?_) (fun q => absurd (by decide) q)
                      refine lv_aload_n hx hb dX11_offByAYear_111 rfl (lv_at hl 4 rfl) ?_
                      refine qc_Vi2 (As := []) (rest := []) (k0 := 0) (m_nextRow l D ca o b z7 y7 J7) kc_yX11_nextRow ⟨hx, hb, hml, hown, hts⟩ wq_1352 rfl rfl ⟨Nat.le_of_ble_eq_true rfl, Nat.le_of_ble_eq_true rfl⟩ wq_all hP hK hS qw_Ai (q0 := 0) (by decide) (hgM_0 ca o _ _) rfl rfl hl.1 rfl (Nat.le_of_ble_eq_true rfl) dX11_offByAYear_112 ⟨Nat.zero_le _, Nat.zero_le _⟩ (fun r30 z30 y30 H locs h30 hP hS _ _ => ?_)
                      have J30 : qJM b z30 := h30.2.1
                      have p30_4 : (z30 0 41).toInt = (z7 0 41).toInt := h30.2.2.2.2
                      rcases h30.1 with ⟨hr30, hf30_0⟩ | hr30
                      · subst hr30
                        have hg30_0 : rl z30 + 1 ≤ rl z7 := hf30_0
                        refine lv_istore (lv' := [(4, .int 1), (6, .int 0), (5, .int r9), (3, .int w7_3), (0, .ref (o + 0)), (1, .int a0), (2, .int a1)]) hx hb dX11_offByAYear_115 hl (by decide) rfl (fun ls hl => ?_)
                        refine lv_goto (tgt := 42) hx hb dX11_offByAYear_117 (by decide) ?_
                        exact ih7 1 w7_3 z30 y30 (show ((rl z30 : Int) : Int) < (n7 : Int) from by omega) ⟨by decide, by decide⟩ J30 _ _ hP hS _ (lv_sub hl [0, 3, 4, 5, 6] rfl)
                      · subst hr30
                        refine lv_istore (lv' := [(4, .int 0), (6, .int 0), (5, .int r9), (3, .int w7_3), (0, .ref (o + 0)), (1, .int a0), (2, .int a1)]) hx hb dX11_offByAYear_115 hl (by decide) rfl (fun ls hl => ?_)
                        refine lv_goto (tgt := 42) hx hb dX11_offByAYear_117 (by decide) ?_
                        refine lv_iload hx hb dX11_offByAYear_42 (lv_at hl 0 rfl) ?_
                        refine lv_if_eq (tgt := 120) hx hb dX11_offByAYear_44 (by decide) (fun _ => ?_) (fun q => absurd (by decide) q)
                        refine lv_iload_n hx hb dX11_offByAYear_120 rfl (lv_at hl 6 rfl) ?_
                        refine lv_iconst (v := 1) hx hb dX11_offByAYear_121 (by decide) ?_
                        refine lv_icmp_eq (tgt := 131) hx hb dX11_offByAYear_122 (by decide) (fun c31 => ?_) (fun c31 => ?_)
                        · have t31 : a1.toInt = (1 : Int) := gl_eq c31
                          refine lv_iload_n hx hb dX11_offByAYear_131 rfl (lv_at hl 3 rfl) ?_
                          refine lv_goto (tgt := 139) hx hb dX11_offByAYear_132 (by decide) ?_
                          exact W.iret (v := w7_3) hx hb hr (fun t ht hW => ⟨⟨w7_3, (z30, y30), rfl, ⟨trivial, J30⟩, by rw [ht]; exact hP, va_K.moved hW.alike hK⟩, hS.F ht⟩) hS.2.2 dX11_offByAYear_139
                        · have t31 : a1.toInt ≠ (1 : Int) := gl_ne c31
                          refine lv_iload_n hx hb dX11_offByAYear_125 rfl (lv_at hl 3 rfl) ?_
                          refine lv_bipush (v := (-2)) hx hb dX11_offByAYear_126 (by decide) ?_
                          refine lv_icmp_ne (tgt := 135) hx hb dX11_offByAYear_128 (by decide) (fun c32 => ?_) (fun c32 => ?_)
                          · have t32 : w7_3.toInt ≠ (-2 : Int) := gl_ne c32
                            refine lv_iload_n hx hb dX11_offByAYear_135 rfl (lv_at hl 3 rfl) ?_
                            refine qc_Sip (As := [.int w7_3]) (rest := []) (k0 := 1) (m_bits l D ca o b z30 y30 J30 w7_3) kc_yX11_bits ⟨hx, hb, hml, hown, hts⟩ wq_1296 rfl rfl ⟨Nat.le_of_ble_eq_true rfl, Nat.le_of_ble_eq_true rfl⟩ wq_all hP hK hS qw_Ai rfl hl.1 rfl (Nat.le_of_ble_eq_true rfl) dX11_offByAYear_136 ⟨Nat.zero_le _, Nat.zero_le _⟩ (fun r33 H locs h33 hP hS _ _ => ?_)
                            have p33_1 : r33 = bsum w7_3 16 := h33.2
                            exact W.iret (v := r33) hx hb hr (fun t ht hW => ⟨⟨r33, (z30, y30), rfl, ⟨trivial, J30⟩, by rw [ht]; exact hP, va_K.moved hW.alike hK⟩, hS.F ht⟩) hS.2.2 dX11_offByAYear_139
                          · have t32 : w7_3.toInt = (-2 : Int) := gl_eq c32
                            refine lv_iload_n hx hb dX11_offByAYear_131 rfl (lv_at hl 3 rfl) ?_
                            refine lv_goto (tgt := 139) hx hb dX11_offByAYear_132 (by decide) ?_
                            exact W.iret (v := w7_3) hx hb hr (fun t ht hW => ⟨⟨w7_3, (z30, y30), rfl, ⟨trivial, J30⟩, by rw [ht]; exact hP, va_K.moved hW.alike hK⟩, hS.F ht⟩) hS.2.2 dX11_offByAYear_139
                    · have t29 : r27.toInt = r28.toInt := gl_eq c29
                      refine lv_iload hx hb dX11_offByAYear_90 (lv_at hl 0 rfl) ?_
                      refine lv_iload_n hx hb dX11_offByAYear_92 rfl (lv_at hl 2 rfl) ?_
                      refine lv_icmp_ge (tgt := 100) hx hb dX11_offByAYear_93 (by decide) (fun c34 => ?_) (fun c34 => ?_)
                      · have t34 : r9.toInt ≥ w7_3.toInt := gl_le c34
                        refine lv_iconst (v := 0) hx hb dX11_offByAYear_100 (by decide) ?_
                        refine lv_istore (lv' := [(6, .int 0), (5, .int r9), (4, .int w7_4), (3, .int w7_3), (0, .ref (o + 0)), (1, .int a0), (2, .int a1)]) hx hb dX11_offByAYear_101 hl (by decide) rfl (fun ls hl => ?_)
                        refine lv_iload hx hb dX11_offByAYear_103 (lv_at hl 0 rfl) ?_
                        refine lv_if_eq (tgt := 111) hx hb dX11_offByAYear_105 (by decide) (fun _ => ?_) (fun q => absurd (by decide) q)
                        refine lv_aload_n hx hb dX11_offByAYear_111 rfl (lv_at hl 4 rfl) ?_
                        refine qc_Vi2 (As := []) (rest := []) (k0 := 0) (m_nextRow l D ca o b z7 y7 J7) kc_yX11_nextRow ⟨hx, hb, hml, hown, hts⟩ wq_1352 rfl rfl ⟨Nat.le_of_ble_eq_true rfl, Nat.le_of_ble_eq_true rfl⟩ wq_all hP hK hS qw_Ai (q0 := 0) (by decide) (hgM_0 ca o _ _) rfl rfl hl.1 rfl (Nat.le_of_ble_eq_true rfl) dX11_offByAYear_112 ⟨Nat.zero_le _, Nat.zero_le _⟩ (fun r35 z35 y35 H locs h35 hP hS _ _ => ?_)
                        have J35 : qJM b z35 := h35.2.1
                        have p35_4 : (z35 0 41).toInt = (z7 0 41).toInt := h35.2.2.2.2
                        rcases h35.1 with ⟨hr35, hf35_0⟩ | hr35
                        · subst hr35
                          have hg35_0 : rl z35 + 1 ≤ rl z7 := hf35_0
                          refine lv_istore (lv' := [(4, .int 1), (6, .int 0), (5, .int r9), (3, .int w7_3), (0, .ref (o + 0)), (1, .int a0), (2, .int a1)]) hx hb dX11_offByAYear_115 hl (by decide) rfl (fun ls hl => ?_)
                          refine lv_goto (tgt := 42) hx hb dX11_offByAYear_117 (by decide) ?_
                          exact ih7 1 w7_3 z35 y35 (show ((rl z35 : Int) : Int) < (n7 : Int) from by omega) ⟨by decide, by decide⟩ J35 _ _ hP hS _ (lv_sub hl [0, 3, 4, 5, 6] rfl)
                        · subst hr35
                          refine lv_istore (lv' := [(4, .int 0), (6, .int 0), (5, .int r9), (3, .int w7_3), (0, .ref (o + 0)), (1, .int a0), (2, .int a1)]) hx hb dX11_offByAYear_115 hl (by decide) rfl (fun ls hl => ?_)
                          refine lv_goto (tgt := 42) hx hb dX11_offByAYear_117 (by decide) ?_
                          refine lv_iload hx hb dX11_offByAYear_42 (lv_at hl 0 rfl) ?_
                          refine lv_if_eq (tgt := 120) hx hb dX11_offByAYear_44 (by decide) (fun _ => ?_) (fun q => absurd (by decide) q)
                          refine lv_iload_n hx hb dX11_offByAYear_120 rfl (lv_at hl 6 rfl) ?_
                          refine lv_iconst (v := 1) hx hb dX11_offByAYear_121 (by decide) ?_
                          refine lv_icmp_eq (tgt := 131) hx hb dX11_offByAYear_122 (by decide) (fun c36 => ?_) (fun c36 => ?_)
                          · have t36 : a1.toInt = (1 : Int) := gl_eq c36
                            refine lv_iload_n hx hb dX11_offByAYear_131 rfl (lv_at hl 3 rfl) ?_
                            refine lv_goto (tgt := 139) hx hb dX11_offByAYear_132 (by decide) ?_
                            exact W.iret (v := w7_3) hx hb hr (fun t ht hW => ⟨⟨w7_3, (z35, y35), rfl, ⟨trivial, J35⟩, by rw [ht]; exact hP, va_K.moved hW.alike hK⟩, hS.F ht⟩) hS.2.2 dX11_offByAYear_139
                          · have t36 : a1.toInt ≠ (1 : Int) := gl_ne c36
                            refine lv_iload_n hx hb dX11_offByAYear_125 rfl (lv_at hl 3 rfl) ?_
                            refine lv_bipush (v := (-2)) hx hb dX11_offByAYear_126 (by decide) ?_
                            refine lv_icmp_ne (tgt := 135) hx hb dX11_offByAYear_128 (by decide) (fun c37 => ?_) (fun c37 => ?_)
                            · have t37 : w7_3.toInt ≠ (-2 : Int) := gl_ne c37
                              refine lv_iload_n hx hb dX11_offByAYear_135 rfl (lv_at hl 3 rfl) ?_
                              refine qc_Sip (As := [.int w7_3]) (rest := []) (k0 := 1) (m_bits l D ca o b z35 y35 J35 w7_3) kc_yX11_bits ⟨hx, hb, hml, hown, hts⟩ wq_1296 rfl rfl ⟨Nat.le_of_ble_eq_true rfl, Nat.le_of_ble_eq_true rfl⟩ wq_all hP hK hS qw_Ai rfl hl.1 rfl (Nat.le_of_ble_eq_true rfl) dX11_offByAYear_136 ⟨Nat.zero_le _, Nat.zero_le _⟩ (fun r38 H locs h38 hP hS _ _ => ?_)
                              have p38_1 : r38 = bsum w7_3 16 := h38.2
                              exact W.iret (v := r38) hx hb hr (fun t ht hW => ⟨⟨r38, (z35, y35), rfl, ⟨trivial, J35⟩, by rw [ht]; exact hP, va_K.moved hW.alike hK⟩, hS.F ht⟩) hS.2.2 dX11_offByAYear_139
                            · have t37 : w7_3.toInt = (-2 : Int) := gl_eq c37
                              refine lv_iload_n hx hb dX11_offByAYear_131 rfl (lv_at hl 3 rfl) ?_
                              refine lv_goto (tgt := 139) hx hb dX11_offByAYear_132 (by decide) ?_
                              exact W.iret (v := w7_3) hx hb hr (fun t ht hW => ⟨⟨w7_3, (z35, y35), rfl, ⟨trivial, J35⟩, by rw [ht]; exact hP, va_K.moved hW.alike hK⟩, hS.F ht⟩) hS.2.2 dX11_offByAYear_139
                      · have t34 : r9.toInt < w7_3.toInt := gl_nle c34
                        refine lv_iconst (v := 1) hx hb dX11_offByAYear_96 (by decide) ?_
                        refine lv_goto (tgt := 101) hx hb dX11_offByAYear_97 (by decide) ?_
                        refine lv_istore (lv' := [(6, .int 1), (5, .int r9), (4, .int w7_4), (3, .int w7_3), (0, .ref (o + 0)), (1, .int a0), (2, .int a1)]) hx hb dX11_offByAYear_101 hl (by decide) rfl (fun ls hl => ?_)
                        refine lv_iload hx hb dX11_offByAYear_103 (lv_at hl 0 rfl) ?_
                        refine lv_if_eq (tgt := 111) hx hb dX11_offByAYear_105 (by decide) (fun q => absurd q (by decide)) (fun _ => ?_)
                        refine lv_iload hx hb dX11_offByAYear_108 (lv_at hl 1 rfl) ?_
                        refine lv_istore_n (lv' := [(3, .int r9), (6, .int 1), (5, .int r9), (4, .int w7_4), (0, .ref (o + 0)), (1, .int a0), (2, .int a1)]) hx hb dX11_offByAYear_110 rfl hl (by decide) rfl (fun ls hl => ?_)
                        refine lv_aload_n hx hb dX11_offByAYear_111 rfl (lv_at hl 4 rfl) ?_
                        refine qc_Vi2 (As := []) (rest := []) (k0 := 0) (m_nextRow l D ca o b z7 y7 J7) kc_yX11_nextRow ⟨hx, hb, hml, hown, hts⟩ wq_1352 rfl rfl ⟨Nat.le_of_ble_eq_true rfl, Nat.le_of_ble_eq_true rfl⟩ wq_all hP hK hS qw_Ai (q0 := 0) (by decide) (hgM_0 ca o _ _) rfl rfl hl.1 rfl (Nat.le_of_ble_eq_true rfl) dX11_offByAYear_112 ⟨Nat.zero_le _, Nat.zero_le _⟩ (fun r39 z39 y39 H locs h39 hP hS _ _ => ?_)
                        have J39 : qJM b z39 := h39.2.1
                        have p39_4 : (z39 0 41).toInt = (z7 0 41).toInt := h39.2.2.2.2
                        rcases h39.1 with ⟨hr39, hf39_0⟩ | hr39
                        · subst hr39
                          have hg39_0 : rl z39 + 1 ≤ rl z7 := hf39_0
                          refine lv_istore (lv' := [(4, .int 1), (3, .int r9), (6, .int 1), (5, .int r9), (0, .ref (o + 0)), (1, .int a0), (2, .int a1)]) hx hb dX11_offByAYear_115 hl (by decide) rfl (fun ls hl => ?_)
                          refine lv_goto (tgt := 42) hx hb dX11_offByAYear_117 (by decide) ?_
                          exact ih7 1 r9 z39 y39 (show ((rl z39 : Int) : Int) < (n7 : Int) from by omega) ⟨by decide, by decide⟩ J39 _ _ hP hS _ (lv_sub hl [0, 1, 4, 5, 6] rfl)
                        · subst hr39
                          refine lv_istore (lv' := [(4, .int 0), (3, .int r9), (6, .int 1), (5, .int r9), (0, .ref (o + 0)), (1, .int a0), (2, .int a1)]) hx hb dX11_offByAYear_115 hl (by decide) rfl (fun ls hl => ?_)
                          refine lv_goto (tgt := 42) hx hb dX11_offByAYear_117 (by decide) ?_
                          refine lv_iload hx hb dX11_offByAYear_42 (lv_at hl 0 rfl) ?_
                          refine lv_if_eq (tgt := 120) hx hb dX11_offByAYear_44 (by decide) (fun _ => ?_) (fun q => absurd (by decide) q)
                          refine lv_iload_n hx hb dX11_offByAYear_120 rfl (lv_at hl 6 rfl) ?_
                          refine lv_iconst (v := 1) hx hb dX11_offByAYear_121 (by decide) ?_
                          refine lv_icmp_eq (tgt := 131) hx hb dX11_offByAYear_122 (by decide) (fun c40 => ?_) (fun c40 => ?_)
                          · have t40 : a1.toInt = (1 : Int) := gl_eq c40
                            refine lv_iload_n hx hb dX11_offByAYear_131 rfl (lv_at hl 1 rfl) ?_
                            refine lv_goto (tgt := 139) hx hb dX11_offByAYear_132 (by decide) ?_
                            exact W.iret (v := r9) hx hb hr (fun t ht hW => ⟨⟨r9, (z39, y39), rfl, ⟨trivial, J39⟩, by rw [ht]; exact hP, va_K.moved hW.alike hK⟩, hS.F ht⟩) hS.2.2 dX11_offByAYear_139
                          · have t40 : a1.toInt ≠ (1 : Int) := gl_ne c40
                            refine lv_iload_n hx hb dX11_offByAYear_125 rfl (lv_at hl 1 rfl) ?_
                            refine lv_bipush (v := (-2)) hx hb dX11_offByAYear_126 (by decide) ?_
                            refine lv_icmp_ne (tgt := 135) hx hb dX11_offByAYear_128 (by decide) (fun c41 => ?_) (fun c41 => ?_)
                            · have t41 : r9.toInt ≠ (-2 : Int) := gl_ne c41
                              refine lv_iload_n hx hb dX11_offByAYear_135 rfl (lv_at hl 1 rfl) ?_
                              refine qc_Sip (As := [.int r9]) (rest := []) (k0 := 1) (m_bits l D ca o b z39 y39 J39 r9) kc_yX11_bits ⟨hx, hb, hml, hown, hts⟩ wq_1296 rfl rfl ⟨Nat.le_of_ble_eq_true rfl, Nat.le_of_ble_eq_true rfl⟩ wq_all hP hK hS qw_Ai rfl hl.1 rfl (Nat.le_of_ble_eq_true rfl) dX11_offByAYear_136 ⟨Nat.zero_le _, Nat.zero_le _⟩ (fun r42 H locs h42 hP hS _ _ => ?_)
                              have p42_1 : r42 = bsum r9 16 := h42.2
                              exact W.iret (v := r42) hx hb hr (fun t ht hW => ⟨⟨r42, (z39, y39), rfl, ⟨trivial, J39⟩, by rw [ht]; exact hP, va_K.moved hW.alike hK⟩, hS.F ht⟩) hS.2.2 dX11_offByAYear_139
                            · have t41 : r9.toInt = (-2 : Int) := gl_eq c41
                              refine lv_iload_n hx hb dX11_offByAYear_131 rfl (lv_at hl 1 rfl) ?_
                              refine lv_goto (tgt := 139) hx hb dX11_offByAYear_132 (by decide) ?_
                              exact W.iret (v := r9) hx hb hr (fun t ht hW => ⟨⟨r9, (z39, y39), rfl, ⟨trivial, J39⟩, by rw [ht]; exact hP, va_K.moved hW.alike hK⟩, hS.F ht⟩) hS.2.2 dX11_offByAYear_139
        exact loop7 (rl z6 + 1) 1 (-2) z6 y6 (show ((rl z6 : Int) : Int) < (((rl z6 + 1) : Nat) : Int) from by omega) ⟨by decide, by decide⟩ J6 _ _ hP hS _ (lv_sub hl [0, 1, 2, 3, 4] rfl)
      · have t5 : r4.toInt > (200000 : Int) := gl_nle c5
        refine lv_bipush (v := (-3)) hx hb dX11_offByAYear_29 (by decide) ?_
        exact W.iret (v := (-3)) hx hb hr (fun t ht hW => ⟨⟨(-3), (z, y), rfl, ⟨trivial, J0⟩, by rw [ht]; exact hP, va_K.moved hW.alike hK⟩, hS.F ht⟩) hS.2.2 dX11_offByAYear_31
    · subst hr3
      have hg3_0 : ¬ ((0 : Int) ≤ a1.toInt ∧ a1.toInt ≤ (1 : Int)) := hf3_0
      refine lv_if_ne (tgt := 19) hx hb dX11_offByAYear_14 (by decide) (fun q => absurd q (by decide)) (fun _ => ?_)
      refine lv_iconst (v := (-1)) hx hb dX11_offByAYear_17 (by decide) ?_
      exact W.iret (v := (-1)) hx hb hr (fun t ht hW => ⟨⟨(-1), (z, y), rfl, ⟨trivial, J0⟩, by rw [ht]; exact hP, va_K.moved hW.alike hK⟩, hS.F ht⟩) hS.2.2 dX11_offByAYear_18
