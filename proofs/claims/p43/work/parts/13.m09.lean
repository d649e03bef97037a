set_option maxRecDepth 100000 in
set_option maxHeartbeats 8000000 in
theorem m_keep (l : Launch) (D : va_G) (ca : Nat → ClassId) (o : Nat) (b z : Nat → Nat → Int32) (y : Nat → Nat → Int64) (J0 : qJM b z)   : qM l yX11_keep cX11_keep 1 (some .int) 4 127 (qPre D vwCl (qT6 ca) o 41 (qG (GM ca o) z y) [.ref (o + 0)]) (va_Qi (fun r u => True ∧ qJM u.1 u.1 ∧ (qK kM (kpF (qu z 0 61 1) 249) u.1)) (qB D vwCl (qT6 ca) o 41 (fun u : qZ => qG (GM ca o) u.1 u.2)) (qw_A o 41)) (qw_A o 41) := by
  refine Met.ofW (cc := cX11_keep) (maxL := 1) (ret := (some .int)) (by decide) rfl ?_
  intro p e s m args below meth c s₁ B hml hv
  obtain ⟨rfl, hP, hK⟩ := hv
  have hx := B.exec
  have hb := B.bytes
  have hr := B.returns
  have hts0 := atoms_spec (ws := Cond.code yX11_keep cX11_keep 1 (some .int) :: qtbl) B.pre
  have hts : ∀ w ∈ qtbl, w.before _ s = true := fun w h => hts0 w (List.mem_cons_of_mem _ h)
  have hown : s.vm.findClass RX11 = some m.cls := findClass_of_methodNamed B.named
  have hlocks := B.notSynchronized
  have hS : va_S (qw_A o 41) s.heap s.heap [] := va_S.rf
  have hl := lv_entry ([.ref (o + 0)]) (n := 1) (Nat.le_of_ble_eq_true rfl)
  rw [lg_entry_eq]
  generalize (lg_sl ([.ref (o + 0)]) ++ List.replicate (1 - (lg_sl ([.ref (o + 0)])).length) Slot.unset).toArray = ls at hl ⊢
  have hl : lv_has ls 1 [(0, .ref (o + 0))] := hl
  have Jz : qJM z z := ⟨J0.1, qK_rf, J0.2.2⟩
  refine lv_aload_n hx hb dX11_keep_0 rfl (lv_at hl 0 rfl) ?_
  refine lv_iconst (v := 1) hx hb dX11_keep_1 (by decide) ?_
  refine qf_put2 hx hb hts inX11 tyX11 tyX11_ok nmX11 hown hK hP hS qw_Ai (q0 := 0) (by decide) (hgM_0 ca o) rfl 61 (by decide) wq_1053 rfl (x := 1) 61 rfl rfl rfl (Nat.le_of_ble_eq_true rfl) dX11_keep_2 (fun z1 H locs hz1 hP hS => ?_)
  have J1 := jM_0_61 Jz hz1 ⟨by decide, by decide⟩
  refine lv_aload_n hx hb dX11_keep_5 rfl (lv_at hl 0 rfl) ?_
  refine lv_iconst (v := 0) hx hb dX11_keep_6 (by decide) ?_
  refine qc_Vv2 (As := [.int 0]) (rest := []) (k0 := 1) (m_moves l D ca o z1 y) kc_yX11_moves ⟨hx, hb, hml, hown, hts⟩ wq_1595 rfl rfl ⟨Nat.le_of_ble_eq_true rfl, Nat.le_of_ble_eq_true rfl⟩ wq_all hP hK hS qw_Ai (q0 := 0) (by decide) (hgM_0 ca o _ _) rfl rfl hl.1 rfl (Nat.le_of_ble_eq_true rfl) dX11_keep_7 ⟨Nat.zero_le _, Nat.zero_le _⟩ (fun z2 y2 H locs h2 hP hS _ _ => ?_)
  have p2_0 : z2 = kpF z1 249 := h2
  have J2 : qJM z2 z2 := kpF_J J1 p2_0
  refine lv_aload_n hx hb dX11_keep_10 rfl (lv_at hl 0 rfl) ?_
  refine qc_Vip (As := []) (rest := []) (k0 := 0) (m_toldRemarks l D ca o z2 z2 y2 J2) kc_yX11_toldRemarks ⟨hx, hb, hml, hown, hts⟩ wq_1328 rfl rfl ⟨Nat.le_of_ble_eq_true rfl, Nat.le_of_ble_eq_true rfl⟩ wq_all hP hK hS qw_Ai (q0 := 0) (by decide) (hgM_0 ca o _ _) rfl rfl hl.1 rfl (Nat.le_of_ble_eq_true rfl) dX11_keep_11 ⟨Nat.zero_le _, Nat.zero_le _⟩ (fun r3 H locs h3 hP hS _ _ => ?_)
  have b3 : (0 : Int) ≤ r3.toInt ∧ r3.toInt ≤ 1023 := h3
  refine qc_Sip (As := [.int r3]) (rest := []) (k0 := 1) (m_bits l D ca o z2 z2 y2 J2 r3) kc_yX11_bits ⟨hx, hb, hml, hown, hts⟩ wq_1296 rfl rfl ⟨Nat.le_of_ble_eq_true rfl, Nat.le_of_ble_eq_true rfl⟩ wq_all hP hK hS qw_Ai rfl hl.1 rfl (Nat.le_of_ble_eq_true rfl) dX11_keep_14 ⟨Nat.zero_le _, Nat.zero_le _⟩ (fun r4 H locs h4 hP hS _ _ => ?_)
  have p4_1 : r4 = bsum r3 16 := h4.2
  exact W.iret (v := r4) hx hb hr (fun t ht hW => ⟨⟨r4, (z2, y2), rfl, ⟨trivial, ⟨J2.1, qK_rf, J2.2.2⟩, (by rw [p2_0, hz1]; exact qK_rf)⟩, by rw [ht]; exact hP, va_K.moved hW.alike hK⟩, hS.F ht⟩) hS.2.2 dX11_keep_17
set_option maxRecDepth 100000 in
set_option maxHeartbeats 8000000 in
theorem m_moved_v1 (l : Launch) (D : va_G) (ca : Nat → ClassId) (o : Nat) (z : Nat → Nat → Int32) (y : Nat → Nat → Int64) (a0 : Int32) (hp0 : 0 ≤ (z 0 62).toInt ∧ (z 0 62).toInt ≤ 248) : qM l yX11_moved cX11_moved 4 (some .int) 1 60 (qPre D vwCl (qT6 ca) o 41 (qG (GM ca o) z y) [.ref (o + 0), .int a0, .int 1]) (va_Qi (fun r u => True ∧ (r = z 40 (z 0 62).toNatClampNeg ∧ u.1 = qu z 0 62 (z 0 62 + 1))) (qB D vwCl (qT6 ca) o 41 (fun u : qZ => qG (GM ca o) u.1 u.2)) (qw_A o 41)) (qw_A o 41) := by
  refine Met.ofW (cc := cX11_moved) (maxL := 4) (ret := (some .int)) (by decide) rfl ?_
  intro p e s m args below meth c s₁ B hml hv
  obtain ⟨rfl, hP, hK⟩ := hv
  have hx := B.exec
  have hb := B.bytes
  have hr := B.returns
  have hts0 := atoms_spec (ws := Cond.code yX11_moved cX11_moved 4 (some .int) :: qtbl) B.pre
  have hts : ∀ w ∈ qtbl, w.before _ s = true := fun w h => hts0 w (List.mem_cons_of_mem _ h)
  have hown : s.vm.findClass RX11 = some m.cls := findClass_of_methodNamed B.named
  have hlocks := B.notSynchronized
  have hS : va_S (qw_A o 41) s.heap s.heap [] := va_S.rf
  have hl := lv_entry ([.ref (o + 0), .int a0, .int 1]) (n := 4) (Nat.le_of_ble_eq_true rfl)
  rw [lg_entry_eq]
  generalize (lg_sl ([.ref (o + 0), .int a0, .int 1]) ++ List.replicate (4 - (lg_sl ([.ref (o + 0), .int a0, .int 1])).length) Slot.unset).toArray = ls at hl ⊢
  have hl : lv_has ls 4 [(0, .ref (o + 0)), (1, .int a0), (2, .int 1)] := hl
  refine lv_aload_n hx hb dX11_moved_0 rfl (lv_at hl 0 rfl) ?_
  refine qf_get hx hb hts inX11 hown hK hP (q0 := 0) (by decide) (hgM_0 ca o) rfl 62 (by decide) wq_1054 (v := .int (z 0 62)) rfl dX11_moved_1 ?_
  refine lv_topi (fun x1 e1 => ?_)
  have k1 : x1.toInt = (z 0 62).toInt := congrArg Int32.toInt e1
  refine lv_istore_n (lv' := [(3, .int x1), (0, .ref (o + 0)), (1, .int a0), (2, .int 1)]) hx hb dX11_moved_4 rfl hl (by decide) rfl (fun ls hl => ?_)
  refine lv_aload_n hx hb dX11_moved_5 rfl (lv_at hl 1 rfl) ?_
  refine lv_aload_n hx hb dX11_moved_6 rfl (lv_at hl 1 rfl) ?_
  refine qf_get hx hb hts inX11 hown hK hP (q0 := 0) (by decide) (hgM_0 ca o) rfl 62 (by decide) wq_1054 (v := .int (z 0 62)) rfl dX11_moved_7 ?_
  refine lv_topi (fun x2 e2 => ?_)
  have k2 : x2.toInt = (z 0 62).toInt := congrArg Int32.toInt e2
  have ag2 : x2.toInt = x1.toInt := congrArg Int32.toInt (e2.trans e1.symm)
  refine lv_iconst (v := 1) hx hb dX11_moved_10 (by decide) ?_
  refine lv_iadd hx hb dX11_moved_11 ?_
  refine lv_topi (fun x3 e3 => ?_)
  refine qf_put2 hx hb hts inX11 tyX11 tyX11_ok nmX11 hown hK hP hS qw_Ai (q0 := 0) (by decide) (hgM_0 ca o) rfl 62 (by decide) wq_1054 rfl (x := x3) 62 rfl rfl rfl (Nat.le_of_ble_eq_true rfl) dX11_moved_12 (fun z4 H locs hz4 hP hS => ?_)
  have k4_0 : (z4 0 62).toInt = x3.toInt := congrArg Int32.toInt (qt_at hz4)
  refine lv_iload_n hx hb dX11_moved_15 rfl (lv_at hl 3 rfl) ?_
  refine lv_if_ne (tgt := 26) hx hb dX11_moved_16 (by decide) (fun _ => ?_) (fun q => absurd q (by decide))
  refine lv_aload_n hx hb dX11_moved_26 rfl (lv_at hl 1 rfl) ?_
  refine qf_get hx hb hts inX11 hown hK hP (q0 := 0) (by decide) (hgM_0 ca o) rfl 60 (by decide) wq_1052 (v := .ref (o + 40)) rfl dX11_moved_27 ?_
  refine lv_iload_n hx hb dX11_moved_30 rfl (lv_at hl 0 rfl) ?_
  refine qa_iald hx hb hK hP (q0 := 40) (by decide) 0 (N := 249) (hgM_40 ca o) rfl (gi_in (by omega) (by omega)) dX11_moved_31 ?_
  refine lv_topi (fun x5 e5 => ?_)
  exact W.iret (v := x5) hx hb hr (fun t ht hW => ⟨⟨x5, (z4, y), rfl, ⟨trivial, ⟨by rw [e5, qt_row hz4 (by decide), e1], by rw [hz4, e3, e2]⟩⟩, by rw [ht]; exact hP, va_K.moved hW.alike hK⟩, hS.F ht⟩) hS.2.2 dX11_moved_32
set_option maxRecDepth 100000 in
set_option maxHeartbeats 8000000 in
theorem m_movesAll_v11 (l : Launch) (D : va_G) (ca : Nat → ClassId) (o : Nat) (z : Nat → Nat → Int32) (y : Nat → Nat → Int64)  (hp0 : 0 ≤ (z 0 62).toInt ∧ (z 0 62).toInt ≤ 243) : qM l yX11_movesAll cX11_movesAll 4 none 2 83 (qPre D vwCl (qT6 ca) o 41 (qG (GM ca o) z y) [.ref (o + 0), .ref (o + 1), .int 1]) (va_Qv (fun u => (u.1 = mv1 z 1 (z 0 62).toNatClampNeg 6)) (qB D vwCl (qT6 ca) o 41 (fun u : qZ => qG (GM ca o) u.1 u.2)) (qw_A o 41)) (qw_A o 41) := by
  refine Met.ofW (cc := cX11_movesAll) (maxL := 4) (ret := none) (by decide) rfl ?_
  intro p e s m args below meth c s₁ B hml hv
  obtain ⟨rfl, hP, hK⟩ := hv
  have hx := B.exec
  have hb := B.bytes
  have hr := B.returns
  have hts0 := atoms_spec (ws := Cond.code yX11_movesAll cX11_movesAll 4 none :: qtbl) B.pre
  have hts : ∀ w ∈ qtbl, w.before _ s = true := fun w h => hts0 w (List.mem_cons_of_mem _ h)
  have hown : s.vm.findClass RX11 = some m.cls := findClass_of_methodNamed B.named
  have hlocks := B.notSynchronized
  have hS : va_S (qw_A o 41) s.heap s.heap [] := va_S.rf
  have hl := lv_entry ([.ref (o + 0), .ref (o + 1), .int 1]) (n := 4) (Nat.le_of_ble_eq_true rfl)
  rw [lg_entry_eq]
  generalize (lg_sl ([.ref (o + 0), .ref (o + 1), .int 1]) ++ List.replicate (4 - (lg_sl ([.ref (o + 0), .ref (o + 1), .int 1])).length) Slot.unset).toArray = ls at hl ⊢
  have hl : lv_has ls 4 [(0, .ref (o + 0)), (1, .ref (o + 1)), (2, .int 1)] := hl
  refine lv_iconst (v := 0) hx hb dX11_movesAll_0 (by decide) ?_
  refine lv_istore_n (lv' := [(3, .int 0), (0, .ref (o + 0)), (1, .ref (o + 1)), (2, .int 1)]) hx hb dX11_movesAll_1 rfl hl (by decide) rfl (fun ls hl => ?_)
  have loop1 : ∀ (n : Nat) (w1_3 : Int32) (z1 : Nat → Nat → Int32) (y1 : Nat → Nat → Int64), ((6 - w1_3.toInt : Int) < (n : Int)) → ((0 : Int) ≤ w1_3.toInt ∧ w1_3.toInt ≤ 6) → (z1 = mv1 z 1 (z 0 62).toNatClampNeg w1_3.toNatClampNeg) → ∀ (H : Heap) (locs : List Loc), qw_P D vwCl o 41 (qG (GM ca o) z1 y1) H → va_S (qw_A o 41) s.heap H locs → ∀ (ls : Array Slot), lv_has ls 4 [(3, .int w1_3), (0, .ref (o + 0)), (1, .ref (o + 1)), (2, .int 1)] → W p l e (headSpec (Cond.code yX11_movesAll cX11_movesAll 4 none :: qtbl) ({ frames := 2, cells := 0, slots := 0, locals := 83 })).room s m (([.ref (o + 0), .ref (o + 1), .int 1] : List Value).toArray) below meth c H locs 0 0 (MQ below (va_Qv (fun u => (u.1 = mv1 z 1 (z 0 62).toNatClampNeg 6)) (qB D vwCl (qT6 ca) o 41 (fun u : qZ => qG (GM ca o) u.1 u.2)) (qw_A o 41)) (([.ref (o + 0), .ref (o + 1), .int 1] : List Value).toArray) s 0 0 (qw_A o 41)) (F0 m 2 ls []) := by
    intro n
    induction n with
    | zero => intro w1_3 z1 y1 hb1 hv1_3 v1_0; exfalso; omega
    | succ n1 ih1 =>
      intro w1_3 z1 y1 hb1 hv1_3 v1_0 H locs hP hS ls hl
      have kk1 : (z1 0 62).toInt = (z 0 62).toInt + w1_3.toInt := mv1_at (by decide) (by omega) (by omega) (by omega) v1_0
      refine lv_iload_n hx hb dX11_movesAll_2 rfl (lv_at hl 0 rfl) ?_
      refine lv_aload_n hx hb dX11_movesAll_3 rfl (lv_at hl 2 rfl) ?_
      refine qa_len hx hb hK hP (q0 := 1) (by decide) 0 (hgM_1 ca o) rfl (v := 6) rfl dX11_movesAll_4 ?_
      refine lv_icmp_ge (tgt := 25) hx hb dX11_movesAll_5 (by decide) (fun c2 => ?_) (fun c2 => ?_)
      · have t2 : w1_3.toInt ≥ (6 : Int) := gl_le c2
        exact W.vret hx hb hr (fun t ht hW => ⟨⟨(z1, y1), rfl, (by have h := v1_0; rw [gr_eq (y := 6) (show w1_3.toInt = (6 : Int) from by omega)] at h; exact h), by rw [ht]; exact hP, va_K.moved hW.alike hK⟩, hS.F ht⟩) hS.2.2 dX11_movesAll_25
      · have t2 : w1_3.toInt < (6 : Int) := gl_nle c2
        refine lv_aload_n hx hb dX11_movesAll_8 rfl (lv_at hl 2 rfl) ?_
        refine lv_iload_n hx hb dX11_movesAll_9 rfl (lv_at hl 0 rfl) ?_
        refine lv_aload_n hx hb dX11_movesAll_10 rfl (lv_at hl 1 rfl) ?_
        refine lv_aload_n hx hb dX11_movesAll_11 rfl (lv_at hl 2 rfl) ?_
        refine lv_iload_n hx hb dX11_movesAll_12 rfl (lv_at hl 0 rfl) ?_
        refine qa_iald hx hb hK hP (q0 := 1) (by decide) 0 (N := 6) (hgM_1 ca o) rfl (gi_in (by omega) (by omega)) dX11_movesAll_13 ?_
        refine lv_topi (fun x3 e3 => ?_)
        refine lv_iload_n hx hb dX11_movesAll_14 rfl (lv_at hl 3 rfl) ?_
        refine qc_Vi2 (As := [.int x3, .int 1]) (rest := [.int w1_3, .ref (o + 1)]) (k0 := 2) (m_moved_v1 l D ca o z1 y1 x3 (by have ql1 : Int32.toInt 1 = 1 := (by decide); omega)) kc_yX11_moved ⟨hx, hb, hml, hown, hts⟩ wq_1599 rfl rfl ⟨Nat.le_of_ble_eq_true rfl, Nat.le_of_ble_eq_true rfl⟩ wq_all hP hK hS qw_Ai (q0 := 0) (by decide) (hgM_0 ca o _ _) rfl rfl hl.1 rfl (Nat.le_of_ble_eq_true rfl) dX11_movesAll_15 ⟨Nat.zero_le _, Nat.zero_le _⟩ (fun r4 z4 y4 H locs h4 hP hS _ _ => ?_)
        have p4_1 : r4 = z1 40 (z1 0 62).toNatClampNeg ∧ z4 = qu z1 0 62 (z1 0 62 + 1) := h4.2
        refine qa_iast2 hx hb hK hP hS qw_Ai (q0 := 1) (by decide) 0 (N := 6) (hgM_1 ca o) rfl (i := w1_3) (x := r4) (gi_in (by omega) (by omega)) dX11_movesAll_18 (fun z5 H locs hz5 hP hS => ?_)
        obtain ⟨x6, e6⟩ : ∃ t : Int32, t = w1_3 + 1 := ⟨_, rfl⟩
        refine lv_iinc (v := x6) (lv' := [(3, .int x6), (0, .ref (o + 0)), (1, .ref (o + 1)), (2, .int 1)]) hx hb dX11_movesAll_19 hl (k := 0) rfl (by rw [e6]; rfl) (by decide) rfl (fun ls hl => ?_)
        have t6 : x6.toInt = w1_3.toInt + (1 : Int) := ga_add e6 rfl rfl (by omega) (by omega)
        refine lv_goto (tgt := 2) hx hb dX11_movesAll_22 (by decide) ?_
        exact ih1 x6 z5 y4 (show (6 - x6.toInt : Int) < (n1 : Int) from by omega) ⟨by omega, by omega⟩ (mv1_step (by decide) (by decide) (by omega) (by omega) (by omega) (by omega) v1_0 e3 p4_1.1 p4_1.2 hz5 trivial) _ _ hP hS _ (lv_sub hl [0, 1, 2, 3] rfl)
  exact loop1 7 0 z y (show (6 - (0 : Int) : Int) < ((7 : Nat) : Int) from by omega) ⟨by decide, by decide⟩ (mv1_0 (by omega)) _ _ hP hS _ (lv_sub hl [0, 1, 2, 3] rfl)
set_option maxRecDepth 100000 in
set_option maxHeartbeats 8000000 in
theorem m_movesAll_v12 (l : Launch) (D : va_G) (ca : Nat → ClassId) (o : Nat) (z : Nat → Nat → Int32) (y : Nat → Nat → Int64)  (hp0 : 0 ≤ (z 0 62).toInt ∧ (z 0 62).toInt ≤ 243) : qM l yX11_movesAll cX11_movesAll 4 none 2 83 (qPre D vwCl (qT6 ca) o 41 (qG (GM ca o) z y) [.ref (o + 0), .ref (o + 2), .int 1]) (va_Qv (fun u => (u.1 = mv1 z 2 (z 0 62).toNatClampNeg 6)) (qB D vwCl (qT6 ca) o 41 (fun u : qZ => qG (GM ca o) u.1 u.2)) (qw_A o 41)) (qw_A o 41) := by
  refine Met.ofW (cc := cX11_movesAll) (maxL := 4) (ret := none) (by decide) rfl ?_
  intro p e s m args below meth c s₁ B hml hv
  obtain ⟨rfl, hP, hK⟩ := hv
  have hx := B.exec
  have hb := B.bytes
  have hr := B.returns
  have hts0 := atoms_spec (ws := Cond.code yX11_movesAll cX11_movesAll 4 none :: qtbl) B.pre
  have hts : ∀ w ∈ qtbl, w.before _ s = true := fun w h => hts0 w (List.mem_cons_of_mem _ h)
  have hown : s.vm.findClass RX11 = some m.cls := findClass_of_methodNamed B.named
  have hlocks := B.notSynchronized
  have hS : va_S (qw_A o 41) s.heap s.heap [] := va_S.rf
  have hl := lv_entry ([.ref (o + 0), .ref (o + 2), .int 1]) (n := 4) (Nat.le_of_ble_eq_true rfl)
  rw [lg_entry_eq]
  generalize (lg_sl ([.ref (o + 0), .ref (o + 2), .int 1]) ++ List.replicate (4 - (lg_sl ([.ref (o + 0), .ref (o + 2), .int 1])).length) Slot.unset).toArray = ls at hl ⊢
  have hl : lv_has ls 4 [(0, .ref (o + 0)), (1, .ref (o + 2)), (2, .int 1)] := hl
  refine lv_iconst (v := 0) hx hb dX11_movesAll_0 (by decide) ?_
  refine lv_istore_n (lv' := [(3, .int 0), (0, .ref (o + 0)), (1, .ref (o + 2)), (2, .int 1)]) hx hb dX11_movesAll_1 rfl hl (by decide) rfl (fun ls hl => ?_)
  have loop1 : ∀ (n : Nat) (w1_3 : Int32) (z1 : Nat → Nat → Int32) (y1 : Nat → Nat → Int64), ((6 - w1_3.toInt : Int) < (n : Int)) → ((0 : Int) ≤ w1_3.toInt ∧ w1_3.toInt ≤ 6) → (z1 = mv1 z 2 (z 0 62).toNatClampNeg w1_3.toNatClampNeg) → ∀ (H : Heap) (locs : List Loc), qw_P D vwCl o 41 (qG (GM ca o) z1 y1) H → va_S (qw_A o 41) s.heap H locs → ∀ (ls : Array Slot), lv_has ls 4 [(3, .int w1_3), (0, .ref (o + 0)), (1, .ref (o + 2)), (2, .int 1)] → W p l e (headSpec (Cond.code yX11_movesAll cX11_movesAll 4 none :: qtbl) ({ frames := 2, cells := 0, slots := 0, locals := 83 })).room s m (([.ref (o + 0), .ref (o + 2), .int 1] : List Value).toArray) below meth c H locs 0 0 (MQ below (va_Qv (fun u => (u.1 = mv1 z 2 (z 0 62).toNatClampNeg 6)) (qB D vwCl (qT6 ca) o 41 (fun u : qZ => qG (GM ca o) u.1 u.2)) (qw_A o 41)) (([.ref (o + 0), .ref (o + 2), .int 1] : List Value).toArray) s 0 0 (qw_A o 41)) (F0 m 2 ls []) := by
    intro n
    induction n with
    | zero => intro w1_3 z1 y1 hb1 hv1_3 v1_0; exfalso; omega
    | succ n1 ih1 =>
      intro w1_3 z1 y1 hb1 hv1_3 v1_0 H locs hP hS ls hl
      have kk1 : (z1 0 62).toInt = (z 0 62).toInt + w1_3.toInt := mv1_at (by decide) (by omega) (by omega) (by omega) v1_0
      refine lv_iload_n hx hb dX11_movesAll_2 rfl (lv_at hl 0 rfl) ?_
      refine lv_aload_n hx hb dX11_movesAll_3 rfl (lv_at hl 2 rfl) ?_
      refine qa_len hx hb hK hP (q0 := 2) (by decide) 0 (hgM_2 ca o) rfl (v := 6) rfl dX11_movesAll_4 ?_
      refine lv_icmp_ge (tgt := 25) hx hb dX11_movesAll_5 (by decide) (fun c2 => ?_) (fun c2 => ?_)
      · have t2 : w1_3.toInt ≥ (6 : Int) := gl_le c2
        exact W.vret hx hb hr (fun t ht hW => ⟨⟨(z1, y1), rfl, (by have h := v1_0; rw [gr_eq (y := 6) (show w1_3.toInt = (6 : Int) from by omega)] at h; exact h), by rw [ht]; exact hP, va_K.moved hW.alike hK⟩, hS.F ht⟩) hS.2.2 dX11_movesAll_25
      · have t2 : w1_3.toInt < (6 : Int) := gl_nle c2
        refine lv_aload_n hx hb dX11_movesAll_8 rfl (lv_at hl 2 rfl) ?_
        refine lv_iload_n hx hb dX11_movesAll_9 rfl (lv_at hl 0 rfl) ?_
        refine lv_aload_n hx hb dX11_movesAll_10 rfl (lv_at hl 1 rfl) ?_
        refine lv_aload_n hx hb dX11_movesAll_11 rfl (lv_at hl 2 rfl) ?_
        refine lv_iload_n hx hb dX11_movesAll_12 rfl (lv_at hl 0 rfl) ?_
        refine qa_iald hx hb hK hP (q0 := 2) (by decide) 0 (N := 6) (hgM_2 ca o) rfl (gi_in (by omega) (by omega)) dX11_movesAll_13 ?_
        refine lv_topi (fun x3 e3 => ?_)
        refine lv_iload_n hx hb dX11_movesAll_14 rfl (lv_at hl 3 rfl) ?_
        refine qc_Vi2 (As := [.int x3, .int 1]) (rest := [.int w1_3, .ref (o + 2)]) (k0 := 2) (m_moved_v1 l D ca o z1 y1 x3 (by have ql1 : Int32.toInt 1 = 1 := (by decide); omega)) kc_yX11_moved ⟨hx, hb, hml, hown, hts⟩ wq_1599 rfl rfl ⟨Nat.le_of_ble_eq_true rfl, Nat.le_of_ble_eq_true rfl⟩ wq_all hP hK hS qw_Ai (q0 := 0) (by decide) (hgM_0 ca o _ _) rfl rfl hl.1 rfl (Nat.le_of_ble_eq_true rfl) dX11_movesAll_15 ⟨Nat.zero_le _, Nat.zero_le _⟩ (fun r4 z4 y4 H locs h4 hP hS _ _ => ?_)
        have p4_1 : r4 = z1 40 (z1 0 62).toNatClampNeg ∧ z4 = qu z1 0 62 (z1 0 62 + 1) := h4.2
        refine qa_iast2 hx hb hK hP hS qw_Ai (q0 := 2) (by decide) 0 (N := 6) (hgM_2 ca o) rfl (i := w1_3) (x := r4) (gi_in (by omega) (by omega)) dX11_movesAll_18 (fun z5 H locs hz5 hP hS => ?_)
        obtain ⟨x6, e6⟩ : ∃ t : Int32, t = w1_3 + 1 := ⟨_, rfl⟩
        refine lv_iinc (v := x6) (lv' := [(3, .int x6), (0, .ref (o + 0)), (1, .ref (o + 2)), (2, .int 1)]) hx hb dX11_movesAll_19 hl (k := 0) rfl (by rw [e6]; rfl) (by decide) rfl (fun ls hl => ?_)
        have t6 : x6.toInt = w1_3.toInt + (1 : Int) := ga_add e6 rfl rfl (by omega) (by omega)
        refine lv_goto (tgt := 2) hx hb dX11_movesAll_22 (by decide) ?_
        exact ih1 x6 z5 y4 (show (6 - x6.toInt : Int) < (n1 : Int) from by omega) ⟨by omega, by omega⟩ (mv1_step (by decide) (by decide) (by omega) (by omega) (by omega) (by omega) v1_0 e3 p4_1.1 p4_1.2 hz5 trivial) _ _ hP hS _ (lv_sub hl [0, 1, 2, 3] rfl)
  exact loop1 7 0 z y (show (6 - (0 : Int) : Int) < ((7 : Nat) : Int) from by omega) ⟨by decide, by decide⟩ (mv1_0 (by omega)) _ _ hP hS _ (lv_sub hl [0, 1, 2, 3] rfl)
set_option maxRecDepth 100000 in
set_option maxHeartbeats 8000000 in
theorem m_movesAll_v13 (l : Launch) (D : va_G) (ca : Nat → ClassId) (o : Nat) (z : Nat → Nat → Int32) (y : Nat → Nat → Int64)  (hp0 : 0 ≤ (z 0 62).toInt ∧ (z 0 62).toInt ≤ 243) : qM l yX11_movesAll cX11_movesAll 4 none 2 83 (qPre D vwCl (qT6 ca) o 41 (qG (GM ca o) z y) [.ref (o + 0), .ref (o + 3), .int 1]) (va_Qv (fun u => (u.1 = mv1 z 3 (z 0 62).toNatClampNeg 6)) (qB D vwCl (qT6 ca) o 41 (fun u : qZ => qG (GM ca o) u.1 u.2)) (qw_A o 41)) (qw_A o 41) := by
  refine Met.ofW (cc := cX11_movesAll) (maxL := 4) (ret := none) (by decide) rfl ?_
  intro p e s m args below meth c s₁ B hml hv
  obtain ⟨rfl, hP, hK⟩ := hv
  have hx := B.exec
  have hb := B.bytes
  have hr := B.returns
  have hts0 := atoms_spec (ws := Cond.code yX11_movesAll cX11_movesAll 4 none :: qtbl) B.pre
  have hts : ∀ w ∈ qtbl, w.before _ s = true := fun w h => hts0 w (List.mem_cons_of_mem _ h)
  have hown : s.vm.findClass RX11 = some m.cls := findClass_of_methodNamed B.named
  have hlocks := B.notSynchronized
  have hS : va_S (qw_A o 41) s.heap s.heap [] := va_S.rf
  have hl := lv_entry ([.ref (o + 0), .ref (o + 3), .int 1]) (n := 4) (Nat.le_of_ble_eq_true rfl)
  rw [lg_entry_eq]
  generalize (lg_sl ([.ref (o + 0), .ref (o + 3), .int 1]) ++ List.replicate (4 - (lg_sl ([.ref (o + 0), .ref (o + 3), .int 1])).length) Slot.unset).toArray = ls at hl ⊢
  have hl : lv_has ls 4 [(0, .ref (o + 0)), (1, .ref (o + 3)), (2, .int 1)] := hl
  refine lv_iconst (v := 0) hx hb dX11_movesAll_0 (by decide) ?_
  refine lv_istore_n (lv' := [(3, .int 0), (0, .ref (o + 0)), (1, .ref (o + 3)), (2, .int 1)]) hx hb dX11_movesAll_1 rfl hl (by decide) rfl (fun ls hl => ?_)
  have loop1 : ∀ (n : Nat) (w1_3 : Int32) (z1 : Nat → Nat → Int32) (y1 : Nat → Nat → Int64), ((6 - w1_3.toInt : Int) < (n : Int)) → ((0 : Int) ≤ w1_3.toInt ∧ w1_3.toInt ≤ 6) → (z1 = mv1 z 3 (z 0 62).toNatClampNeg w1_3.toNatClampNeg) → ∀ (H : Heap) (locs : List Loc), qw_P D vwCl o 41 (qG (GM ca o) z1 y1) H → va_S (qw_A o 41) s.heap H locs → ∀ (ls : Array Slot), lv_has ls 4 [(3, .int w1_3), (0, .ref (o + 0)), (1, .ref (o + 3)), (2, .int 1)] → W p l e (headSpec (Cond.code yX11_movesAll cX11_movesAll 4 none :: qtbl) ({ frames := 2, cells := 0, slots := 0, locals := 83 })).room s m (([.ref (o + 0), .ref (o + 3), .int 1] : List Value).toArray) below meth c H locs 0 0 (MQ below (va_Qv (fun u => (u.1 = mv1 z 3 (z 0 62).toNatClampNeg 6)) (qB D vwCl (qT6 ca) o 41 (fun u : qZ => qG (GM ca o) u.1 u.2)) (qw_A o 41)) (([.ref (o + 0), .ref (o + 3), .int 1] : List Value).toArray) s 0 0 (qw_A o 41)) (F0 m 2 ls []) := by
    intro n
    induction n with
    | zero => intro w1_3 z1 y1 hb1 hv1_3 v1_0; exfalso; omega
    | succ n1 ih1 =>
      intro w1_3 z1 y1 hb1 hv1_3 v1_0 H locs hP hS ls hl
      have kk1 : (z1 0 62).toInt = (z 0 62).toInt + w1_3.toInt := mv1_at (by decide) (by omega) (by omega) (by omega) v1_0
      refine lv_iload_n hx hb dX11_movesAll_2 rfl (lv_at hl 0 rfl) ?_
      refine lv_aload_n hx hb dX11_movesAll_3 rfl (lv_at hl 2 rfl) ?_
      refine qa_len hx hb hK hP (q0 := 3) (by decide) 0 (hgM_3 ca o) rfl (v := 6) rfl dX11_movesAll_4 ?_
      refine lv_icmp_ge (tgt := 25) hx hb dX11_movesAll_5 (by decide) (fun c2 => ?_) (fun c2 => ?_)
      · have t2 : w1_3.toInt ≥ (6 : Int) := gl_le c2
        exact W.vret hx hb hr (fun t ht hW => ⟨⟨(z1, y1), rfl, (by have h := v1_0; rw [gr_eq (y := 6) (show w1_3.toInt = (6 : Int) from by omega)] at h; exact h), by rw [ht]; exact hP, va_K.moved hW.alike hK⟩, hS.F ht⟩) hS.2.2 dX11_movesAll_25
      · have t2 : w1_3.toInt < (6 : Int) := gl_nle c2
        refine lv_aload_n hx hb dX11_movesAll_8 rfl (lv_at hl 2 rfl) ?_
        refine lv_iload_n hx hb dX11_movesAll_9 rfl (lv_at hl 0 rfl) ?_
        refine lv_aload_n hx hb dX11_movesAll_10 rfl (lv_at hl 1 rfl) ?_
        refine lv_aload_n hx hb dX11_movesAll_11 rfl (lv_at hl 2 rfl) ?_
        refine lv_iload_n hx hb dX11_movesAll_12 rfl (lv_at hl 0 rfl) ?_
        refine qa_iald hx hb hK hP (q0 := 3) (by decide) 0 (N := 6) (hgM_3 ca o) rfl (gi_in (by omega) (by omega)) dX11_movesAll_13 ?_
        refine lv_topi (fun x3 e3 => ?_)
        refine lv_iload_n hx hb dX11_movesAll_14 rfl (lv_at hl 3 rfl) ?_
        refine qc_Vi2 (As := [.int x3, .int 1]) (rest := [.int w1_3, .ref (o + 3)]) (k0 := 2) (m_moved_v1 l D ca o z1 y1 x3 (by have ql1 : Int32.toInt 1 = 1 := (by decide); omega)) kc_yX11_moved ⟨hx, hb, hml, hown, hts⟩ wq_1599 rfl rfl ⟨Nat.le_of_ble_eq_true rfl, Nat.le_of_ble_eq_true rfl⟩ wq_all hP hK hS qw_Ai (q0 := 0) (by decide) (hgM_0 ca o _ _) rfl rfl hl.1 rfl (Nat.le_of_ble_eq_true rfl) dX11_movesAll_15 ⟨Nat.zero_le _, Nat.zero_le _⟩ (fun r4 z4 y4 H locs h4 hP hS _ _ => ?_)
        have p4_1 : r4 = z1 40 (z1 0 62).toNatClampNeg ∧ z4 = qu z1 0 62 (z1 0 62 + 1) := h4.2
        refine qa_iast2 hx hb hK hP hS qw_Ai (q0 := 3) (by decide) 0 (N := 6) (hgM_3 ca o) rfl (i := w1_3) (x := r4) (gi_in (by omega) (by omega)) dX11_movesAll_18 (fun z5 H locs hz5 hP hS => ?_)
        obtain ⟨x6, e6⟩ : ∃ t : Int32, t = w1_3 + 1 := ⟨_, rfl⟩
        refine lv_iinc (v := x6) (lv' := [(3, .int x6), (0, .ref (o + 0)), (1, .ref (o + 3)), (2, .int 1)]) hx hb dX11_movesAll_19 hl (k := 0) rfl (by rw [e6]; rfl) (by decide) rfl (fun ls hl => ?_)
        have t6 : x6.toInt = w1_3.toInt + (1 : Int) := ga_add e6 rfl rfl (by omega) (by omega)
        refine lv_goto (tgt := 2) hx hb dX11_movesAll_22 (by decide) ?_
        exact ih1 x6 z5 y4 (show (6 - x6.toInt : Int) < (n1 : Int) from by omega) ⟨by omega, by omega⟩ (mv1_step (by decide) (by decide) (by omega) (by omega) (by omega) (by omega) v1_0 e3 p4_1.1 p4_1.2 hz5 trivial) _ _ hP hS _ (lv_sub hl [0, 1, 2, 3] rfl)
  exact loop1 7 0 z y (show (6 - (0 : Int) : Int) < ((7 : Nat) : Int) from by omega) ⟨by decide, by decide⟩ (mv1_0 (by omega)) _ _ hP hS _ (lv_sub hl [0, 1, 2, 3] rfl)
set_option maxRecDepth 100000 in
set_option maxHeartbeats 8000000 in
theorem m_movesAll_v14 (l : Launch) (D : va_G) (ca : Nat → ClassId) (o : Nat) (z : Nat → Nat → Int32) (y : Nat → Nat → Int64)  (hp0 : 0 ≤ (z 0 62).toInt ∧ (z 0 62).toInt ≤ 213) : qM l yX11_movesAll cX11_movesAll 4 none 2 83 (qPre D vwCl (qT6 ca) o 41 (qG (GM ca o) z y) [.ref (o + 0), .ref (o + 4), .int 1]) (va_Qv (fun u => (u.1 = mv1 z 4 (z 0 62).toNatClampNeg 36)) (qB D vwCl (qT6 ca) o 41 (fun u : qZ => qG (GM ca o) u.1 u.2)) (qw_A o 41)) (qw_A o 41) := by
  refine Met.ofW (cc := cX11_movesAll) (maxL := 4) (ret := none) (by decide) rfl ?_
  intro p e s m args below meth c s₁ B hml hv
  obtain ⟨rfl, hP, hK⟩ := hv
  have hx := B.exec
  have hb := B.bytes
  have hr := B.returns
  have hts0 := atoms_spec (ws := Cond.code yX11_movesAll cX11_movesAll 4 none :: qtbl) B.pre
  have hts : ∀ w ∈ qtbl, w.before _ s = true := fun w h => hts0 w (List.mem_cons_of_mem _ h)
  have hown : s.vm.findClass RX11 = some m.cls := findClass_of_methodNamed B.named
  have hlocks := B.notSynchronized
  have hS : va_S (qw_A o 41) s.heap s.heap [] := va_S.rf
  have hl := lv_entry ([.ref (o + 0), .ref (o + 4), .int 1]) (n := 4) (Nat.le_of_ble_eq_true rfl)
  rw [lg_entry_eq]
  generalize (lg_sl ([.ref (o + 0), .ref (o + 4), .int 1]) ++ List.replicate (4 - (lg_sl ([.ref (o + 0), .ref (o + 4), .int 1])).length) Slot.unset).toArray = ls at hl ⊢
  have hl : lv_has ls 4 [(0, .ref (o + 0)), (1, .ref (o + 4)), (2, .int 1)] := hl
  refine lv_iconst (v := 0) hx hb dX11_movesAll_0 (by decide) ?_
  refine lv_istore_n (lv' := [(3, .int 0), (0, .ref (o + 0)), (1, .ref (o + 4)), (2, .int 1)]) hx hb dX11_movesAll_1 rfl hl (by decide) rfl (fun ls hl => ?_)
  have loop1 : ∀ (n : Nat) (w1_3 : Int32) (z1 : Nat → Nat → Int32) (y1 : Nat → Nat → Int64), ((36 - w1_3.toInt : Int) < (n : Int)) → ((0 : Int) ≤ w1_3.toInt ∧ w1_3.toInt ≤ 36) → (z1 = mv1 z 4 (z 0 62).toNatClampNeg w1_3.toNatClampNeg) → ∀ (H : Heap) (locs : List Loc), qw_P D vwCl o 41 (qG (GM ca o) z1 y1) H → va_S (qw_A o 41) s.heap H locs → ∀ (ls : Array Slot), lv_has ls 4 [(3, .int w1_3), (0, .ref (o + 0)), (1, .ref (o + 4)), (2, .int 1)] → W p l e (headSpec (Cond.code yX11_movesAll cX11_movesAll 4 none :: qtbl) ({ frames := 2, cells := 0, slots := 0, locals := 83 })).room s m (([.ref (o + 0), .ref (o + 4), .int 1] : List Value).toArray) below meth c H locs 0 0 (MQ below (va_Qv (fun u => (u.1 = mv1 z 4 (z 0 62).toNatClampNeg 36)) (qB D vwCl (qT6 ca) o 41 (fun u : qZ => qG (GM ca o) u.1 u.2)) (qw_A o 41)) (([.ref (o + 0), .ref (o + 4), .int 1] : List Value).toArray) s 0 0 (qw_A o 41)) (F0 m 2 ls []) := by
    intro n
    induction n with
    | zero => intro w1_3 z1 y1 hb1 hv1_3 v1_0; exfalso; omega
    | succ n1 ih1 =>
      intro w1_3 z1 y1 hb1 hv1_3 v1_0 H locs hP hS ls hl
      have kk1 : (z1 0 62).toInt = (z 0 62).toInt + w1_3.toInt := mv1_at (by decide) (by omega) (by omega) (by omega) v1_0
      refine lv_iload_n hx hb dX11_movesAll_2 rfl (lv_at hl 0 rfl) ?_
      refine lv_aload_n hx hb dX11_movesAll_3 rfl (lv_at hl 2 rfl) ?_
      refine qa_len hx hb hK hP (q0 := 4) (by decide) 0 (hgM_4 ca o) rfl (v := 36) rfl dX11_movesAll_4 ?_
      refine lv_icmp_ge (tgt := 25) hx hb dX11_movesAll_5 (by decide) (fun c2 => ?_) (fun c2 => ?_)
      · have t2 : w1_3.toInt ≥ (36 : Int) := gl_le c2
        exact W.vret hx hb hr (fun t ht hW => ⟨⟨(z1, y1), rfl, (by have h := v1_0; rw [gr_eq (y := 36) (show w1_3.toInt = (36 : Int) from by omega)] at h; exact h), by rw [ht]; exact hP, va_K.moved hW.alike hK⟩, hS.F ht⟩) hS.2.2 dX11_movesAll_25
      · have t2 : w1_3.toInt < (36 : Int) := gl_nle c2
        refine lv_aload_n hx hb dX11_movesAll_8 rfl (lv_at hl 2 rfl) ?_
        refine lv_iload_n hx hb dX11_movesAll_9 rfl (lv_at hl 0 rfl) ?_
        refine lv_aload_n hx hb dX11_movesAll_10 rfl (lv_at hl 1 rfl) ?_
        refine lv_aload_n hx hb dX11_movesAll_11 rfl (lv_at hl 2 rfl) ?_
        refine lv_iload_n hx hb dX11_movesAll_12 rfl (lv_at hl 0 rfl) ?_
        refine qa_iald hx hb hK hP (q0 := 4) (by decide) 0 (N := 36) (hgM_4 ca o) rfl (gi_in (by omega) (by omega)) dX11_movesAll_13 ?_
        refine lv_topi (fun x3 e3 => ?_)
        refine lv_iload_n hx hb dX11_movesAll_14 rfl (lv_at hl 3 rfl) ?_
        refine qc_Vi2 (As := [.int x3, .int 1]) (rest := [.int w1_3, .ref (o + 4)]) (k0 := 2) (m_moved_v1 l D ca o z1 y1 x3 (by have ql1 : Int32.toInt 1 = 1 := (by decide); omega)) kc_yX11_moved ⟨hx, hb, hml, hown, hts⟩ wq_1599 rfl rfl ⟨Nat.le_of_ble_eq_true rfl, Nat.le_of_ble_eq_true rfl⟩ wq_all hP hK hS qw_Ai (q0 := 0) (by decide) (hgM_0 ca o _ _) rfl rfl hl.1 rfl (Nat.le_of_ble_eq_true rfl) dX11_movesAll_15 ⟨Nat.zero_le _, Nat.zero_le _⟩ (fun r4 z4 y4 H locs h4 hP hS _ _ => ?_)
        have p4_1 : r4 = z1 40 (z1 0 62).toNatClampNeg ∧ z4 = qu z1 0 62 (z1 0 62 + 1) := h4.2
        refine qa_iast2 hx hb hK hP hS qw_Ai (q0 := 4) (by decide) 0 (N := 36) (hgM_4 ca o) rfl (i := w1_3) (x := r4) (gi_in (by omega) (by omega)) dX11_movesAll_18 (fun z5 H locs hz5 hP hS => ?_)
        obtain ⟨x6, e6⟩ : ∃ t : Int32, t = w1_3 + 1 := ⟨_, rfl⟩
        refine lv_iinc (v := x6) (lv' := [(3, .int x6), (0, .ref (o + 0)), (1, .ref (o + 4)), (2, .int 1)]) hx hb dX11_movesAll_19 hl (k := 0) rfl (by rw [e6]; rfl) (by decide) rfl (fun ls hl => ?_)
        have t6 : x6.toInt = w1_3.toInt + (1 : Int) := ga_add e6 rfl rfl (by omega) (by omega)
        refine lv_goto (tgt := 2) hx hb dX11_movesAll_22 (by decide) ?_
        exact ih1 x6 z5 y4 (show (36 - x6.toInt : Int) < (n1 : Int) from by omega) ⟨by omega, by omega⟩ (mv1_step (by decide) (by decide) (by omega) (by omega) (by omega) (by omega) v1_0 e3 p4_1.1 p4_1.2 hz5 trivial) _ _ hP hS _ (lv_sub hl [0, 1, 2, 3] rfl)
  exact loop1 37 0 z y (show (36 - (0 : Int) : Int) < ((37 : Nat) : Int) from by omega) ⟨by decide, by decide⟩ (mv1_0 (by omega)) _ _ hP hS _ (lv_sub hl [0, 1, 2, 3] rfl)
set_option maxRecDepth 100000 in
set_option maxHeartbeats 8000000 in
theorem m_movesAll_v15 (l : Launch) (D : va_G) (ca : Nat → ClassId) (o : Nat) (z : Nat → Nat → Int32) (y : Nat → Nat → Int64)  (hp0 : 0 ≤ (z 0 62).toInt ∧ (z 0 62).toInt ≤ 153) : qM l yX11_movesAll cX11_movesAll 4 none 2 83 (qPre D vwCl (qT6 ca) o 41 (qG (GM ca o) z y) [.ref (o + 0), .ref (o + 5), .int 1]) (va_Qv (fun u => (u.1 = mv1 z 5 (z 0 62).toNatClampNeg 96)) (qB D vwCl (qT6 ca) o 41 (fun u : qZ => qG (GM ca o) u.1 u.2)) (qw_A o 41)) (qw_A o 41) := by
  refine Met.ofW (cc := cX11_movesAll) (maxL := 4) (ret := none) (by decide) rfl ?_
  intro p e s m args below meth c s₁ B hml hv
  obtain ⟨rfl, hP, hK⟩ := hv
  have hx := B.exec
  have hb := B.bytes
  have hr := B.returns
  have hts0 := atoms_spec (ws := Cond.code yX11_movesAll cX11_movesAll 4 none :: qtbl) B.pre
  have hts : ∀ w ∈ qtbl, w.before _ s = true := fun w h => hts0 w (List.mem_cons_of_mem _ h)
  have hown : s.vm.findClass RX11 = some m.cls := findClass_of_methodNamed B.named
  have hlocks := B.notSynchronized
  have hS : va_S (qw_A o 41) s.heap s.heap [] := va_S.rf
  have hl := lv_entry ([.ref (o + 0), .ref (o + 5), .int 1]) (n := 4) (Nat.le_of_ble_eq_true rfl)
  rw [lg_entry_eq]
  generalize (lg_sl ([.ref (o + 0), .ref (o + 5), .int 1]) ++ List.replicate (4 - (lg_sl ([.ref (o + 0), .ref (o + 5), .int 1])).length) Slot.unset).toArray = ls at hl ⊢
  have hl : lv_has ls 4 [(0, .ref (o + 0)), (1, .ref (o + 5)), (2, .int 1)] := hl
  refine lv_iconst (v := 0) hx hb dX11_movesAll_0 (by decide) ?_
  refine lv_istore_n (lv' := [(3, .int 0), (0, .ref (o + 0)), (1, .ref (o + 5)), (2, .int 1)]) hx hb dX11_movesAll_1 rfl hl (by decide) rfl (fun ls hl => ?_)
  have loop1 : ∀ (n : Nat) (w1_3 : Int32) (z1 : Nat → Nat → Int32) (y1 : Nat → Nat → Int64), ((96 - w1_3.toInt : Int) < (n : Int)) → ((0 : Int) ≤ w1_3.toInt ∧ w1_3.toInt ≤ 96) → (z1 = mv1 z 5 (z 0 62).toNatClampNeg w1_3.toNatClampNeg) → ∀ (H : Heap) (locs : List Loc), qw_P D vwCl o 41 (qG (GM ca o) z1 y1) H → va_S (qw_A o 41) s.heap H locs → ∀ (ls : Array Slot), lv_has ls 4 [(3, .int w1_3), (0, .ref (o + 0)), (1, .ref (o + 5)), (2, .int 1)] → W p l e (headSpec (Cond.code yX11_movesAll cX11_movesAll 4 none :: qtbl) ({ frames := 2, cells := 0, slots := 0, locals := 83 })).room s m (([.ref (o + 0), .ref (o + 5), .int 1] : List Value).toArray) below meth c H locs 0 0 (MQ below (va_Qv (fun u => (u.1 = mv1 z 5 (z 0 62).toNatClampNeg 96)) (qB D vwCl (qT6 ca) o 41 (fun u : qZ => qG (GM ca o) u.1 u.2)) (qw_A o 41)) (([.ref (o + 0), .ref (o + 5), .int 1] : List Value).toArray) s 0 0 (qw_A o 41)) (F0 m 2 ls []) := by
    intro n
    induction n with
    | zero => intro w1_3 z1 y1 hb1 hv1_3 v1_0; exfalso; omega
    | succ n1 ih1 =>
      intro w1_3 z1 y1 hb1 hv1_3 v1_0 H locs hP hS ls hl
      have kk1 : (z1 0 62).toInt = (z 0 62).toInt + w1_3.toInt := mv1_at (by decide) (by omega) (by omega) (by omega) v1_0
      refine lv_iload_n hx hb dX11_movesAll_2 rfl (lv_at hl 0 rfl) ?_
      refine lv_aload_n hx hb dX11_movesAll_3 rfl (lv_at hl 2 rfl) ?_
      refine qa_len hx hb hK hP (q0 := 5) (by decide) 0 (hgM_5 ca o) rfl (v := 96) rfl dX11_movesAll_4 ?_
      refine lv_icmp_ge (tgt := 25) hx hb dX11_movesAll_5 (by decide) (fun c2 => ?_) (fun c2 => ?_)
      · have t2 : w1_3.toInt ≥ (96 : Int) := gl_le c2
        exact W.vret hx hb hr (fun t ht hW => ⟨⟨(z1, y1), rfl, (by have h := v1_0; rw [gr_eq (y := 96) (show w1_3.toInt = (96 : Int) from by omega)] at h; exact h), by rw [ht]; exact hP, va_K.moved hW.alike hK⟩, hS.F ht⟩) hS.2.2 dX11_movesAll_25
      · have t2 : w1_3.toInt < (96 : Int) := gl_nle c2
        refine lv_aload_n hx hb dX11_movesAll_8 rfl (lv_at hl 2 rfl) ?_
        refine lv_iload_n hx hb dX11_movesAll_9 rfl (lv_at hl 0 rfl) ?_
        refine lv_aload_n hx hb dX11_movesAll_10 rfl (lv_at hl 1 rfl) ?_
        refine lv_aload_n hx hb dX11_movesAll_11 rfl (lv_at hl 2 rfl) ?_
        refine lv_iload_n hx hb dX11_movesAll_12 rfl (lv_at hl 0 rfl) ?_
        refine qa_iald hx hb hK hP (q0 := 5) (by decide) 0 (N := 96) (hgM_5 ca o) rfl (gi_in (by omega) (by omega)) dX11_movesAll_13 ?_
        refine lv_topi (fun x3 e3 => ?_)
        refine lv_iload_n hx hb dX11_movesAll_14 rfl (lv_at hl 3 rfl) ?_
        refine qc_Vi2 (As := [.int x3, .int 1]) (rest := [.int w1_3, .ref (o + 5)]) (k0 := 2) (m_moved_v1 l D ca o z1 y1 x3 (by have ql1 : Int32.toInt 1 = 1 := (by decide); omega)) kc_yX11_moved ⟨hx, hb, hml, hown, hts⟩ wq_1599 rfl rfl ⟨Nat.le_of_ble_eq_true rfl, Nat.le_of_ble_eq_true rfl⟩ wq_all hP hK hS qw_Ai (q0 := 0) (by decide) (hgM_0 ca o _ _) rfl rfl hl.1 rfl (Nat.le_of_ble_eq_true rfl) dX11_movesAll_15 ⟨Nat.zero_le _, Nat.zero_le _⟩ (fun r4 z4 y4 H locs h4 hP hS _ _ => ?_)
        have p4_1 : r4 = z1 40 (z1 0 62).toNatClampNeg ∧ z4 = qu z1 0 62 (z1 0 62 + 1) := h4.2
        refine qa_iast2 hx hb hK hP hS qw_Ai (q0 := 5) (by decide) 0 (N := 96) (hgM_5 ca o) rfl (i := w1_3) (x := r4) (gi_in (by omega) (by omega)) dX11_movesAll_18 (fun z5 H locs hz5 hP hS => ?_)
        obtain ⟨x6, e6⟩ : ∃ t : Int32, t = w1_3 + 1 := ⟨_, rfl⟩
        refine lv_iinc (v := x6) (lv' := [(3, .int x6), (0, .ref (o + 0)), (1, .ref (o + 5)), (2, .int 1)]) hx hb dX11_movesAll_19 hl (k := 0) rfl (by rw [e6]; rfl) (by decide) rfl (fun ls hl => ?_)
        have t6 : x6.toInt = w1_3.toInt + (1 : Int) := ga_add e6 rfl rfl (by omega) (by omega)
        refine lv_goto (tgt := 2) hx hb dX11_movesAll_22 (by decide) ?_
        exact ih1 x6 z5 y4 (show (96 - x6.toInt : Int) < (n1 : Int) from by omega) ⟨by omega, by omega⟩ (mv1_step (by decide) (by decide) (by omega) (by omega) (by omega) (by omega) v1_0 e3 p4_1.1 p4_1.2 hz5 trivial) _ _ hP hS _ (lv_sub hl [0, 1, 2, 3] rfl)
  exact loop1 97 0 z y (show (96 - (0 : Int) : Int) < ((97 : Nat) : Int) from by omega) ⟨by decide, by decide⟩ (mv1_0 (by omega)) _ _ hP hS _ (lv_sub hl [0, 1, 2, 3] rfl)
set_option maxRecDepth 100000 in
set_option maxHeartbeats 8000000 in
theorem m_movesAll_v16 (l : Launch) (D : va_G) (ca : Nat → ClassId) (o : Nat) (z : Nat → Nat → Int32) (y : Nat → Nat → Int64)  (hp0 : 0 ≤ (z 0 62).toInt ∧ (z 0 62).toInt ≤ 233) : qM l yX11_movesAll cX11_movesAll 4 none 2 83 (qPre D vwCl (qT6 ca) o 41 (qG (GM ca o) z y) [.ref (o + 0), .ref (o + 6), .int 1]) (va_Qv (fun u => (u.1 = mv1 z 6 (z 0 62).toNatClampNeg 16)) (qB D vwCl (qT6 ca) o 41 (fun u : qZ => qG (GM ca o) u.1 u.2)) (qw_A o 41)) (qw_A o 41) := by
  refine Met.ofW (cc := cX11_movesAll) (maxL := 4) (ret := none) (by decide) rfl ?_
  intro p e s m args below meth c s₁ B hml hv
  obtain ⟨rfl, hP, hK⟩ := hv
  have hx := B.exec
  have hb := B.bytes
  have hr := B.returns
  have hts0 := atoms_spec (ws := Cond.code yX11_movesAll cX11_movesAll 4 none :: qtbl) B.pre
  have hts : ∀ w ∈ qtbl, w.before _ s = true := fun w h => hts0 w (List.mem_cons_of_mem _ h)
  have hown : s.vm.findClass RX11 = some m.cls := findClass_of_methodNamed B.named
  have hlocks := B.notSynchronized
  have hS : va_S (qw_A o 41) s.heap s.heap [] := va_S.rf
  have hl := lv_entry ([.ref (o + 0), .ref (o + 6), .int 1]) (n := 4) (Nat.le_of_ble_eq_true rfl)
  rw [lg_entry_eq]
  generalize (lg_sl ([.ref (o + 0), .ref (o + 6), .int 1]) ++ List.replicate (4 - (lg_sl ([.ref (o + 0), .ref (o + 6), .int 1])).length) Slot.unset).toArray = ls at hl ⊢
  have hl : lv_has ls 4 [(0, .ref (o + 0)), (1, .ref (o + 6)), (2, .int 1)] := hl
  refine lv_iconst (v := 0) hx hb dX11_movesAll_0 (by decide) ?_
  refine lv_istore_n (lv' := [(3, .int 0), (0, .ref (o + 0)), (1, .ref (o + 6)), (2, .int 1)]) hx hb dX11_movesAll_1 rfl hl (by decide) rfl (fun ls hl => ?_)
  have loop1 : ∀ (n : Nat) (w1_3 : Int32) (z1 : Nat → Nat → Int32) (y1 : Nat → Nat → Int64), ((16 - w1_3.toInt : Int) < (n : Int)) → ((0 : Int) ≤ w1_3.toInt ∧ w1_3.toInt ≤ 16) → (z1 = mv1 z 6 (z 0 62).toNatClampNeg w1_3.toNatClampNeg) → ∀ (H : Heap) (locs : List Loc), qw_P D vwCl o 41 (qG (GM ca o) z1 y1) H → va_S (qw_A o 41) s.heap H locs → ∀ (ls : Array Slot), lv_has ls 4 [(3, .int w1_3), (0, .ref (o + 0)), (1, .ref (o + 6)), (2, .int 1)] → W p l e (headSpec (Cond.code yX11_movesAll cX11_movesAll 4 none :: qtbl) ({ frames := 2, cells := 0, slots := 0, locals := 83 })).room s m (([.ref (o + 0), .ref (o + 6), .int 1] : List Value).toArray) below meth c H locs 0 0 (MQ below (va_Qv (fun u => (u.1 = mv1 z 6 (z 0 62).toNatClampNeg 16)) (qB D vwCl (qT6 ca) o 41 (fun u : qZ => qG (GM ca o) u.1 u.2)) (qw_A o 41)) (([.ref (o + 0), .ref (o + 6), .int 1] : List Value).toArray) s 0 0 (qw_A o 41)) (F0 m 2 ls []) := by
    intro n
    induction n with
    | zero => intro w1_3 z1 y1 hb1 hv1_3 v1_0; exfalso; omega
    | succ n1 ih1 =>
      intro w1_3 z1 y1 hb1 hv1_3 v1_0 H locs hP hS ls hl
      have kk1 : (z1 0 62).toInt = (z 0 62).toInt + w1_3.toInt := mv1_at (by decide) (by omega) (by omega) (by omega) v1_0
      refine lv_iload_n hx hb dX11_movesAll_2 rfl (lv_at hl 0 rfl) ?_
      refine lv_aload_n hx hb dX11_movesAll_3 rfl (lv_at hl 2 rfl) ?_
      refine qa_len hx hb hK hP (q0 := 6) (by decide) 0 (hgM_6 ca o) rfl (v := 16) rfl dX11_movesAll_4 ?_
      refine lv_icmp_ge (tgt := 25) hx hb dX11_movesAll_5 (by decide) (fun c2 => ?_) (fun c2 => ?_)
      · have t2 : w1_3.toInt ≥ (16 : Int) := gl_le c2
        exact W.vret hx hb hr (fun t ht hW => ⟨⟨(z1, y1), rfl, (by have h := v1_0; rw [gr_eq (y := 16) (show w1_3.toInt = (16 : Int) from by omega)] at h; exact h), by rw [ht]; exact hP, va_K.moved hW.alike hK⟩, hS.F ht⟩) hS.2.2 dX11_movesAll_25
      · have t2 : w1_3.toInt < (16 : Int) := gl_nle c2
        refine lv_aload_n hx hb dX11_movesAll_8 rfl (lv_at hl 2 rfl) ?_
        refine lv_iload_n hx hb dX11_movesAll_9 rfl (lv_at hl 0 rfl) ?_
        refine lv_aload_n hx hb dX11_movesAll_10 rfl (lv_at hl 1 rfl) ?_
        refine lv_aload_n hx hb dX11_movesAll_11 rfl (lv_at hl 2 rfl) ?_
        refine lv_iload_n hx hb dX11_movesAll_12 rfl (lv_at hl 0 rfl) ?_
        refine qa_iald hx hb hK hP (q0 := 6) (by decide) 0 (N := 16) (hgM_6 ca o) rfl (gi_in (by omega) (by omega)) dX11_movesAll_13 ?_
        refine lv_topi (fun x3 e3 => ?_)
        refine lv_iload_n hx hb dX11_movesAll_14 rfl (lv_at hl 3 rfl) ?_
        refine qc_Vi2 (As := [.int x3, .int 1]) (rest := [.int w1_3, .ref (o + 6)]) (k0 := 2) (m_moved_v1 l D ca o z1 y1 x3 (by have ql1 : Int32.toInt 1 = 1 := (by decide); omega)) kc_yX11_moved ⟨hx, hb, hml, hown, hts⟩ wq_1599 rfl rfl ⟨Nat.le_of_ble_eq_true rfl, Nat.le_of_ble_eq_true rfl⟩ wq_all hP hK hS qw_Ai (q0 := 0) (by decide) (hgM_0 ca o _ _) rfl rfl hl.1 rfl (Nat.le_of_ble_eq_true rfl) dX11_movesAll_15 ⟨Nat.zero_le _, Nat.zero_le _⟩ (fun r4 z4 y4 H locs h4 hP hS _ _ => ?_)
        have p4_1 : r4 = z1 40 (z1 0 62).toNatClampNeg ∧ z4 = qu z1 0 62 (z1 0 62 + 1) := h4.2
        refine qa_iast2 hx hb hK hP hS qw_Ai (q0 := 6) (by decide) 0 (N := 16) (hgM_6 ca o) rfl (i := w1_3) (x := r4) (gi_in (by omega) (by omega)) dX11_movesAll_18 (fun z5 H locs hz5 hP hS => ?_)
        obtain ⟨x6, e6⟩ : ∃ t : Int32, t = w1_3 + 1 := ⟨_, rfl⟩
        refine lv_iinc (v := x6) (lv' := [(3, .int x6), (0, .ref (o + 0)), (1, .ref (o + 6)), (2, .int 1)]) hx hb dX11_movesAll_19 hl (k := 0) rfl (by rw [e6]; rfl) (by decide) rfl (fun ls hl => ?_)
        have t6 : x6.toInt = w1_3.toInt + (1 : Int) := ga_add e6 rfl rfl (by omega) (by omega)
        refine lv_goto (tgt := 2) hx hb dX11_movesAll_22 (by decide) ?_
        exact ih1 x6 z5 y4 (show (16 - x6.toInt : Int) < (n1 : Int) from by omega) ⟨by omega, by omega⟩ (mv1_step (by decide) (by decide) (by omega) (by omega) (by omega) (by omega) v1_0 e3 p4_1.1 p4_1.2 hz5 trivial) _ _ hP hS _ (lv_sub hl [0, 1, 2, 3] rfl)
  exact loop1 17 0 z y (show (16 - (0 : Int) : Int) < ((17 : Nat) : Int) from by omega) ⟨by decide, by decide⟩ (mv1_0 (by omega)) _ _ hP hS _ (lv_sub hl [0, 1, 2, 3] rfl)
set_option maxRecDepth 100000 in
set_option maxHeartbeats 8000000 in
theorem m_movesAll_v17 (l : Launch) (D : va_G) (ca : Nat → ClassId) (o : Nat) (z : Nat → Nat → Int32) (y : Nat → Nat → Int64)  (hp0 : 0 ≤ (z 0 62).toInt ∧ (z 0 62).toInt ≤ 233) : qM l yX11_movesAll cX11_movesAll 4 none 2 83 (qPre D vwCl (qT6 ca) o 41 (qG (GM ca o) z y) [.ref (o + 0), .ref (o + 7), .int 1]) (va_Qv (fun u => (u.1 = mv1 z 7 (z 0 62).toNatClampNeg 16)) (qB D vwCl (qT6 ca) o 41 (fun u : qZ => qG (GM ca o) u.1 u.2)) (qw_A o 41)) (qw_A o 41) := by
  refine Met.ofW (cc := cX11_movesAll) (maxL := 4) (ret := none) (by decide) rfl ?_
  intro p e s m args below meth c s₁ B hml hv
  obtain ⟨rfl, hP, hK⟩ := hv
  have hx := B.exec
  have hb := B.bytes
  have hr := B.returns
  have hts0 := atoms_spec (ws := Cond.code yX11_movesAll cX11_movesAll 4 none :: qtbl) B.pre
  have hts : ∀ w ∈ qtbl, w.before _ s = true := fun w h => hts0 w (List.mem_cons_of_mem _ h)
  have hown : s.vm.findClass RX11 = some m.cls := findClass_of_methodNamed B.named
  have hlocks := B.notSynchronized
  have hS : va_S (qw_A o 41) s.heap s.heap [] := va_S.rf
  have hl := lv_entry ([.ref (o + 0), .ref (o + 7), .int 1]) (n := 4) (Nat.le_of_ble_eq_true rfl)
  rw [lg_entry_eq]
  generalize (lg_sl ([.ref (o + 0), .ref (o + 7), .int 1]) ++ List.replicate (4 - (lg_sl ([.ref (o + 0), .ref (o + 7), .int 1])).length) Slot.unset).toArray = ls at hl ⊢
  have hl : lv_has ls 4 [(0, .ref (o + 0)), (1, .ref (o + 7)), (2, .int 1)] := hl
  refine lv_iconst (v := 0) hx hb dX11_movesAll_0 (by decide) ?_
  refine lv_istore_n (lv' := [(3, .int 0), (0, .ref (o + 0)), (1, .ref (o + 7)), (2, .int 1)]) hx hb dX11_movesAll_1 rfl hl (by decide) rfl (fun ls hl => ?_)
  have loop1 : ∀ (n : Nat) (w1_3 : Int32) (z1 : Nat → Nat → Int32) (y1 : Nat → Nat → Int64), ((16 - w1_3.toInt : Int) < (n : Int)) → ((0 : Int) ≤ w1_3.toInt ∧ w1_3.toInt ≤ 16) → (z1 = mv1 z 7 (z 0 62).toNatClampNeg w1_3.toNatClampNeg) → ∀ (H : Heap) (locs : List Loc), qw_P D vwCl o 41 (qG (GM ca o) z1 y1) H → va_S (qw_A o 41) s.heap H locs → ∀ (ls : Array Slot), lv_has ls 4 [(3, .int w1_3), (0, .ref (o + 0)), (1, .ref (o + 7)), (2, .int 1)] → W p l e (headSpec (Cond.code yX11_movesAll cX11_movesAll 4 none :: qtbl) ({ frames := 2, cells := 0, slots := 0, locals := 83 })).room s m (([.ref (o + 0), .ref (o + 7), .int 1] : List Value).toArray) below meth c H locs 0 0 (MQ below (va_Qv (fun u => (u.1 = mv1 z 7 (z 0 62).toNatClampNeg 16)) (qB D vwCl (qT6 ca) o 41 (fun u : qZ => qG (GM ca o) u.1 u.2)) (qw_A o 41)) (([.ref (o + 0), .ref (o + 7), .int 1] : List Value).toArray) s 0 0 (qw_A o 41)) (F0 m 2 ls []) := by
    intro n
    induction n with
    | zero => intro w1_3 z1 y1 hb1 hv1_3 v1_0; exfalso; omega
    | succ n1 ih1 =>
      intro w1_3 z1 y1 hb1 hv1_3 v1_0 H locs hP hS ls hl
      have kk1 : (z1 0 62).toInt = (z 0 62).toInt + w1_3.toInt := mv1_at (by decide) (by omega) (by omega) (by omega) v1_0
      refine lv_iload_n hx hb dX11_movesAll_2 rfl (lv_at hl 0 rfl) ?_
      refine lv_aload_n hx hb dX11_movesAll_3 rfl (lv_at hl 2 rfl) ?_
      refine qa_len hx hb hK hP (q0 := 7) (by decide) 0 (hgM_7 ca o) rfl (v := 16) rfl dX11_movesAll_4 ?_
      refine lv_icmp_ge (tgt := 25) hx hb dX11_movesAll_5 (by decide) (fun c2 => ?_) (fun c2 => ?_)
      · have t2 : w1_3.toInt ≥ (16 : Int) := gl_le c2
        exact W.vret hx hb hr (fun t ht hW => ⟨⟨(z1, y1), rfl, (by have h := v1_0; rw [gr_eq (y := 16) (show w1_3.toInt = (16 : Int) from by omega)] at h; exact h), by rw [ht]; exact hP, va_K.moved hW.alike hK⟩, hS.F ht⟩) hS.2.2 dX11_movesAll_25
      · have t2 : w1_3.toInt < (16 : Int) := gl_nle c2
        refine lv_aload_n hx hb dX11_movesAll_8 rfl (lv_at hl 2 rfl) ?_
        refine lv_iload_n hx hb dX11_movesAll_9 rfl (lv_at hl 0 rfl) ?_
        refine lv_aload_n hx hb dX11_movesAll_10 rfl (lv_at hl 1 rfl) ?_
        refine lv_aload_n hx hb dX11_movesAll_11 rfl (lv_at hl 2 rfl) ?_
        refine lv_iload_n hx hb dX11_movesAll_12 rfl (lv_at hl 0 rfl) ?_
        refine qa_iald hx hb hK hP (q0 := 7) (by decide) 0 (N := 16) (hgM_7 ca o) rfl (gi_in (by omega) (by omega)) dX11_movesAll_13 ?_
        refine lv_topi (fun x3 e3 => ?_)
        refine lv_iload_n hx hb dX11_movesAll_14 rfl (lv_at hl 3 rfl) ?_
        refine qc_Vi2 (As := [.int x3, .int 1]) (rest := [.int w1_3, .ref (o + 7)]) (k0 := 2) (m_moved_v1 l D ca o z1 y1 x3 (by have ql1 : Int32.toInt 1 = 1 := (by decide); omega)) kc_yX11_moved ⟨hx, hb, hml, hown, hts⟩ wq_1599 rfl rfl ⟨Nat.le_of_ble_eq_true rfl, Nat.le_of_ble_eq_true rfl⟩ wq_all hP hK hS qw_Ai (q0 := 0) (by decide) (hgM_0 ca o _ _) rfl rfl hl.1 rfl (Nat.le_of_ble_eq_true rfl) dX11_movesAll_15 ⟨Nat.zero_le _, Nat.zero_le _⟩ (fun r4 z4 y4 H locs h4 hP hS _ _ => ?_)
        have p4_1 : r4 = z1 40 (z1 0 62).toNatClampNeg ∧ z4 = qu z1 0 62 (z1 0 62 + 1) := h4.2
        refine qa_iast2 hx hb hK hP hS qw_Ai (q0 := 7) (by decide) 0 (N := 16) (hgM_7 ca o) rfl (i := w1_3) (x := r4) (gi_in (by omega) (by omega)) dX11_movesAll_18 (fun z5 H locs hz5 hP hS => ?_)
        obtain ⟨x6, e6⟩ : ∃ t : Int32, t = w1_3 + 1 := ⟨_, rfl⟩
        refine lv_iinc (v := x6) (lv' := [(3, .int x6), (0, .ref (o + 0)), (1, .ref (o + 7)), (2, .int 1)]) hx hb dX11_movesAll_19 hl (k := 0) rfl (by rw [e6]; rfl) (by decide) rfl (fun ls hl => ?_)
        have t6 : x6.toInt = w1_3.toInt + (1 : Int) := ga_add e6 rfl rfl (by omega) (by omega)
        refine lv_goto (tgt := 2) hx hb dX11_movesAll_22 (by decide) ?_
        exact ih1 x6 z5 y4 (show (16 - x6.toInt : Int) < (n1 : Int) from by omega) ⟨by omega, by omega⟩ (mv1_step (by decide) (by decide) (by omega) (by omega) (by omega) (by omega) v1_0 e3 p4_1.1 p4_1.2 hz5 trivial) _ _ hP hS _ (lv_sub hl [0, 1, 2, 3] rfl)
  exact loop1 17 0 z y (show (16 - (0 : Int) : Int) < ((17 : Nat) : Int) from by omega) ⟨by decide, by decide⟩ (mv1_0 (by omega)) _ _ hP hS _ (lv_sub hl [0, 1, 2, 3] rfl)
set_option maxRecDepth 100000 in
set_option maxHeartbeats 8000000 in
theorem m_movesAll_v18 (l : Launch) (D : va_G) (ca : Nat → ClassId) (o : Nat) (z : Nat → Nat → Int32) (y : Nat → Nat → Int64)  (hp0 : 0 ≤ (z 0 62).toInt ∧ (z 0 62).toInt ≤ 233) : qM l yX11_movesAll cX11_movesAll 4 none 2 83 (qPre D vwCl (qT6 ca) o 41 (qG (GM ca o) z y) [.ref (o + 0), .ref (o + 8), .int 1]) (va_Qv (fun u => (u.1 = mv1 z 8 (z 0 62).toNatClampNeg 16)) (qB D vwCl (qT6 ca) o 41 (fun u : qZ => qG (GM ca o) u.1 u.2)) (qw_A o 41)) (qw_A o 41) := by
  refine Met.ofW (cc := cX11_movesAll) (maxL := 4) (ret := none) (by decide) rfl ?_
  intro p e s m args below meth c s₁ B hml hv
  obtain ⟨rfl, hP, hK⟩ := hv
  have hx := B.exec
  have hb := B.bytes
  have hr := B.returns
  have hts0 := atoms_spec (ws := Cond.code yX11_movesAll cX11_movesAll 4 none :: qtbl) B.pre
  have hts : ∀ w ∈ qtbl, w.before _ s = true := fun w h => hts0 w (List.mem_cons_of_mem _ h)
  have hown : s.vm.findClass RX11 = some m.cls := findClass_of_methodNamed B.named
  have hlocks := B.notSynchronized
  have hS : va_S (qw_A o 41) s.heap s.heap [] := va_S.rf
  have hl := lv_entry ([.ref (o + 0), .ref (o + 8), .int 1]) (n := 4) (Nat.le_of_ble_eq_true rfl)
  rw [lg_entry_eq]
  generalize (lg_sl ([.ref (o + 0), .ref (o + 8), .int 1]) ++ List.replicate (4 - (lg_sl ([.ref (o + 0), .ref (o + 8), .int 1])).length) Slot.unset).toArray = ls at hl ⊢
  have hl : lv_has ls 4 [(0, .ref (o + 0)), (1, .ref (o + 8)), (2, .int 1)] := hl
  refine lv_iconst (v := 0) hx hb dX11_movesAll_0 (by decide) ?_
  refine lv_istore_n (lv' := [(3, .int 0), (0, .ref (o + 0)), (1, .ref (o + 8)), (2, .int 1)]) hx hb dX11_movesAll_1 rfl hl (by decide) rfl (fun ls hl => ?_)
  have loop1 : ∀ (n : Nat) (w1_3 : Int32) (z1 : Nat → Nat → Int32) (y1 : Nat → Nat → Int64), ((16 - w1_3.toInt : Int) < (n : Int)) → ((0 : Int) ≤ w1_3.toInt ∧ w1_3.toInt ≤ 16) → (z1 = mv1 z 8 (z 0 62).toNatClampNeg w1_3.toNatClampNeg) → ∀ (H : Heap) (locs : List Loc), qw_P D vwCl o 41 (qG (GM ca o) z1 y1) H → va_S (qw_A o 41) s.heap H locs → ∀ (ls : Array Slot), lv_has ls 4 [(3, .int w1_3), (0, .ref (o + 0)), (1, .ref (o + 8)), (2, .int 1)] → W p l e (headSpec (Cond.code yX11_movesAll cX11_movesAll 4 none :: qtbl) ({ frames := 2, cells := 0, slots := 0, locals := 83 })).room s m (([.ref (o + 0), .ref (o + 8), .int 1] : List Value).toArray) below meth c H locs 0 0 (MQ below (va_Qv (fun u => (u.1 = mv1 z 8 (z 0 62).toNatClampNeg 16)) (qB D vwCl (qT6 ca) o 41 (fun u : qZ => qG (GM ca o) u.1 u.2)) (qw_A o 41)) (([.ref (o + 0), .ref (o + 8), .int 1] : List Value).toArray) s 0 0 (qw_A o 41)) (F0 m 2 ls []) := by
    intro n
    induction n with
    | zero => intro w1_3 z1 y1 hb1 hv1_3 v1_0; exfalso; omega
    | succ n1 ih1 =>
      intro w1_3 z1 y1 hb1 hv1_3 v1_0 H locs hP hS ls hl
      have kk1 : (z1 0 62).toInt = (z 0 62).toInt + w1_3.toInt := mv1_at (by decide) (by omega) (by omega) (by omega) v1_0
      refine lv_iload_n hx hb dX11_movesAll_2 rfl (lv_at hl 0 rfl) ?_
      refine lv_aload_n hx hb dX11_movesAll_3 rfl (lv_at hl 2 rfl) ?_
      refine qa_len hx hb hK hP (q0 := 8) (by decide) 0 (hgM_8 ca o) rfl (v := 16) rfl dX11_movesAll_4 ?_
      refine lv_icmp_ge (tgt := 25) hx hb dX11_movesAll_5 (by decide) (fun c2 => ?_) (fun c2 => ?_)
      · have t2 : w1_3.toInt ≥ (16 : Int) := gl_le c2
        exact W.vret hx hb hr (fun t ht hW => ⟨⟨(z1, y1), rfl, (by have h := v1_0; rw [gr_eq (y := 16) (show w1_3.toInt = (16 : Int) from by omega)] at h; exact h), by rw [ht]; exact hP, va_K.moved hW.alike hK⟩, hS.F ht⟩) hS.2.2 dX11_movesAll_25
      · have t2 : w1_3.toInt < (16 : Int) := gl_nle c2
        refine lv_aload_n hx hb dX11_movesAll_8 rfl (lv_at hl 2 rfl) ?_
        refine lv_iload_n hx hb dX11_movesAll_9 rfl (lv_at hl 0 rfl) ?_
        refine lv_aload_n hx hb dX11_movesAll_10 rfl (lv_at hl 1 rfl) ?_
        refine lv_aload_n hx hb dX11_movesAll_11 rfl (lv_at hl 2 rfl) ?_
        refine lv_iload_n hx hb dX11_movesAll_12 rfl (lv_at hl 0 rfl) ?_
        refine qa_iald hx hb hK hP (q0 := 8) (by decide) 0 (N := 16) (hgM_8 ca o) rfl (gi_in (by omega) (by omega)) dX11_movesAll_13 ?_
        refine lv_topi (fun x3 e3 => ?_)
        refine lv_iload_n hx hb dX11_movesAll_14 rfl (lv_at hl 3 rfl) ?_
        refine qc_Vi2 (As := [.int x3, .int 1]) (rest := [.int w1_3, .ref (o + 8)]) (k0 := 2) (m_moved_v1 l D ca o z1 y1 x3 (by have ql1 : Int32.toInt 1 = 1 := (by decide); omega)) kc_yX11_moved ⟨hx, hb, hml, hown, hts⟩ wq_1599 rfl rfl ⟨Nat.le_of_ble_eq_true rfl, Nat.le_of_ble_eq_true rfl⟩ wq_all hP hK hS qw_Ai (q0 := 0) (by decide) (hgM_0 ca o _ _) rfl rfl hl.1 rfl (Nat.le_of_ble_eq_true rfl) dX11_movesAll_15 ⟨Nat.zero_le _, Nat.zero_le _⟩ (fun r4 z4 y4 H locs h4 hP hS _ _ => ?_)
        have p4_1 : r4 = z1 40 (z1 0 62).toNatClampNeg ∧ z4 = qu z1 0 62 (z1 0 62 + 1) := h4.2
        refine qa_iast2 hx hb hK hP hS qw_Ai (q0 := 8) (by decide) 0 (N := 16) (hgM_8 ca o) rfl (i := w1_3) (x := r4) (gi_in (by omega) (by omega)) dX11_movesAll_18 (fun z5 H locs hz5 hP hS => ?_)
        obtain ⟨x6, e6⟩ : ∃ t : Int32, t = w1_3 + 1 := ⟨_, rfl⟩
        refine lv_iinc (v := x6) (lv' := [(3, .int x6), (0, .ref (o + 0)), (1, .ref (o + 8)), (2, .int 1)]) hx hb dX11_movesAll_19 hl (k := 0) rfl (by rw [e6]; rfl) (by decide) rfl (fun ls hl => ?_)
        have t6 : x6.toInt = w1_3.toInt + (1 : Int) := ga_add e6 rfl rfl (by omega) (by omega)
        refine lv_goto (tgt := 2) hx hb dX11_movesAll_22 (by decide) ?_
        exact ih1 x6 z5 y4 (show (16 - x6.toInt : Int) < (n1 : Int) from by omega) ⟨by omega, by omega⟩ (mv1_step (by decide) (by decide) (by omega) (by omega) (by omega) (by omega) v1_0 e3 p4_1.1 p4_1.2 hz5 trivial) _ _ hP hS _ (lv_sub hl [0, 1, 2, 3] rfl)
  exact loop1 17 0 z y (show (16 - (0 : Int) : Int) < ((17 : Nat) : Int) from by omega) ⟨by decide, by decide⟩ (mv1_0 (by omega)) _ _ hP hS _ (lv_sub hl [0, 1, 2, 3] rfl)
set_option maxRecDepth 100000 in
set_option maxHeartbeats 8000000 in
theorem m_movesAll_v19 (l : Launch) (D : va_G) (ca : Nat → ClassId) (o : Nat) (z : Nat → Nat → Int32) (y : Nat → Nat → Int64)  (hp0 : 0 ≤ (z 0 62).toInt ∧ (z 0 62).toInt ≤ 233) : qM l yX11_movesAll cX11_movesAll 4 none 2 83 (qPre D vwCl (qT6 ca) o 41 (qG (GM ca o) z y) [.ref (o + 0), .ref (o + 9), .int 1]) (va_Qv (fun u => (u.1 = mv1 z 9 (z 0 62).toNatClampNeg 16)) (qB D vwCl (qT6 ca) o 41 (fun u : qZ => qG (GM ca o) u.1 u.2)) (qw_A o 41)) (qw_A o 41) := by
  refine Met.ofW (cc := cX11_movesAll) (maxL := 4) (ret := none) (by decide) rfl ?_
  intro p e s m args below meth c s₁ B hml hv
  obtain ⟨rfl, hP, hK⟩ := hv
  have hx := B.exec
  have hb := B.bytes
  have hr := B.returns
  have hts0 := atoms_spec (ws := Cond.code yX11_movesAll cX11_movesAll 4 none :: qtbl) B.pre
  have hts : ∀ w ∈ qtbl, w.before _ s = true := fun w h => hts0 w (List.mem_cons_of_mem _ h)
  have hown : s.vm.findClass RX11 = some m.cls := findClass_of_methodNamed B.named
  have hlocks := B.notSynchronized
  have hS : va_S (qw_A o 41) s.heap s.heap [] := va_S.rf
  have hl := lv_entry ([.ref (o + 0), .ref (o + 9), .int 1]) (n := 4) (Nat.le_of_ble_eq_true rfl)
  rw [lg_entry_eq]
  generalize (lg_sl ([.ref (o + 0), .ref (o + 9), .int 1]) ++ List.replicate (4 - (lg_sl ([.ref (o + 0), .ref (o + 9), .int 1])).length) Slot.unset).toArray = ls at hl ⊢
  have hl : lv_has ls 4 [(0, .ref (o + 0)), (1, .ref (o + 9)), (2, .int 1)] := hl
  refine lv_iconst (v := 0) hx hb dX11_movesAll_0 (by decide) ?_
  refine lv_istore_n (lv' := [(3, .int 0), (0, .ref (o + 0)), (1, .ref (o + 9)), (2, .int 1)]) hx hb dX11_movesAll_1 rfl hl (by decide) rfl (fun ls hl => ?_)
  have loop1 : ∀ (n : Nat) (w1_3 : Int32) (z1 : Nat → Nat → Int32) (y1 : Nat → Nat → Int64), ((16 - w1_3.toInt : Int) < (n : Int)) → ((0 : Int) ≤ w1_3.toInt ∧ w1_3.toInt ≤ 16) → (z1 = mv1 z 9 (z 0 62).toNatClampNeg w1_3.toNatClampNeg) → ∀ (H : Heap) (locs : List Loc), qw_P D vwCl o 41 (qG (GM ca o) z1 y1) H → va_S (qw_A o 41) s.heap H locs → ∀ (ls : Array Slot), lv_has ls 4 [(3, .int w1_3), (0, .ref (o + 0)), (1, .ref (o + 9)), (2, .int 1)] → W p l e (headSpec (Cond.code yX11_movesAll cX11_movesAll 4 none :: qtbl) ({ frames := 2, cells := 0, slots := 0, locals := 83 })).room s m (([.ref (o + 0), .ref (o + 9), .int 1] : List Value).toArray) below meth c H locs 0 0 (MQ below (va_Qv (fun u => (u.1 = mv1 z 9 (z 0 62).toNatClampNeg 16)) (qB D vwCl (qT6 ca) o 41 (fun u : qZ => qG (GM ca o) u.1 u.2)) (qw_A o 41)) (([.ref (o + 0), .ref (o + 9), .int 1] : List Value).toArray) s 0 0 (qw_A o 41)) (F0 m 2 ls []) := by
    intro n
    induction n with
    | zero => intro w1_3 z1 y1 hb1 hv1_3 v1_0; exfalso; omega
    | succ n1 ih1 =>
      intro w1_3 z1 y1 hb1 hv1_3 v1_0 H locs hP hS ls hl
      have kk1 : (z1 0 62).toInt = (z 0 62).toInt + w1_3.toInt := mv1_at (by decide) (by omega) (by omega) (by omega) v1_0
      refine lv_iload_n hx hb dX11_movesAll_2 rfl (lv_at hl 0 rfl) ?_
      refine lv_aload_n hx hb dX11_movesAll_3 rfl (lv_at hl 2 rfl) ?_
      refine qa_len hx hb hK hP (q0 := 9) (by decide) 0 (hgM_9 ca o) rfl (v := 16) rfl dX11_movesAll_4 ?_
      refine lv_icmp_ge (tgt := 25) hx hb dX11_movesAll_5 (by decide) (fun c2 => ?_) (fun c2 => ?_)
      · have t2 : w1_3.toInt ≥ (16 : Int) := gl_le c2
        exact W.vret hx hb hr (fun t ht hW => ⟨⟨(z1, y1), rfl, (by have h := v1_0; rw [gr_eq (y := 16) (show w1_3.toInt = (16 : Int) from by omega)] at h; exact h), by rw [ht]; exact hP, va_K.moved hW.alike hK⟩, hS.F ht⟩) hS.2.2 dX11_movesAll_25
      · have t2 : w1_3.toInt < (16 : Int) := gl_nle c2
        refine lv_aload_n hx hb dX11_movesAll_8 rfl (lv_at hl 2 rfl) ?_
        refine lv_iload_n hx hb dX11_movesAll_9 rfl (lv_at hl 0 rfl) ?_
        refine lv_aload_n hx hb dX11_movesAll_10 rfl (lv_at hl 1 rfl) ?_
        refine lv_aload_n hx hb dX11_movesAll_11 rfl (lv_at hl 2 rfl) ?_
        refine lv_iload_n hx hb dX11_movesAll_12 rfl (lv_at hl 0 rfl) ?_
        refine qa_iald hx hb hK hP (q0 := 9) (by decide) 0 (N := 16) (hgM_9 ca o) rfl (gi_in (by omega) (by omega)) dX11_movesAll_13 ?_
        refine lv_topi (fun x3 e3 => ?_)
        refine lv_iload_n hx hb dX11_movesAll_14 rfl (lv_at hl 3 rfl) ?_
        refine qc_Vi2 (As := [.int x3, .int 1]) (rest := [.int w1_3, .ref (o + 9)]) (k0 := 2) (m_moved_v1 l D ca o z1 y1 x3 (by have ql1 : Int32.toInt 1 = 1 := (by decide); omega)) kc_yX11_moved ⟨hx, hb, hml, hown, hts⟩ wq_1599 rfl rfl ⟨Nat.le_of_ble_eq_true rfl, Nat.le_of_ble_eq_true rfl⟩ wq_all hP hK hS qw_Ai (q0 := 0) (by decide) (hgM_0 ca o _ _) rfl rfl hl.1 rfl (Nat.le_of_ble_eq_true rfl) dX11_movesAll_15 ⟨Nat.zero_le _, Nat.zero_le _⟩ (fun r4 z4 y4 H locs h4 hP hS _ _ => ?_)
        have p4_1 : r4 = z1 40 (z1 0 62).toNatClampNeg ∧ z4 = qu z1 0 62 (z1 0 62 + 1) := h4.2
        refine qa_iast2 hx hb hK hP hS qw_Ai (q0 := 9) (by decide) 0 (N := 16) (hgM_9 ca o) rfl (i := w1_3) (x := r4) (gi_in (by omega) (by omega)) dX11_movesAll_18 (fun z5 H locs hz5 hP hS => ?_)
        obtain ⟨x6, e6⟩ : ∃ t : Int32, t = w1_3 + 1 := ⟨_, rfl⟩
        refine lv_iinc (v := x6) (lv' := [(3, .int x6), (0, .ref (o + 0)), (1, .ref (o + 9)), (2, .int 1)]) hx hb dX11_movesAll_19 hl (k := 0) rfl (by rw [e6]; rfl) (by decide) rfl (fun ls hl => ?_)
        have t6 : x6.toInt = w1_3.toInt + (1 : Int) := ga_add e6 rfl rfl (by omega) (by omega)
        refine lv_goto (tgt := 2) hx hb dX11_movesAll_22 (by decide) ?_
        exact ih1 x6 z5 y4 (show (16 - x6.toInt : Int) < (n1 : Int) from by omega) ⟨by omega, by omega⟩ (mv1_step (by decide) (by decide) (by omega) (by omega) (by omega) (by omega) v1_0 e3 p4_1.1 p4_1.2 hz5 trivial) _ _ hP hS _ (lv_sub hl [0, 1, 2, 3] rfl)
  exact loop1 17 0 z y (show (16 - (0 : Int) : Int) < ((17 : Nat) : Int) from by omega) ⟨by decide, by decide⟩ (mv1_0 (by omega)) _ _ hP hS _ (lv_sub hl [0, 1, 2, 3] rfl)
set_option maxRecDepth 100000 in
set_option maxHeartbeats 8000000 in
theorem m_movesAll_v20 (l : Launch) (D : va_G) (ca : Nat → ClassId) (o : Nat) (z : Nat → Nat → Int32) (y : Nat → Nat → Int64)  (hp0 : 0 ≤ (z 0 62).toInt ∧ (z 0 62).toInt ≤ 233) : qM l yX11_movesAll cX11_movesAll 4 none 2 83 (qPre D vwCl (qT6 ca) o 41 (qG (GM ca o) z y) [.ref (o + 0), .ref (o + 10), .int 1]) (va_Qv (fun u => (u.1 = mv1 z 10 (z 0 62).toNatClampNeg 16)) (qB D vwCl (qT6 ca) o 41 (fun u : qZ => qG (GM ca o) u.1 u.2)) (qw_A o 41)) (qw_A o 41) := by
  refine Met.ofW (cc := cX11_movesAll) (maxL := 4) (ret := none) (by decide) rfl ?_
  intro p e s m args below meth c s₁ B hml hv
  obtain ⟨rfl, hP, hK⟩ := hv
  have hx := B.exec
  have hb := B.bytes
  have hr := B.returns
  have hts0 := atoms_spec (ws := Cond.code yX11_movesAll cX11_movesAll 4 none :: qtbl) B.pre
  have hts : ∀ w ∈ qtbl, w.before _ s = true := fun w h => hts0 w (List.mem_cons_of_mem _ h)
  have hown : s.vm.findClass RX11 = some m.cls := findClass_of_methodNamed B.named
  have hlocks := B.notSynchronized
  have hS : va_S (qw_A o 41) s.heap s.heap [] := va_S.rf
  have hl := lv_entry ([.ref (o + 0), .ref (o + 10), .int 1]) (n := 4) (Nat.le_of_ble_eq_true rfl)
  rw [lg_entry_eq]
  generalize (lg_sl ([.ref (o + 0), .ref (o + 10), .int 1]) ++ List.replicate (4 - (lg_sl ([.ref (o + 0), .ref (o + 10), .int 1])).length) Slot.unset).toArray = ls at hl ⊢
  have hl : lv_has ls 4 [(0, .ref (o + 0)), (1, .ref (o + 10)), (2, .int 1)] := hl
  refine lv_iconst (v := 0) hx hb dX11_movesAll_0 (by decide) ?_
  refine lv_istore_n (lv' := [(3, .int 0), (0, .ref (o + 0)), (1, .ref (o + 10)), (2, .int 1)]) hx hb dX11_movesAll_1 rfl hl (by decide) rfl (fun ls hl => ?_)
  have loop1 : ∀ (n : Nat) (w1_3 : Int32) (z1 : Nat → Nat → Int32) (y1 : Nat → Nat → Int64), ((16 - w1_3.toInt : Int) < (n : Int)) → ((0 : Int) ≤ w1_3.toInt ∧ w1_3.toInt ≤ 16) → (z1 = mv1 z 10 (z 0 62).toNatClampNeg w1_3.toNatClampNeg) → ∀ (H : Heap) (locs : List Loc), qw_P D vwCl o 41 (qG (GM ca o) z1 y1) H → va_S (qw_A o 41) s.heap H locs → ∀ (ls : Array Slot), lv_has ls 4 [(3, .int w1_3), (0, .ref (o + 0)), (1, .ref (o + 10)), (2, .int 1)] → W p l e (headSpec (Cond.code yX11_movesAll cX11_movesAll 4 none :: qtbl) ({ frames := 2, cells := 0, slots := 0, locals := 83 })).room s m (([.ref (o + 0), .ref (o + 10), .int 1] : List Value).toArray) below meth c H locs 0 0 (MQ below (va_Qv (fun u => (u.1 = mv1 z 10 (z 0 62).toNatClampNeg 16)) (qB D vwCl (qT6 ca) o 41 (fun u : qZ => qG (GM ca o) u.1 u.2)) (qw_A o 41)) (([.ref (o + 0), .ref (o + 10), .int 1] : List Value).toArray) s 0 0 (qw_A o 41)) (F0 m 2 ls []) := by
    intro n
    induction n with
    | zero => intro w1_3 z1 y1 hb1 hv1_3 v1_0; exfalso; omega
    | succ n1 ih1 =>
      intro w1_3 z1 y1 hb1 hv1_3 v1_0 H locs hP hS ls hl
      have kk1 : (z1 0 62).toInt = (z 0 62).toInt + w1_3.toInt := mv1_at (by decide) (by omega) (by omega) (by omega) v1_0
      refine lv_iload_n hx hb dX11_movesAll_2 rfl (lv_at hl 0 rfl) ?_
      refine lv_aload_n hx hb dX11_movesAll_3 rfl (lv_at hl 2 rfl) ?_
      refine qa_len hx hb hK hP (q0 := 10) (by decide) 0 (hgM_10 ca o) rfl (v := 16) rfl dX11_movesAll_4 ?_
      refine lv_icmp_ge (tgt := 25) hx hb dX11_movesAll_5 (by decide) (fun c2 => ?_) (fun c2 => ?_)
      · have t2 : w1_3.toInt ≥ (16 : Int) := gl_le c2
        exact W.vret hx hb hr (fun t ht hW => ⟨⟨(z1, y1), rfl, (by have h := v1_0; rw [gr_eq (y := 16) (show w1_3.toInt = (16 : Int) from by omega)] at h; exact h), by rw [ht]; exact hP, va_K.moved hW.alike hK⟩, hS.F ht⟩) hS.2.2 dX11_movesAll_25
      · have t2 : w1_3.toInt < (16 : Int) := gl_nle c2
        refine lv_aload_n hx hb dX11_movesAll_8 rfl (lv_at hl 2 rfl) ?_
        refine lv_iload_n hx hb dX11_movesAll_9 rfl (lv_at hl 0 rfl) ?_
        refine lv_aload_n hx hb dX11_movesAll_10 rfl (lv_at hl 1 rfl) ?_
        refine lv_aload_n hx hb dX11_movesAll_11 rfl (lv_at hl 2 rfl) ?_
        refine lv_iload_n hx hb dX11_movesAll_12 rfl (lv_at hl 0 rfl) ?_
        refine qa_iald hx hb hK hP (q0 := 10) (by decide) 0 (N := 16) (hgM_10 ca o) rfl (gi_in (by omega) (by omega)) dX11_movesAll_13 ?_
        refine lv_topi (fun x3 e3 => ?_)
        refine lv_iload_n hx hb dX11_movesAll_14 rfl (lv_at hl 3 rfl) ?_
        refine qc_Vi2 (As := [.int x3, .int 1]) (rest := [.int w1_3, .ref (o + 10)]) (k0 := 2) (m_moved_v1 l D ca o z1 y1 x3 (by have ql1 : Int32.toInt 1 = 1 := (by decide); omega)) kc_yX11_moved ⟨hx, hb, hml, hown, hts⟩ wq_1599 rfl rfl ⟨Nat.le_of_ble_eq_true rfl, Nat.le_of_ble_eq_true rfl⟩ wq_all hP hK hS qw_Ai (q0 := 0) (by decide) (hgM_0 ca o _ _) rfl rfl hl.1 rfl (Nat.le_of_ble_eq_true rfl) dX11_movesAll_15 ⟨Nat.zero_le _, Nat.zero_le _⟩ (fun r4 z4 y4 H locs h4 hP hS _ _ => ?_)
        have p4_1 : r4 = z1 40 (z1 0 62).toNatClampNeg ∧ z4 = qu z1 0 62 (z1 0 62 + 1) := h4.2
        refine qa_iast2 hx hb hK hP hS qw_Ai (q0 := 10) (by decide) 0 (N := 16) (hgM_10 ca o) rfl (i := w1_3) (x := r4) (gi_in (by omega) (by omega)) dX11_movesAll_18 (fun z5 H locs hz5 hP hS => ?_)
        obtain ⟨x6, e6⟩ : ∃ t : Int32, t = w1_3 + 1 := ⟨_, rfl⟩
        refine lv_iinc (v := x6) (lv' := [(3, .int x6), (0, .ref (o + 0)), (1, .ref (o + 10)), (2, .int 1)]) hx hb dX11_movesAll_19 hl (k := 0) rfl (by rw [e6]; rfl) (by decide) rfl (fun ls hl => ?_)
        have t6 : x6.toInt = w1_3.toInt + (1 : Int) := ga_add e6 rfl rfl (by omega) (by omega)
        refine lv_goto (tgt := 2) hx hb dX11_movesAll_22 (by decide) ?_
        exact ih1 x6 z5 y4 (show (16 - x6.toInt : Int) < (n1 : Int) from by omega) ⟨by omega, by omega⟩ (mv1_step (by decide) (by decide) (by omega) (by omega) (by omega) (by omega) v1_0 e3 p4_1.1 p4_1.2 hz5 trivial) _ _ hP hS _ (lv_sub hl [0, 1, 2, 3] rfl)
  exact loop1 17 0 z y (show (16 - (0 : Int) : Int) < ((17 : Nat) : Int) from by omega) ⟨by decide, by decide⟩ (mv1_0 (by omega)) _ _ hP hS _ (lv_sub hl [0, 1, 2, 3] rfl)
set_option maxRecDepth 100000 in
set_option maxHeartbeats 8000000 in
theorem m_movesAll_v21 (l : Launch) (D : va_G) (ca : Nat → ClassId) (o : Nat) (z : Nat → Nat → Int32) (y : Nat → Nat → Int64)  (hp0 : 0 ≤ (z 0 62).toInt ∧ (z 0 62).toInt ≤ 233) : qM l yX11_movesAll cX11_movesAll 4 none 2 83 (qPre D vwCl (qT6 ca) o 41 (qG (GM ca o) z y) [.ref (o + 0), .ref (o + 11), .int 1]) (va_Qv (fun u => (u.1 = mv1 z 11 (z 0 62).toNatClampNeg 16)) (qB D vwCl (qT6 ca) o 41 (fun u : qZ => qG (GM ca o) u.1 u.2)) (qw_A o 41)) (qw_A o 41) := by
  refine Met.ofW (cc := cX11_movesAll) (maxL := 4) (ret := none) (by decide) rfl ?_
  intro p e s m args below meth c s₁ B hml hv
  obtain ⟨rfl, hP, hK⟩ := hv
  have hx := B.exec
  have hb := B.bytes
  have hr := B.returns
  have hts0 := atoms_spec (ws := Cond.code yX11_movesAll cX11_movesAll 4 none :: qtbl) B.pre
  have hts : ∀ w ∈ qtbl, w.before _ s = true := fun w h => hts0 w (List.mem_cons_of_mem _ h)
  have hown : s.vm.findClass RX11 = some m.cls := findClass_of_methodNamed B.named
  have hlocks := B.notSynchronized
  have hS : va_S (qw_A o 41) s.heap s.heap [] := va_S.rf
  have hl := lv_entry ([.ref (o + 0), .ref (o + 11), .int 1]) (n := 4) (Nat.le_of_ble_eq_true rfl)
  rw [lg_entry_eq]
  generalize (lg_sl ([.ref (o + 0), .ref (o + 11), .int 1]) ++ List.replicate (4 - (lg_sl ([.ref (o + 0), .ref (o + 11), .int 1])).length) Slot.unset).toArray = ls at hl ⊢
  have hl : lv_has ls 4 [(0, .ref (o + 0)), (1, .ref (o + 11)), (2, .int 1)] := hl
  refine lv_iconst (v := 0) hx hb dX11_movesAll_0 (by decide) ?_
  refine lv_istore_n (lv' := [(3, .int 0), (0, .ref (o + 0)), (1, .ref (o + 11)), (2, .int 1)]) hx hb dX11_movesAll_1 rfl hl (by decide) rfl (fun ls hl => ?_)
  have loop1 : ∀ (n : Nat) (w1_3 : Int32) (z1 : Nat → Nat → Int32) (y1 : Nat → Nat → Int64), ((16 - w1_3.toInt : Int) < (n : Int)) → ((0 : Int) ≤ w1_3.toInt ∧ w1_3.toInt ≤ 16) → (z1 = mv1 z 11 (z 0 62).toNatClampNeg w1_3.toNatClampNeg) → ∀ (H : Heap) (locs : List Loc), qw_P D vwCl o 41 (qG (GM ca o) z1 y1) H → va_S (qw_A o 41) s.heap H locs → ∀ (ls : Array Slot), lv_has ls 4 [(3, .int w1_3), (0, .ref (o + 0)), (1, .ref (o + 11)), (2, .int 1)] → W p l e (headSpec (Cond.code yX11_movesAll cX11_movesAll 4 none :: qtbl) ({ frames := 2, cells := 0, slots := 0, locals := 83 })).room s m (([.ref (o + 0), .ref (o + 11), .int 1] : List Value).toArray) below meth c H locs 0 0 (MQ below (va_Qv (fun u => (u.1 = mv1 z 11 (z 0 62).toNatClampNeg 16)) (qB D vwCl (qT6 ca) o 41 (fun u : qZ => qG (GM ca o) u.1 u.2)) (qw_A o 41)) (([.ref (o + 0), .ref (o + 11), .int 1] : List Value).toArray) s 0 0 (qw_A o 41)) (F0 m 2 ls []) := by
    intro n
    induction n with
    | zero => intro w1_3 z1 y1 hb1 hv1_3 v1_0; exfalso; omega
    | succ n1 ih1 =>
      intro w1_3 z1 y1 hb1 hv1_3 v1_0 H locs hP hS ls hl
      have kk1 : (z1 0 62).toInt = (z 0 62).toInt + w1_3.toInt := mv1_at (by decide) (by omega) (by omega) (by omega) v1_0
      refine lv_iload_n hx hb dX11_movesAll_2 rfl (lv_at hl 0 rfl) ?_
      refine lv_aload_n hx hb dX11_movesAll_3 rfl (lv_at hl 2 rfl) ?_
      refine qa_len hx hb hK hP (q0 := 11) (by decide) 0 (hgM_11 ca o) rfl (v := 16) rfl dX11_movesAll_4 ?_
      refine lv_icmp_ge (tgt := 25) hx hb dX11_movesAll_5 (by decide) (fun c2 => ?_) (fun c2 => ?_)
      · have t2 : w1_3.toInt ≥ (16 : Int) := gl_le c2
        exact W.vret hx hb hr (fun t ht hW => ⟨⟨(z1, y1), rfl, (by have h := v1_0; rw [gr_eq (y := 16) (show w1_3.toInt = (16 : Int) from by omega)] at h; exact h), by rw [ht]; exact hP, va_K.moved hW.alike hK⟩, hS.F ht⟩) hS.2.2 dX11_movesAll_25
      · have t2 : w1_3.toInt < (16 : Int) := gl_nle c2
        refine lv_aload_n hx hb dX11_movesAll_8 rfl (lv_at hl 2 rfl) ?_
        refine lv_iload_n hx hb dX11_movesAll_9 rfl (lv_at hl 0 rfl) ?_
        refine lv_aload_n hx hb dX11_movesAll_10 rfl (lv_at hl 1 rfl) ?_
        refine lv_aload_n hx hb dX11_movesAll_11 rfl (lv_at hl 2 rfl) ?_
        refine lv_iload_n hx hb dX11_movesAll_12 rfl (lv_at hl 0 rfl) ?_
        refine qa_iald hx hb hK hP (q0 := 11) (by decide) 0 (N := 16) (hgM_11 ca o) rfl (gi_in (by omega) (by omega)) dX11_movesAll_13 ?_
        refine lv_topi (fun x3 e3 => ?_)
        refine lv_iload_n hx hb dX11_movesAll_14 rfl (lv_at hl 3 rfl) ?_
        refine qc_Vi2 (As := [.int x3, .int 1]) (rest := [.int w1_3, .ref (o + 11)]) (k0 := 2) (m_moved_v1 l D ca o z1 y1 x3 (by have ql1 : Int32.toInt 1 = 1 := (by decide); omega)) kc_yX11_moved ⟨hx, hb, hml, hown, hts⟩ wq_1599 rfl rfl ⟨Nat.le_of_ble_eq_true rfl, Nat.le_of_ble_eq_true rfl⟩ wq_all hP hK hS qw_Ai (q0 := 0) (by decide) (hgM_0 ca o _ _) rfl rfl hl.1 rfl (Nat.le_of_ble_eq_true rfl) dX11_movesAll_15 ⟨Nat.zero_le _, Nat.zero_le _⟩ (fun r4 z4 y4 H locs h4 hP hS _ _ => ?_)
        have p4_1 : r4 = z1 40 (z1 0 62).toNatClampNeg ∧ z4 = qu z1 0 62 (z1 0 62 + 1) := h4.2
        refine qa_iast2 hx hb hK hP hS qw_Ai (q0 := 11) (by decide) 0 (N := 16) (hgM_11 ca o) rfl (i := w1_3) (x := r4) (gi_in (by omega) (by omega)) dX11_movesAll_18 (fun z5 H locs hz5 hP hS => ?_)
        obtain ⟨x6, e6⟩ : ∃ t : Int32, t = w1_3 + 1 := ⟨_, rfl⟩
        refine lv_iinc (v := x6) (lv' := [(3, .int x6), (0, .ref (o + 0)), (1, .ref (o + 11)), (2, .int 1)]) hx hb dX11_movesAll_19 hl (k := 0) rfl (by rw [e6]; rfl) (by decide) rfl (fun ls hl => ?_)
        have t6 : x6.toInt = w1_3.toInt + (1 : Int) := ga_add e6 rfl rfl (by omega) (by omega)
        refine lv_goto (tgt := 2) hx hb dX11_movesAll_22 (by decide) ?_
        exact ih1 x6 z5 y4 (show (16 - x6.toInt : Int) < (n1 : Int) from by omega) ⟨by omega, by omega⟩ (mv1_step (by decide) (by decide) (by omega) (by omega) (by omega) (by omega) v1_0 e3 p4_1.1 p4_1.2 hz5 trivial) _ _ hP hS _ (lv_sub hl [0, 1, 2, 3] rfl)
  exact loop1 17 0 z y (show (16 - (0 : Int) : Int) < ((17 : Nat) : Int) from by omega) ⟨by decide, by decide⟩ (mv1_0 (by omega)) _ _ hP hS _ (lv_sub hl [0, 1, 2, 3] rfl)
set_option maxRecDepth 100000 in
set_option maxHeartbeats 8000000 in
theorem m_moves_v1 (l : Launch) (D : va_G) (ca : Nat → ClassId) (o : Nat) (z : Nat → Nat → Int32) (y : Nat → Nat → Int64)   : qM l yX11_moves cX11_moves 2 none 3 106 (qPre D vwCl (qT6 ca) o 41 (qG (GM ca o) z y) [.ref (o + 0), .int 1]) (va_Qv (fun u => (u.1 = unF z 249)) (qB D vwCl (qT6 ca) o 41 (fun u : qZ => qG (GM ca o) u.1 u.2)) (qw_A o 41)) (qw_A o 41) := by
  refine Met.ofW (cc := cX11_moves) (maxL := 2) (ret := none) (by decide) rfl ?_
  intro p e s m args below meth c s₁ B hml hv
  obtain ⟨rfl, hP, hK⟩ := hv
  have hx := B.exec
  have hb := B.bytes
  have hr := B.returns
  have hts0 := atoms_spec (ws := Cond.code yX11_moves cX11_moves 2 none :: qtbl) B.pre
  have hts : ∀ w ∈ qtbl, w.before _ s = true := fun w h => hts0 w (List.mem_cons_of_mem _ h)
  have hown : s.vm.findClass RX11 = some m.cls := findClass_of_methodNamed B.named
  have hlocks := B.notSynchronized
  have hS : va_S (qw_A o 41) s.heap s.heap [] := va_S.rf
  have hl := lv_entry ([.ref (o + 0), .int 1]) (n := 2) (Nat.le_of_ble_eq_true rfl)
  rw [lg_entry_eq]
  generalize (lg_sl ([.ref (o + 0), .int 1]) ++ List.replicate (2 - (lg_sl ([.ref (o + 0), .int 1])).length) Slot.unset).toArray = ls at hl ⊢
  have hl : lv_has ls 2 [(0, .ref (o + 0)), (1, .int 1)] := hl
  refine lv_aload_n hx hb dX11_moves_0 rfl (lv_at hl 0 rfl) ?_
  refine lv_iconst (v := 0) hx hb dX11_moves_1 (by decide) ?_
  refine qf_put2 hx hb hts inX11 tyX11 tyX11_ok nmX11 hown hK hP hS qw_Ai (q0 := 0) (by decide) (hgM_0 ca o) rfl 62 (by decide) wq_1054 rfl (x := 0) 62 rfl rfl rfl (Nat.le_of_ble_eq_true rfl) dX11_moves_2 (fun z1 H locs hz1 hP hS => ?_)
  have kf1 : z1 = unF z 0 := unF_0 hz1
  have kn1 : (z1 0 62).toInt = 0 := unF_at (by decide) kf1
  refine lv_aload_n hx hb dX11_moves_5 rfl (lv_at hl 0 rfl) ?_
  refine lv_aload_n hx hb dX11_moves_6 rfl (lv_at hl 0 rfl) ?_
  refine lv_aload_n hx hb dX11_moves_7 rfl (lv_at hl 0 rfl) ?_
  refine qf_get hx hb hts inX11 hown hK hP (q0 := 0) (by decide) (hgM_0 ca o) rfl 4 (by decide) wq_997 (v := .int (z1 0 4)) rfl dX11_moves_8 ?_
  refine lv_topi (fun x2 e2 => ?_)
  refine lv_iload_n hx hb dX11_moves_11 rfl (lv_at hl 1 rfl) ?_
  refine qc_Vi2 (As := [.int x2, .int 1]) (rest := [.ref (o + 0)]) (k0 := 2) (m_moved_v1 l D ca o z1 y x2 (by have ql1 : Int32.toInt 1 = 1 := (by decide); omega)) kc_yX11_moved ⟨hx, hb, hml, hown, hts⟩ wq_1599 rfl rfl ⟨Nat.le_of_ble_eq_true rfl, Nat.le_of_ble_eq_true rfl⟩ wq_all hP hK hS qw_Ai (q0 := 0) (by decide) (hgM_0 ca o _ _) rfl rfl hl.1 rfl (Nat.le_of_ble_eq_true rfl) dX11_moves_12 ⟨Nat.zero_le _, Nat.zero_le _⟩ (fun r3 z3 y3 H locs h3 hP hS _ _ => ?_)
  have p3_1 : r3 = z1 40 (z1 0 62).toNatClampNeg ∧ z3 = qu z1 0 62 (z1 0 62 + 1) := h3.2
  refine qf_put2 hx hb hts inX11 tyX11 tyX11_ok nmX11 hown hK hP hS qw_Ai (q0 := 0) (by decide) (hgM_0 ca o) rfl 4 (by decide) wq_997 rfl (x := r3) 4 rfl rfl rfl (Nat.le_of_ble_eq_true rfl) dX11_moves_15 (fun z4 H locs hz4 hP hS => ?_)
  have kf4 : z4 = unF z 1 := unF_m (by decide) kf1 (by decide) p3_1.1 p3_1.2 hz4
  have kn4 : (z4 0 62).toInt = 1 := unF_at (by decide) kf4
  refine lv_aload_n hx hb dX11_moves_18 rfl (lv_at hl 0 rfl) ?_
  refine lv_aload_n hx hb dX11_moves_19 rfl (lv_at hl 0 rfl) ?_
  refine lv_aload_n hx hb dX11_moves_20 rfl (lv_at hl 0 rfl) ?_
  refine qf_get hx hb hts inX11 hown hK hP (q0 := 0) (by decide) (hgM_0 ca o) rfl 5 (by decide) wq_998 (v := .int (z4 0 5)) rfl dX11_moves_21 ?_
  refine lv_topi (fun x5 e5 => ?_)
  refine lv_iload_n hx hb dX11_moves_24 rfl (lv_at hl 1 rfl) ?_
  refine qc_Vi2 (As := [.int x5, .int 1]) (rest := [.ref (o + 0)]) (k0 := 2) (m_moved_v1 l D ca o z4 y3 x5 (by have ql1 : Int32.toInt 1 = 1 := (by decide); omega)) kc_yX11_moved ⟨hx, hb, hml, hown, hts⟩ wq_1599 rfl rfl ⟨Nat.le_of_ble_eq_true rfl, Nat.le_of_ble_eq_true rfl⟩ wq_all hP hK hS qw_Ai (q0 := 0) (by decide) (hgM_0 ca o _ _) rfl rfl hl.1 rfl (Nat.le_of_ble_eq_true rfl) dX11_moves_25 ⟨Nat.zero_le _, Nat.zero_le _⟩ (fun r6 z6 y6 H locs h6 hP hS _ _ => ?_)
  have p6_1 : r6 = z4 40 (z4 0 62).toNatClampNeg ∧ z6 = qu z4 0 62 (z4 0 62 + 1) := h6.2
  refine qf_put2 hx hb hts inX11 tyX11 tyX11_ok nmX11 hown hK hP hS qw_Ai (q0 := 0) (by decide) (hgM_0 ca o) rfl 5 (by decide) wq_998 rfl (x := r6) 5 rfl rfl rfl (Nat.le_of_ble_eq_true rfl) dX11_moves_28 (fun z7 H locs hz7 hP hS => ?_)
  have kf7 : z7 = unF z 2 := unF_m (by decide) kf4 (by decide) p6_1.1 p6_1.2 hz7
  have kn7 : (z7 0 62).toInt = 2 := unF_at (by decide) kf7
  refine lv_aload_n hx hb dX11_moves_31 rfl (lv_at hl 0 rfl) ?_
  refine lv_aload_n hx hb dX11_moves_32 rfl (lv_at hl 0 rfl) ?_
  refine lv_aload_n hx hb dX11_moves_33 rfl (lv_at hl 0 rfl) ?_
  refine qf_get hx hb hts inX11 hown hK hP (q0 := 0) (by decide) (hgM_0 ca o) rfl 6 (by decide) wq_999 (v := .int (z7 0 6)) rfl dX11_moves_34 ?_
  refine lv_topi (fun x8 e8 => ?_)
  refine lv_iload_n hx hb dX11_moves_37 rfl (lv_at hl 1 rfl) ?_
  refine qc_Vi2 (As := [.int x8, .int 1]) (rest := [.ref (o + 0)]) (k0 := 2) (m_moved_v1 l D ca o z7 y6 x8 (by have ql1 : Int32.toInt 1 = 1 := (by decide); omega)) kc_yX11_moved ⟨hx, hb, hml, hown, hts⟩ wq_1599 rfl rfl ⟨Nat.le_of_ble_eq_true rfl, Nat.le_of_ble_eq_true rfl⟩ wq_all hP hK hS qw_Ai (q0 := 0) (by decide) (hgM_0 ca o _ _) rfl rfl hl.1 rfl (Nat.le_of_ble_eq_true rfl) dX11_moves_38 ⟨Nat.zero_le _, Nat.zero_le _⟩ (fun r9 z9 y9 H locs h9 hP hS _ _ => ?_)
  have p9_1 : r9 = z7 40 (z7 0 62).toNatClampNeg ∧ z9 = qu z7 0 62 (z7 0 62 + 1) := h9.2
  refine qf_put2 hx hb hts inX11 tyX11 tyX11_ok nmX11 hown hK hP hS qw_Ai (q0 := 0) (by decide) (hgM_0 ca o) rfl 6 (by decide) wq_999 rfl (x := r9) 6 rfl rfl rfl (Nat.le_of_ble_eq_true rfl) dX11_moves_41 (fun z10 H locs hz10 hP hS => ?_)
  have kf10 : z10 = unF z 3 := unF_m (by decide) kf7 (by decide) p9_1.1 p9_1.2 hz10
  have kn10 : (z10 0 62).toInt = 3 := unF_at (by decide) kf10
  refine lv_aload_n hx hb dX11_moves_44 rfl (lv_at hl 0 rfl) ?_
  refine lv_aload_n hx hb dX11_moves_45 rfl (lv_at hl 0 rfl) ?_
  refine qf_get hx hb hts inX11 hown hK hP (q0 := 0) (by decide) (hgM_0 ca o) rfl 0 (by decide) wq_993 (v := .ref (o + 1)) rfl dX11_moves_46 ?_
  refine lv_iload_n hx hb dX11_moves_49 rfl (lv_at hl 1 rfl) ?_
  refine qc_Vv2 (As := [.ref (o + 1), .int 1]) (rest := []) (k0 := 2) (m_movesAll_v11 l D ca o z10 y9 (by have ql1 : Int32.toInt 1 = 1 := (by decide); omega)) kc_yX11_movesAll ⟨hx, hb, hml, hown, hts⟩ wq_1603 rfl rfl ⟨Nat.le_of_ble_eq_true rfl, Nat.le_of_ble_eq_true rfl⟩ wq_all hP hK hS qw_Ai (q0 := 0) (by decide) (hgM_0 ca o _ _) rfl rfl hl.1 rfl (Nat.le_of_ble_eq_true rfl) dX11_moves_50 ⟨Nat.zero_le _, Nat.zero_le _⟩ (fun z11 y11 H locs h11 hP hS _ _ => ?_)
  have p11_0 : z11 = mv1 z10 1 (z10 0 62).toNatClampNeg 6 := h11
  have kf11 : z11 = unF z 9 := unF_a1 kf10 p11_0
  have kn11 : (z11 0 62).toInt = 9 := unF_at (by decide) kf11
  refine lv_aload_n hx hb dX11_moves_53 rfl (lv_at hl 0 rfl) ?_
  refine lv_aload_n hx hb dX11_moves_54 rfl (lv_at hl 0 rfl) ?_
  refine qf_get hx hb hts inX11 hown hK hP (q0 := 0) (by decide) (hgM_0 ca o) rfl 1 (by decide) wq_994 (v := .ref (o + 2)) rfl dX11_moves_55 ?_
  refine lv_iload_n hx hb dX11_moves_58 rfl (lv_at hl 1 rfl) ?_
  refine qc_Vv2 (As := [.ref (o + 2), .int 1]) (rest := []) (k0 := 2) (m_movesAll_v12 l D ca o z11 y11 (by have ql1 : Int32.toInt 1 = 1 := (by decide); omega)) kc_yX11_movesAll ⟨hx, hb, hml, hown, hts⟩ wq_1603 rfl rfl ⟨Nat.le_of_ble_eq_true rfl, Nat.le_of_ble_eq_true rfl⟩ wq_all hP hK hS qw_Ai (q0 := 0) (by decide) (hgM_0 ca o _ _) rfl rfl hl.1 rfl (Nat.le_of_ble_eq_true rfl) dX11_moves_59 ⟨Nat.zero_le _, Nat.zero_le _⟩ (fun z12 y12 H locs h12 hP hS _ _ => ?_)
  have p12_0 : z12 = mv1 z11 2 (z11 0 62).toNatClampNeg 6 := h12
  have kf12 : z12 = unF z 15 := unF_a2 kf11 p12_0
  have kn12 : (z12 0 62).toInt = 15 := unF_at (by decide) kf12
  refine lv_aload_n hx hb dX11_moves_62 rfl (lv_at hl 0 rfl) ?_
  refine lv_aload_n hx hb dX11_moves_63 rfl (lv_at hl 0 rfl) ?_
  refine qf_get hx hb hts inX11 hown hK hP (q0 := 0) (by decide) (hgM_0 ca o) rfl 2 (by decide) wq_995 (v := .ref (o + 3)) rfl dX11_moves_64 ?_
  refine lv_iload_n hx hb dX11_moves_67 rfl (lv_at hl 1 rfl) ?_
  refine qc_Vv2 (As := [.ref (o + 3), .int 1]) (rest := []) (k0 := 2) (m_movesAll_v13 l D ca o z12 y12 (by have ql1 : Int32.toInt 1 = 1 := (by decide); omega)) kc_yX11_movesAll ⟨hx, hb, hml, hown, hts⟩ wq_1603 rfl rfl ⟨Nat.le_of_ble_eq_true rfl, Nat.le_of_ble_eq_true rfl⟩ wq_all hP hK hS qw_Ai (q0 := 0) (by decide) (hgM_0 ca o _ _) rfl rfl hl.1 rfl (Nat.le_of_ble_eq_true rfl) dX11_moves_68 ⟨Nat.zero_le _, Nat.zero_le _⟩ (fun z13 y13 H locs h13 hP hS _ _ => ?_)
  have p13_0 : z13 = mv1 z12 3 (z12 0 62).toNatClampNeg 6 := h13
  have kf13 : z13 = unF z 21 := unF_a3 kf12 p13_0
  have kn13 : (z13 0 62).toInt = 21 := unF_at (by decide) kf13
  refine lv_aload_n hx hb dX11_moves_71 rfl (lv_at hl 0 rfl) ?_
  refine lv_aload_n hx hb dX11_moves_72 rfl (lv_at hl 0 rfl) ?_
  refine qf_get hx hb hts inX11 hown hK hP (q0 := 0) (by decide) (hgM_0 ca o) rfl 3 (by decide) wq_996 (v := .ref (o + 4)) rfl dX11_moves_73 ?_
  refine lv_iload_n hx hb dX11_moves_76 rfl (lv_at hl 1 rfl) ?_
  refine qc_Vv2 (As := [.ref (o + 4), .int 1]) (rest := []) (k0 := 2) (m_movesAll_v14 l D ca o z13 y13 (by have ql1 : Int32.toInt 1 = 1 := (by decide); omega)) kc_yX11_movesAll ⟨hx, hb, hml, hown, hts⟩ wq_1603 rfl rfl ⟨Nat.le_of_ble_eq_true rfl, Nat.le_of_ble_eq_true rfl⟩ wq_all hP hK hS qw_Ai (q0 := 0) (by decide) (hgM_0 ca o _ _) rfl rfl hl.1 rfl (Nat.le_of_ble_eq_true rfl) dX11_moves_77 ⟨Nat.zero_le _, Nat.zero_le _⟩ (fun z14 y14 H locs h14 hP hS _ _ => ?_)
  have p14_0 : z14 = mv1 z13 4 (z13 0 62).toNatClampNeg 36 := h14
  have kf14 : z14 = unF z 57 := unF_a4 kf13 p14_0
  have kn14 : (z14 0 62).toInt = 57 := unF_at (by decide) kf14
  refine lv_aload_n hx hb dX11_moves_80 rfl (lv_at hl 0 rfl) ?_
  refine lv_aload_n hx hb dX11_moves_81 rfl (lv_at hl 0 rfl) ?_
  refine qf_get hx hb hts inX11 hown hK hP (q0 := 0) (by decide) (hgM_0 ca o) rfl 7 (by decide) wq_1000 (v := .ref (o + 5)) rfl dX11_moves_82 ?_
  refine lv_iload_n hx hb dX11_moves_85 rfl (lv_at hl 1 rfl) ?_
  refine qc_Vv2 (As := [.ref (o + 5), .int 1]) (rest := []) (k0 := 2) (m_movesAll_v15 l D ca o z14 y14 (by have ql1 : Int32.toInt 1 = 1 := (by decide); omega)) kc_yX11_movesAll ⟨hx, hb, hml, hown, hts⟩ wq_1603 rfl rfl ⟨Nat.le_of_ble_eq_true rfl, Nat.le_of_ble_eq_true rfl⟩ wq_all hP hK hS qw_Ai (q0 := 0) (by decide) (hgM_0 ca o _ _) rfl rfl hl.1 rfl (Nat.le_of_ble_eq_true rfl) dX11_moves_86 ⟨Nat.zero_le _, Nat.zero_le _⟩ (fun z15 y15 H locs h15 hP hS _ _ => ?_)
  have p15_0 : z15 = mv1 z14 5 (z14 0 62).toNatClampNeg 96 := h15
  have kf15 : z15 = unF z 153 := unF_a5 kf14 p15_0
  have kn15 : (z15 0 62).toInt = 153 := unF_at (by decide) kf15
  refine lv_aload_n hx hb dX11_moves_89 rfl (lv_at hl 0 rfl) ?_
  refine lv_aload_n hx hb dX11_moves_90 rfl (lv_at hl 0 rfl) ?_
  refine qf_get hx hb hts inX11 hown hK hP (q0 := 0) (by decide) (hgM_0 ca o) rfl 8 (by decide) wq_1001 (v := .ref (o + 6)) rfl dX11_moves_91 ?_
  refine lv_iload_n hx hb dX11_moves_94 rfl (lv_at hl 1 rfl) ?_
  refine qc_Vv2 (As := [.ref (o + 6), .int 1]) (rest := []) (k0 := 2) (m_movesAll_v16 l D ca o z15 y15 (by have ql1 : Int32.toInt 1 = 1 := (by decide); omega)) kc_yX11_movesAll ⟨hx, hb, hml, hown, hts⟩ wq_1603 rfl rfl ⟨Nat.le_of_ble_eq_true rfl, Nat.le_of_ble_eq_true rfl⟩ wq_all hP hK hS qw_Ai (q0 := 0) (by decide) (hgM_0 ca o _ _) rfl rfl hl.1 rfl (Nat.le_of_ble_eq_true rfl) dX11_moves_95 ⟨Nat.zero_le _, Nat.zero_le _⟩ (fun z16 y16 H locs h16 hP hS _ _ => ?_)
  have p16_0 : z16 = mv1 z15 6 (z15 0 62).toNatClampNeg 16 := h16
  have kf16 : z16 = unF z 169 := unF_a6 kf15 p16_0
  have kn16 : (z16 0 62).toInt = 169 := unF_at (by decide) kf16
  refine lv_aload_n hx hb dX11_moves_98 rfl (lv_at hl 0 rfl) ?_
  refine lv_aload_n hx hb dX11_moves_99 rfl (lv_at hl 0 rfl) ?_
  refine qf_get hx hb hts inX11 hown hK hP (q0 := 0) (by decide) (hgM_0 ca o) rfl 9 (by decide) wq_1002 (v := .ref (o + 7)) rfl dX11_moves_100 ?_
  refine lv_iload_n hx hb dX11_moves_103 rfl (lv_at hl 1 rfl) ?_
  refine qc_Vv2 (As := [.ref (o + 7), .int 1]) (rest := []) (k0 := 2) (m_movesAll_v17 l D ca o z16 y16 (by have ql1 : Int32.toInt 1 = 1 := (by decide); omega)) kc_yX11_movesAll ⟨hx, hb, hml, hown, hts⟩ wq_1603 rfl rfl ⟨Nat.le_of_ble_eq_true rfl, Nat.le_of_ble_eq_true rfl⟩ wq_all hP hK hS qw_Ai (q0 := 0) (by decide) (hgM_0 ca o _ _) rfl rfl hl.1 rfl (Nat.le_of_ble_eq_true rfl) dX11_moves_104 ⟨Nat.zero_le _, Nat.zero_le _⟩ (fun z17 y17 H locs h17 hP hS _ _ => ?_)
  have p17_0 : z17 = mv1 z16 7 (z16 0 62).toNatClampNeg 16 := h17
  have kf17 : z17 = unF z 185 := unF_a7 kf16 p17_0
  have kn17 : (z17 0 62).toInt = 185 := unF_at (by decide) kf17
  refine lv_aload_n hx hb dX11_moves_107 rfl (lv_at hl 0 rfl) ?_
  refine lv_aload_n hx hb dX11_moves_108 rfl (lv_at hl 0 rfl) ?_
  refine qf_get hx hb hts inX11 hown hK hP (q0 := 0) (by decide) (hgM_0 ca o) rfl 10 (by decide) wq_1003 (v := .ref (o + 8)) rfl dX11_moves_109 ?_
  refine lv_iload_n hx hb dX11_moves_112 rfl (lv_at hl 1 rfl) ?_
  refine qc_Vv2 (As := [.ref (o + 8), .int 1]) (rest := []) (k0 := 2) (m_movesAll_v18 l D ca o z17 y17 (by have ql1 : Int32.toInt 1 = 1 := (by decide); omega)) kc_yX11_movesAll ⟨hx, hb, hml, hown, hts⟩ wq_1603 rfl rfl ⟨Nat.le_of_ble_eq_true rfl, Nat.le_of_ble_eq_true rfl⟩ wq_all hP hK hS qw_Ai (q0 := 0) (by decide) (hgM_0 ca o _ _) rfl rfl hl.1 rfl (Nat.le_of_ble_eq_true rfl) dX11_moves_113 ⟨Nat.zero_le _, Nat.zero_le _⟩ (fun z18 y18 H locs h18 hP hS _ _ => ?_)
  have p18_0 : z18 = mv1 z17 8 (z17 0 62).toNatClampNeg 16 := h18
  have kf18 : z18 = unF z 201 := unF_a8 kf17 p18_0
  have kn18 : (z18 0 62).toInt = 201 := unF_at (by decide) kf18
  refine lv_aload_n hx hb dX11_moves_116 rfl (lv_at hl 0 rfl) ?_
  refine lv_aload_n hx hb dX11_moves_117 rfl (lv_at hl 0 rfl) ?_
  refine qf_get hx hb hts inX11 hown hK hP (q0 := 0) (by decide) (hgM_0 ca o) rfl 11 (by decide) wq_1004 (v := .ref (o + 9)) rfl dX11_moves_118 ?_
  refine lv_iload_n hx hb dX11_moves_121 rfl (lv_at hl 1 rfl) ?_
  refine qc_Vv2 (As := [.ref (o + 9), .int 1]) (rest := []) (k0 := 2) (m_movesAll_v19 l D ca o z18 y18 (by have ql1 : Int32.toInt 1 = 1 := (by decide); omega)) kc_yX11_movesAll ⟨hx, hb, hml, hown, hts⟩ wq_1603 rfl rfl ⟨Nat.le_of_ble_eq_true rfl, Nat.le_of_ble_eq_true rfl⟩ wq_all hP hK hS qw_Ai (q0 := 0) (by decide) (hgM_0 ca o _ _) rfl rfl hl.1 rfl (Nat.le_of_ble_eq_true rfl) dX11_moves_122 ⟨Nat.zero_le _, Nat.zero_le _⟩ (fun z19 y19 H locs h19 hP hS _ _ => ?_)
  have p19_0 : z19 = mv1 z18 9 (z18 0 62).toNatClampNeg 16 := h19
  have kf19 : z19 = unF z 217 := unF_a9 kf18 p19_0
  have kn19 : (z19 0 62).toInt = 217 := unF_at (by decide) kf19
  refine lv_aload_n hx hb dX11_moves_125 rfl (lv_at hl 0 rfl) ?_
  refine lv_aload_n hx hb dX11_moves_126 rfl (lv_at hl 0 rfl) ?_
  refine qf_get hx hb hts inX11 hown hK hP (q0 := 0) (by decide) (hgM_0 ca o) rfl 12 (by decide) wq_1005 (v := .ref (o + 10)) rfl dX11_moves_127 ?_
  refine lv_iload_n hx hb dX11_moves_130 rfl (lv_at hl 1 rfl) ?_
  refine qc_Vv2 (As := [.ref (o + 10), .int 1]) (rest := []) (k0 := 2) (m_movesAll_v20 l D ca o z19 y19 (by have ql1 : Int32.toInt 1 = 1 := (by decide); omega)) kc_yX11_movesAll ⟨hx, hb, hml, hown, hts⟩ wq_1603 rfl rfl ⟨Nat.le_of_ble_eq_true rfl, Nat.le_of_ble_eq_true rfl⟩ wq_all hP hK hS qw_Ai (q0 := 0) (by decide) (hgM_0 ca o _ _) rfl rfl hl.1 rfl (Nat.le_of_ble_eq_true rfl) dX11_moves_131 ⟨Nat.zero_le _, Nat.zero_le _⟩ (fun z20 y20 H locs h20 hP hS _ _ => ?_)
  have p20_0 : z20 = mv1 z19 10 (z19 0 62).toNatClampNeg 16 := h20
  have kf20 : z20 = unF z 233 := unF_a10 kf19 p20_0
  have kn20 : (z20 0 62).toInt = 233 := unF_at (by decide) kf20
  refine lv_aload_n hx hb dX11_moves_134 rfl (lv_at hl 0 rfl) ?_
  refine lv_aload_n hx hb dX11_moves_135 rfl (lv_at hl 0 rfl) ?_
  refine qf_get hx hb hts inX11 hown hK hP (q0 := 0) (by decide) (hgM_0 ca o) rfl 13 (by decide) wq_1006 (v := .ref (o + 11)) rfl dX11_moves_136 ?_
  refine lv_iload_n hx hb dX11_moves_139 rfl (lv_at hl 1 rfl) ?_
  refine qc_Vv2 (As := [.ref (o + 11), .int 1]) (rest := []) (k0 := 2) (m_movesAll_v21 l D ca o z20 y20 (by have ql1 : Int32.toInt 1 = 1 := (by decide); omega)) kc_yX11_movesAll ⟨hx, hb, hml, hown, hts⟩ wq_1603 rfl rfl ⟨Nat.le_of_ble_eq_true rfl, Nat.le_of_ble_eq_true rfl⟩ wq_all hP hK hS qw_Ai (q0 := 0) (by decide) (hgM_0 ca o _ _) rfl rfl hl.1 rfl (Nat.le_of_ble_eq_true rfl) dX11_moves_140 ⟨Nat.zero_le _, Nat.zero_le _⟩ (fun z21 y21 H locs h21 hP hS _ _ => ?_)
  have p21_0 : z21 = mv1 z20 11 (z20 0 62).toNatClampNeg 16 := h21
  have kf21 : z21 = unF z 249 := unF_a11 kf20 p21_0
  have kn21 : (z21 0 62).toInt = 249 := unF_at (by decide) kf21
  exact W.vret hx hb hr (fun t ht hW => ⟨⟨(z21, y21), rfl, kf21, by rw [ht]; exact hP, va_K.moved hW.alike hK⟩, hS.F ht⟩) hS.2.2 dX11_moves_143
set_option maxRecDepth 100000 in
set_option maxHeartbeats 8000000 in
theorem m_undo (l : Launch) (D : va_G) (ca : Nat → ClassId) (o : Nat) (b z : Nat → Nat → Int32) (y : Nat → Nat → Int64) (J0 : qJM b z)   : qM l yX11_undo cX11_undo 1 (some .boolean) 4 127 (qPre D vwCl (qT6 ca) o 41 (qG (GM ca o) z y) [.ref (o + 0)]) (va_Qi (fun r u => ((r = 1 ∧ (z 0 61 ≠ 0) ∧ (qK kM (unF z 249) u.1)) ∨ (r = 0 ∧ (z 0 61 = 0) ∧ (qK kM z u.1))) ∧ qJM u.1 u.1) (qB D vwCl (qT6 ca) o 41 (fun u : qZ => qG (GM ca o) u.1 u.2)) (qw_A o 41)) (qw_A o 41) := by
  refine Met.ofW (cc := cX11_undo) (maxL := 1) (ret := (some .boolean)) (by decide) rfl ?_
  intro p e s m args below meth c s₁ B hml hv
  obtain ⟨rfl, hP, hK⟩ := hv
  have hx := B.exec
  have hb := B.bytes
  have hr := B.returns
  have hts0 := atoms_spec (ws := Cond.code yX11_undo cX11_undo 1 (some .boolean) :: qtbl) B.pre
  have hts : ∀ w ∈ qtbl, w.before _ s = true := fun w h => hts0 w (List.mem_cons_of_mem _ h)
  have hown : s.vm.findClass RX11 = some m.cls := findClass_of_methodNamed B.named
  have hlocks := B.notSynchronized
  have hS : va_S (qw_A o 41) s.heap s.heap [] := va_S.rf
  have hl := lv_entry ([.ref (o + 0)]) (n := 1) (Nat.le_of_ble_eq_true rfl)
  rw [lg_entry_eq]
  generalize (lg_sl ([.ref (o + 0)]) ++ List.replicate (1 - (lg_sl ([.ref (o + 0)])).length) Slot.unset).toArray = ls at hl ⊢
  have hl : lv_has ls 1 [(0, .ref (o + 0))] := hl
  have Jz : qJM z z := ⟨J0.1, qK_rf, J0.2.2⟩
  refine lv_aload_n hx hb dX11_undo_0 rfl (lv_at hl 0 rfl) ?_
  refine qf_get hx hb hts inX11 hown hK hP (q0 := 0) (by decide) (hgM_0 ca o) rfl 61 (by decide) wq_1053 (v := .int (z 0 61)) rfl dX11_undo_1 ?_
  refine lv_topi (fun x1 e1 => ?_)
  have b1 := iM_0_61 Jz e1
  have m1 : x1 = z 0 61 := e1.trans ((Jz.2.1 0 61 rfl).trans (by rfl))
  refine lv_if_ne (tgt := 9) hx hb dX11_undo_4 (by decide) (fun c2 => ?_) (fun c2 => ?_)
  · have t2 : x1.toInt ≠ (0 : Int) := gl_ne c2
    refine lv_aload_n hx hb dX11_undo_9 rfl (lv_at hl 0 rfl) ?_
    refine lv_iconst (v := 1) hx hb dX11_undo_10 (by decide) ?_
    refine qc_Vv2 (As := [.int 1]) (rest := []) (k0 := 1) (m_moves_v1 l D ca o z y) kc_yX11_moves ⟨hx, hb, hml, hown, hts⟩ wq_1595 rfl rfl ⟨Nat.le_of_ble_eq_true rfl, Nat.le_of_ble_eq_true rfl⟩ wq_all hP hK hS qw_Ai (q0 := 0) (by decide) (hgM_0 ca o _ _) rfl rfl hl.1 rfl (Nat.le_of_ble_eq_true rfl) dX11_undo_11 ⟨Nat.zero_le _, Nat.zero_le _⟩ (fun z3 y3 H locs h3 hP hS _ _ => ?_)
    have p3_0 : z3 = unF z 249 := h3
    have J3 : qJM z3 z3 := unF_J Jz p3_0
    refine lv_iconst (v := 1) hx hb dX11_undo_14 (by decide) ?_
    exact W.zret (v := 1) (ty := .boolean) hx hb hr rfl (fun t ht hW => ⟨⟨1, (z3, y3), rfl, ⟨Or.inl ⟨rfl, (fun h => gr_ne (y := 0) (show _ ≠ (0 : Int) from by omega) (m1.trans h)), (by rw [p3_0]; exact qK_rf)⟩, ⟨J3.1, qK_rf, J3.2.2⟩⟩, by rw [ht]; exact hP, va_K.moved hW.alike hK⟩, hS.F ht⟩) hS.2.2 dX11_undo_15
  · have t2 : x1.toInt = (0 : Int) := gl_eq c2
    refine lv_iconst (v := 0) hx hb dX11_undo_7 (by decide) ?_
    exact W.zret (v := 0) (ty := .boolean) hx hb hr rfl (fun t ht hW => ⟨⟨0, (z, y), rfl, ⟨Or.inr ⟨rfl, (m1.symm.trans (gr_eq (y := 0) (show _ = (0 : Int) from by omega))), qK_rf⟩, ⟨Jz.1, qK_rf, Jz.2.2⟩⟩, by rw [ht]; exact hP, va_K.moved hW.alike hK⟩, hS.F ht⟩) hS.2.2 dX11_undo_8
set_option maxRecDepth 100000 in
set_option maxHeartbeats 8000000 in
theorem m_check (l : Launch) (D : va_G) (ca : Nat → ClassId) (o : Nat) (b z : Nat → Nat → Int32) (y : Nat → Nat → Int64) (J0 : qJM b z) (a0 : Int32)  : qM l yX11_check cX11_check 3 (some .int) 5 146 (qPre D vwCl (qT6 ca) o 41 (qG (GM ca o) z y) [.ref (o + 0), .int a0]) (va_Qi (fun r u => ((-2 : Int) ≤ r.toInt ∧ r.toInt ≤ 5) ∧ qJM b u.1) (qB D vwCl (qT6 ca) o 41 (fun u : qZ => qG (GM ca o) u.1 u.2)) (qw_A o 41)) (qw_A o 41) := by
  refine Met.ofW (cc := cX11_check) (maxL := 3) (ret := (some .int)) (by decide) rfl ?_
  intro p e s m args below meth c s₁ B hml hv
  obtain ⟨rfl, hP, hK⟩ := hv
  have hx := B.exec
  have hb := B.bytes
  have hr := B.returns
  have hts0 := atoms_spec (ws := Cond.code yX11_check cX11_check 3 (some .int) :: qtbl) B.pre
  have hts : ∀ w ∈ qtbl, w.before _ s = true := fun w h => hts0 w (List.mem_cons_of_mem _ h)
  have hown : s.vm.findClass RX11 = some m.cls := findClass_of_methodNamed B.named
  have hlocks := B.notSynchronized
  have hS : va_S (qw_A o 41) s.heap s.heap [] := va_S.rf
  have hl := lv_entry ([.ref (o + 0), .int a0]) (n := 3) (Nat.le_of_ble_eq_true rfl)
  rw [lg_entry_eq]
  generalize (lg_sl ([.ref (o + 0), .int a0]) ++ List.replicate (3 - (lg_sl ([.ref (o + 0), .int a0])).length) Slot.unset).toArray = ls at hl ⊢
  have hl : lv_has ls 3 [(0, .ref (o + 0)), (1, .int a0)] := hl
  refine lv_iload_n hx hb dX11_check_0 rfl (lv_at hl 1 rfl) ?_
  refine lv_iconst (v := 0) hx hb dX11_check_1 (by decide) ?_
  refine lv_bipush (v := 6) hx hb dX11_check_2 (by decide) ?_
  refine qc_Sip (As := [.int a0, .int 0, .int 6]) (rest := []) (k0 := 3) (m_in l D ca o b z y J0 a0 0 6) kc_yX11_in ⟨hx, hb, hml, hown, hts⟩ wq_1187 rfl rfl ⟨Nat.le_of_ble_eq_true rfl, Nat.le_of_ble_eq_true rfl⟩ wq_all hP hK hS qw_Ai rfl hl.1 rfl (Nat.le_of_ble_eq_true rfl) dX11_check_4 ⟨Nat.zero_le _, Nat.zero_le _⟩ (fun r1 H locs h1 hP hS _ _ => ?_)
  rcases h1 with ⟨hr1, hf1_0⟩ | ⟨hr1, hf1_0⟩
  · subst hr1
    have hg1_0 : (0 : Int) ≤ a0.toInt ∧ a0.toInt ≤ (6 : Int) := hf1_0
    refine lv_if_eq (tgt := 39) hx hb dX11_check_7 (by decide) (fun q => absurd q (by decide)) (fun _ => ?_)
    refine lv_iload_n hx hb dX11_check_10 rfl (lv_at hl 1 rfl) ?_
    refine lv_aload_n hx hb dX11_check_11 rfl (lv_at hl 0 rfl) ?_
    refine qf_get hx hb hts inX11 hown hK hP (q0 := 0) (by decide) (hgM_0 ca o) rfl 15 (by decide) wq_1008 (v := .int (z 0 15)) rfl dX11_check_12 ?_
    refine lv_topi (fun x2 e2 => ?_)
    have b2 := iM_0_15 J0 e2
    refine lv_icmp_gt (tgt := 39) hx hb dX11_check_15 (by decide) (fun c3 => ?_) (fun c3 => ?_)
    · have t3 : a0.toInt > x2.toInt := gl_lt c3
      refine lv_bipush (v := (-2)) hx hb dX11_check_39 (by decide) ?_
      exact W.iret (v := (-2)) hx hb hr (fun t ht hW => ⟨⟨(-2), (z, y), rfl, ⟨⟨by decide, by decide⟩, J0⟩, by rw [ht]; exact hP, va_K.moved hW.alike hK⟩, hS.F ht⟩) hS.2.2 dX11_check_41
    · have t3 : a0.toInt ≤ x2.toInt := gl_nlt c3
      refine lv_aload_n hx hb dX11_check_18 rfl (lv_at hl 0 rfl) ?_
      refine qc_Vip (As := []) (rest := []) (k0 := 0) (m_rowMany l D ca o b z y J0) kc_yX11_rowMany ⟨hx, hb, hml, hown, hts⟩ wq_1315 rfl rfl ⟨Nat.le_of_ble_eq_true rfl, Nat.le_of_ble_eq_true rfl⟩ wq_all hP hK hS qw_Ai (q0 := 0) (by decide) (hgM_0 ca o _ _) rfl rfl hl.1 rfl (Nat.le_of_ble_eq_true rfl) dX11_check_19 ⟨Nat.zero_le _, Nat.zero_le _⟩ (fun r4 H locs h4 hP hS _ _ => ?_)
      have p4_1 : rmI z 6 r4 := h4.2
      refine lv_ldcw (v := 200000) hx hb hown (hts _ wq_1319) dX11_check_22 ?_
      refine lv_icmp_gt (tgt := 39) hx hb dX11_check_25 (by decide) (fun c5 => ?_) (fun c5 => ?_)
      · have t5 : r4.toInt > (200000 : Int) := gl_lt c5
        refine lv_bipush (v := (-2)) hx hb dX11_check_39 (by decide) ?_
        exact W.iret (v := (-2)) hx hb hr (fun t ht hW => ⟨⟨(-2), (z, y), rfl, ⟨⟨by decide, by decide⟩, J0⟩, by rw [ht]; exact hP, va_K.moved hW.alike hK⟩, hS.F ht⟩) hS.2.2 dX11_check_41
      · have t5 : r4.toInt ≤ (200000 : Int) := gl_nlt c5
        refine lv_aload_n hx hb dX11_check_28 rfl (lv_at hl 0 rfl) ?_
        refine lv_aload_n hx hb dX11_check_29 rfl (lv_at hl 0 rfl) ?_
        refine qc_Vip (As := []) (rest := [.ref (o + 0)]) (k0 := 0) (m_toldRemarks l D ca o b z y J0) kc_yX11_toldRemarks ⟨hx, hb, hml, hown, hts⟩ wq_1328 rfl rfl ⟨Nat.le_of_ble_eq_true rfl, Nat.le_of_ble_eq_true rfl⟩ wq_all hP hK hS qw_Ai (q0 := 0) (by decide) (hgM_0 ca o _ _) rfl rfl hl.1 rfl (Nat.le_of_ble_eq_true rfl) dX11_check_30 ⟨Nat.zero_le _, Nat.zero_le _⟩ (fun r6 H locs h6 hP hS _ _ => ?_)
        have b6 : (0 : Int) ≤ r6.toInt ∧ r6.toInt ≤ 1023 := h6
        refine qc_Vi2 (As := [.int r6]) (rest := []) (k0 := 1) (m_findsRow l D ca o b z y J0 r6) kc_yX11_findsRow ⟨hx, hb, hml, hown, hts⟩ wq_1332 rfl rfl ⟨Nat.le_of_ble_eq_true rfl, Nat.le_of_ble_eq_true rfl⟩ wq_all hP hK hS qw_Ai (q0 := 0) (by decide) (hgM_0 ca o _ _) rfl rfl hl.1 rfl (Nat.le_of_ble_eq_true rfl) dX11_check_33 ⟨Nat.zero_le _, Nat.zero_le _⟩ (fun r7 z7 y7 H locs h7 hP hS _ _ => ?_)
        have J7 : qJM b z7 := h7.2
        have b7 : (0 : Int) ≤ r7.toInt ∧ r7.toInt ≤ 1 := h7.1
        refine lv_if_ne (tgt := 42) hx hb dX11_check_36 (by decide) (fun c8 => ?_) (fun c8 => ?_)
        · have t8 : r7.toInt ≠ (0 : Int) := gl_ne c8
          refine lv_aload_n hx hb dX11_check_42 rfl (lv_at hl 0 rfl) ?_
          refine lv_iconst (v := 0) hx hb dX11_check_43 (by decide) ?_
          refine qf_put2 hx hb hts inX11 tyX11 tyX11_ok nmX11 hown hK hP hS qw_Ai (q0 := 0) (by decide) (hgM_0 ca o) rfl 15 (by decide) wq_1008 rfl (x := 0) 15 rfl rfl rfl (Nat.le_of_ble_eq_true rfl) dX11_check_44 (fun z9 H locs hz9 hP hS => ?_)
          have J9 := jM_0_15 J7 hz9 ⟨by decide, by decide⟩
          refine lv_iconst (v := 0) hx hb dX11_check_47 (by decide) ?_
          refine lv_istore_n (lv' := [(2, .int 0), (0, .ref (o + 0)), (1, .int a0)]) hx hb dX11_check_48 rfl hl (by decide) rfl (fun ls hl => ?_)
          have loop10 : ∀ (n : Nat) (w10_2 : Int32), ((6 - w10_2.toInt : Int) < (n : Int)) → ((0 : Int) ≤ w10_2.toInt ∧ w10_2.toInt ≤ 6) → ∀ (H : Heap) (locs : List Loc), qw_P D vwCl o 41 (qG (GM ca o) z9 y7) H → va_S (qw_A o 41) s.heap H locs → ∀ (ls : Array Slot), lv_has ls 3 [(2, .int w10_2), (0, .ref (o + 0)), (1, .int a0)] → W p l e (headSpec (Cond.code yX11_check cX11_check 3 (some .int) :: qtbl) ({ frames := 5, cells := 0, slots := 0, locals := 146 })).room s m (([.ref (o + 0), .int a0] : List Value).toArray) below meth c H locs 0 0 (MQ below (va_Qi (fun r u => ((-2 : Int) ≤ r.toInt ∧ r.toInt ≤ 5) ∧ qJM b u.1) (qB D vwCl (qT6 ca) o 41 (fun u : qZ => qG (GM ca o) u.1 u.2)) (qw_A o 41)) (([.ref (o + 0), .int a0] : List Value).toArray) s 0 0 (qw_A o 41)) (F0 m 49 ls []) := by
            intro n
            induction n with
            | zero => intro w10_2 hb10 hv10_2; exfalso; omega
            | succ n10 ih10 =>
              intro w10_2 hb10 hv10_2 H locs hP hS ls hl
              refine lv_iload_n hx hb dX11_check_49 rfl (lv_at hl 0 rfl) ?_
              refine lv_iload_n hx hb dX11_check_50 rfl (lv_at hl 2 rfl) ?_
              refine lv_icmp_ge (tgt := 88) hx hb dX11_check_51 (by decide) (fun c11 => ?_) (fun c11 => ?_)
              · have t11 : w10_2.toInt ≥ a0.toInt := gl_le c11
                refine lv_iconst (v := (-1)) hx hb dX11_check_88 (by decide) ?_
                exact W.iret (v := (-1)) hx hb hr (fun t ht hW => ⟨⟨(-1), (z9, y7), rfl, ⟨⟨by decide, by decide⟩, J9⟩, by rw [ht]; exact hP, va_K.moved hW.alike hK⟩, hS.F ht⟩) hS.2.2 dX11_check_89
              · have t11 : w10_2.toInt < a0.toInt := gl_nle c11
                refine lv_aload_n hx hb dX11_check_54 rfl (lv_at hl 1 rfl) ?_
                refine lv_iload_n hx hb dX11_check_55 rfl (lv_at hl 0 rfl) ?_
                refine qc_Vip (As := [.int w10_2]) (rest := []) (k0 := 1) (m_octet l D ca o b z9 y7 J9 w10_2 ⟨by omega, by omega⟩) kc_yX11_octet ⟨hx, hb, hml, hown, hts⟩ wq_1237 rfl rfl ⟨Nat.le_of_ble_eq_true rfl, Nat.le_of_ble_eq_true rfl⟩ wq_all hP hK hS qw_Ai (q0 := 0) (by decide) (hgM_0 ca o _ _) rfl rfl hl.1 rfl (Nat.le_of_ble_eq_true rfl) dX11_check_56 ⟨Nat.zero_le _, Nat.zero_le _⟩ (fun r12 H locs h12 hP hS _ _ => ?_)
                have p12_1 : r12 = z9 12 w10_2.toNatClampNeg &&& 255 := h12.2
                have b12 : (0 : Int) ≤ r12.toInt ∧ r12.toInt ≤ 255 := h12.1
                refine lv_aload_n hx hb dX11_check_59 rfl (lv_at hl 1 rfl) ?_
                refine lv_iload_n hx hb dX11_check_60 rfl (lv_at hl 0 rfl) ?_
                refine qc_Vip (As := [.int w10_2]) (rest := [.int r12]) (k0 := 1) (m_isPerson l D ca o b z9 y7 J9 w10_2) kc_yX11_isPerson ⟨hx, hb, hml, hown, hts⟩ wq_1194 rfl rfl ⟨Nat.le_of_ble_eq_true rfl, Nat.le_of_ble_eq_true rfl⟩ wq_all hP hK hS qw_Ai (q0 := 0) (by decide) (hgM_0 ca o _ _) rfl rfl hl.1 rfl (Nat.le_of_ble_eq_true rfl) dX11_check_61 ⟨Nat.zero_le _, Nat.zero_le _⟩ (fun r13 H locs h13 hP hS _ _ => ?_)
                rcases h13 with ⟨hr13, hf13_0, hf13_1⟩ | ⟨hr13, hf13_0⟩
                · subst hr13
                  have hg13_0 : pHas (z9 0 4) w10_2 := hf13_0
                  have hg13_1 : 0 ≤ w10_2.toInt ∧ w10_2.toInt ≤ 5 := hf13_1
                  refine lv_if_eq (tgt := 76) hx hb dX11_check_64 (by decide) (fun q => absurd q (by decide)) (fun _ => ?_)
                  refine lv_aload_n hx hb dX11_check_67 rfl (lv_at hl 1 rfl) ?_
                  refine qf_get hx hb hts inX11 hown hK hP (q0 := 0) (by decide) (hgM_0 ca o) rfl 36 (by decide) wq_1028 (v := .ref (o + 23)) rfl dX11_check_68 ?_
                  refine lv_iload_n hx hb dX11_check_71 rfl (lv_at hl 0 rfl) ?_
                  refine qa_iald hx hb hK hP (q0 := 23) (by decide) 0 (N := 6) (hgM_23 ca o) rfl (gi_in (by omega) (by omega)) dX11_check_72 ?_
                  refine lv_topi (fun x14 e14 => ?_)
                  have b14 := iM_23 J9 e14
                  refine lv_goto (tgt := 77) hx hb dX11_check_73 (by decide) ?_
                  refine lv_icmp_eq (tgt := 82) hx hb dX11_check_77 (by decide) (fun c15 => ?_) (fun c15 => ?_)
                  · have t15 : r12.toInt = x14.toInt := gl_eq c15
                    obtain ⟨x16, e16⟩ : ∃ t : Int32, t = w10_2 + 1 := ⟨_, rfl⟩
                    refine lv_iinc (v := x16) (lv' := [(2, .int x16), (0, .ref (o + 0)), (1, .int a0)]) hx hb dX11_check_82 hl (k := 0) rfl (by rw [e16]; rfl) (by decide) rfl (fun ls hl => ?_)
                    have t16 : x16.toInt = w10_2.toInt + (1 : Int) := ga_add e16 rfl rfl (by omega) (by omega)
                    refine lv_goto (tgt := 49) hx hb dX11_check_85 (by decide) ?_
                    exact ih10 x16 (show (6 - x16.toInt : Int) < (n10 : Int) from by omega) ⟨by omega, by omega⟩ _ _ hP hS _ (lv_sub hl [0, 1, 2] rfl)
                  · have t15 : r12.toInt ≠ x14.toInt := gl_ne c15
                    refine lv_iload_n hx hb dX11_check_80 rfl (lv_at hl 0 rfl) ?_
                    exact W.iret (v := w10_2) hx hb hr (fun t ht hW => ⟨⟨w10_2, (z9, y7), rfl, ⟨⟨by omega, by omega⟩, J9⟩, by rw [ht]; exact hP, va_K.moved hW.alike hK⟩, hS.F ht⟩) hS.2.2 dX11_check_81
                · subst hr13
                  have hg13_0 : ¬ pHas (z9 0 4) w10_2 := hf13_0
                  refine lv_if_eq (tgt := 76) hx hb dX11_check_64 (by decide) (fun _ => ?_) (fun q => absurd (by decide) q)
                  refine lv_iconst (v := 0) hx hb dX11_check_76 (by decide) ?_
                  refine lv_icmp_eq (tgt := 82) hx hb dX11_check_77 (by decide) (fun c17 => ?_) (fun c17 => ?_)
                  · have t17 : r12.toInt = (0 : Int) := gl_eq c17
                    obtain ⟨x18, e18⟩ : ∃ t : Int32, t = w10_2 + 1 := ⟨_, rfl⟩
                    refine lv_iinc (v := x18) (lv' := [(2, .int x18), (0, .ref (o + 0)), (1, .int a0)]) hx hb dX11_check_82 hl (k := 0) rfl (by rw [e18]; rfl) (by decide) rfl (fun ls hl => ?_)
                    have t18 : x18.toInt = w10_2.toInt + (1 : Int) := ga_add e18 rfl rfl (by omega) (by omega)
                    refine lv_goto (tgt := 49) hx hb dX11_check_85 (by decide) ?_
                    exact ih10 x18 (show (6 - x18.toInt : Int) < (n10 : Int) from by omega) ⟨by omega, by omega⟩ _ _ hP hS _ (lv_sub hl [0, 1, 2] rfl)
                  · have t17 : r12.toInt ≠ (0 : Int) := gl_ne c17
                    refine lv_iload_n hx hb dX11_check_80 rfl (lv_at hl 0 rfl) ?_
                    exact W.iret (v := w10_2) hx hb hr (fun t ht hW => ⟨⟨w10_2, (z9, y7), rfl, ⟨⟨by omega, by omega⟩, J9⟩, by rw [ht]; exact hP, va_K.moved hW.alike hK⟩, hS.F ht⟩) hS.2.2 dX11_check_81
          exact loop10 7 0 (show (6 - (0 : Int) : Int) < ((7 : Nat) : Int) from by omega) ⟨by decide, by decide⟩ _ _ hP hS _ (lv_sub hl [0, 1, 2] rfl)
        · have t8 : r7.toInt = (0 : Int) := gl_eq c8
          refine lv_bipush (v := (-2)) hx hb dX11_check_39 (by decide) ?_
          exact W.iret (v := (-2)) hx hb hr (fun t ht hW => ⟨⟨(-2), (z7, y7), rfl, ⟨⟨by decide, by decide⟩, J7⟩, by rw [ht]; exact hP, va_K.moved hW.alike hK⟩, hS.F ht⟩) hS.2.2 dX11_check_41
  · subst hr1
    have hg1_0 : ¬ ((0 : Int) ≤ a0.toInt ∧ a0.toInt ≤ (6 : Int)) := hf1_0
    refine lv_if_eq (tgt := 39) hx hb dX11_check_7 (by decide) (fun _ => ?_) (fun q => absurd (by decide) q)
    refine lv_bipush (v := (-2)) hx hb dX11_check_39 (by decide) ?_
    exact W.iret (v := (-2)) hx hb hr (fun t ht hW => ⟨⟨(-2), (z, y), rfl, ⟨⟨by decide, by decide⟩, J0⟩, by rw [ht]; exact hP, va_K.moved hW.alike hK⟩, hS.F ht⟩) hS.2.2 dX11_check_41
set_option maxRecDepth 100000 in
set_option maxHeartbeats 8000000 in
theorem m_count (l : Launch) (D : va_G) (ca : Nat → ClassId) (o : Nat) (b z : Nat → Nat → Int32) (y : Nat → Nat → Int64) (J0 : qJM b z) (a0 : Int32)  : qM l yX11_count cX11_count 2 (some .int) 3 103 (qPre D vwCl (qT6 ca) o 41 (qG (GM ca o) z y) [.ref (o + 0), .int a0]) (va_Qi (fun r (_ : Unit) => True) (qB D vwCl (qT6 ca) o 41 (fun _ : Unit => qG (GM ca o) z y)) (qw_A o 41)) (qw_A o 41) := by
  refine Met.ofW (cc := cX11_count) (maxL := 2) (ret := (some .int)) (by decide) rfl ?_
  intro p e s m args below meth c s₁ B hml hv
  obtain ⟨rfl, hP, hK⟩ := hv
  have hx := B.exec
  have hb := B.bytes
  have hr := B.returns
  have hts0 := atoms_spec (ws := Cond.code yX11_count cX11_count 2 (some .int) :: qtbl) B.pre
  have hts : ∀ w ∈ qtbl, w.before _ s = true := fun w h => hts0 w (List.mem_cons_of_mem _ h)
  have hown : s.vm.findClass RX11 = some m.cls := findClass_of_methodNamed B.named
  have hlocks := B.notSynchronized
  have hS : va_S (qw_A o 41) s.heap s.heap [] := va_S.rf
  have hl := lv_entry ([.ref (o + 0), .int a0]) (n := 2) (Nat.le_of_ble_eq_true rfl)
  rw [lg_entry_eq]
  generalize (lg_sl ([.ref (o + 0), .int a0]) ++ List.replicate (2 - (lg_sl ([.ref (o + 0), .int a0])).length) Slot.unset).toArray = ls at hl ⊢
  have hl : lv_has ls 2 [(0, .ref (o + 0)), (1, .int a0)] := hl
  refine lv_iload_n hx hb dX11_count_0 rfl (lv_at hl 1 rfl) ?_
  rcases (by omega : a0.toInt = 0 ∨ a0.toInt = 1 ∨ a0.toInt = 2 ∨ a0.toInt = 3 ∨ a0.toInt = 4 ∨ a0.toInt < 0 ∨ 4 < a0.toInt) with c1 | c1 | c1 | c1 | c1 | c1 | c1
  · refine lv_tableIn (tgt := 36) hx hb dX11_count_1 (by omega) (by omega) (by rw [c1]; rfl) (by decide) ?_
    refine lv_aload_n hx hb dX11_count_36 rfl (lv_at hl 0 rfl) ?_
    refine qf_get hx hb hts inX11 hown hK hP (q0 := 0) (by decide) (hgM_0 ca o) rfl 5 (by decide) wq_998 (v := .int (z 0 5)) rfl dX11_count_37 ?_
    refine lv_topi (fun x2 e2 => ?_)
    have b2 := iM_0_5 J0 e2
    exact W.iret (v := x2) hx hb hr (fun t ht hW => ⟨⟨x2, (), rfl, trivial, by rw [ht]; exact hP, va_K.moved hW.alike hK⟩, hS.F ht⟩) hS.2.2 dX11_count_40
  · refine lv_tableIn (tgt := 41) hx hb dX11_count_1 (by omega) (by omega) (by rw [c1]; rfl) (by decide) ?_
    refine lv_aload_n hx hb dX11_count_41 rfl (lv_at hl 0 rfl) ?_
    refine qf_get hx hb hts inX11 hown hK hP (q0 := 0) (by decide) (hgM_0 ca o) rfl 4 (by decide) wq_997 (v := .int (z 0 4)) rfl dX11_count_42 ?_
    refine lv_topi (fun x3 e3 => ?_)
    exact W.iret (v := x3) hx hb hr (fun t ht hW => ⟨⟨x3, (), rfl, trivial, by rw [ht]; exact hP, va_K.moved hW.alike hK⟩, hS.F ht⟩) hS.2.2 dX11_count_45
  · refine lv_tableIn (tgt := 46) hx hb dX11_count_1 (by omega) (by omega) (by rw [c1]; rfl) (by decide) ?_
    refine lv_aload_n hx hb dX11_count_46 rfl (lv_at hl 0 rfl) ?_
    refine qc_Vip (As := []) (rest := []) (k0 := 0) (m_toldRemarks l D ca o b z y J0) kc_yX11_toldRemarks ⟨hx, hb, hml, hown, hts⟩ wq_1328 rfl rfl ⟨Nat.le_of_ble_eq_true rfl, Nat.le_of_ble_eq_true rfl⟩ wq_all hP hK hS qw_Ai (q0 := 0) (by decide) (hgM_0 ca o _ _) rfl rfl hl.1 rfl (Nat.le_of_ble_eq_true rfl) dX11_count_47 ⟨Nat.zero_le _, Nat.zero_le _⟩ (fun r4 H locs h4 hP hS _ _ => ?_)
    have b4 : (0 : Int) ≤ r4.toInt ∧ r4.toInt ≤ 1023 := h4
    exact W.iret (v := r4) hx hb hr (fun t ht hW => ⟨⟨r4, (), rfl, trivial, by rw [ht]; exact hP, va_K.moved hW.alike hK⟩, hS.F ht⟩) hS.2.2 dX11_count_50
  · refine lv_tableIn (tgt := 51) hx hb dX11_count_1 (by omega) (by omega) (by rw [c1]; rfl) (by decide) ?_
    refine lv_aload_n hx hb dX11_count_51 rfl (lv_at hl 0 rfl) ?_
    refine qf_get hx hb hts inX11 hown hK hP (q0 := 0) (by decide) (hgM_0 ca o) rfl 6 (by decide) wq_999 (v := .int (z 0 6)) rfl dX11_count_52 ?_
    refine lv_topi (fun x5 e5 => ?_)
    refine lv_bipush (v := 10) hx hb dX11_count_55 (by decide) ?_
    refine lv_ishr hx hb dX11_count_57 ?_
    refine lv_topi (fun x6 e6 => ?_)
    exact W.iret (v := x6) hx hb hr (fun t ht hW => ⟨⟨x6, (), rfl, trivial, by rw [ht]; exact hP, va_K.moved hW.alike hK⟩, hS.F ht⟩) hS.2.2 dX11_count_58
  · refine lv_tableIn (tgt := 59) hx hb dX11_count_1 (by omega) (by omega) (by rw [c1]; rfl) (by decide) ?_
    refine lv_aload_n hx hb dX11_count_59 rfl (lv_at hl 0 rfl) ?_
    refine qf_get hx hb hts inX11 hown hK hP (q0 := 0) (by decide) (hgM_0 ca o) rfl 15 (by decide) wq_1008 (v := .int (z 0 15)) rfl dX11_count_60 ?_
    refine lv_topi (fun x7 e7 => ?_)
    have b7 := iM_0_15 J0 e7
    exact W.iret (v := x7) hx hb hr (fun t ht hW => ⟨⟨x7, (), rfl, trivial, by rw [ht]; exact hP, va_K.moved hW.alike hK⟩, hS.F ht⟩) hS.2.2 dX11_count_63
  · refine lv_tableOut (tgt := 64) hx hb dX11_count_1 (Or.inl c1) (by decide) ?_
    refine lv_aload_n hx hb dX11_count_64 rfl (lv_at hl 0 rfl) ?_
    refine lv_iload_n hx hb dX11_count_65 rfl (lv_at hl 1 rfl) ?_
    refine lv_bipush (v := 10) hx hb dX11_count_66 (by decide) ?_
    refine lv_isub hx hb dX11_count_68 ?_
    refine lv_topi (fun x8 e8 => ?_)
    refine qc_Vip (As := [.int x8]) (rest := []) (k0 := 1) (m_isPerson l D ca o b z y J0 x8) kc_yX11_isPerson ⟨hx, hb, hml, hown, hts⟩ wq_1194 rfl rfl ⟨Nat.le_of_ble_eq_true rfl, Nat.le_of_ble_eq_true rfl⟩ wq_all hP hK hS qw_Ai (q0 := 0) (by decide) (hgM_0 ca o _ _) rfl rfl hl.1 rfl (Nat.le_of_ble_eq_true rfl) dX11_count_69 ⟨Nat.zero_le _, Nat.zero_le _⟩ (fun r9 H locs h9 hP hS _ _ => ?_)
    rcases h9 with ⟨hr9, hf9_0, hf9_1⟩ | ⟨hr9, hf9_0⟩
    · subst hr9
      have hg9_0 : pHas (z 0 4) x8 := hf9_0
      have hg9_1 : 0 ≤ x8.toInt ∧ x8.toInt ≤ 5 := hf9_1
      refine lv_if_eq (tgt := 85) hx hb dX11_count_72 (by decide) (fun q => absurd q (by decide)) (fun _ => ?_)
      refine lv_aload_n hx hb dX11_count_75 rfl (lv_at hl 0 rfl) ?_
      refine qf_get hx hb hts inX11 hown hK hP (q0 := 0) (by decide) (hgM_0 ca o) rfl 0 (by decide) wq_993 (v := .ref (o + 1)) rfl dX11_count_76 ?_
      refine lv_iload_n hx hb dX11_count_79 rfl (lv_at hl 1 rfl) ?_
      refine lv_bipush (v := 10) hx hb dX11_count_80 (by decide) ?_
      refine lv_isub hx hb dX11_count_82 ?_
      refine lv_topi (fun x10 e10 => ?_)
      have t10 : x10.toInt = x8.toInt := congrArg Int32.toInt (e10.trans e8.symm)
      refine qa_iald hx hb hK hP (q0 := 1) (by decide) 0 (N := 6) (hgM_1 ca o) rfl (gi_in (by omega) (by omega)) dX11_count_83 ?_
      refine lv_topi (fun x11 e11 => ?_)
      have b11 := iM_1 J0 e11
      exact W.iret (v := x11) hx hb hr (fun t ht hW => ⟨⟨x11, (), rfl, trivial, by rw [ht]; exact hP, va_K.moved hW.alike hK⟩, hS.F ht⟩) hS.2.2 dX11_count_84
    · subst hr9
      have hg9_0 : ¬ pHas (z 0 4) x8 := hf9_0
      refine lv_if_eq (tgt := 85) hx hb dX11_count_72 (by decide) (fun _ => ?_) (fun q => absurd (by decide) q)
      refine lv_aload_n hx hb dX11_count_85 rfl (lv_at hl 0 rfl) ?_
      refine lv_iload_n hx hb dX11_count_86 rfl (lv_at hl 1 rfl) ?_
      refine lv_bipush (v := 20) hx hb dX11_count_87 (by decide) ?_
      refine lv_isub hx hb dX11_count_89 ?_
      refine lv_topi (fun x12 e12 => ?_)
      refine qc_Vip (As := [.int x12]) (rest := []) (k0 := 1) (m_isPerson l D ca o b z y J0 x12) kc_yX11_isPerson ⟨hx, hb, hml, hown, hts⟩ wq_1194 rfl rfl ⟨Nat.le_of_ble_eq_true rfl, Nat.le_of_ble_eq_true rfl⟩ wq_all hP hK hS qw_Ai (q0 := 0) (by decide) (hgM_0 ca o _ _) rfl rfl hl.1 rfl (Nat.le_of_ble_eq_true rfl) dX11_count_90 ⟨Nat.zero_le _, Nat.zero_le _⟩ (fun r13 H locs h13 hP hS _ _ => ?_)
      rcases h13 with ⟨hr13, hf13_0, hf13_1⟩ | ⟨hr13, hf13_0⟩
      · subst hr13
        have hg13_0 : pHas (z 0 4) x12 := hf13_0
        have hg13_1 : 0 ≤ x12.toInt ∧ x12.toInt ≤ 5 := hf13_1
        refine lv_if_eq (tgt := 106) hx hb dX11_count_93 (by decide) (fun q => absurd q (by decide)) (fun _ => ?_)
        refine lv_aload_n hx hb dX11_count_96 rfl (lv_at hl 0 rfl) ?_
        refine qf_get hx hb hts inX11 hown hK hP (q0 := 0) (by decide) (hgM_0 ca o) rfl 1 (by decide) wq_994 (v := .ref (o + 2)) rfl dX11_count_97 ?_
        refine lv_iload_n hx hb dX11_count_100 rfl (lv_at hl 1 rfl) ?_
        refine lv_bipush (v := 20) hx hb dX11_count_101 (by decide) ?_
        refine lv_isub hx hb dX11_count_103 ?_
        refine lv_topi (fun x14 e14 => ?_)
        have t14 : x14.toInt = x12.toInt := congrArg Int32.toInt (e14.trans e12.symm)
        refine qa_iald hx hb hK hP (q0 := 2) (by decide) 0 (N := 6) (hgM_2 ca o) rfl (gi_in (by omega) (by omega)) dX11_count_104 ?_
        refine lv_topi (fun x15 e15 => ?_)
        have b15 := iM_2 J0 e15
        exact W.iret (v := x15) hx hb hr (fun t ht hW => ⟨⟨x15, (), rfl, trivial, by rw [ht]; exact hP, va_K.moved hW.alike hK⟩, hS.F ht⟩) hS.2.2 dX11_count_105
      · subst hr13
        have hg13_0 : ¬ pHas (z 0 4) x12 := hf13_0
        refine lv_if_eq (tgt := 106) hx hb dX11_count_93 (by decide) (fun _ => ?_) (fun q => absurd (by decide) q)
        refine lv_aload_n hx hb dX11_count_106 rfl (lv_at hl 0 rfl) ?_
        refine lv_iload_n hx hb dX11_count_107 rfl (lv_at hl 1 rfl) ?_
        refine lv_bipush (v := 30) hx hb dX11_count_108 (by decide) ?_
        refine lv_isub hx hb dX11_count_110 ?_
        refine lv_topi (fun x16 e16 => ?_)
        refine qc_Vip (As := [.int x16]) (rest := []) (k0 := 1) (m_isPerson l D ca o b z y J0 x16) kc_yX11_isPerson ⟨hx, hb, hml, hown, hts⟩ wq_1194 rfl rfl ⟨Nat.le_of_ble_eq_true rfl, Nat.le_of_ble_eq_true rfl⟩ wq_all hP hK hS qw_Ai (q0 := 0) (by decide) (hgM_0 ca o _ _) rfl rfl hl.1 rfl (Nat.le_of_ble_eq_true rfl) dX11_count_111 ⟨Nat.zero_le _, Nat.zero_le _⟩ (fun r17 H locs h17 hP hS _ _ => ?_)
        rcases h17 with ⟨hr17, hf17_0, hf17_1⟩ | ⟨hr17, hf17_0⟩
        · subst hr17
          have hg17_0 : pHas (z 0 4) x16 := hf17_0
          have hg17_1 : 0 ≤ x16.toInt ∧ x16.toInt ≤ 5 := hf17_1
          refine lv_if_ne (tgt := 119) hx hb dX11_count_114 (by decide) (fun _ => ?_) (fun q => absurd q (by decide))
          refine lv_aload_n hx hb dX11_count_119 rfl (lv_at hl 0 rfl) ?_
          refine qf_get hx hb hts inX11 hown hK hP (q0 := 0) (by decide) (hgM_0 ca o) rfl 2 (by decide) wq_995 (v := .ref (o + 3)) rfl dX11_count_120 ?_
          refine lv_iload_n hx hb dX11_count_123 rfl (lv_at hl 1 rfl) ?_
          refine lv_bipush (v := 30) hx hb dX11_count_124 (by decide) ?_
          refine lv_isub hx hb dX11_count_126 ?_
          refine lv_topi (fun x18 e18 => ?_)
          have t18 : x18.toInt = x16.toInt := congrArg Int32.toInt (e18.trans e16.symm)
          refine qa_iald hx hb hK hP (q0 := 3) (by decide) 0 (N := 6) (hgM_3 ca o) rfl (gi_in (by omega) (by omega)) dX11_count_127 ?_
          refine lv_topi (fun x19 e19 => ?_)
          refine lv_bipush (v := 100) hx hb dX11_count_128 (by decide) ?_
          refine lv_icmp_ne (tgt := 138) hx hb dX11_count_130 (by decide) (fun c20 => ?_) (fun c20 => ?_)
          · have t20 : x19.toInt ≠ (100 : Int) := gl_ne c20
            refine lv_aload_n hx hb dX11_count_138 rfl (lv_at hl 0 rfl) ?_
            refine qf_get hx hb hts inX11 hown hK hP (q0 := 0) (by decide) (hgM_0 ca o) rfl 2 (by decide) wq_995 (v := .ref (o + 3)) rfl dX11_count_139 ?_
            refine lv_iload_n hx hb dX11_count_142 rfl (lv_at hl 1 rfl) ?_
            refine lv_bipush (v := 30) hx hb dX11_count_143 (by decide) ?_
            refine lv_isub hx hb dX11_count_145 ?_
            refine lv_topi (fun x21 e21 => ?_)
            have t21 : x21.toInt = x16.toInt := congrArg Int32.toInt (e21.trans e16.symm)
            refine qa_iald hx hb hK hP (q0 := 3) (by decide) 0 (N := 6) (hgM_3 ca o) rfl (gi_in (by omega) (by omega)) dX11_count_146 ?_
            refine lv_topi (fun x22 e22 => ?_)
            exact W.iret (v := x22) hx hb hr (fun t ht hW => ⟨⟨x22, (), rfl, trivial, by rw [ht]; exact hP, va_K.moved hW.alike hK⟩, hS.F ht⟩) hS.2.2 dX11_count_147
          · have t20 : x19.toInt = (100 : Int) := gl_eq c20
            refine lv_bipush (v := (-2)) hx hb dX11_count_133 (by decide) ?_
            refine lv_goto (tgt := 147) hx hb dX11_count_135 (by decide) ?_
            exact W.iret (v := (-2)) hx hb hr (fun t ht hW => ⟨⟨(-2), (), rfl, trivial, by rw [ht]; exact hP, va_K.moved hW.alike hK⟩, hS.F ht⟩) hS.2.2 dX11_count_147
        · subst hr17
          have hg17_0 : ¬ pHas (z 0 4) x16 := hf17_0
          refine lv_if_ne (tgt := 119) hx hb dX11_count_114 (by decide) (fun q => absurd q (by decide)) (fun _ => ?_)
          refine lv_iconst (v := (-1)) hx hb dX11_count_117 (by decide) ?_
          exact W.iret (v := (-1)) hx hb hr (fun t ht hW => ⟨⟨(-1), (), rfl, trivial, by rw [ht]; exact hP, va_K.moved hW.alike hK⟩, hS.F ht⟩) hS.2.2 dX11_count_118
  · refine lv_tableOut (tgt := 64) hx hb dX11_count_1 (Or.inr c1) (by decide) ?_
    refine lv_aload_n hx hb dX11_count_64 rfl (lv_at hl 0 rfl) ?_
    refine lv_iload_n hx hb dX11_count_65 rfl (lv_at hl 1 rfl) ?_
    refine lv_bipush (v := 10) hx hb dX11_count_66 (by decide) ?_
    refine lv_isub hx hb dX11_count_68 ?_
    refine lv_topi (fun x23 e23 => ?_)
    have gb23_0 := gl_b a0
    have t23 : x23.toInt = a0.toInt - (10 : Int) := ga_sub e23 rfl rfl (by omega) (by omega)
    refine qc_Vip (As := [.int x23]) (rest := []) (k0 := 1) (m_isPerson l D ca o b z y J0 x23) kc_yX11_isPerson ⟨hx, hb, hml, hown, hts⟩ wq_1194 rfl rfl ⟨Nat.le_of_ble_eq_true rfl, Nat.le_of_ble_eq_true rfl⟩ wq_all hP hK hS qw_Ai (q0 := 0) (by decide) (hgM_0 ca o _ _) rfl rfl hl.1 rfl (Nat.le_of_ble_eq_true rfl) dX11_count_69 ⟨Nat.zero_le _, Nat.zero_le _⟩ (fun r24 H locs h24 hP hS _ _ => ?_)
    rcases h24 with ⟨hr24, hf24_0, hf24_1⟩ | ⟨hr24, hf24_0⟩
    · subst hr24
      have hg24_0 : pHas (z 0 4) x23 := hf24_0
      have hg24_1 : 0 ≤ x23.toInt ∧ x23.toInt ≤ 5 := hf24_1
      refine lv_if_eq (tgt := 85) hx hb dX11_count_72 (by decide) (fun q => absurd q (by decide)) (fun _ => ?_)
      refine lv_aload_n hx hb dX11_count_75 rfl (lv_at hl 0 rfl) ?_
      refine qf_get hx hb hts inX11 hown hK hP (q0 := 0) (by decide) (hgM_0 ca o) rfl 0 (by decide) wq_993 (v := .ref (o + 1)) rfl dX11_count_76 ?_
      refine lv_iload_n hx hb dX11_count_79 rfl (lv_at hl 1 rfl) ?_
      refine lv_bipush (v := 10) hx hb dX11_count_80 (by decide) ?_
      refine lv_isub hx hb dX11_count_82 ?_
      refine lv_topi (fun x25 e25 => ?_)
      have t25 : x25.toInt = x23.toInt := congrArg Int32.toInt (e25.trans e23.symm)
      refine qa_iald hx hb hK hP (q0 := 1) (by decide) 0 (N := 6) (hgM_1 ca o) rfl (gi_in (by omega) (by omega)) dX11_count_83 ?_
      refine lv_topi (fun x26 e26 => ?_)
      have b26 := iM_1 J0 e26
      exact W.iret (v := x26) hx hb hr (fun t ht hW => ⟨⟨x26, (), rfl, trivial, by rw [ht]; exact hP, va_K.moved hW.alike hK⟩, hS.F ht⟩) hS.2.2 dX11_count_84
    · subst hr24
      have hg24_0 : ¬ pHas (z 0 4) x23 := hf24_0
      refine lv_if_eq (tgt := 85) hx hb dX11_count_72 (by decide) (fun _ => ?_) (fun q => absurd (by decide) q)
      refine lv_aload_n hx hb dX11_count_85 rfl (lv_at hl 0 rfl) ?_
      refine lv_iload_n hx hb dX11_count_86 rfl (lv_at hl 1 rfl) ?_
      refine lv_bipush (v := 20) hx hb dX11_count_87 (by decide) ?_
      refine lv_isub hx hb dX11_count_89 ?_
      refine lv_topi (fun x27 e27 => ?_)
      have gb27_0 := gl_b a0
      have t27 : x27.toInt = a0.toInt - (20 : Int) := ga_sub e27 rfl rfl (by omega) (by omega)
      refine qc_Vip (As := [.int x27]) (rest := []) (k0 := 1) (m_isPerson l D ca o b z y J0 x27) kc_yX11_isPerson ⟨hx, hb, hml, hown, hts⟩ wq_1194 rfl rfl ⟨Nat.le_of_ble_eq_true rfl, Nat.le_of_ble_eq_true rfl⟩ wq_all hP hK hS qw_Ai (q0 := 0) (by decide) (hgM_0 ca o _ _) rfl rfl hl.1 rfl (Nat.le_of_ble_eq_true rfl) dX11_count_90 ⟨Nat.zero_le _, Nat.zero_le _⟩ (fun r28 H locs h28 hP hS _ _ => ?_)
      rcases h28 with ⟨hr28, hf28_0, hf28_1⟩ | ⟨hr28, hf28_0⟩
      · subst hr28
        have hg28_0 : pHas (z 0 4) x27 := hf28_0
        have hg28_1 : 0 ≤ x27.toInt ∧ x27.toInt ≤ 5 := hf28_1
        refine lv_if_eq (tgt := 106) hx hb dX11_count_93 (by decide) (fun q => absurd q (by decide)) (fun _ => ?_)
        refine lv_aload_n hx hb dX11_count_96 rfl (lv_at hl 0 rfl) ?_
        refine qf_get hx hb hts inX11 hown hK hP (q0 := 0) (by decide) (hgM_0 ca o) rfl 1 (by decide) wq_994 (v := .ref (o + 2)) rfl dX11_count_97 ?_
        refine lv_iload_n hx hb dX11_count_100 rfl (lv_at hl 1 rfl) ?_
        refine lv_bipush (v := 20) hx hb dX11_count_101 (by decide) ?_
        refine lv_isub hx hb dX11_count_103 ?_
        refine lv_topi (fun x29 e29 => ?_)
        have t29 : x29.toInt = x27.toInt := congrArg Int32.toInt (e29.trans e27.symm)
        refine qa_iald hx hb hK hP (q0 := 2) (by decide) 0 (N := 6) (hgM_2 ca o) rfl (gi_in (by omega) (by omega)) dX11_count_104 ?_
        refine lv_topi (fun x30 e30 => ?_)
        have b30 := iM_2 J0 e30
        exact W.iret (v := x30) hx hb hr (fun t ht hW => ⟨⟨x30, (), rfl, trivial, by rw [ht]; exact hP, va_K.moved hW.alike hK⟩, hS.F ht⟩) hS.2.2 dX11_count_105
      · subst hr28
        have hg28_0 : ¬ pHas (z 0 4) x27 := hf28_0
        refine lv_if_eq (tgt := 106) hx hb dX11_count_93 (by decide) (fun _ => ?_) (fun q => absurd (by decide) q)
        refine lv_aload_n hx hb dX11_count_106 rfl (lv_at hl 0 rfl) ?_
        refine lv_iload_n hx hb dX11_count_107 rfl (lv_at hl 1 rfl) ?_
        refine lv_bipush (v := 30) hx hb dX11_count_108 (by decide) ?_
        refine lv_isub hx hb dX11_count_110 ?_
        refine lv_topi (fun x31 e31 => ?_)
        have gb31_0 := gl_b a0
        have t31 : x31.toInt = a0.toInt - (30 : Int) := ga_sub e31 rfl rfl (by omega) (by omega)
        refine qc_Vip (As := [.int x31]) (rest := []) (k0 := 1) (m_isPerson l D ca o b z y J0 x31) kc_yX11_isPerson ⟨hx, hb, hml, hown, hts⟩ wq_1194 rfl rfl ⟨Nat.le_of_ble_eq_true rfl, Nat.le_of_ble_eq_true rfl⟩ wq_all hP hK hS qw_Ai (q0 := 0) (by decide) (hgM_0 ca o _ _) rfl rfl hl.1 rfl (Nat.le_of_ble_eq_true rfl) dX11_count_111 ⟨Nat.zero_le _, Nat.zero_le _⟩ (fun r32 H locs h32 hP hS _ _ => ?_)
        rcases h32 with ⟨hr32, hf32_0, hf32_1⟩ | ⟨hr32, hf32_0⟩
        · subst hr32
          have hg32_0 : pHas (z 0 4) x31 := hf32_0
          have hg32_1 : 0 ≤ x31.toInt ∧ x31.toInt ≤ 5 := hf32_1
          refine lv_if_ne (tgt := 119) hx hb dX11_count_114 (by decide) (fun _ => ?_) (fun q => absurd q (by decide))
          refine lv_aload_n hx hb dX11_count_119 rfl (lv_at hl 0 rfl) ?_
          refine qf_get hx hb hts inX11 hown hK hP (q0 := 0) (by decide) (hgM_0 ca o) rfl 2 (by decide) wq_995 (v := .ref (o + 3)) rfl dX11_count_120 ?_
          refine lv_iload_n hx hb dX11_count_123 rfl (lv_at hl 1 rfl) ?_
          refine lv_bipush (v := 30) hx hb dX11_count_124 (by decide) ?_
          refine lv_isub hx hb dX11_count_126 ?_
          refine lv_topi (fun x33 e33 => ?_)
          have t33 : x33.toInt = x31.toInt := congrArg Int32.toInt (e33.trans e31.symm)
          refine qa_iald hx hb hK hP (q0 := 3) (by decide) 0 (N := 6) (hgM_3 ca o) rfl (gi_in (by omega) (by omega)) dX11_count_127 ?_
          refine lv_topi (fun x34 e34 => ?_)
          refine lv_bipush (v := 100) hx hb dX11_count_128 (by decide) ?_
          refine lv_icmp_ne (tgt := 138) hx hb dX11_count_130 (by decide) (fun c35 => ?_) (fun c35 => ?_)
          · have t35 : x34.toInt ≠ (100 : Int) := gl_ne c35
            refine lv_aload_n hx hb dX11_count_138 rfl (lv_at hl 0 rfl) ?_
            refine qf_get hx hb hts inX11 hown hK hP (q0 := 0) (by decide) (hgM_0 ca o) rfl 2 (by decide) wq_995 (v := .ref (o + 3)) rfl dX11_count_139 ?_
            refine lv_iload_n hx hb dX11_count_142 rfl (lv_at hl 1 rfl) ?_
            refine lv_bipush (v := 30) hx hb dX11_count_143 (by decide) ?_
            refine lv_isub hx hb dX11_count_145 ?_
            refine lv_topi (fun x36 e36 => ?_)
            have t36 : x36.toInt = x31.toInt := congrArg Int32.toInt (e36.trans e31.symm)
            refine qa_iald hx hb hK hP (q0 := 3) (by decide) 0 (N := 6) (hgM_3 ca o) rfl (gi_in (by omega) (by omega)) dX11_count_146 ?_
            refine lv_topi (fun x37 e37 => ?_)
            exact W.iret (v := x37) hx hb hr (fun t ht hW => ⟨⟨x37, (), rfl, trivial, by rw [ht]; exact hP, va_K.moved hW.alike hK⟩, hS.F ht⟩) hS.2.2 dX11_count_147
          · have t35 : x34.toInt = (100 : Int) := gl_eq c35
            refine lv_bipush (v := (-2)) hx hb dX11_count_133 (by decide) ?_
            refine lv_goto (tgt := 147) hx hb dX11_count_135 (by decide) ?_
            exact W.iret (v := (-2)) hx hb hr (fun t ht hW => ⟨⟨(-2), (), rfl, trivial, by rw [ht]; exact hP, va_K.moved hW.alike hK⟩, hS.F ht⟩) hS.2.2 dX11_count_147
        · subst hr32
          have hg32_0 : ¬ pHas (z 0 4) x31 := hf32_0
          refine lv_if_ne (tgt := 119) hx hb dX11_count_114 (by decide) (fun q => absurd q (by decide)) (fun _ => ?_)
          refine lv_iconst (v := (-1)) hx hb dX11_count_117 (by decide) ?_
          exact W.iret (v := (-1)) hx hb hr (fun t ht hW => ⟨⟨(-1), (), rfl, trivial, by rw [ht]; exact hP, va_K.moved hW.alike hK⟩, hS.F ht⟩) hS.2.2 dX11_count_118
set_option maxRecDepth 100000 in
set_option maxHeartbeats 8000000 in
theorem m_howOld (l : Launch) (D : va_G) (ca : Nat → ClassId) (o : Nat) (b z : Nat → Nat → Int32) (y : Nat → Nat → Int64) (J0 : qJM b z) (a0 : Int32) (a1 : Int32) (a2 : Int32) (a3 : Int32)  : qM l yX11_howOld cX11_howOld 8 (some .long) 2 82 (qPre D vwCl (qT6 ca) o 41 (qG (GM ca o) z y) [.ref (o + 0), .int a0, .int a1, .int a2, .int a3]) (va_Ql (fun r u => qJM b u.1) (qB D vwCl (qT6 ca) o 41 (fun u : qZ => qG (GM ca o) u.1 u.2)) (qw_A o 41)) (qw_A o 41) := by
  refine Met.ofW (cc := cX11_howOld) (maxL := 8) (ret := (some .long)) (by decide) rfl ?_
  intro p e s m args below meth c s₁ B hml hv
  obtain ⟨rfl, hP, hK⟩ := hv
  have hx := B.exec
  have hb := B.bytes
  have hr := B.returns
  have hts0 := atoms_spec (ws := Cond.code yX11_howOld cX11_howOld 8 (some .long) :: qtbl) B.pre
  have hts : ∀ w ∈ qtbl, w.before _ s = true := fun w h => hts0 w (List.mem_cons_of_mem _ h)
  have hown : s.vm.findClass RX11 = some m.cls := findClass_of_methodNamed B.named
  have hlocks := B.notSynchronized
  have hS : va_S (qw_A o 41) s.heap s.heap [] := va_S.rf
  have hl := lv_entry ([.ref (o + 0), .int a0, .int a1, .int a2, .int a3]) (n := 8) (Nat.le_of_ble_eq_true rfl)
  rw [lg_entry_eq]
  generalize (lg_sl ([.ref (o + 0), .int a0, .int a1, .int a2, .int a3]) ++ List.replicate (8 - (lg_sl ([.ref (o + 0), .int a0, .int a1, .int a2, .int a3])).length) Slot.unset).toArray = ls at hl ⊢
  have hl : lv_has ls 8 [(0, .ref (o + 0)), (1, .int a0), (2, .int a1), (3, .int a2), (4, .int a3)] := hl
  refine lv_iload_n hx hb dX11_howOld_0 rfl (lv_at hl 1 rfl) ?_
  refine lv_iconst (v := 1) hx hb dX11_howOld_1 (by decide) ?_
  refine lv_bipush (v := 6) hx hb dX11_howOld_2 (by decide) ?_
  refine qc_Sip (As := [.int a0, .int 1, .int 6]) (rest := []) (k0 := 3) (m_in l D ca o b z y J0 a0 1 6) kc_yX11_in ⟨hx, hb, hml, hown, hts⟩ wq_1187 rfl rfl ⟨Nat.le_of_ble_eq_true rfl, Nat.le_of_ble_eq_true rfl⟩ wq_all hP hK hS qw_Ai rfl hl.1 rfl (Nat.le_of_ble_eq_true rfl) dX11_howOld_4 ⟨Nat.zero_le _, Nat.zero_le _⟩ (fun r1 H locs h1 hP hS _ _ => ?_)
  rcases h1 with ⟨hr1, hf1_0⟩ | ⟨hr1, hf1_0⟩
  · subst hr1
    have hg1_0 : (1 : Int) ≤ a0.toInt ∧ a0.toInt ≤ (6 : Int) := hf1_0
    refine lv_if_eq (tgt := 42) hx hb dX11_howOld_7 (by decide) (fun q => absurd q (by decide)) (fun _ => ?_)
    refine lv_iload_n hx hb dX11_howOld_10 rfl (lv_at hl 2 rfl) ?_
    refine lv_iconst (v := 0) hx hb dX11_howOld_11 (by decide) ?_
    refine lv_sipush (v := 400) hx hb dX11_howOld_12 (by decide) ?_
    refine qc_Sip (As := [.int a1, .int 0, .int 400]) (rest := []) (k0 := 3) (m_in l D ca o b z y J0 a1 0 400) kc_yX11_in ⟨hx, hb, hml, hown, hts⟩ wq_1187 rfl rfl ⟨Nat.le_of_ble_eq_true rfl, Nat.le_of_ble_eq_true rfl⟩ wq_all hP hK hS qw_Ai rfl hl.1 rfl (Nat.le_of_ble_eq_true rfl) dX11_howOld_15 ⟨Nat.zero_le _, Nat.zero_le _⟩ (fun r2 H locs h2 hP hS _ _ => ?_)
    rcases h2 with ⟨hr2, hf2_0⟩ | ⟨hr2, hf2_0⟩
    · subst hr2
      have hg2_0 : (0 : Int) ≤ a1.toInt ∧ a1.toInt ≤ (400 : Int) := hf2_0
      refine lv_if_eq (tgt := 42) hx hb dX11_howOld_18 (by decide) (fun q => absurd q (by decide)) (fun _ => ?_)
      refine lv_iload_n hx hb dX11_howOld_21 rfl (lv_at hl 3 rfl) ?_
      refine lv_iconst (v := 0) hx hb dX11_howOld_22 (by decide) ?_
      refine lv_bipush (v := 99) hx hb dX11_howOld_23 (by decide) ?_
      refine qc_Sip (As := [.int a2, .int 0, .int 99]) (rest := []) (k0 := 3) (m_in l D ca o b z y J0 a2 0 99) kc_yX11_in ⟨hx, hb, hml, hown, hts⟩ wq_1187 rfl rfl ⟨Nat.le_of_ble_eq_true rfl, Nat.le_of_ble_eq_true rfl⟩ wq_all hP hK hS qw_Ai rfl hl.1 rfl (Nat.le_of_ble_eq_true rfl) dX11_howOld_25 ⟨Nat.zero_le _, Nat.zero_le _⟩ (fun r3 H locs h3 hP hS _ _ => ?_)
      rcases h3 with ⟨hr3, hf3_0⟩ | ⟨hr3, hf3_0⟩
      · subst hr3
        have hg3_0 : (0 : Int) ≤ a2.toInt ∧ a2.toInt ≤ (99 : Int) := hf3_0
        refine lv_if_eq (tgt := 42) hx hb dX11_howOld_28 (by decide) (fun q => absurd q (by decide)) (fun _ => ?_)
        refine lv_iload hx hb dX11_howOld_31 (lv_at hl 4 rfl) ?_
        refine lv_iload_n hx hb dX11_howOld_33 rfl (lv_at hl 3 rfl) ?_
        refine lv_bipush (v := 99) hx hb dX11_howOld_34 (by decide) ?_
        refine qc_Sip (As := [.int a3, .int a2, .int 99]) (rest := []) (k0 := 3) (m_in l D ca o b z y J0 a3 a2 99) kc_yX11_in ⟨hx, hb, hml, hown, hts⟩ wq_1187 rfl rfl ⟨Nat.le_of_ble_eq_true rfl, Nat.le_of_ble_eq_true rfl⟩ wq_all hP hK hS qw_Ai rfl hl.1 rfl (Nat.le_of_ble_eq_true rfl) dX11_howOld_36 ⟨Nat.zero_le _, Nat.zero_le _⟩ (fun r4 H locs h4 hP hS _ _ => ?_)
        rcases h4 with ⟨hr4, hf4_0⟩ | ⟨hr4, hf4_0⟩
        · subst hr4
          have hg4_0 : a2.toInt ≤ a3.toInt ∧ a3.toInt ≤ (99 : Int) := hf4_0
          refine lv_if_ne (tgt := 46) hx hb dX11_howOld_39 (by decide) (fun _ => ?_) (fun q => absurd q (by decide))
          refine lv_iconst (v := 0) hx hb dX11_howOld_46 (by decide) ?_
          refine lv_istore (lv' := [(5, .int 0), (0, .ref (o + 0)), (1, .int a0), (2, .int a1), (3, .int a2), (4, .int a3)]) hx hb dX11_howOld_47 hl (by decide) rfl (fun ls hl => ?_)
          have loop5 : ∀ (n : Nat) (w5_5 : Int32) (z5 : Nat → Nat → Int32) (y5 : Nat → Nat → Int64), ((2807 - w5_5.toInt : Int) < (n : Int)) → ((0 : Int) ≤ w5_5.toInt ∧ w5_5.toInt ≤ 2807) → (qJM b z5) → ∀ (H : Heap) (locs : List Loc), qw_P D vwCl o 41 (qG (GM ca o) z5 y5) H → va_S (qw_A o 41) s.heap H locs → ∀ (ls : Array Slot), lv_has ls 8 [(5, .int w5_5), (0, .ref (o + 0)), (1, .int a0), (2, .int a1), (3, .int a2), (4, .int a3)] → W p l e (headSpec (Cond.code yX11_howOld cX11_howOld 8 (some .long) :: qtbl) ({ frames := 2, cells := 0, slots := 0, locals := 82 })).room s m (([.ref (o + 0), .int a0, .int a1, .int a2, .int a3] : List Value).toArray) below meth c H locs 0 0 (MQ below (va_Ql (fun r u => qJM b u.1) (qB D vwCl (qT6 ca) o 41 (fun u : qZ => qG (GM ca o) u.1 u.2)) (qw_A o 41)) (([.ref (o + 0), .int a0, .int a1, .int a2, .int a3] : List Value).toArray) s 0 0 (qw_A o 41)) (F0 m 49 ls []) := by
            intro n
            induction n with
            | zero => intro w5_5 z5 y5 hb5 hv5_5 J5; exfalso; omega
            | succ n5 ih5 =>
              intro w5_5 z5 y5 hb5 hv5_5 J5 H locs hP hS ls hl
              refine lv_iload hx hb dX11_howOld_49 (lv_at hl 0 rfl) ?_
              refine lv_sipush (v := 2807) hx hb dX11_howOld_51 (by decide) ?_
              refine lv_icmp_ge (tgt := 71) hx hb dX11_howOld_54 (by decide) (fun c6 => ?_) (fun c6 => ?_)
              · have t6 : w5_5.toInt ≥ (2807 : Int) := gl_le c6
                refine lv_aload_n hx hb dX11_howOld_71 rfl (lv_at hl 1 rfl) ?_
                refine qf_get hx hb hts inX11 hown hK hP (q0 := 0) (by decide) (hgM_0 ca o) rfl 59 (by decide) wq_1051 (v := .ref (o + 39)) rfl dX11_howOld_72 ?_
                refine lv_iconst (v := 0) hx hb dX11_howOld_75 (by decide) ?_
                refine lv_lconst (v := 1) hx hb dX11_howOld_76 (by decide) ?_
                refine qa_last2 hx hb hK hP hS qw_Ai (q0 := 39) (by decide) 1 (N := 2807) (hgM_39 ca o) rfl (i := 0) (x := 1) (gi_in (by decide) (by decide)) dX11_howOld_77 (fun y7 H locs hy7 hP hS => ?_)
                refine lv_iload_n hx hb dX11_howOld_78 rfl (lv_at hl 4 rfl) ?_
                refine lv_istore (lv' := [(5, .int a2), (0, .ref (o + 0)), (1, .int a0), (2, .int a1), (3, .int a2), (4, .int a3)]) hx hb dX11_howOld_79 hl (by decide) rfl (fun ls hl => ?_)
                have loop8 : ∀ (n : Nat) (w8_5 : Int32) (z8 : Nat → Nat → Int32) (y8 : Nat → Nat → Int64), ((100 - w8_5.toInt : Int) < (n : Int)) → ((0 : Int) ≤ w8_5.toInt ∧ w8_5.toInt ≤ 100) → (qJM b z8) → ∀ (H : Heap) (locs : List Loc), qw_P D vwCl o 41 (qG (GM ca o) z8 y8) H → va_S (qw_A o 41) s.heap H locs → ∀ (ls : Array Slot), lv_has ls 8 [(5, .int w8_5), (0, .ref (o + 0)), (1, .int a0), (2, .int a1), (3, .int a2), (4, .int a3)] → W p l e (headSpec (Cond.code yX11_howOld cX11_howOld 8 (some .long) :: qtbl) ({ frames := 2, cells := 0, slots := 0, locals := 82 })).room s m (([.ref (o + 0), .int a0, .int a1, .int a2, .int a3] : List Value).toArray) below meth c H locs 0 0 (MQ below (va_Ql (fun r u => qJM b u.1) (qB D vwCl (qT6 ca) o 41 (fun u : qZ => qG (GM ca o) u.1 u.2)) (qw_A o 41)) (([.ref (o + 0), .int a0, .int a1, .int a2, .int a3] : List Value).toArray) s 0 0 (qw_A o 41)) (F0 m 81 ls []) := by
                  intro n
                  induction n with
                  | zero => intro w8_5 z8 y8 hb8 hv8_5 J8; exfalso; omega
                  | succ n8 ih8 =>
                    intro w8_5 z8 y8 hb8 hv8_5 J8 H locs hP hS ls hl
                    refine lv_iload hx hb dX11_howOld_81 (lv_at hl 0 rfl) ?_
                    refine lv_iload hx hb dX11_howOld_83 (lv_at hl 5 rfl) ?_
                    refine lv_icmp_gt (tgt := 173) hx hb dX11_howOld_85 (by decide) (fun c9 => ?_) (fun c9 => ?_)
                    · have t9 : w8_5.toInt > a3.toInt := gl_lt c9
                      refine lv_aload_n hx hb dX11_howOld_173 rfl (lv_at hl 1 rfl) ?_
                      refine qf_get hx hb hts inX11 hown hK hP (q0 := 0) (by decide) (hgM_0 ca o) rfl 59 (by decide) wq_1051 (v := .ref (o + 39)) rfl dX11_howOld_174 ?_
                      refine lv_sipush (v := 401) hx hb dX11_howOld_177 (by decide) ?_
                      refine lv_iload_n hx hb dX11_howOld_180 rfl (lv_at hl 2 rfl) ?_
                      refine lv_imul hx hb dX11_howOld_181 ?_
                      refine lv_topi (fun x10 e10 => ?_)
                      have t10 : x10.toInt = (401 : Int) * a0.toInt := ga_mul e10 rfl rfl (by omega) (by omega)
                      refine lv_iload_n hx hb dX11_howOld_182 rfl (lv_at hl 3 rfl) ?_
                      refine lv_iadd hx hb dX11_howOld_183 ?_
                      refine lv_topi (fun x11 e11 => ?_)
                      have t11 : x11.toInt = x10.toInt + a1.toInt := ga_add e11 rfl rfl (by omega) (by omega)
                      refine qa_lald hx hb hK hP (q0 := 39) (by decide) 1 (N := 2807) (hgM_39 ca o) rfl (gi_in (by omega) (by omega)) dX11_howOld_184 ?_
                      refine lv_topl (fun j12 e12 => ?_)
                      exact W.lret (v := j12) hx hb hr (fun t ht hW => ⟨⟨j12, (z8, y8), rfl, J8, by rw [ht]; exact hP, va_K.moved hW.alike hK⟩, hS.F ht⟩) hS.2.2 dX11_howOld_185
                    · have t9 : w8_5.toInt ≤ a3.toInt := gl_nlt c9
                      refine lv_iconst (v := 1) hx hb dX11_howOld_88 (by decide) ?_
                      refine lv_istore (lv' := [(6, .int 1), (5, .int w8_5), (0, .ref (o + 0)), (1, .int a0), (2, .int a1), (3, .int a2), (4, .int a3)]) hx hb dX11_howOld_89 hl (by decide) rfl (fun ls hl => ?_)
                      have loop13 : ∀ (n : Nat) (w13_6 : Int32) (z13 : Nat → Nat → Int32) (y13 : Nat → Nat → Int64), ((7 - w13_6.toInt : Int) < (n : Int)) → ((1 : Int) ≤ w13_6.toInt ∧ w13_6.toInt ≤ 7) → (qJM b z13) → ∀ (H : Heap) (locs : List Loc), qw_P D vwCl o 41 (qG (GM ca o) z13 y13) H → va_S (qw_A o 41) s.heap H locs → ∀ (ls : Array Slot), lv_has ls 8 [(6, .int w13_6), (5, .int w8_5), (0, .ref (o + 0)), (1, .int a0), (2, .int a1), (3, .int a2), (4, .int a3)] → W p l e (headSpec (Cond.code yX11_howOld cX11_howOld 8 (some .long) :: qtbl) ({ frames := 2, cells := 0, slots := 0, locals := 82 })).room s m (([.ref (o + 0), .int a0, .int a1, .int a2, .int a3] : List Value).toArray) below meth c H locs 0 0 (MQ below (va_Ql (fun r u => qJM b u.1) (qB D vwCl (qT6 ca) o 41 (fun u : qZ => qG (GM ca o) u.1 u.2)) (qw_A o 41)) (([.ref (o + 0), .int a0, .int a1, .int a2, .int a3] : List Value).toArray) s 0 0 (qw_A o 41)) (F0 m 91 ls []) := by
                        intro n
                        induction n with
                        | zero => intro w13_6 z13 y13 hb13 hv13_6 J13; exfalso; omega
                        | succ n13 ih13 =>
                          intro w13_6 z13 y13 hb13 hv13_6 J13 H locs hP hS ls hl
                          refine lv_iload hx hb dX11_howOld_91 (lv_at hl 0 rfl) ?_
                          refine lv_iload_n hx hb dX11_howOld_93 rfl (lv_at hl 3 rfl) ?_
                          refine lv_icmp_gt (tgt := 167) hx hb dX11_howOld_94 (by decide) (fun c14 => ?_) (fun c14 => ?_)
                          · have t14 : w13_6.toInt > a0.toInt := gl_lt c14
                            obtain ⟨x15, e15⟩ : ∃ t : Int32, t = w8_5 + 1 := ⟨_, rfl⟩
                            refine lv_iinc (v := x15) (lv' := [(5, .int x15), (6, .int w13_6), (0, .ref (o + 0)), (1, .int a0), (2, .int a1), (3, .int a2), (4, .int a3)]) hx hb dX11_howOld_167 hl (k := 1) rfl (by rw [e15]; rfl) (by decide) rfl (fun ls hl => ?_)
                            have t15 : x15.toInt = w8_5.toInt + (1 : Int) := ga_add e15 rfl rfl (by omega) (by omega)
                            refine lv_goto (tgt := 81) hx hb dX11_howOld_170 (by decide) ?_
                            exact ih8 x15 z13 y13 (show (100 - x15.toInt : Int) < (n8 : Int) from by omega) ⟨by omega, by omega⟩ J13 _ _ hP hS _ (lv_sub hl [0, 2, 3, 4, 5, 6] rfl)
                          · have t14 : w13_6.toInt ≤ a0.toInt := gl_nlt c14
                            refine lv_iload hx hb dX11_howOld_97 (lv_at hl 1 rfl) ?_
                            refine lv_istore (lv' := [(7, .int w8_5), (6, .int w13_6), (5, .int w8_5), (0, .ref (o + 0)), (1, .int a0), (2, .int a1), (3, .int a2), (4, .int a3)]) hx hb dX11_howOld_99 hl (by decide) rfl (fun ls hl => ?_)
                            have loop16 : ∀ (n : Nat) (w16_7 : Int32) (z16 : Nat → Nat → Int32) (y16 : Nat → Nat → Int64), ((401 - w16_7.toInt : Int) < (n : Int)) → ((0 : Int) ≤ w16_7.toInt ∧ w16_7.toInt ≤ 401) → (qJM b z16) → (w8_5.toInt ≤ w16_7.toInt) → ∀ (H : Heap) (locs : List Loc), qw_P D vwCl o 41 (qG (GM ca o) z16 y16) H → va_S (qw_A o 41) s.heap H locs → ∀ (ls : Array Slot), lv_has ls 8 [(7, .int w16_7), (6, .int w13_6), (5, .int w8_5), (0, .ref (o + 0)), (1, .int a0), (2, .int a1), (3, .int a2), (4, .int a3)] → W p l e (headSpec (Cond.code yX11_howOld cX11_howOld 8 (some .long) :: qtbl) ({ frames := 2, cells := 0, slots := 0, locals := 82 })).room s m (([.ref (o + 0), .int a0, .int a1, .int a2, .int a3] : List Value).toArray) below meth c H locs 0 0 (MQ below (va_Ql (fun r u => qJM b u.1) (qB D vwCl (qT6 ca) o 41 (fun u : qZ => qG (GM ca o) u.1 u.2)) (qw_A o 41)) (([.ref (o + 0), .int a0, .int a1, .int a2, .int a3] : List Value).toArray) s 0 0 (qw_A o 41)) (F0 m 101 ls []) := by
                              intro n
                              induction n with
                              | zero => intro w16_7 z16 y16 hb16 hv16_7 J16 v16_0; exfalso; omega
                              | succ n16 ih16 =>
                                intro w16_7 z16 y16 hb16 hv16_7 J16 v16_0 H locs hP hS ls hl
                                refine lv_iload hx hb dX11_howOld_101 (lv_at hl 0 rfl) ?_
                                refine lv_iload_n hx hb dX11_howOld_103 rfl (lv_at hl 5 rfl) ?_
                                refine lv_icmp_gt (tgt := 161) hx hb dX11_howOld_104 (by decide) (fun c17 => ?_) (fun c17 => ?_)
                                · have t17 : w16_7.toInt > a1.toInt := gl_lt c17
                                  obtain ⟨x18, e18⟩ : ∃ t : Int32, t = w13_6 + 1 := ⟨_, rfl⟩
                                  refine lv_iinc (v := x18) (lv' := [(6, .int x18), (7, .int w16_7), (5, .int w8_5), (0, .ref (o + 0)), (1, .int a0), (2, .int a1), (3, .int a2), (4, .int a3)]) hx hb dX11_howOld_161 hl (k := 1) rfl (by rw [e18]; rfl) (by decide) rfl (fun ls hl => ?_)
                                  have t18 : x18.toInt = w13_6.toInt + (1 : Int) := ga_add e18 rfl rfl (by omega) (by omega)
                                  refine lv_goto (tgt := 91) hx hb dX11_howOld_164 (by decide) ?_
                                  exact ih13 x18 z16 y16 (show (7 - x18.toInt : Int) < (n13 : Int) from by omega) ⟨by omega, by omega⟩ J16 _ _ hP hS _ (lv_sub hl [0, 2, 3, 4, 5, 6, 7] rfl)
                                · have t17 : w16_7.toInt ≤ a1.toInt := gl_nlt c17
                                  refine lv_aload_n hx hb dX11_howOld_107 rfl (lv_at hl 3 rfl) ?_
                                  refine qf_get hx hb hts inX11 hown hK hP (q0 := 0) (by decide) (hgM_0 ca o) rfl 59 (by decide) wq_1051 (v := .ref (o + 39)) rfl dX11_howOld_108 ?_
                                  refine lv_sipush (v := 401) hx hb dX11_howOld_111 (by decide) ?_
                                  refine lv_iload hx hb dX11_howOld_114 (lv_at hl 1 rfl) ?_
                                  refine lv_imul hx hb dX11_howOld_116 ?_
                                  refine lv_topi (fun x19 e19 => ?_)
                                  have t19 : x19.toInt = (401 : Int) * w13_6.toInt := ga_mul e19 rfl rfl (by omega) (by omega)
                                  refine lv_iload hx hb dX11_howOld_117 (lv_at hl 0 rfl) ?_
                                  refine lv_iadd hx hb dX11_howOld_119 ?_
                                  refine lv_topi (fun x20 e20 => ?_)
                                  have t20 : x20.toInt = x19.toInt + w16_7.toInt := ga_add e20 rfl rfl (by omega) (by omega)
                                  refine lv_aload_n hx hb dX11_howOld_120 rfl (lv_at hl 3 rfl) ?_
                                  refine qf_get hx hb hts inX11 hown hK hP (q0 := 0) (by decide) (hgM_0 ca o) rfl 59 (by decide) wq_1051 (v := .ref (o + 39)) rfl dX11_howOld_121 ?_
                                  refine lv_sipush (v := 401) hx hb dX11_howOld_124 (by decide) ?_
                                  refine lv_iload hx hb dX11_howOld_127 (lv_at hl 1 rfl) ?_
                                  refine lv_imul hx hb dX11_howOld_129 ?_
                                  refine lv_topi (fun x21 e21 => ?_)
                                  have t21 : x21.toInt = x19.toInt := congrArg Int32.toInt (e21.trans e19.symm)
                                  refine lv_iload hx hb dX11_howOld_130 (lv_at hl 0 rfl) ?_
                                  refine lv_iadd hx hb dX11_howOld_132 ?_
                                  refine lv_topi (fun x22 e22 => ?_)
                                  have t22 : x22.toInt = x21.toInt + w16_7.toInt := ga_add e22 rfl rfl (by omega) (by omega)
                                  refine qa_lald hx hb hK hP (q0 := 39) (by decide) 1 (N := 2807) (hgM_39 ca o) rfl (gi_in (by omega) (by omega)) dX11_howOld_133 ?_
                                  refine lv_topl (fun j23 e23 => ?_)
                                  refine lv_aload_n hx hb dX11_howOld_134 rfl (lv_at hl 3 rfl) ?_
                                  refine qf_get hx hb hts inX11 hown hK hP (q0 := 0) (by decide) (hgM_0 ca o) rfl 59 (by decide) wq_1051 (v := .ref (o + 39)) rfl dX11_howOld_135 ?_
                                  refine lv_sipush (v := 401) hx hb dX11_howOld_138 (by decide) ?_
                                  refine lv_iload hx hb dX11_howOld_141 (lv_at hl 1 rfl) ?_
                                  refine lv_iconst (v := 1) hx hb dX11_howOld_143 (by decide) ?_
                                  refine lv_isub hx hb dX11_howOld_144 ?_
                                  refine lv_topi (fun x24 e24 => ?_)
                                  have t24 : x24.toInt = w13_6.toInt - (1 : Int) := ga_sub e24 rfl rfl (by omega) (by omega)
                                  refine lv_imul hx hb dX11_howOld_145 ?_
                                  refine lv_topi (fun x25 e25 => ?_)
                                  have t25 : x25.toInt = (401 : Int) * x24.toInt := ga_mul e25 rfl rfl (by omega) (by omega)
                                  refine lv_iload hx hb dX11_howOld_146 (lv_at hl 0 rfl) ?_
                                  refine lv_iadd hx hb dX11_howOld_148 ?_
                                  refine lv_topi (fun x26 e26 => ?_)
                                  have t26 : x26.toInt = x25.toInt + w16_7.toInt := ga_add e26 rfl rfl (by omega) (by omega)
                                  refine lv_iload hx hb dX11_howOld_149 (lv_at hl 2 rfl) ?_
                                  refine lv_isub hx hb dX11_howOld_151 ?_
                                  refine lv_topi (fun x27 e27 => ?_)
                                  have t27 : x27.toInt = x26.toInt - w8_5.toInt := ga_sub e27 rfl rfl (by omega) (by omega)
                                  refine qa_lald hx hb hK hP (q0 := 39) (by decide) 1 (N := 2807) (hgM_39 ca o) rfl (gi_in (by omega) (by omega)) dX11_howOld_152 ?_
                                  refine lv_topl (fun j28 e28 => ?_)
                                  refine lv_ladd hx hb dX11_howOld_153 ?_
                                  refine lv_topl (fun j29 e29 => ?_)
                                  refine qa_last2 hx hb hK hP hS qw_Ai (q0 := 39) (by decide) 1 (N := 2807) (hgM_39 ca o) rfl (i := x20) (x := j29) (gi_in (by omega) (by omega)) dX11_howOld_154 (fun y30 H locs hy30 hP hS => ?_)
                                  obtain ⟨x31, e31⟩ : ∃ t : Int32, t = w16_7 + 1 := ⟨_, rfl⟩
                                  refine lv_iinc (v := x31) (lv' := [(7, .int x31), (6, .int w13_6), (5, .int w8_5), (0, .ref (o + 0)), (1, .int a0), (2, .int a1), (3, .int a2), (4, .int a3)]) hx hb dX11_howOld_155 hl (k := 0) rfl (by rw [e31]; rfl) (by decide) rfl (fun ls hl => ?_)
                                  have t31 : x31.toInt = w16_7.toInt + (1 : Int) := ga_add e31 rfl rfl (by omega) (by omega)
                                  refine lv_goto (tgt := 101) hx hb dX11_howOld_158 (by decide) ?_
                                  exact ih16 x31 z16 y30 (show (401 - x31.toInt : Int) < (n16 : Int) from by omega) ⟨by omega, by omega⟩ J16 (show w8_5.toInt ≤ x31.toInt from by omega) _ _ hP hS _ (lv_sub hl [0, 1, 2, 3, 4, 5, 6, 7] rfl)
                            exact loop16 402 w8_5 z13 y13 (show (401 - w8_5.toInt : Int) < ((402 : Nat) : Int) from by omega) ⟨by omega, by omega⟩ J13 (show w8_5.toInt ≤ w8_5.toInt from by omega) _ _ hP hS _ (lv_sub hl [0, 1, 2, 3, 4, 5, 6, 7] rfl)
                      exact loop13 7 1 z8 y8 (show (7 - (1 : Int) : Int) < ((7 : Nat) : Int) from by omega) ⟨by decide, by decide⟩ J8 _ _ hP hS _ (lv_sub hl [0, 1, 2, 3, 4, 5, 6] rfl)
                exact loop8 101 a2 z5 y7 (show (100 - a2.toInt : Int) < ((101 : Nat) : Int) from by omega) ⟨by omega, by omega⟩ J5 _ _ hP hS _ (lv_sub hl [0, 1, 2, 3, 4, 5] rfl)
              · have t6 : w5_5.toInt < (2807 : Int) := gl_nle c6
                refine lv_aload_n hx hb dX11_howOld_57 rfl (lv_at hl 1 rfl) ?_
                refine qf_get hx hb hts inX11 hown hK hP (q0 := 0) (by decide) (hgM_0 ca o) rfl 59 (by decide) wq_1051 (v := .ref (o + 39)) rfl dX11_howOld_58 ?_
                refine lv_iload hx hb dX11_howOld_61 (lv_at hl 0 rfl) ?_
                refine lv_lconst (v := 0) hx hb dX11_howOld_63 (by decide) ?_
                refine qa_last2 hx hb hK hP hS qw_Ai (q0 := 39) (by decide) 1 (N := 2807) (hgM_39 ca o) rfl (i := w5_5) (x := 0) (gi_in (by omega) (by omega)) dX11_howOld_64 (fun y32 H locs hy32 hP hS => ?_)
                obtain ⟨x33, e33⟩ : ∃ t : Int32, t = w5_5 + 1 := ⟨_, rfl⟩
                refine lv_iinc (v := x33) (lv' := [(5, .int x33), (0, .ref (o + 0)), (1, .int a0), (2, .int a1), (3, .int a2), (4, .int a3)]) hx hb dX11_howOld_65 hl (k := 0) rfl (by rw [e33]; rfl) (by decide) rfl (fun ls hl => ?_)
                have t33 : x33.toInt = w5_5.toInt + (1 : Int) := ga_add e33 rfl rfl (by omega) (by omega)
                refine lv_goto (tgt := 49) hx hb dX11_howOld_68 (by decide) ?_
                exact ih5 x33 z5 y32 (show (2807 - x33.toInt : Int) < (n5 : Int) from by omega) ⟨by omega, by omega⟩ J5 _ _ hP hS _ (lv_sub hl [0, 1, 2, 3, 4, 5] rfl)
          exact loop5 2808 0 z y (show (2807 - (0 : Int) : Int) < ((2808 : Nat) : Int) from by omega) ⟨by decide, by decide⟩ J0 _ _ hP hS _ (lv_sub hl [0, 1, 2, 3, 4, 5] rfl)
        · subst hr4
          have hg4_0 : ¬ (a2.toInt ≤ a3.toInt ∧ a3.toInt ≤ (99 : Int)) := hf4_0
          refine lv_if_ne (tgt := 46) hx hb dX11_howOld_39 (by decide) (fun q => absurd q (by decide)) (fun _ => ?_)
          refine lv_ldc2 (v := (-1)) hx hb hown (hts _ wq_1582) dX11_howOld_42 ?_
          exact W.lret (v := (-1)) hx hb hr (fun t ht hW => ⟨⟨(-1), (z, y), rfl, J0, by rw [ht]; exact hP, va_K.moved hW.alike hK⟩, hS.F ht⟩) hS.2.2 dX11_howOld_45
      · subst hr3
        have hg3_0 : ¬ ((0 : Int) ≤ a2.toInt ∧ a2.toInt ≤ (99 : Int)) := hf3_0
        refine lv_if_eq (tgt := 42) hx hb dX11_howOld_28 (by decide) (fun _ => ?_) (fun q => absurd (by decide) q)
        refine lv_ldc2 (v := (-1)) hx hb hown (hts _ wq_1582) dX11_howOld_42 ?_
        exact W.lret (v := (-1)) hx hb hr (fun t ht hW => ⟨⟨(-1), (z, y), rfl, J0, by rw [ht]; exact hP, va_K.moved hW.alike hK⟩, hS.F ht⟩) hS.2.2 dX11_howOld_45
    · subst hr2
      have hg2_0 : ¬ ((0 : Int) ≤ a1.toInt ∧ a1.toInt ≤ (400 : Int)) := hf2_0
      refine lv_if_eq (tgt := 42) hx hb dX11_howOld_18 (by decide) (fun _ => ?_) (fun q => absurd (by decide) q)
      refine lv_ldc2 (v := (-1)) hx hb hown (hts _ wq_1582) dX11_howOld_42 ?_
      exact W.lret (v := (-1)) hx hb hr (fun t ht hW => ⟨⟨(-1), (z, y), rfl, J0, by rw [ht]; exact hP, va_K.moved hW.alike hK⟩, hS.F ht⟩) hS.2.2 dX11_howOld_45
  · subst hr1
    have hg1_0 : ¬ ((1 : Int) ≤ a0.toInt ∧ a0.toInt ≤ (6 : Int)) := hf1_0
    refine lv_if_eq (tgt := 42) hx hb dX11_howOld_7 (by decide) (fun _ => ?_) (fun q => absurd (by decide) q)
    refine lv_ldc2 (v := (-1)) hx hb hown (hts _ wq_1582) dX11_howOld_42 ?_
    exact W.lret (v := (-1)) hx hb hr (fun t ht hW => ⟨⟨(-1), (z, y), rfl, J0, by rw [ht]; exact hP, va_K.moved hW.alike hK⟩, hS.F ht⟩) hS.2.2 dX11_howOld_45
