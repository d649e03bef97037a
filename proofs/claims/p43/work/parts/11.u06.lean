set_option maxRecDepth 100000 in
set_option maxHeartbeats 8000000 in
theorem u_Arrays_fill_v21 (l : Launch) (D : va_G) (ca : Nat → ClassId) (o : Nat) (b z : Nat → Nat → Int32) (y : Nat → Nat → Int64) (J0 : qJU b z) (a1 : Int32)  : qM l yJ7_fill_53178 cJ7_fill_53178 4 none 1 60 (qPre D vwCl (qT6 ca) o 132 (qG (GU ca o) z y) [.ref (o + 109), .int a1]) (va_Qv (fun u => qJU b u.1) (qB D vwCl (qT6 ca) o 132 (fun u : qZ => qG (GU ca o) u.1 u.2)) (qw_A o 132)) (qw_A o 132) := by
  refine Met.ofW (cc := cJ7_fill_53178) (maxL := 4) (ret := none) (by decide) rfl ?_
  intro p e s m args below meth c s₁ B hml hv
  obtain ⟨rfl, hP, hK⟩ := hv
  have hx := B.exec
  have hb := B.bytes
  have hr := B.returns
  have hts0 := atoms_spec (ws := Cond.code yJ7_fill_53178 cJ7_fill_53178 4 none :: qtbl) B.pre
  have hts : ∀ w ∈ qtbl, w.before _ s = true := fun w h => hts0 w (List.mem_cons_of_mem _ h)
  have hown : s.vm.findClass RJ7 = some m.cls := findClass_of_methodNamed B.named
  have hlocks := B.notSynchronized
  have hS : va_S (qw_A o 132) s.heap s.heap [] := va_S.rf
  have hl := lv_entry ([.ref (o + 109), .int a1]) (n := 4) (Nat.le_of_ble_eq_true rfl)
  rw [lg_entry_eq]
  generalize (lg_sl ([.ref (o + 109), .int a1]) ++ List.replicate (4 - (lg_sl ([.ref (o + 109), .int a1])).length) Slot.unset).toArray = ls at hl ⊢
  have hl : lv_has ls 4 [(0, .ref (o + 109)), (1, .int a1)] := hl
  refine lv_iconst (v := 0) hx hb dJ7_fill_53178_0 (by decide) ?_
  refine lv_istore_n (lv' := [(2, .int 0), (0, .ref (o + 109)), (1, .int a1)]) hx hb dJ7_fill_53178_1 rfl hl (by decide) rfl (fun ls hl => ?_)
  refine lv_aload_n hx hb dJ7_fill_53178_2 rfl (lv_at hl 1 rfl) ?_
  refine qa_len hx hb hK hP (q0 := 109) (by decide) 0 (hgU_109 ca o) rfl (v := 1024) rfl dJ7_fill_53178_3 ?_
  refine lv_istore_n (lv' := [(3, .int 1024), (2, .int 0), (0, .ref (o + 109)), (1, .int a1)]) hx hb dJ7_fill_53178_4 rfl hl (by decide) rfl (fun ls hl => ?_)
  have loop1 : ∀ (n : Nat) (w1_2 : Int32) (z1 : Nat → Nat → Int32) (y1 : Nat → Nat → Int64), ((1999 - w1_2.toInt : Int) < (n : Int)) → ((0 : Int) ≤ w1_2.toInt ∧ w1_2.toInt ≤ 1999) → (qJU b z1) → ∀ (H : Heap) (locs : List Loc), qw_P D vwCl o 132 (qG (GU ca o) z1 y1) H → va_S (qw_A o 132) s.heap H locs → ∀ (ls : Array Slot), lv_has ls 4 [(3, .int 1024), (2, .int w1_2), (0, .ref (o + 109)), (1, .int a1)] → W p l e (headSpec (Cond.code yJ7_fill_53178 cJ7_fill_53178 4 none :: qtbl) ({ frames := 1, cells := 0, slots := 0, locals := 60 })).room s m (([.ref (o + 109), .int a1] : List Value).toArray) below meth c H locs 0 0 (MQ below (va_Qv (fun u => qJU b u.1) (qB D vwCl (qT6 ca) o 132 (fun u : qZ => qG (GU ca o) u.1 u.2)) (qw_A o 132)) (([.ref (o + 109), .int a1] : List Value).toArray) s 0 0 (qw_A o 132)) (F0 m 5 ls []) := by
    intro n
    induction n with
    | zero => intro w1_2 z1 y1 hb1 hv1_2 J1; exfalso; omega
    | succ n1 ih1 =>
      intro w1_2 z1 y1 hb1 hv1_2 J1 H locs hP hS ls hl
      refine lv_iload_n hx hb dJ7_fill_53178_5 rfl (lv_at hl 1 rfl) ?_
      refine lv_iload_n hx hb dJ7_fill_53178_6 rfl (lv_at hl 0 rfl) ?_
      refine lv_icmp_ge (tgt := 20) hx hb dJ7_fill_53178_7 (by decide) (fun c2 => ?_) (fun c2 => ?_)
      · have t2 : w1_2.toInt ≥ (1024 : Int) := gl_le c2
        exact W.vret hx hb hr (fun t ht hW => ⟨⟨(z1, y1), rfl, J1, by rw [ht]; exact hP, va_K.moved hW.alike hK⟩, hS.F ht⟩) hS.2.2 dJ7_fill_53178_20
      · have t2 : w1_2.toInt < (1024 : Int) := gl_nle c2
        refine lv_aload_n hx hb dJ7_fill_53178_10 rfl (lv_at hl 2 rfl) ?_
        refine lv_iload_n hx hb dJ7_fill_53178_11 rfl (lv_at hl 1 rfl) ?_
        refine lv_iload_n hx hb dJ7_fill_53178_12 rfl (lv_at hl 3 rfl) ?_
        refine qa_iast2 hx hb hK hP hS qw_Ai (q0 := 109) (by decide) 0 (N := 1024) (hgU_109 ca o) rfl (i := w1_2) (x := a1) (gi_in (by omega) (by omega)) dJ7_fill_53178_13 (fun z3 H locs hz3 hP hS => ?_)
        have J3 := jU_109 J1 hz3
        obtain ⟨x4, e4⟩ : ∃ t : Int32, t = w1_2 + 1 := ⟨_, rfl⟩
        refine lv_iinc (v := x4) (lv' := [(2, .int x4), (3, .int 1024), (0, .ref (o + 109)), (1, .int a1)]) hx hb dJ7_fill_53178_14 hl (k := 1) rfl (by rw [e4]; rfl) (by decide) rfl (fun ls hl => ?_)
        have t4 : x4.toInt = w1_2.toInt + (1 : Int) := ga_add e4 rfl rfl (by omega) (by omega)
        refine lv_goto (tgt := 5) hx hb dJ7_fill_53178_17 (by decide) ?_
        exact ih1 x4 z3 y1 (show (1999 - x4.toInt : Int) < (n1 : Int) from by omega) ⟨by omega, by omega⟩ J3 _ _ hP hS _ (lv_sub hl [1, 0, 2, 3] rfl)
  exact loop1 2000 0 z y (show (1999 - (0 : Int) : Int) < ((2000 : Nat) : Int) from by omega) ⟨by decide, by decide⟩ J0 _ _ hP hS _ (lv_sub hl [0, 1, 2, 3] rfl)
set_option maxRecDepth 100000 in
set_option maxHeartbeats 8000000 in
theorem u_Rows_grow (l : Launch) (D : va_G) (ca : Nat → ClassId) (o : Nat) (b z : Nat → Nat → Int32) (y : Nat → Nat → Int64) (J0 : qJU b z) (a0 : Int32) (a1 : Int32) (ha0 : (0 : Int) ≤ a0.toInt ∧ a0.toInt ≤ 5) (hp0 : 0 ≤ (z 105 a0.toNatClampNeg).toInt + a1.toInt ∧ (z 105 a0.toNatClampNeg).toInt + a1.toInt ≤ 99) : qM l yX7_grow cX7_grow 4 none 1 60 (qPre D vwCl (qT6 ca) o 132 (qG (GU ca o) z y) [.ref (o + 104), .int a0, .int a1]) (va_Qv (fun u => qJU b u.1) (qB D vwCl (qT6 ca) o 132 (fun u : qZ => qG (GU ca o) u.1 u.2)) (qw_A o 132)) (qw_A o 132) := by
  refine Met.ofW (cc := cX7_grow) (maxL := 4) (ret := none) (by decide) rfl ?_
  intro p e s m args below meth c s₁ B hml hv
  obtain ⟨rfl, hP, hK⟩ := hv
  have hx := B.exec
  have hb := B.bytes
  have hr := B.returns
  have hts0 := atoms_spec (ws := Cond.code yX7_grow cX7_grow 4 none :: qtbl) B.pre
  have hts : ∀ w ∈ qtbl, w.before _ s = true := fun w h => hts0 w (List.mem_cons_of_mem _ h)
  have hown : s.vm.findClass RX7 = some m.cls := findClass_of_methodNamed B.named
  have hlocks := B.notSynchronized
  have hS : va_S (qw_A o 132) s.heap s.heap [] := va_S.rf
  have hl := lv_entry ([.ref (o + 104), .int a0, .int a1]) (n := 4) (Nat.le_of_ble_eq_true rfl)
  rw [lg_entry_eq]
  generalize (lg_sl ([.ref (o + 104), .int a0, .int a1]) ++ List.replicate (4 - (lg_sl ([.ref (o + 104), .int a0, .int a1])).length) Slot.unset).toArray = ls at hl ⊢
  have hl : lv_has ls 4 [(0, .ref (o + 104)), (1, .int a0), (2, .int a1)] := hl
  refine lv_aload_n hx hb dX7_grow_0 rfl (lv_at hl 0 rfl) ?_
  refine qf_get hx hb hts inX7 hown hK hP (q0 := 104) (by decide) (hgU_104 ca o) rfl 1 (by decide) wq_187 (v := .ref (o + 105)) rfl dX7_grow_1 ?_
  refine lv_iload_n hx hb dX7_grow_4 rfl (lv_at hl 1 rfl) ?_
  refine lv_dup2_11 hx hb dX7_grow_5 rfl rfl ?_
  refine qa_iald hx hb hK hP (q0 := 105) (by decide) 0 (N := 6) (hgU_105 ca o) rfl (gi_in (by omega) (by omega)) dX7_grow_6 ?_
  refine lv_topi (fun x1 e1 => ?_)
  have b1 := iU_105 J0 e1
  have k1 : x1.toInt = (z 105 a0.toNatClampNeg).toInt := congrArg Int32.toInt e1
  refine lv_iload_n hx hb dX7_grow_7 rfl (lv_at hl 2 rfl) ?_
  refine lv_iadd hx hb dX7_grow_8 ?_
  refine lv_topi (fun x2 e2 => ?_)
  have t2 : x2.toInt = x1.toInt + a1.toInt := ga_add e2 rfl rfl (by omega) (by omega)
  refine qa_iast2 hx hb hK hP hS qw_Ai (q0 := 105) (by decide) 0 (N := 6) (hgU_105 ca o) rfl (i := a0) (x := x2) (gi_in (by omega) (by omega)) dX7_grow_9 (fun z3 H locs hz3 hP hS => ?_)
  have J3 := jU_105 J0 hz3 ⟨by omega, by omega⟩
  refine lv_iconst (v := 0) hx hb dX7_grow_10 (by decide) ?_
  refine lv_istore_n (lv' := [(3, .int 0), (0, .ref (o + 104)), (1, .int a0), (2, .int a1)]) hx hb dX7_grow_11 rfl hl (by decide) rfl (fun ls hl => ?_)
  have loop4 : ∀ (n : Nat) (w4_3 : Int32) (z4 : Nat → Nat → Int32) (y4 : Nat → Nat → Int64), ((10 - w4_3.toInt : Int) < (n : Int)) → ((0 : Int) ≤ w4_3.toInt ∧ w4_3.toInt ≤ 10) → (qJU b z4) → ∀ (H : Heap) (locs : List Loc), qw_P D vwCl o 132 (qG (GU ca o) z4 y4) H → va_S (qw_A o 132) s.heap H locs → ∀ (ls : Array Slot), lv_has ls 4 [(3, .int w4_3), (0, .ref (o + 104)), (1, .int a0), (2, .int a1)] → W p l e (headSpec (Cond.code yX7_grow cX7_grow 4 none :: qtbl) ({ frames := 1, cells := 0, slots := 0, locals := 60 })).room s m (([.ref (o + 104), .int a0, .int a1] : List Value).toArray) below meth c H locs 0 0 (MQ below (va_Qv (fun u => qJU b u.1) (qB D vwCl (qT6 ca) o 132 (fun u : qZ => qG (GU ca o) u.1 u.2)) (qw_A o 132)) (([.ref (o + 104), .int a0, .int a1] : List Value).toArray) s 0 0 (qw_A o 132)) (F0 m 12 ls []) := by
    intro n
    induction n with
    | zero => intro w4_3 z4 y4 hb4 hv4_3 J4; exfalso; omega
    | succ n4 ih4 =>
      intro w4_3 z4 y4 hb4 hv4_3 J4 H locs hP hS ls hl
      refine lv_iload_n hx hb dX7_grow_12 rfl (lv_at hl 0 rfl) ?_
      refine lv_aload_n hx hb dX7_grow_13 rfl (lv_at hl 1 rfl) ?_
      refine qf_get hx hb hts inX7 hown hK hP (q0 := 104) (by decide) (hgU_104 ca o) rfl 4 (by decide) wq_192 (v := .int (z4 104 4)) rfl dX7_grow_14 ?_
      refine lv_topi (fun x5 e5 => ?_)
      have b5 := iU_104_4 J4 e5
      refine lv_icmp_ge (tgt := 56) hx hb dX7_grow_17 (by decide) (fun c6 => ?_) (fun c6 => ?_)
      · have t6 : w4_3.toInt ≥ x5.toInt := gl_le c6
        exact W.vret hx hb hr (fun t ht hW => ⟨⟨(z4, y4), rfl, J4, by rw [ht]; exact hP, va_K.moved hW.alike hK⟩, hS.F ht⟩) hS.2.2 dX7_grow_56
      · have t6 : w4_3.toInt < x5.toInt := gl_nle c6
        refine lv_aload_n hx hb dX7_grow_20 rfl (lv_at hl 1 rfl) ?_
        refine qf_get hx hb hts inX7 hown hK hP (q0 := 104) (by decide) (hgU_104 ca o) rfl 3 (by decide) wq_191 (v := .ref (o + 107)) rfl dX7_grow_21 ?_
        refine lv_iload_n hx hb dX7_grow_24 rfl (lv_at hl 0 rfl) ?_
        refine lv_dup2_11 hx hb dX7_grow_25 rfl rfl ?_
        refine qa_iald hx hb hK hP (q0 := 107) (by decide) 0 (N := 10) (hgU_107 ca o) rfl (gi_in (by omega) (by omega)) dX7_grow_26 ?_
        refine lv_topi (fun x7 e7 => ?_)
        refine lv_aload_n hx hb dX7_grow_27 rfl (lv_at hl 1 rfl) ?_
        refine qf_get hx hb hts inX7 hown hK hP (q0 := 104) (by decide) (hgU_104 ca o) rfl 0 (by decide) wq_185 (v := .ref (o + 1)) rfl dX7_grow_28 ?_
        refine qf_get hx hb hts inX9 hown hK hP (q0 := 1) (by decide) (hgU_1 ca o) rfl 4 (by decide) wq_95 (v := .ref (o + 6)) rfl dX7_grow_31 ?_
        refine lv_aload_n hx hb dX7_grow_34 rfl (lv_at hl 1 rfl) ?_
        refine qf_get hx hb hts inX7 hown hK hP (q0 := 104) (by decide) (hgU_104 ca o) rfl 2 (by decide) wq_190 (v := .ref (o + 106)) rfl dX7_grow_35 ?_
        refine lv_iload_n hx hb dX7_grow_38 rfl (lv_at hl 0 rfl) ?_
        refine qa_iald hx hb hK hP (q0 := 106) (by decide) 0 (N := 10) (hgU_106 ca o) rfl (gi_in (by omega) (by omega)) dX7_grow_39 ?_
        refine lv_topi (fun x8 e8 => ?_)
        have b8 := iU_106 J4 e8
        have hi_x8 : x8.toNatClampNeg < 16 := ga_nat (by omega) (show _ < (16 : Int) from by omega)
        refine qa_aald hx hb hK hP (q0 := 6) (by decide) 4 rfl (N := 16) (hgU_6 ca o) rfl (gi_in (by omega) (by omega)) dX7_grow_40 ?_
        refine qf_get hx hb hts inX5 hown hK hP (q0 := 7 + 2 * x8.toNatClampNeg) (show _ < _ from by have := hi_x8; omega) (hgU_LT ca o hi_x8) rfl 0 (by decide) wq_44 (v := .ref (o + (7 + 2 * x8.toNatClampNeg + 1))) rfl dX7_grow_41 ?_
        refine lv_iload_n hx hb dX7_grow_44 rfl (lv_at hl 2 rfl) ?_
        refine qa_iald hx hb hK hP (q0 := 7 + 2 * x8.toNatClampNeg + 1) (show _ < _ from by have := hi_x8; omega) 0 (N := 6) (hgU_AT ca o hi_x8) rfl (gi_in (by omega) (by omega)) dX7_grow_45 ?_
        refine lv_topi (fun x9 e9 => ?_)
        refine lv_iload_n hx hb dX7_grow_46 rfl (lv_at hl 3 rfl) ?_
        refine lv_imul hx hb dX7_grow_47 ?_
        refine lv_topi (fun x10 e10 => ?_)
        refine lv_iadd hx hb dX7_grow_48 ?_
        refine lv_topi (fun x11 e11 => ?_)
        refine qa_iast2 hx hb hK hP hS qw_Ai (q0 := 107) (by decide) 0 (N := 10) (hgU_107 ca o) rfl (i := w4_3) (x := x11) (gi_in (by omega) (by omega)) dX7_grow_49 (fun z12 H locs hz12 hP hS => ?_)
        have J12 := jU_107 J4 hz12
        obtain ⟨x13, e13⟩ : ∃ t : Int32, t = w4_3 + 1 := ⟨_, rfl⟩
        refine lv_iinc (v := x13) (lv' := [(3, .int x13), (0, .ref (o + 104)), (1, .int a0), (2, .int a1)]) hx hb dX7_grow_50 hl (k := 0) rfl (by rw [e13]; rfl) (by decide) rfl (fun ls hl => ?_)
        have t13 : x13.toInt = w4_3.toInt + (1 : Int) := ga_add e13 rfl rfl (by omega) (by omega)
        refine lv_goto (tgt := 12) hx hb dX7_grow_53 (by decide) ?_
        exact ih4 x13 z12 y4 (show (10 - x13.toInt : Int) < (n4 : Int) from by omega) ⟨by omega, by omega⟩ J12 _ _ hP hS _ (lv_sub hl [0, 1, 2, 3] rfl)
  exact loop4 11 0 z3 y (show (10 - (0 : Int) : Int) < ((11 : Nat) : Int) from by omega) ⟨by decide, by decide⟩ J3 _ _ hP hS _ (lv_sub hl [0, 1, 2, 3] rfl)
set_option maxRecDepth 100000 in
set_option maxHeartbeats 8000000 in
theorem u_Rows_step (l : Launch) (D : va_G) (ca : Nat → ClassId) (o : Nat) (b z : Nat → Nat → Int32) (y : Nat → Nat → Int64) (J0 : qJU b z)   : qM l yX7_step cX7_step 2 none 2 83 (qPre D vwCl (qT6 ca) o 132 (qG (GU ca o) z y) [.ref (o + 104)]) (va_Qv (fun u => qJU b u.1) (qB D vwCl (qT6 ca) o 132 (fun u : qZ => qG (GU ca o) u.1 u.2)) (qw_A o 132)) (qw_A o 132) := by
  refine Met.ofW (cc := cX7_step) (maxL := 2) (ret := none) (by decide) rfl ?_
  intro p e s m args below meth c s₁ B hml hv
  obtain ⟨rfl, hP, hK⟩ := hv
  have hx := B.exec
  have hb := B.bytes
  have hr := B.returns
  have hts0 := atoms_spec (ws := Cond.code yX7_step cX7_step 2 none :: qtbl) B.pre
  have hts : ∀ w ∈ qtbl, w.before _ s = true := fun w h => hts0 w (List.mem_cons_of_mem _ h)
  have hown : s.vm.findClass RX7 = some m.cls := findClass_of_methodNamed B.named
  have hlocks := B.notSynchronized
  have hS : va_S (qw_A o 132) s.heap s.heap [] := va_S.rf
  have hl := lv_entry ([.ref (o + 104)]) (n := 2) (Nat.le_of_ble_eq_true rfl)
  rw [lg_entry_eq]
  generalize (lg_sl ([.ref (o + 104)]) ++ List.replicate (2 - (lg_sl ([.ref (o + 104)])).length) Slot.unset).toArray = ls at hl ⊢
  have hl : lv_has ls 2 [(0, .ref (o + 104))] := hl
  refine lv_iconst (v := 5) hx hb dX7_step_0 (by decide) ?_
  refine lv_istore_n (lv' := [(1, .int 5), (0, .ref (o + 104))]) hx hb dX7_step_1 rfl hl (by decide) rfl (fun ls hl => ?_)
  have loop1 : ∀ (n : Nat) (w1_1 : Int32) (z1 : Nat → Nat → Int32) (y1 : Nat → Nat → Int64), ((w1_1.toInt - (-1) : Int) < (n : Int)) → ((-1 : Int) ≤ w1_1.toInt ∧ w1_1.toInt ≤ 5) → (qJU b z1) → ∀ (H : Heap) (locs : List Loc), qw_P D vwCl o 132 (qG (GU ca o) z1 y1) H → va_S (qw_A o 132) s.heap H locs → ∀ (ls : Array Slot), lv_has ls 2 [(1, .int w1_1), (0, .ref (o + 104))] → W p l e (headSpec (Cond.code yX7_step cX7_step 2 none :: qtbl) ({ frames := 2, cells := 0, slots := 0, locals := 83 })).room s m (([.ref (o + 104)] : List Value).toArray) below meth c H locs 0 0 (MQ below (va_Qv (fun u => qJU b u.1) (qB D vwCl (qT6 ca) o 132 (fun u : qZ => qG (GU ca o) u.1 u.2)) (qw_A o 132)) (([.ref (o + 104)] : List Value).toArray) s 0 0 (qw_A o 132)) (F0 m 2 ls []) := by
    intro n
    induction n with
    | zero => intro w1_1 z1 y1 hb1 hv1_1 J1; exfalso; omega
    | succ n1 ih1 =>
      intro w1_1 z1 y1 hb1 hv1_1 J1 H locs hP hS ls hl
      refine lv_iload_n hx hb dX7_step_2 rfl (lv_at hl 0 rfl) ?_
      refine lv_if_lt (tgt := 69) hx hb dX7_step_3 (by decide) (fun c2 => ?_) (fun c2 => ?_)
      · have t2 : w1_1.toInt < (0 : Int) := gl_lt c2
        exact W.vret hx hb hr (fun t ht hW => ⟨⟨(z1, y1), rfl, J1, by rw [ht]; exact hP, va_K.moved hW.alike hK⟩, hS.F ht⟩) hS.2.2 dX7_step_69
      · have t2 : w1_1.toInt ≥ (0 : Int) := gl_nlt c2
        refine lv_aload_n hx hb dX7_step_6 rfl (lv_at hl 1 rfl) ?_
        refine qf_get hx hb hts inX7 hown hK hP (q0 := 104) (by decide) (hgU_104 ca o) rfl 0 (by decide) wq_185 (v := .ref (o + 1)) rfl dX7_step_7 ?_
        refine lv_iload_n hx hb dX7_step_10 rfl (lv_at hl 0 rfl) ?_
        refine qc_Vip (As := [.int w1_1]) (rest := []) (k0 := 1) (u_Told_hasPerson l D ca o b z1 y1 J1 w1_1) kc_yX9_hasPerson ⟨hx, hb, hml, hown, hts⟩ wq_597 rfl rfl ⟨Nat.le_of_ble_eq_true rfl, Nat.le_of_ble_eq_true rfl⟩ wq_all hP hK hS qw_Ai (q0 := 1) (by decide) (hgU_1 ca o _ _) rfl rfl hl.1 rfl (Nat.le_of_ble_eq_true rfl) dX7_step_11 ⟨Nat.zero_le _, Nat.zero_le _⟩ (fun r3 H locs h3 hP hS _ _ => ?_)
        rcases h3 with ⟨hr3, hf3_0, hf3_1⟩ | ⟨hr3, hf3_0⟩
        · subst hr3
          have hg3_0 : pHas (z1 1 5) w1_1 := hf3_0
          have hg3_1 : 0 ≤ w1_1.toInt ∧ w1_1.toInt ≤ 5 := hf3_1
          refine lv_if_eq (tgt := 63) hx hb dX7_step_14 (by decide) (fun q => absurd q (by decide)) (fun _ => ?_)
          refine lv_aload_n hx hb dX7_step_17 rfl (lv_at hl 1 rfl) ?_
          refine qf_get hx hb hts inX7 hown hK hP (q0 := 104) (by decide) (hgU_104 ca o) rfl 1 (by decide) wq_187 (v := .ref (o + 105)) rfl dX7_step_18 ?_
          refine lv_iload_n hx hb dX7_step_21 rfl (lv_at hl 0 rfl) ?_
          refine qa_iald hx hb hK hP (q0 := 105) (by decide) 0 (N := 6) (hgU_105 ca o) rfl (gi_in (by omega) (by omega)) dX7_step_22 ?_
          refine lv_topi (fun x4 e4 => ?_)
          have b4 := iU_105 J1 e4
          refine lv_aload_n hx hb dX7_step_23 rfl (lv_at hl 1 rfl) ?_
          refine qf_get hx hb hts inX7 hown hK hP (q0 := 104) (by decide) (hgU_104 ca o) rfl 0 (by decide) wq_185 (v := .ref (o + 1)) rfl dX7_step_24 ?_
          refine qf_get hx hb hts inX9 hown hK hP (q0 := 1) (by decide) (hgU_1 ca o) rfl 1 (by decide) wq_88 (v := .ref (o + 3)) rfl dX7_step_27 ?_
          refine lv_iload_n hx hb dX7_step_30 rfl (lv_at hl 0 rfl) ?_
          refine qa_iald hx hb hK hP (q0 := 3) (by decide) 0 (N := 6) (hgU_3 ca o) rfl (gi_in (by omega) (by omega)) dX7_step_31 ?_
          refine lv_topi (fun x5 e5 => ?_)
          have b5 := iU_3 J1 e5
          refine lv_icmp_ge (tgt := 42) hx hb dX7_step_32 (by decide) (fun c6 => ?_) (fun c6 => ?_)
          · have t6 : x4.toInt ≥ x5.toInt := gl_le c6
            refine lv_aload_n hx hb dX7_step_42 rfl (lv_at hl 1 rfl) ?_
            refine lv_iload_n hx hb dX7_step_43 rfl (lv_at hl 0 rfl) ?_
            refine lv_aload_n hx hb dX7_step_44 rfl (lv_at hl 1 rfl) ?_
            refine qf_get hx hb hts inX7 hown hK hP (q0 := 104) (by decide) (hgU_104 ca o) rfl 0 (by decide) wq_185 (v := .ref (o + 1)) rfl dX7_step_45 ?_
            refine qf_get hx hb hts inX9 hown hK hP (q0 := 1) (by decide) (hgU_1 ca o) rfl 0 (by decide) wq_84 (v := .ref (o + 2)) rfl dX7_step_48 ?_
            refine lv_iload_n hx hb dX7_step_51 rfl (lv_at hl 0 rfl) ?_
            refine qa_iald hx hb hK hP (q0 := 2) (by decide) 0 (N := 6) (hgU_2 ca o) rfl (gi_in (by omega) (by omega)) dX7_step_52 ?_
            refine lv_topi (fun x7 e7 => ?_)
            have b7 := iU_2 J1 e7
            refine lv_aload_n hx hb dX7_step_53 rfl (lv_at hl 1 rfl) ?_
            refine qf_get hx hb hts inX7 hown hK hP (q0 := 104) (by decide) (hgU_104 ca o) rfl 1 (by decide) wq_187 (v := .ref (o + 105)) rfl dX7_step_54 ?_
            refine lv_iload_n hx hb dX7_step_57 rfl (lv_at hl 0 rfl) ?_
            refine qa_iald hx hb hK hP (q0 := 105) (by decide) 0 (N := 6) (hgU_105 ca o) rfl (gi_in (by omega) (by omega)) dX7_step_58 ?_
            refine lv_topi (fun x8 e8 => ?_)
            have b8 := iU_105 J1 e8
            have ag8 : x8.toInt = x4.toInt := congrArg Int32.toInt (e8.trans e4.symm)
            refine lv_isub hx hb dX7_step_59 ?_
            refine lv_topi (fun x9 e9 => ?_)
            have t9 : x9.toInt = x7.toInt - x8.toInt := ga_sub e9 rfl rfl (by omega) (by omega)
            refine qc_Vv2 (As := [.int w1_1, .int x9]) (rest := []) (k0 := 2) (u_Rows_grow l D ca o b z1 y1 J1 w1_1 x9 ⟨by omega, by omega⟩ (by rw [← e8]; omega)) kc_yX7_grow ⟨hx, hb, hml, hown, hts⟩ wq_615 rfl rfl ⟨Nat.le_of_ble_eq_true rfl, Nat.le_of_ble_eq_true rfl⟩ wq_all hP hK hS qw_Ai (q0 := 104) (by decide) (hgU_104 ca o _ _) rfl rfl hl.1 rfl (Nat.le_of_ble_eq_true rfl) dX7_step_60 ⟨Nat.zero_le _, Nat.zero_le _⟩ (fun z10 y10 H locs h10 hP hS _ _ => ?_)
            have J10 : qJU b z10 := h10
            obtain ⟨x11, e11⟩ : ∃ t : Int32, t = w1_1 + (-1) := ⟨_, rfl⟩
            refine lv_iinc (v := x11) (lv' := [(1, .int x11), (0, .ref (o + 104))]) hx hb dX7_step_63 hl (k := 0) rfl (by rw [e11]; rfl) (by decide) rfl (fun ls hl => ?_)
            have t11 : x11.toInt = w1_1.toInt + (-1 : Int) := ga_add e11 rfl rfl (by omega) (by omega)
            refine lv_goto (tgt := 2) hx hb dX7_step_66 (by decide) ?_
            exact ih1 x11 z10 y10 (show (x11.toInt - (-1) : Int) < (n1 : Int) from by omega) ⟨by omega, by omega⟩ J10 _ _ hP hS _ (lv_sub hl [0, 1] rfl)
          · have t6 : x4.toInt < x5.toInt := gl_nle c6
            refine lv_aload_n hx hb dX7_step_35 rfl (lv_at hl 1 rfl) ?_
            refine lv_iload_n hx hb dX7_step_36 rfl (lv_at hl 0 rfl) ?_
            refine lv_iconst (v := 1) hx hb dX7_step_37 (by decide) ?_
            refine qc_Vv2 (As := [.int w1_1, .int 1]) (rest := []) (k0 := 2) (u_Rows_grow l D ca o b z1 y1 J1 w1_1 1 ⟨by omega, by omega⟩ (by have ql1 : Int32.toInt 1 = 1 := (by decide); rw [← e4]; omega)) kc_yX7_grow ⟨hx, hb, hml, hown, hts⟩ wq_615 rfl rfl ⟨Nat.le_of_ble_eq_true rfl, Nat.le_of_ble_eq_true rfl⟩ wq_all hP hK hS qw_Ai (q0 := 104) (by decide) (hgU_104 ca o _ _) rfl rfl hl.1 rfl (Nat.le_of_ble_eq_true rfl) dX7_step_38 ⟨Nat.zero_le _, Nat.zero_le _⟩ (fun z12 y12 H locs h12 hP hS _ _ => ?_)
            have J12 : qJU b z12 := h12
            exact W.vret hx hb hr (fun t ht hW => ⟨⟨(z12, y12), rfl, J12, by rw [ht]; exact hP, va_K.moved hW.alike hK⟩, hS.F ht⟩) hS.2.2 dX7_step_41
        · subst hr3
          have hg3_0 : ¬ pHas (z1 1 5) w1_1 := hf3_0
          refine lv_if_eq (tgt := 63) hx hb dX7_step_14 (by decide) (fun _ => ?_) (fun q => absurd (by decide) q)
          obtain ⟨x13, e13⟩ : ∃ t : Int32, t = w1_1 + (-1) := ⟨_, rfl⟩
          refine lv_iinc (v := x13) (lv' := [(1, .int x13), (0, .ref (o + 104))]) hx hb dX7_step_63 hl (k := 0) rfl (by rw [e13]; rfl) (by decide) rfl (fun ls hl => ?_)
          have t13 : x13.toInt = w1_1.toInt + (-1 : Int) := ga_add e13 rfl rfl (by omega) (by omega)
          refine lv_goto (tgt := 2) hx hb dX7_step_66 (by decide) ?_
          exact ih1 x13 z1 y1 (show (x13.toInt - (-1) : Int) < (n1 : Int) from by omega) ⟨by omega, by omega⟩ J1 _ _ hP hS _ (lv_sub hl [0, 1] rfl)
  exact loop1 7 5 z y (show ((5 : Int) - (-1) : Int) < ((7 : Nat) : Int) from by omega) ⟨by decide, by decide⟩ J0 _ _ hP hS _ (lv_sub hl [0, 1] rfl)
set_option maxRecDepth 100000 in
set_option maxHeartbeats 8000000 in
theorem u_Rows_move (l : Launch) (D : va_G) (ca : Nat → ClassId) (o : Nat) (b z : Nat → Nat → Int32) (y : Nat → Nat → Int64) (J0 : qJU b z)   : qM l yX7_move cX7_move 1 (some .boolean) 3 104 (qPre D vwCl (qT6 ca) o 132 (qG (GU ca o) z y) [.ref (o + 104)]) (va_Qi (fun r u => ((0 : Int) ≤ r.toInt ∧ r.toInt ≤ 1) ∧ qJU b u.1) (qB D vwCl (qT6 ca) o 132 (fun u : qZ => qG (GU ca o) u.1 u.2)) (qw_A o 132)) (qw_A o 132) := by
  refine Met.ofW (cc := cX7_move) (maxL := 1) (ret := (some .boolean)) (by decide) rfl ?_
  intro p e s m args below meth c s₁ B hml hv
  obtain ⟨rfl, hP, hK⟩ := hv
  have hx := B.exec
  have hb := B.bytes
  have hr := B.returns
  have hts0 := atoms_spec (ws := Cond.code yX7_move cX7_move 1 (some .boolean) :: qtbl) B.pre
  have hts : ∀ w ∈ qtbl, w.before _ s = true := fun w h => hts0 w (List.mem_cons_of_mem _ h)
  have hown : s.vm.findClass RX7 = some m.cls := findClass_of_methodNamed B.named
  have hlocks := B.notSynchronized
  have hS : va_S (qw_A o 132) s.heap s.heap [] := va_S.rf
  have hl := lv_entry ([.ref (o + 104)]) (n := 1) (Nat.le_of_ble_eq_true rfl)
  rw [lg_entry_eq]
  generalize (lg_sl ([.ref (o + 104)]) ++ List.replicate (1 - (lg_sl ([.ref (o + 104)])).length) Slot.unset).toArray = ls at hl ⊢
  have hl : lv_has ls 1 [(0, .ref (o + 104))] := hl
  refine lv_aload_n hx hb dX7_move_0 rfl (lv_at hl 0 rfl) ?_
  refine qf_get hx hb hts inX7 hown hK hP (q0 := 104) (by decide) (hgU_104 ca o) rfl 6 (by decide) wq_194 (v := .int (z 104 6)) rfl dX7_move_1 ?_
  refine lv_topi (fun x1 e1 => ?_)
  refine lv_aload_n hx hb dX7_move_4 rfl (lv_at hl 0 rfl) ?_
  refine qf_get hx hb hts inX7 hown hK hP (q0 := 104) (by decide) (hgU_104 ca o) rfl 5 (by decide) wq_193 (v := .int (z 104 5)) rfl dX7_move_5 ?_
  refine lv_topi (fun x2 e2 => ?_)
  refine lv_icmp_lt (tgt := 13) hx hb dX7_move_8 (by decide) (fun c3 => ?_) (fun c3 => ?_)
  · have t3 : x1.toInt < x2.toInt := gl_lt c3
    refine lv_aload_n hx hb dX7_move_13 rfl (lv_at hl 0 rfl) ?_
    refine qf_get hx hb hts inX7 hown hK hP (q0 := 104) (by decide) (hgU_104 ca o) rfl 6 (by decide) wq_194 (v := .int (z 104 6)) rfl dX7_move_14 ?_
    refine lv_topi (fun x4 e4 => ?_)
    have ag4 : x4.toInt = x1.toInt := congrArg Int32.toInt (e4.trans e1.symm)
    refine lv_if_le (tgt := 24) hx hb dX7_move_17 (by decide) (fun c5 => ?_) (fun c5 => ?_)
    · have t5 : x4.toInt ≤ (0 : Int) := gl_le c5
      refine lv_aload_n hx hb dX7_move_24 rfl (lv_at hl 0 rfl) ?_
      refine lv_dup hx hb dX7_move_25 rfl ?_
      refine qf_get hx hb hts inX7 hown hK hP (q0 := 104) (by decide) (hgU_104 ca o) rfl 6 (by decide) wq_194 (v := .int (z 104 6)) rfl dX7_move_26 ?_
      refine lv_topi (fun x6 e6 => ?_)
      have ag6 : x6.toInt = x1.toInt := congrArg Int32.toInt (e6.trans e1.symm)
      refine lv_iconst (v := 1) hx hb dX7_move_29 (by decide) ?_
      refine lv_iadd hx hb dX7_move_30 ?_
      refine lv_topi (fun x7 e7 => ?_)
      have gb7_0 := gl_b x6
      have gb7_1 := gl_b x1
      have gb7_2 := gl_b x2
      have gb7_3 := gl_b x4
      have t7 : x7.toInt = x6.toInt + (1 : Int) := ga_add e7 rfl rfl (by omega) (by omega)
      refine qf_put2 hx hb hts inX7 tyX7 tyX7_ok nmX7 hown hK hP hS qw_Ai (q0 := 104) (by decide) (hgU_104 ca o) rfl 6 (by decide) wq_194 rfl (x := x7) 6 rfl rfl rfl (Nat.le_of_ble_eq_true rfl) dX7_move_31 (fun z8 H locs hz8 hP hS => ?_)
      have J8 := jU_104_6 J0 hz8
      refine lv_iconst (v := 1) hx hb dX7_move_34 (by decide) ?_
      exact W.zret (v := 1) (ty := .boolean) hx hb hr rfl (fun t ht hW => ⟨⟨1, (z8, y), rfl, ⟨⟨by decide, by decide⟩, J8⟩, by rw [ht]; exact hP, va_K.moved hW.alike hK⟩, hS.F ht⟩) hS.2.2 dX7_move_35
    · have t5 : x4.toInt > (0 : Int) := gl_nle c5
      refine lv_aload_n hx hb dX7_move_20 rfl (lv_at hl 0 rfl) ?_
      refine qc_Vv2 (As := []) (rest := []) (k0 := 0) (u_Rows_step l D ca o b z y J0) kc_yX7_step ⟨hx, hb, hml, hown, hts⟩ wq_611 rfl rfl ⟨Nat.le_of_ble_eq_true rfl, Nat.le_of_ble_eq_true rfl⟩ wq_all hP hK hS qw_Ai (q0 := 104) (by decide) (hgU_104 ca o _ _) rfl rfl hl.1 rfl (Nat.le_of_ble_eq_true rfl) dX7_move_21 ⟨Nat.zero_le _, Nat.zero_le _⟩ (fun z9 y9 H locs h9 hP hS _ _ => ?_)
      have J9 : qJU b z9 := h9
      refine lv_aload_n hx hb dX7_move_24 rfl (lv_at hl 0 rfl) ?_
      refine lv_dup hx hb dX7_move_25 rfl ?_
      refine qf_get hx hb hts inX7 hown hK hP (q0 := 104) (by decide) (hgU_104 ca o) rfl 6 (by decide) wq_194 (v := .int (z9 104 6)) rfl dX7_move_26 ?_
      refine lv_topi (fun x10 e10 => ?_)
      refine lv_iconst (v := 1) hx hb dX7_move_29 (by decide) ?_
      refine lv_iadd hx hb dX7_move_30 ?_
      refine lv_topi (fun x11 e11 => ?_)
      refine qf_put2 hx hb hts inX7 tyX7 tyX7_ok nmX7 hown hK hP hS qw_Ai (q0 := 104) (by decide) (hgU_104 ca o) rfl 6 (by decide) wq_194 rfl (x := x11) 6 rfl rfl rfl (Nat.le_of_ble_eq_true rfl) dX7_move_31 (fun z12 H locs hz12 hP hS => ?_)
      have J12 := jU_104_6 J9 hz12
      refine lv_iconst (v := 1) hx hb dX7_move_34 (by decide) ?_
      exact W.zret (v := 1) (ty := .boolean) hx hb hr rfl (fun t ht hW => ⟨⟨1, (z12, y9), rfl, ⟨⟨by decide, by decide⟩, J12⟩, by rw [ht]; exact hP, va_K.moved hW.alike hK⟩, hS.F ht⟩) hS.2.2 dX7_move_35
  · have t3 : x1.toInt ≥ x2.toInt := gl_nlt c3
    refine lv_iconst (v := 0) hx hb dX7_move_11 (by decide) ?_
    exact W.zret (v := 0) (ty := .boolean) hx hb hr rfl (fun t ht hW => ⟨⟨0, (z, y), rfl, ⟨⟨by decide, by decide⟩, J0⟩, by rw [ht]; exact hP, va_K.moved hW.alike hK⟩, hS.F ht⟩) hS.2.2 dX7_move_12
set_option maxRecDepth 100000 in
set_option maxHeartbeats 8000000 in
theorem u_Line_holds (l : Launch) (D : va_G) (ca : Nat → ClassId) (o : Nat) (b z : Nat → Nat → Int32) (y : Nat → Nat → Int64) (J0 : qJU b z) {i0_ : Nat} (hi0_ : i0_ < 16) (a0 : Int32)  : qM l yX5_holds cX5_holds 2 (some .boolean) 1 60 (qPre D vwCl (qT6 ca) o 132 (qG (GU ca o) z y) [.ref (o + (7 + 2 * i0_)), .int a0]) (va_Qi (fun r (_ : Unit) => ((0 : Int) ≤ r.toInt ∧ r.toInt ≤ 1)) (qB D vwCl (qT6 ca) o 132 (fun _ : Unit => qG (GU ca o) z y)) (qw_A o 132)) (qw_A o 132) := by
  refine Met.ofW (cc := cX5_holds) (maxL := 2) (ret := (some .boolean)) (by decide) rfl ?_
  intro p e s m args below meth c s₁ B hml hv
  obtain ⟨rfl, hP, hK⟩ := hv
  have hx := B.exec
  have hb := B.bytes
  have hr := B.returns
  have hts0 := atoms_spec (ws := Cond.code yX5_holds cX5_holds 2 (some .boolean) :: qtbl) B.pre
  have hts : ∀ w ∈ qtbl, w.before _ s = true := fun w h => hts0 w (List.mem_cons_of_mem _ h)
  have hown : s.vm.findClass RX5 = some m.cls := findClass_of_methodNamed B.named
  have hlocks := B.notSynchronized
  have hS : va_S (qw_A o 132) s.heap s.heap [] := va_S.rf
  have hl := lv_entry ([.ref (o + (7 + 2 * i0_)), .int a0]) (n := 2) (Nat.le_of_ble_eq_true rfl)
  rw [lg_entry_eq]
  generalize (lg_sl ([.ref (o + (7 + 2 * i0_)), .int a0]) ++ List.replicate (2 - (lg_sl ([.ref (o + (7 + 2 * i0_)), .int a0])).length) Slot.unset).toArray = ls at hl ⊢
  have hl : lv_has ls 2 [(0, .ref (o + (7 + 2 * i0_))), (1, .int a0)] := hl
  refine lv_aload_n hx hb dX5_holds_0 rfl (lv_at hl 0 rfl) ?_
  refine qf_get hx hb hts inX5 hown hK hP (q0 := 7 + 2 * i0_) (show _ < _ from by have := hi0_; omega) (hgU_LT ca o hi0_) rfl 3 (by decide) wq_52 (v := .int (z (7 + 2 * i0_) 3)) rfl dX5_holds_1 ?_
  refine lv_topi (fun x1 e1 => ?_)
  rcases (by omega : x1.toInt = 0 ∨ x1.toInt = 1 ∨ x1.toInt = 2 ∨ x1.toInt < 0 ∨ 2 < x1.toInt) with c2 | c2 | c2 | c2 | c2
  · refine lv_tableIn (tgt := 32) hx hb dX5_holds_4 (by omega) (by omega) (by rw [c2]; rfl) (by decide) ?_
    refine lv_iload_n hx hb dX5_holds_32 rfl (lv_at hl 1 rfl) ?_
    refine lv_if_ne (tgt := 40) hx hb dX5_holds_33 (by decide) (fun c3 => ?_) (fun c3 => ?_)
    · have t3 : a0.toInt ≠ (0 : Int) := gl_ne c3
      refine lv_iconst (v := 0) hx hb dX5_holds_40 (by decide) ?_
      exact W.zret (v := 0) (ty := .boolean) hx hb hr rfl (fun t ht hW => ⟨⟨0, (), rfl, ⟨by decide, by decide⟩, by rw [ht]; exact hP, va_K.moved hW.alike hK⟩, hS.F ht⟩) hS.2.2 dX5_holds_41
    · have t3 : a0.toInt = (0 : Int) := gl_eq c3
      refine lv_iconst (v := 1) hx hb dX5_holds_36 (by decide) ?_
      refine lv_goto (tgt := 41) hx hb dX5_holds_37 (by decide) ?_
      exact W.zret (v := 1) (ty := .boolean) hx hb hr rfl (fun t ht hW => ⟨⟨1, (), rfl, ⟨by decide, by decide⟩, by rw [ht]; exact hP, va_K.moved hW.alike hK⟩, hS.F ht⟩) hS.2.2 dX5_holds_41
  · refine lv_tableIn (tgt := 42) hx hb dX5_holds_4 (by omega) (by omega) (by rw [c2]; rfl) (by decide) ?_
    refine lv_iload_n hx hb dX5_holds_42 rfl (lv_at hl 1 rfl) ?_
    refine lv_if_ge (tgt := 50) hx hb dX5_holds_43 (by decide) (fun c4 => ?_) (fun c4 => ?_)
    · have t4 : a0.toInt ≥ (0 : Int) := gl_le c4
      refine lv_iconst (v := 0) hx hb dX5_holds_50 (by decide) ?_
      exact W.zret (v := 0) (ty := .boolean) hx hb hr rfl (fun t ht hW => ⟨⟨0, (), rfl, ⟨by decide, by decide⟩, by rw [ht]; exact hP, va_K.moved hW.alike hK⟩, hS.F ht⟩) hS.2.2 dX5_holds_51
    · have t4 : a0.toInt < (0 : Int) := gl_nle c4
      refine lv_iconst (v := 1) hx hb dX5_holds_46 (by decide) ?_
      refine lv_goto (tgt := 51) hx hb dX5_holds_47 (by decide) ?_
      exact W.zret (v := 1) (ty := .boolean) hx hb hr rfl (fun t ht hW => ⟨⟨1, (), rfl, ⟨by decide, by decide⟩, by rw [ht]; exact hP, va_K.moved hW.alike hK⟩, hS.F ht⟩) hS.2.2 dX5_holds_51
  · refine lv_tableIn (tgt := 52) hx hb dX5_holds_4 (by omega) (by omega) (by rw [c2]; rfl) (by decide) ?_
    refine lv_iload_n hx hb dX5_holds_52 rfl (lv_at hl 1 rfl) ?_
    refine lv_if_le (tgt := 60) hx hb dX5_holds_53 (by decide) (fun c5 => ?_) (fun c5 => ?_)
    · have t5 : a0.toInt ≤ (0 : Int) := gl_le c5
      refine lv_iconst (v := 0) hx hb dX5_holds_60 (by decide) ?_
      exact W.zret (v := 0) (ty := .boolean) hx hb hr rfl (fun t ht hW => ⟨⟨0, (), rfl, ⟨by decide, by decide⟩, by rw [ht]; exact hP, va_K.moved hW.alike hK⟩, hS.F ht⟩) hS.2.2 dX5_holds_61
    · have t5 : a0.toInt > (0 : Int) := gl_nle c5
      refine lv_iconst (v := 1) hx hb dX5_holds_56 (by decide) ?_
      refine lv_goto (tgt := 61) hx hb dX5_holds_57 (by decide) ?_
      exact W.zret (v := 1) (ty := .boolean) hx hb hr rfl (fun t ht hW => ⟨⟨1, (), rfl, ⟨by decide, by decide⟩, by rw [ht]; exact hP, va_K.moved hW.alike hK⟩, hS.F ht⟩) hS.2.2 dX5_holds_61
  · refine lv_tableOut (tgt := 62) hx hb dX5_holds_4 (Or.inl c2) (by decide) ?_
    refine lv_aload_n hx hb dX5_holds_62 rfl (lv_at hl 0 rfl) ?_
    refine qf_get hx hb hts inX5 hown hK hP (q0 := 7 + 2 * i0_) (show _ < _ from by have := hi0_; omega) (hgU_LT ca o hi0_) rfl 4 (by decide) wq_56 (v := .int (z (7 + 2 * i0_) 4)) rfl dX5_holds_63 ?_
    refine lv_topi (fun x6 e6 => ?_)
    refine lv_if_eq (tgt := 82) hx hb dX5_holds_66 (by decide) (fun c7 => ?_) (fun c7 => ?_)
    · have t7 : x6.toInt = (0 : Int) := gl_eq c7
      refine lv_iconst (v := 0) hx hb dX5_holds_82 (by decide) ?_
      exact W.zret (v := 0) (ty := .boolean) hx hb hr rfl (fun t ht hW => ⟨⟨0, (), rfl, ⟨by decide, by decide⟩, by rw [ht]; exact hP, va_K.moved hW.alike hK⟩, hS.F ht⟩) hS.2.2 dX5_holds_83
    · have t7 : x6.toInt ≠ (0 : Int) := gl_ne c7
      refine lv_iload_n hx hb dX5_holds_69 rfl (lv_at hl 1 rfl) ?_
      refine lv_aload_n hx hb dX5_holds_70 rfl (lv_at hl 0 rfl) ?_
      refine qf_get hx hb hts inX5 hown hK hP (q0 := 7 + 2 * i0_) (show _ < _ from by have := hi0_; omega) (hgU_LT ca o hi0_) rfl 4 (by decide) wq_56 (v := .int (z (7 + 2 * i0_) 4)) rfl dX5_holds_71 ?_
      refine lv_topi (fun x8 e8 => ?_)
      have ag8 : x8.toInt = x6.toInt := congrArg Int32.toInt (e8.trans e6.symm)
      refine lv_irem hx hb dX5_holds_74 (gr_ne (show x8.toInt ≠ (0 : Int) from by omega)) ?_
      refine lv_topi (fun x9 e9 => ?_)
      refine lv_if_ne (tgt := 82) hx hb dX5_holds_75 (by decide) (fun c10 => ?_) (fun c10 => ?_)
      · have t10 : x9.toInt ≠ (0 : Int) := gl_ne c10
        refine lv_iconst (v := 0) hx hb dX5_holds_82 (by decide) ?_
        exact W.zret (v := 0) (ty := .boolean) hx hb hr rfl (fun t ht hW => ⟨⟨0, (), rfl, ⟨by decide, by decide⟩, by rw [ht]; exact hP, va_K.moved hW.alike hK⟩, hS.F ht⟩) hS.2.2 dX5_holds_83
      · have t10 : x9.toInt = (0 : Int) := gl_eq c10
        refine lv_iconst (v := 1) hx hb dX5_holds_78 (by decide) ?_
        refine lv_goto (tgt := 83) hx hb dX5_holds_79 (by decide) ?_
        exact W.zret (v := 1) (ty := .boolean) hx hb hr rfl (fun t ht hW => ⟨⟨1, (), rfl, ⟨by decide, by decide⟩, by rw [ht]; exact hP, va_K.moved hW.alike hK⟩, hS.F ht⟩) hS.2.2 dX5_holds_83
  · refine lv_tableOut (tgt := 62) hx hb dX5_holds_4 (Or.inr c2) (by decide) ?_
    refine lv_aload_n hx hb dX5_holds_62 rfl (lv_at hl 0 rfl) ?_
    refine qf_get hx hb hts inX5 hown hK hP (q0 := 7 + 2 * i0_) (show _ < _ from by have := hi0_; omega) (hgU_LT ca o hi0_) rfl 4 (by decide) wq_56 (v := .int (z (7 + 2 * i0_) 4)) rfl dX5_holds_63 ?_
    refine lv_topi (fun x11 e11 => ?_)
    refine lv_if_eq (tgt := 82) hx hb dX5_holds_66 (by decide) (fun c12 => ?_) (fun c12 => ?_)
    · have t12 : x11.toInt = (0 : Int) := gl_eq c12
      refine lv_iconst (v := 0) hx hb dX5_holds_82 (by decide) ?_
      exact W.zret (v := 0) (ty := .boolean) hx hb hr rfl (fun t ht hW => ⟨⟨0, (), rfl, ⟨by decide, by decide⟩, by rw [ht]; exact hP, va_K.moved hW.alike hK⟩, hS.F ht⟩) hS.2.2 dX5_holds_83
    · have t12 : x11.toInt ≠ (0 : Int) := gl_ne c12
      refine lv_iload_n hx hb dX5_holds_69 rfl (lv_at hl 1 rfl) ?_
      refine lv_aload_n hx hb dX5_holds_70 rfl (lv_at hl 0 rfl) ?_
      refine qf_get hx hb hts inX5 hown hK hP (q0 := 7 + 2 * i0_) (show _ < _ from by have := hi0_; omega) (hgU_LT ca o hi0_) rfl 4 (by decide) wq_56 (v := .int (z (7 + 2 * i0_) 4)) rfl dX5_holds_71 ?_
      refine lv_topi (fun x13 e13 => ?_)
      have ag13 : x13.toInt = x11.toInt := congrArg Int32.toInt (e13.trans e11.symm)
      refine lv_irem hx hb dX5_holds_74 (gr_ne (show x13.toInt ≠ (0 : Int) from by omega)) ?_
      refine lv_topi (fun x14 e14 => ?_)
      refine lv_if_ne (tgt := 82) hx hb dX5_holds_75 (by decide) (fun c15 => ?_) (fun c15 => ?_)
      · have t15 : x14.toInt ≠ (0 : Int) := gl_ne c15
        refine lv_iconst (v := 0) hx hb dX5_holds_82 (by decide) ?_
        exact W.zret (v := 0) (ty := .boolean) hx hb hr rfl (fun t ht hW => ⟨⟨0, (), rfl, ⟨by decide, by decide⟩, by rw [ht]; exact hP, va_K.moved hW.alike hK⟩, hS.F ht⟩) hS.2.2 dX5_holds_83
      · have t15 : x14.toInt = (0 : Int) := gl_eq c15
        refine lv_iconst (v := 1) hx hb dX5_holds_78 (by decide) ?_
        refine lv_goto (tgt := 83) hx hb dX5_holds_79 (by decide) ?_
        exact W.zret (v := 1) (ty := .boolean) hx hb hr rfl (fun t ht hW => ⟨⟨1, (), rfl, ⟨by decide, by decide⟩, by rw [ht]; exact hP, va_K.moved hW.alike hK⟩, hS.F ht⟩) hS.2.2 dX5_holds_83
set_option maxRecDepth 100000 in
set_option maxHeartbeats 8000000 in
theorem u_Rows_holding (l : Launch) (D : va_G) (ca : Nat → ClassId) (o : Nat) (b z : Nat → Nat → Int32) (y : Nat → Nat → Int64) (J0 : qJU b z)   : qM l yX7_holding cX7_holding 3 (some .int) 2 81 (qPre D vwCl (qT6 ca) o 132 (qG (GU ca o) z y) [.ref (o + 104)]) (va_Qi (fun r (_ : Unit) => ((0 : Int) ≤ r.toInt ∧ r.toInt ≤ 1023)) (qB D vwCl (qT6 ca) o 132 (fun _ : Unit => qG (GU ca o) z y)) (qw_A o 132)) (qw_A o 132) := by
  refine Met.ofW (cc := cX7_holding) (maxL := 3) (ret := (some .int)) (by decide) rfl ?_
  intro p e s m args below meth c s₁ B hml hv
  obtain ⟨rfl, hP, hK⟩ := hv
  have hx := B.exec
  have hb := B.bytes
  have hr := B.returns
  have hts0 := atoms_spec (ws := Cond.code yX7_holding cX7_holding 3 (some .int) :: qtbl) B.pre
  have hts : ∀ w ∈ qtbl, w.before _ s = true := fun w h => hts0 w (List.mem_cons_of_mem _ h)
  have hown : s.vm.findClass RX7 = some m.cls := findClass_of_methodNamed B.named
  have hlocks := B.notSynchronized
  have hS : va_S (qw_A o 132) s.heap s.heap [] := va_S.rf
  have hl := lv_entry ([.ref (o + 104)]) (n := 3) (Nat.le_of_ble_eq_true rfl)
  rw [lg_entry_eq]
  generalize (lg_sl ([.ref (o + 104)]) ++ List.replicate (3 - (lg_sl ([.ref (o + 104)])).length) Slot.unset).toArray = ls at hl ⊢
  have hl : lv_has ls 3 [(0, .ref (o + 104))] := hl
  refine lv_iconst (v := 0) hx hb dX7_holding_0 (by decide) ?_
  refine lv_istore_n (lv' := [(1, .int 0), (0, .ref (o + 104))]) hx hb dX7_holding_1 rfl hl (by decide) rfl (fun ls hl => ?_)
  refine lv_iconst (v := 0) hx hb dX7_holding_2 (by decide) ?_
  refine lv_istore_n (lv' := [(2, .int 0), (1, .int 0), (0, .ref (o + 104))]) hx hb dX7_holding_3 rfl hl (by decide) rfl (fun ls hl => ?_)
  have loop1 : ∀ (n : Nat) (w1_2 : Int32) (w1_1 : Int32), ((10 - w1_2.toInt : Int) < (n : Int)) → ((0 : Int) ≤ w1_2.toInt ∧ w1_2.toInt ≤ 10) → ((0 : Int) ≤ w1_1.toInt ∧ w1_1.toInt ≤ 1023) → ∀ (H : Heap) (locs : List Loc), qw_P D vwCl o 132 (qG (GU ca o) z y) H → va_S (qw_A o 132) s.heap H locs → ∀ (ls : Array Slot), lv_has ls 3 [(2, .int w1_2), (1, .int w1_1), (0, .ref (o + 104))] → W p l e (headSpec (Cond.code yX7_holding cX7_holding 3 (some .int) :: qtbl) ({ frames := 2, cells := 0, slots := 0, locals := 81 })).room s m (([.ref (o + 104)] : List Value).toArray) below meth c H locs 0 0 (MQ below (va_Qi (fun r (_ : Unit) => ((0 : Int) ≤ r.toInt ∧ r.toInt ≤ 1023)) (qB D vwCl (qT6 ca) o 132 (fun _ : Unit => qG (GU ca o) z y)) (qw_A o 132)) (([.ref (o + 104)] : List Value).toArray) s 0 0 (qw_A o 132)) (F0 m 4 ls []) := by
    intro n
    induction n with
    | zero => intro w1_2 w1_1 hb1 hv1_2 hv1_1; exfalso; omega
    | succ n1 ih1 =>
      intro w1_2 w1_1 hb1 hv1_2 hv1_1 H locs hP hS ls hl
      refine lv_iload_n hx hb dX7_holding_4 rfl (lv_at hl 0 rfl) ?_
      refine lv_aload_n hx hb dX7_holding_5 rfl (lv_at hl 2 rfl) ?_
      refine qf_get hx hb hts inX7 hown hK hP (q0 := 104) (by decide) (hgU_104 ca o) rfl 4 (by decide) wq_192 (v := .int (z 104 4)) rfl dX7_holding_6 ?_
      refine lv_topi (fun x2 e2 => ?_)
      have b2 := iU_104_4 J0 e2
      refine lv_icmp_ge (tgt := 55) hx hb dX7_holding_9 (by decide) (fun c3 => ?_) (fun c3 => ?_)
      · have t3 : w1_2.toInt ≥ x2.toInt := gl_le c3
        refine lv_iload_n hx hb dX7_holding_55 rfl (lv_at hl 1 rfl) ?_
        exact W.iret (v := w1_1) hx hb hr (fun t ht hW => ⟨⟨w1_1, (), rfl, ⟨by omega, by omega⟩, by rw [ht]; exact hP, va_K.moved hW.alike hK⟩, hS.F ht⟩) hS.2.2 dX7_holding_56
      · have t3 : w1_2.toInt < x2.toInt := gl_nle c3
        refine lv_aload_n hx hb dX7_holding_12 rfl (lv_at hl 2 rfl) ?_
        refine qf_get hx hb hts inX7 hown hK hP (q0 := 104) (by decide) (hgU_104 ca o) rfl 0 (by decide) wq_185 (v := .ref (o + 1)) rfl dX7_holding_13 ?_
        refine qf_get hx hb hts inX9 hown hK hP (q0 := 1) (by decide) (hgU_1 ca o) rfl 4 (by decide) wq_95 (v := .ref (o + 6)) rfl dX7_holding_16 ?_
        refine lv_aload_n hx hb dX7_holding_19 rfl (lv_at hl 2 rfl) ?_
        refine qf_get hx hb hts inX7 hown hK hP (q0 := 104) (by decide) (hgU_104 ca o) rfl 2 (by decide) wq_190 (v := .ref (o + 106)) rfl dX7_holding_20 ?_
        refine lv_iload_n hx hb dX7_holding_23 rfl (lv_at hl 0 rfl) ?_
        refine qa_iald hx hb hK hP (q0 := 106) (by decide) 0 (N := 10) (hgU_106 ca o) rfl (gi_in (by omega) (by omega)) dX7_holding_24 ?_
        refine lv_topi (fun x4 e4 => ?_)
        have b4 := iU_106 J0 e4
        have hi_x4 : x4.toNatClampNeg < 16 := ga_nat (by omega) (show _ < (16 : Int) from by omega)
        refine qa_aald hx hb hK hP (q0 := 6) (by decide) 4 rfl (N := 16) (hgU_6 ca o) rfl (gi_in (by omega) (by omega)) dX7_holding_25 ?_
        refine lv_aload_n hx hb dX7_holding_26 rfl (lv_at hl 2 rfl) ?_
        refine qf_get hx hb hts inX7 hown hK hP (q0 := 104) (by decide) (hgU_104 ca o) rfl 3 (by decide) wq_191 (v := .ref (o + 107)) rfl dX7_holding_27 ?_
        refine lv_iload_n hx hb dX7_holding_30 rfl (lv_at hl 0 rfl) ?_
        refine qa_iald hx hb hK hP (q0 := 107) (by decide) 0 (N := 10) (hgU_107 ca o) rfl (gi_in (by omega) (by omega)) dX7_holding_31 ?_
        refine lv_topi (fun x5 e5 => ?_)
        refine qc_Vip (As := [.int x5]) (rest := []) (k0 := 1) (u_Line_holds l D ca o b z y J0 (i0_ := x4.toNatClampNeg) hi_x4 x5) kc_yX5_holds ⟨hx, hb, hml, hown, hts⟩ wq_623 rfl rfl ⟨Nat.le_of_ble_eq_true rfl, Nat.le_of_ble_eq_true rfl⟩ wq_all hP hK hS qw_Ai (q0 := 7 + 2 * x4.toNatClampNeg) (show _ < _ from by have := hi_x4; omega) (hgU_LT ca o hi_x4 _ _) rfl rfl hl.1 rfl (Nat.le_of_ble_eq_true rfl) dX7_holding_32 ⟨Nat.zero_le _, Nat.zero_le _⟩ (fun r6 H locs h6 hP hS _ _ => ?_)
        have b6 : (0 : Int) ≤ r6.toInt ∧ r6.toInt ≤ 1 := h6
        refine lv_if_eq (tgt := 49) hx hb dX7_holding_35 (by decide) (fun c7 => ?_) (fun c7 => ?_)
        · have t7 : r6.toInt = (0 : Int) := gl_eq c7
          obtain ⟨x8, e8⟩ : ∃ t : Int32, t = w1_2 + 1 := ⟨_, rfl⟩
          refine lv_iinc (v := x8) (lv' := [(2, .int x8), (1, .int w1_1), (0, .ref (o + 104))]) hx hb dX7_holding_49 hl (k := 0) rfl (by rw [e8]; rfl) (by decide) rfl (fun ls hl => ?_)
          have t8 : x8.toInt = w1_2.toInt + (1 : Int) := ga_add e8 rfl rfl (by omega) (by omega)
          refine lv_goto (tgt := 4) hx hb dX7_holding_52 (by decide) ?_
          exact ih1 x8 w1_1 (show (10 - x8.toInt : Int) < (n1 : Int) from by omega) ⟨by omega, by omega⟩ ⟨by omega, by omega⟩ _ _ hP hS _ (lv_sub hl [0, 1, 2] rfl)
        · have t7 : r6.toInt ≠ (0 : Int) := gl_ne c7
          refine lv_iload_n hx hb dX7_holding_38 rfl (lv_at hl 1 rfl) ?_
          refine lv_iconst (v := 1) hx hb dX7_holding_39 (by decide) ?_
          refine lv_aload_n hx hb dX7_holding_40 rfl (lv_at hl 2 rfl) ?_
          refine qf_get hx hb hts inX7 hown hK hP (q0 := 104) (by decide) (hgU_104 ca o) rfl 2 (by decide) wq_190 (v := .ref (o + 106)) rfl dX7_holding_41 ?_
          refine lv_iload_n hx hb dX7_holding_44 rfl (lv_at hl 0 rfl) ?_
          refine qa_iald hx hb hK hP (q0 := 106) (by decide) 0 (N := 10) (hgU_106 ca o) rfl (gi_in (by omega) (by omega)) dX7_holding_45 ?_
          refine lv_topi (fun x9 e9 => ?_)
          have b9 := iU_106 J0 e9
          have ag9 : x9.toInt = x4.toInt := congrArg Int32.toInt (e9.trans e4.symm)
          refine lv_ishl hx hb dX7_holding_46 ?_
          refine lv_topi (fun x10 e10 => ?_)
          have t10 : 1 ≤ x10.toInt ∧ x10.toInt ≤ 512 := ga_shl 9 512 e10 (by decide) (by decide) (by omega) (by omega)
          refine lv_ior hx hb dX7_holding_47 ?_
          refine lv_topi (fun x11 e11 => ?_)
          have t11 : 0 ≤ x11.toInt ∧ x11.toInt < 1024 := ga_or 10 1024 e11 rfl rfl (by decide) (by decide) (by omega) (by omega) (by omega) (by omega)
          refine lv_istore_n (lv' := [(1, .int x11), (2, .int w1_2), (0, .ref (o + 104))]) hx hb dX7_holding_48 rfl hl (by decide) rfl (fun ls hl => ?_)
          obtain ⟨x12, e12⟩ : ∃ t : Int32, t = w1_2 + 1 := ⟨_, rfl⟩
          refine lv_iinc (v := x12) (lv' := [(2, .int x12), (1, .int x11), (0, .ref (o + 104))]) hx hb dX7_holding_49 hl (k := 1) rfl (by rw [e12]; rfl) (by decide) rfl (fun ls hl => ?_)
          have t12 : x12.toInt = w1_2.toInt + (1 : Int) := ga_add e12 rfl rfl (by omega) (by omega)
          refine lv_goto (tgt := 4) hx hb dX7_holding_52 (by decide) ?_
          exact ih1 x12 x11 (show (10 - x12.toInt : Int) < (n1 : Int) from by omega) ⟨by omega, by omega⟩ ⟨by omega, by omega⟩ _ _ hP hS _ (lv_sub hl [0, 1, 2] rfl)
  exact loop1 11 0 0 (show (10 - (0 : Int) : Int) < ((11 : Nat) : Int) from by omega) ⟨by decide, by decide⟩ ⟨by decide, by decide⟩ _ _ hP hS _ (lv_sub hl [0, 1, 2] rfl)
set_option maxRecDepth 100000 in
set_option maxHeartbeats 8000000 in
theorem u_Fits_countAll (l : Launch) (D : va_G) (ca : Nat → ClassId) (o : Nat) (b z : Nat → Nat → Int32) (y : Nat → Nat → Int64) (J0 : qJU b z)   : qM l yX3_countAll cX3_countAll 5 none 4 124 (qPre D vwCl (qT6 ca) o 132 (qG (GU ca o) z y) [.ref (o + 108), .ref (o + 104)]) (va_Qv (fun u => qJU b u.1) (qB D vwCl (qT6 ca) o 132 (fun u : qZ => qG (GU ca o) u.1 u.2)) (qw_A o 132)) (qw_A o 132) := by
  refine Met.ofW (cc := cX3_countAll) (maxL := 5) (ret := none) (by decide) rfl ?_
  intro p e s m args below meth c s₁ B hml hv
  obtain ⟨rfl, hP, hK⟩ := hv
  have hx := B.exec
  have hb := B.bytes
  have hr := B.returns
  have hts0 := atoms_spec (ws := Cond.code yX3_countAll cX3_countAll 5 none :: qtbl) B.pre
  have hts : ∀ w ∈ qtbl, w.before _ s = true := fun w h => hts0 w (List.mem_cons_of_mem _ h)
  have hown : s.vm.findClass RX3 = some m.cls := findClass_of_methodNamed B.named
  have hlocks := B.notSynchronized
  have hS : va_S (qw_A o 132) s.heap s.heap [] := va_S.rf
  have hl := lv_entry ([.ref (o + 108), .ref (o + 104)]) (n := 5) (Nat.le_of_ble_eq_true rfl)
  rw [lg_entry_eq]
  generalize (lg_sl ([.ref (o + 108), .ref (o + 104)]) ++ List.replicate (5 - (lg_sl ([.ref (o + 108), .ref (o + 104)])).length) Slot.unset).toArray = ls at hl ⊢
  have hl : lv_has ls 5 [(0, .ref (o + 108)), (1, .ref (o + 104))] := hl
  refine lv_aload_n hx hb dX3_countAll_0 rfl (lv_at hl 0 rfl) ?_
  refine qf_get hx hb hts inX3 hown hK hP (q0 := 108) (by decide) (hgU_108 ca o) rfl 0 (by decide) wq_216 (v := .ref (o + 109)) rfl dX3_countAll_1 ?_
  refine lv_iconst (v := 0) hx hb dX3_countAll_4 (by decide) ?_
  refine qc_Sv2 (As := [.ref (o + 109), .int 0]) (rest := []) (k0 := 2) (u_Arrays_fill_v21 l D ca o b z y J0 0) kc_yJ7_fill_53178 ⟨hx, hb, hml, hown, hts⟩ wq_637 rfl rfl ⟨Nat.le_of_ble_eq_true rfl, Nat.le_of_ble_eq_true rfl⟩ wq_all hP hK hS qw_Ai rfl hl.1 rfl (Nat.le_of_ble_eq_true rfl) dX3_countAll_5 ⟨Nat.zero_le _, Nat.zero_le _⟩ (fun z1 y1 H locs h1 hP hS _ _ => ?_)
  have J1 : qJU b z1 := h1
  refine lv_iconst (v := 0) hx hb dX3_countAll_8 (by decide) ?_
  refine lv_istore_n (lv' := [(2, .int 0), (0, .ref (o + 108)), (1, .ref (o + 104))]) hx hb dX3_countAll_9 rfl hl (by decide) rfl (fun ls hl => ?_)
  have loop2 : ∀ (n : Nat) (w2_2 : Int32) (z2 : Nat → Nat → Int32) (y2 : Nat → Nat → Int64), ((200000 - w2_2.toInt : Int) < (n : Int)) → ((0 : Int) ≤ w2_2.toInt ∧ w2_2.toInt ≤ 200000) → (qJU b z2) → ∀ (H : Heap) (locs : List Loc), qw_P D vwCl o 132 (qG (GU ca o) z2 y2) H → va_S (qw_A o 132) s.heap H locs → ∀ (ls : Array Slot), lv_has ls 5 [(2, .int w2_2), (0, .ref (o + 108)), (1, .ref (o + 104))] → W p l e (headSpec (Cond.code yX3_countAll cX3_countAll 5 none :: qtbl) ({ frames := 4, cells := 0, slots := 0, locals := 124 })).room s m (([.ref (o + 108), .ref (o + 104)] : List Value).toArray) below meth c H locs 0 0 (MQ below (va_Qv (fun u => qJU b u.1) (qB D vwCl (qT6 ca) o 132 (fun u : qZ => qG (GU ca o) u.1 u.2)) (qw_A o 132)) (([.ref (o + 108), .ref (o + 104)] : List Value).toArray) s 0 0 (qw_A o 132)) (F0 m 10 ls []) := by
    intro n
    induction n with
    | zero => intro w2_2 z2 y2 hb2 hv2_2 J2; exfalso; omega
    | succ n2 ih2 =>
      intro w2_2 z2 y2 hb2 hv2_2 J2 H locs hP hS ls hl
      refine lv_iload_n hx hb dX3_countAll_10 rfl (lv_at hl 0 rfl) ?_
      refine lv_ldc (v := 200000) hx hb hown (hts _ wq_638) dX3_countAll_11 ?_
      refine lv_icmp_ge (tgt := 42) hx hb dX3_countAll_13 (by decide) (fun c3 => ?_) (fun c3 => ?_)
      · have t3 : w2_2.toInt ≥ (200000 : Int) := gl_le c3
        refine lv_iconst (v := 0) hx hb dX3_countAll_42 (by decide) ?_
        refine lv_istore_n (lv' := [(2, .int 0), (0, .ref (o + 108)), (1, .ref (o + 104))]) hx hb dX3_countAll_43 rfl hl (by decide) rfl (fun ls hl => ?_)
        have loop4 : ∀ (n : Nat) (w4_2 : Int32) (z4 : Nat → Nat → Int32) (y4 : Nat → Nat → Int64), ((10 - w4_2.toInt : Int) < (n : Int)) → ((0 : Int) ≤ w4_2.toInt ∧ w4_2.toInt ≤ 10) → (qJU b z4) → ∀ (H : Heap) (locs : List Loc), qw_P D vwCl o 132 (qG (GU ca o) z4 y4) H → va_S (qw_A o 132) s.heap H locs → ∀ (ls : Array Slot), lv_has ls 5 [(2, .int w4_2), (0, .ref (o + 108)), (1, .ref (o + 104))] → W p l e (headSpec (Cond.code yX3_countAll cX3_countAll 5 none :: qtbl) ({ frames := 4, cells := 0, slots := 0, locals := 124 })).room s m (([.ref (o + 108), .ref (o + 104)] : List Value).toArray) below meth c H locs 0 0 (MQ below (va_Qv (fun u => qJU b u.1) (qB D vwCl (qT6 ca) o 132 (fun u : qZ => qG (GU ca o) u.1 u.2)) (qw_A o 132)) (([.ref (o + 108), .ref (o + 104)] : List Value).toArray) s 0 0 (qw_A o 132)) (F0 m 44 ls []) := by
          intro n
          induction n with
          | zero => intro w4_2 z4 y4 hb4 hv4_2 J4; exfalso; omega
          | succ n4 ih4 =>
            intro w4_2 z4 y4 hb4 hv4_2 J4 H locs hP hS ls hl
            refine lv_iload_n hx hb dX3_countAll_44 rfl (lv_at hl 0 rfl) ?_
            refine lv_bipush (v := 10) hx hb dX3_countAll_45 (by decide) ?_
            refine lv_icmp_ge (tgt := 103) hx hb dX3_countAll_47 (by decide) (fun c5 => ?_) (fun c5 => ?_)
            · have t5 : w4_2.toInt ≥ (10 : Int) := gl_le c5
              exact W.vret hx hb hr (fun t ht hW => ⟨⟨(z4, y4), rfl, J4, by rw [ht]; exact hP, va_K.moved hW.alike hK⟩, hS.F ht⟩) hS.2.2 dX3_countAll_103
            · have t5 : w4_2.toInt < (10 : Int) := gl_nle c5
              refine lv_iconst (v := 1) hx hb dX3_countAll_50 (by decide) ?_
              refine lv_iload_n hx hb dX3_countAll_51 rfl (lv_at hl 0 rfl) ?_
              refine lv_ishl hx hb dX3_countAll_52 ?_
              refine lv_topi (fun x6 e6 => ?_)
              have t6 : 1 ≤ x6.toInt ∧ x6.toInt ≤ 512 := ga_shl 9 512 e6 (by decide) (by decide) (by omega) (by omega)
              refine lv_istore_n (lv' := [(3, .int x6), (2, .int w4_2), (0, .ref (o + 108)), (1, .ref (o + 104))]) hx hb dX3_countAll_53 rfl hl (by decide) rfl (fun ls hl => ?_)
              refine lv_iconst (v := 0) hx hb dX3_countAll_54 (by decide) ?_
              refine lv_istore (lv' := [(4, .int 0), (3, .int x6), (2, .int w4_2), (0, .ref (o + 108)), (1, .ref (o + 104))]) hx hb dX3_countAll_55 hl (by decide) rfl (fun ls hl => ?_)
              have loop7 : ∀ (n : Nat) (w7_4 : Int32) (z7 : Nat → Nat → Int32) (y7 : Nat → Nat → Int64), ((1024 - w7_4.toInt : Int) < (n : Int)) → ((0 : Int) ≤ w7_4.toInt ∧ w7_4.toInt ≤ 1024) → (qJU b z7) → ∀ (H : Heap) (locs : List Loc), qw_P D vwCl o 132 (qG (GU ca o) z7 y7) H → va_S (qw_A o 132) s.heap H locs → ∀ (ls : Array Slot), lv_has ls 5 [(4, .int w7_4), (3, .int x6), (2, .int w4_2), (0, .ref (o + 108)), (1, .ref (o + 104))] → W p l e (headSpec (Cond.code yX3_countAll cX3_countAll 5 none :: qtbl) ({ frames := 4, cells := 0, slots := 0, locals := 124 })).room s m (([.ref (o + 108), .ref (o + 104)] : List Value).toArray) below meth c H locs 0 0 (MQ below (va_Qv (fun u => qJU b u.1) (qB D vwCl (qT6 ca) o 132 (fun u : qZ => qG (GU ca o) u.1 u.2)) (qw_A o 132)) (([.ref (o + 108), .ref (o + 104)] : List Value).toArray) s 0 0 (qw_A o 132)) (F0 m 57 ls []) := by
                intro n
                induction n with
                | zero => intro w7_4 z7 y7 hb7 hv7_4 J7; exfalso; omega
                | succ n7 ih7 =>
                  intro w7_4 z7 y7 hb7 hv7_4 J7 H locs hP hS ls hl
                  refine lv_iload hx hb dX3_countAll_57 (lv_at hl 0 rfl) ?_
                  refine lv_sipush (v := 1024) hx hb dX3_countAll_59 (by decide) ?_
                  refine lv_icmp_ge (tgt := 97) hx hb dX3_countAll_62 (by decide) (fun c8 => ?_) (fun c8 => ?_)
                  · have t8 : w7_4.toInt ≥ (1024 : Int) := gl_le c8
                    obtain ⟨x9, e9⟩ : ∃ t : Int32, t = w4_2 + 1 := ⟨_, rfl⟩
                    refine lv_iinc (v := x9) (lv' := [(2, .int x9), (4, .int w7_4), (3, .int x6), (0, .ref (o + 108)), (1, .ref (o + 104))]) hx hb dX3_countAll_97 hl (k := 2) rfl (by rw [e9]; rfl) (by decide) rfl (fun ls hl => ?_)
                    have t9 : x9.toInt = w4_2.toInt + (1 : Int) := ga_add e9 rfl rfl (by omega) (by omega)
                    refine lv_goto (tgt := 44) hx hb dX3_countAll_100 (by decide) ?_
                    exact ih4 x9 z7 y7 (show (10 - x9.toInt : Int) < (n4 : Int) from by omega) ⟨by omega, by omega⟩ J7 _ _ hP hS _ (lv_sub hl [0, 3, 4] rfl)
                  · have t8 : w7_4.toInt < (1024 : Int) := gl_nle c8
                    refine lv_iload hx hb dX3_countAll_65 (lv_at hl 0 rfl) ?_
                    refine lv_iload_n hx hb dX3_countAll_67 rfl (lv_at hl 1 rfl) ?_
                    refine lv_iand hx hb dX3_countAll_68 ?_
                    refine lv_topi (fun x10 e10 => ?_)
                    have t10 : 0 ≤ x10.toInt ∧ x10.toInt ≤ x6.toInt := ga_and e10 rfl (by omega)
                    refine lv_if_ne (tgt := 91) hx hb dX3_countAll_69 (by decide) (fun c11 => ?_) (fun c11 => ?_)
                    · have t11 : x10.toInt ≠ (0 : Int) := gl_ne c11
                      obtain ⟨x12, e12⟩ : ∃ t : Int32, t = w7_4 + 1 := ⟨_, rfl⟩
                      refine lv_iinc (v := x12) (lv' := [(4, .int x12), (3, .int x6), (2, .int w4_2), (0, .ref (o + 108)), (1, .ref (o + 104))]) hx hb dX3_countAll_91 hl (k := 0) rfl (by rw [e12]; rfl) (by decide) rfl (fun ls hl => ?_)
                      have t12 : x12.toInt = w7_4.toInt + (1 : Int) := ga_add e12 rfl rfl (by omega) (by omega)
                      refine lv_goto (tgt := 57) hx hb dX3_countAll_94 (by decide) ?_
                      exact ih7 x12 z7 y7 (show (1024 - x12.toInt : Int) < (n7 : Int) from by omega) ⟨by omega, by omega⟩ J7 _ _ hP hS _ (lv_sub hl [0, 1, 2, 3, 4] rfl)
                    · have t11 : x10.toInt = (0 : Int) := gl_eq c11
                      refine lv_aload_n hx hb dX3_countAll_72 rfl (lv_at hl 3 rfl) ?_
                      refine qf_get hx hb hts inX3 hown hK hP (q0 := 108) (by decide) (hgU_108 ca o) rfl 0 (by decide) wq_216 (v := .ref (o + 109)) rfl dX3_countAll_73 ?_
                      refine lv_iload hx hb dX3_countAll_76 (lv_at hl 0 rfl) ?_
                      refine lv_dup2_11 hx hb dX3_countAll_78 rfl rfl ?_
                      refine qa_iald hx hb hK hP (q0 := 109) (by decide) 0 (N := 1024) (hgU_109 ca o) rfl (gi_in (by omega) (by omega)) dX3_countAll_79 ?_
                      refine lv_topi (fun x13 e13 => ?_)
                      refine lv_aload_n hx hb dX3_countAll_80 rfl (lv_at hl 3 rfl) ?_
                      refine qf_get hx hb hts inX3 hown hK hP (q0 := 108) (by decide) (hgU_108 ca o) rfl 0 (by decide) wq_216 (v := .ref (o + 109)) rfl dX3_countAll_81 ?_
                      refine lv_iload hx hb dX3_countAll_84 (lv_at hl 0 rfl) ?_
                      refine lv_iload_n hx hb dX3_countAll_86 rfl (lv_at hl 1 rfl) ?_
                      refine lv_ior hx hb dX3_countAll_87 ?_
                      refine lv_topi (fun x14 e14 => ?_)
                      have t14 : 0 ≤ x14.toInt ∧ x14.toInt < 1024 := ga_or 10 1024 e14 rfl rfl (by decide) (by decide) (by omega) (by omega) (by omega) (by omega)
                      refine qa_iald hx hb hK hP (q0 := 109) (by decide) 0 (N := 1024) (hgU_109 ca o) rfl (gi_in (by omega) (by omega)) dX3_countAll_88 ?_
                      refine lv_topi (fun x15 e15 => ?_)
                      refine lv_iadd hx hb dX3_countAll_89 ?_
                      refine lv_topi (fun x16 e16 => ?_)
                      refine qa_iast2 hx hb hK hP hS qw_Ai (q0 := 109) (by decide) 0 (N := 1024) (hgU_109 ca o) rfl (i := w7_4) (x := x16) (gi_in (by omega) (by omega)) dX3_countAll_90 (fun z17 H locs hz17 hP hS => ?_)
                      have J17 := jU_109 J7 hz17
                      obtain ⟨x18, e18⟩ : ∃ t : Int32, t = w7_4 + 1 := ⟨_, rfl⟩
                      refine lv_iinc (v := x18) (lv' := [(4, .int x18), (3, .int x6), (2, .int w4_2), (0, .ref (o + 108)), (1, .ref (o + 104))]) hx hb dX3_countAll_91 hl (k := 0) rfl (by rw [e18]; rfl) (by decide) rfl (fun ls hl => ?_)
                      have t18 : x18.toInt = w7_4.toInt + (1 : Int) := ga_add e18 rfl rfl (by omega) (by omega)
                      refine lv_goto (tgt := 57) hx hb dX3_countAll_94 (by decide) ?_
                      exact ih7 x18 z17 y7 (show (1024 - x18.toInt : Int) < (n7 : Int) from by omega) ⟨by omega, by omega⟩ J17 _ _ hP hS _ (lv_sub hl [0, 1, 2, 3, 4] rfl)
              exact loop7 1025 0 z4 y4 (show (1024 - (0 : Int) : Int) < ((1025 : Nat) : Int) from by omega) ⟨by decide, by decide⟩ J4 _ _ hP hS _ (lv_sub hl [0, 1, 2, 3, 4] rfl)
        exact loop4 11 0 z2 y2 (show (10 - (0 : Int) : Int) < ((11 : Nat) : Int) from by omega) ⟨by decide, by decide⟩ J2 _ _ hP hS _ (lv_sub hl [0, 1, 2] rfl)
      · have t3 : w2_2.toInt < (200000 : Int) := gl_nle c3
        refine lv_aload_n hx hb dX3_countAll_16 rfl (lv_at hl 2 rfl) ?_
        refine qc_Vi2 (As := []) (rest := []) (k0 := 0) (u_Rows_move l D ca o b z2 y2 J2) kc_yX7_move ⟨hx, hb, hml, hown, hts⟩ wq_639 rfl rfl ⟨Nat.le_of_ble_eq_true rfl, Nat.le_of_ble_eq_true rfl⟩ wq_all hP hK hS qw_Ai (q0 := 104) (by decide) (hgU_104 ca o _ _) rfl rfl hl.1 rfl (Nat.le_of_ble_eq_true rfl) dX3_countAll_17 ⟨Nat.zero_le _, Nat.zero_le _⟩ (fun r19 z19 y19 H locs h19 hP hS _ _ => ?_)
        have J19 : qJU b z19 := h19.2
        have b19 : (0 : Int) ≤ r19.toInt ∧ r19.toInt ≤ 1 := h19.1
        refine lv_if_eq (tgt := 42) hx hb dX3_countAll_20 (by decide) (fun c20 => ?_) (fun c20 => ?_)
        · have t20 : r19.toInt = (0 : Int) := gl_eq c20
          refine lv_iconst (v := 0) hx hb dX3_countAll_42 (by decide) ?_
          refine lv_istore_n (lv' := [(2, .int 0), (0, .ref (o + 108)), (1, .ref (o + 104))]) hx hb dX3_countAll_43 rfl hl (by decide) rfl (fun ls hl => ?_)
          have loop21 : ∀ (n : Nat) (w21_2 : Int32) (z21 : Nat → Nat → Int32) (y21 : Nat → Nat → Int64), ((10 - w21_2.toInt : Int) < (n : Int)) → ((0 : Int) ≤ w21_2.toInt ∧ w21_2.toInt ≤ 10) → (qJU b z21) → ∀ (H : Heap) (locs : List Loc), qw_P D vwCl o 132 (qG (GU ca o) z21 y21) H → va_S (qw_A o 132) s.heap H locs → ∀ (ls : Array Slot), lv_has ls 5 [(2, .int w21_2), (0, .ref (o + 108)), (1, .ref (o + 104))] → W p l e (headSpec (Cond.code yX3_countAll cX3_countAll 5 none :: qtbl) ({ frames := 4, cells := 0, slots := 0, locals := 124 })).room s m (([.ref (o + 108), .ref (o + 104)] : List Value).toArray) below meth c H locs 0 0 (MQ below (va_Qv (fun u => qJU b u.1) (qB D vwCl (qT6 ca) o 132 (fun u : qZ => qG (GU ca o) u.1 u.2)) (qw_A o 132)) (([.ref (o + 108), .ref (o + 104)] : List Value).toArray) s 0 0 (qw_A o 132)) (F0 m 44 ls []) := by
            intro n
            induction n with
            | zero => intro w21_2 z21 y21 hb21 hv21_2 J21; exfalso; omega
            | succ n21 ih21 =>
              intro w21_2 z21 y21 hb21 hv21_2 J21 H locs hP hS ls hl
              refine lv_iload_n hx hb dX3_countAll_44 rfl (lv_at hl 0 rfl) ?_
              refine lv_bipush (v := 10) hx hb dX3_countAll_45 (by decide) ?_
              refine lv_icmp_ge (tgt := 103) hx hb dX3_countAll_47 (by decide) (fun c22 => ?_) (fun c22 => ?_)
              · have t22 : w21_2.toInt ≥ (10 : Int) := gl_le c22
                exact W.vret hx hb hr (fun t ht hW => ⟨⟨(z21, y21), rfl, J21, by rw [ht]; exact hP, va_K.moved hW.alike hK⟩, hS.F ht⟩) hS.2.2 dX3_countAll_103
              · have t22 : w21_2.toInt < (10 : Int) := gl_nle c22
                refine lv_iconst (v := 1) hx hb dX3_countAll_50 (by decide) ?_
                refine lv_iload_n hx hb dX3_countAll_51 rfl (lv_at hl 0 rfl) ?_
                refine lv_ishl hx hb dX3_countAll_52 ?_
                refine lv_topi (fun x23 e23 => ?_)
                have t23 : 1 ≤ x23.toInt ∧ x23.toInt ≤ 512 := ga_shl 9 512 e23 (by decide) (by decide) (by omega) (by omega)
                refine lv_istore_n (lv' := [(3, .int x23), (2, .int w21_2), (0, .ref (o + 108)), (1, .ref (o + 104))]) hx hb dX3_countAll_53 rfl hl (by decide) rfl (fun ls hl => ?_)
                refine lv_iconst (v := 0) hx hb dX3_countAll_54 (by decide) ?_
                refine lv_istore (lv' := [(4, .int 0), (3, .int x23), (2, .int w21_2), (0, .ref (o + 108)), (1, .ref (o + 104))]) hx hb dX3_countAll_55 hl (by decide) rfl (fun ls hl => ?_)
                have loop24 : ∀ (n : Nat) (w24_4 : Int32) (z24 : Nat → Nat → Int32) (y24 : Nat → Nat → Int64), ((1024 - w24_4.toInt : Int) < (n : Int)) → ((0 : Int) ≤ w24_4.toInt ∧ w24_4.toInt ≤ 1024) → (qJU b z24) → ∀ (H : Heap) (locs : List Loc), qw_P D vwCl o 132 (qG (GU ca o) z24 y24) H → va_S (qw_A o 132) s.heap H locs → ∀ (ls : Array Slot), lv_has ls 5 [(4, .int w24_4), (3, .int x23), (2, .int w21_2), (0, .ref (o + 108)), (1, .ref (o + 104))] → W p l e (headSpec (Cond.code yX3_countAll cX3_countAll 5 none :: qtbl) ({ frames := 4, cells := 0, slots := 0, locals := 124 })).room s m (([.ref (o + 108), .ref (o + 104)] : List Value).toArray) below meth c H locs 0 0 (MQ below (va_Qv (fun u => qJU b u.1) (qB D vwCl (qT6 ca) o 132 (fun u : qZ => qG (GU ca o) u.1 u.2)) (qw_A o 132)) (([.ref (o + 108), .ref (o + 104)] : List Value).toArray) s 0 0 (qw_A o 132)) (F0 m 57 ls []) := by
                  intro n
                  induction n with
                  | zero => intro w24_4 z24 y24 hb24 hv24_4 J24; exfalso; omega
                  | succ n24 ih24 =>
                    intro w24_4 z24 y24 hb24 hv24_4 J24 H locs hP hS ls hl
                    refine lv_iload hx hb dX3_countAll_57 (lv_at hl 0 rfl) ?_
                    refine lv_sipush (v := 1024) hx hb dX3_countAll_59 (by decide) ?_
                    refine lv_icmp_ge (tgt := 97) hx hb dX3_countAll_62 (by decide) (fun c25 => ?_) (fun c25 => ?_)
                    · have t25 : w24_4.toInt ≥ (1024 : Int) := gl_le c25
                      obtain ⟨x26, e26⟩ : ∃ t : Int32, t = w21_2 + 1 := ⟨_, rfl⟩
                      refine lv_iinc (v := x26) (lv' := [(2, .int x26), (4, .int w24_4), (3, .int x23), (0, .ref (o + 108)), (1, .ref (o + 104))]) hx hb dX3_countAll_97 hl (k := 2) rfl (by rw [e26]; rfl) (by decide) rfl (fun ls hl => ?_)
                      have t26 : x26.toInt = w21_2.toInt + (1 : Int) := ga_add e26 rfl rfl (by omega) (by omega)
                      refine lv_goto (tgt := 44) hx hb dX3_countAll_100 (by decide) ?_
                      exact ih21 x26 z24 y24 (show (10 - x26.toInt : Int) < (n21 : Int) from by omega) ⟨by omega, by omega⟩ J24 _ _ hP hS _ (lv_sub hl [0, 3, 4] rfl)
                    · have t25 : w24_4.toInt < (1024 : Int) := gl_nle c25
                      refine lv_iload hx hb dX3_countAll_65 (lv_at hl 0 rfl) ?_
                      refine lv_iload_n hx hb dX3_countAll_67 rfl (lv_at hl 1 rfl) ?_
                      refine lv_iand hx hb dX3_countAll_68 ?_
                      refine lv_topi (fun x27 e27 => ?_)
                      have t27 : 0 ≤ x27.toInt ∧ x27.toInt ≤ x23.toInt := ga_and e27 rfl (by omega)
                      refine lv_if_ne (tgt := 91) hx hb dX3_countAll_69 (by decide) (fun c28 => ?_) (fun c28 => ?_)
                      · have t28 : x27.toInt ≠ (0 : Int) := gl_ne c28
                        obtain ⟨x29, e29⟩ : ∃ t : Int32, t = w24_4 + 1 := ⟨_, rfl⟩
                        refine lv_iinc (v := x29) (lv' := [(4, .int x29), (3, .int x23), (2, .int w21_2), (0, .ref (o + 108)), (1, .ref (o + 104))]) hx hb dX3_countAll_91 hl (k := 0) rfl (by rw [e29]; rfl) (by decide) rfl (fun ls hl => ?_)
                        have t29 : x29.toInt = w24_4.toInt + (1 : Int) := ga_add e29 rfl rfl (by omega) (by omega)
                        refine lv_goto (tgt := 57) hx hb dX3_countAll_94 (by decide) ?_
                        exact ih24 x29 z24 y24 (show (1024 - x29.toInt : Int) < (n24 : Int) from by omega) ⟨by omega, by omega⟩ J24 _ _ hP hS _ (lv_sub hl [0, 1, 2, 3, 4] rfl)
                      · have t28 : x27.toInt = (0 : Int) := gl_eq c28
                        refine lv_aload_n hx hb dX3_countAll_72 rfl (lv_at hl 3 rfl) ?_
                        refine qf_get hx hb hts inX3 hown hK hP (q0 := 108) (by decide) (hgU_108 ca o) rfl 0 (by decide) wq_216 (v := .ref (o + 109)) rfl dX3_countAll_73 ?_
                        refine lv_iload hx hb dX3_countAll_76 (lv_at hl 0 rfl) ?_
                        refine lv_dup2_11 hx hb dX3_countAll_78 rfl rfl ?_
                        refine qa_iald hx hb hK hP (q0 := 109) (by decide) 0 (N := 1024) (hgU_109 ca o) rfl (gi_in (by omega) (by omega)) dX3_countAll_79 ?_
                        refine lv_topi (fun x30 e30 => ?_)
                        refine lv_aload_n hx hb dX3_countAll_80 rfl (lv_at hl 3 rfl) ?_
                        refine qf_get hx hb hts inX3 hown hK hP (q0 := 108) (by decide) (hgU_108 ca o) rfl 0 (by decide) wq_216 (v := .ref (o + 109)) rfl dX3_countAll_81 ?_
                        refine lv_iload hx hb dX3_countAll_84 (lv_at hl 0 rfl) ?_
                        refine lv_iload_n hx hb dX3_countAll_86 rfl (lv_at hl 1 rfl) ?_
                        refine lv_ior hx hb dX3_countAll_87 ?_
                        refine lv_topi (fun x31 e31 => ?_)
                        have t31 : 0 ≤ x31.toInt ∧ x31.toInt < 1024 := ga_or 10 1024 e31 rfl rfl (by decide) (by decide) (by omega) (by omega) (by omega) (by omega)
                        refine qa_iald hx hb hK hP (q0 := 109) (by decide) 0 (N := 1024) (hgU_109 ca o) rfl (gi_in (by omega) (by omega)) dX3_countAll_88 ?_
                        refine lv_topi (fun x32 e32 => ?_)
                        refine lv_iadd hx hb dX3_countAll_89 ?_
                        refine lv_topi (fun x33 e33 => ?_)
                        refine qa_iast2 hx hb hK hP hS qw_Ai (q0 := 109) (by decide) 0 (N := 1024) (hgU_109 ca o) rfl (i := w24_4) (x := x33) (gi_in (by omega) (by omega)) dX3_countAll_90 (fun z34 H locs hz34 hP hS => ?_)
                        have J34 := jU_109 J24 hz34
                        obtain ⟨x35, e35⟩ : ∃ t : Int32, t = w24_4 + 1 := ⟨_, rfl⟩
                        refine lv_iinc (v := x35) (lv' := [(4, .int x35), (3, .int x23), (2, .int w21_2), (0, .ref (o + 108)), (1, .ref (o + 104))]) hx hb dX3_countAll_91 hl (k := 0) rfl (by rw [e35]; rfl) (by decide) rfl (fun ls hl => ?_)
                        have t35 : x35.toInt = w24_4.toInt + (1 : Int) := ga_add e35 rfl rfl (by omega) (by omega)
                        refine lv_goto (tgt := 57) hx hb dX3_countAll_94 (by decide) ?_
                        exact ih24 x35 z34 y24 (show (1024 - x35.toInt : Int) < (n24 : Int) from by omega) ⟨by omega, by omega⟩ J34 _ _ hP hS _ (lv_sub hl [0, 1, 2, 3, 4] rfl)
                exact loop24 1025 0 z21 y21 (show (1024 - (0 : Int) : Int) < ((1025 : Nat) : Int) from by omega) ⟨by decide, by decide⟩ J21 _ _ hP hS _ (lv_sub hl [0, 1, 2, 3, 4] rfl)
          exact loop21 11 0 z19 y19 (show (10 - (0 : Int) : Int) < ((11 : Nat) : Int) from by omega) ⟨by decide, by decide⟩ J19 _ _ hP hS _ (lv_sub hl [0, 1, 2] rfl)
        · have t20 : r19.toInt ≠ (0 : Int) := gl_ne c20
          refine lv_aload_n hx hb dX3_countAll_23 rfl (lv_at hl 1 rfl) ?_
          refine qf_get hx hb hts inX3 hown hK hP (q0 := 108) (by decide) (hgU_108 ca o) rfl 0 (by decide) wq_216 (v := .ref (o + 109)) rfl dX3_countAll_24 ?_
          refine lv_aload_n hx hb dX3_countAll_27 rfl (lv_at hl 2 rfl) ?_
          refine qc_Vip (As := []) (rest := [.ref (o + 109)]) (k0 := 0) (u_Rows_holding l D ca o b z19 y19 J19) kc_yX7_holding ⟨hx, hb, hml, hown, hts⟩ wq_640 rfl rfl ⟨Nat.le_of_ble_eq_true rfl, Nat.le_of_ble_eq_true rfl⟩ wq_all hP hK hS qw_Ai (q0 := 104) (by decide) (hgU_104 ca o _ _) rfl rfl hl.1 rfl (Nat.le_of_ble_eq_true rfl) dX3_countAll_28 ⟨Nat.zero_le _, Nat.zero_le _⟩ (fun r36 H locs h36 hP hS _ _ => ?_)
          have b36 : (0 : Int) ≤ r36.toInt ∧ r36.toInt ≤ 1023 := h36
          refine lv_dup2_11 hx hb dX3_countAll_31 rfl rfl ?_
          refine qa_iald hx hb hK hP (q0 := 109) (by decide) 0 (N := 1024) (hgU_109 ca o) rfl (gi_in (by omega) (by omega)) dX3_countAll_32 ?_
          refine lv_topi (fun x37 e37 => ?_)
          refine lv_iconst (v := 1) hx hb dX3_countAll_33 (by decide) ?_
          refine lv_iadd hx hb dX3_countAll_34 ?_
          refine lv_topi (fun x38 e38 => ?_)
          refine qa_iast2 hx hb hK hP hS qw_Ai (q0 := 109) (by decide) 0 (N := 1024) (hgU_109 ca o) rfl (i := r36) (x := x38) (gi_in (by omega) (by omega)) dX3_countAll_35 (fun z39 H locs hz39 hP hS => ?_)
          have J39 := jU_109 J19 hz39
          obtain ⟨x40, e40⟩ : ∃ t : Int32, t = w2_2 + 1 := ⟨_, rfl⟩
          refine lv_iinc (v := x40) (lv' := [(2, .int x40), (0, .ref (o + 108)), (1, .ref (o + 104))]) hx hb dX3_countAll_36 hl (k := 0) rfl (by rw [e40]; rfl) (by decide) rfl (fun ls hl => ?_)
          have t40 : x40.toInt = w2_2.toInt + (1 : Int) := ga_add e40 rfl rfl (by omega) (by omega)
          refine lv_goto (tgt := 10) hx hb dX3_countAll_39 (by decide) ?_
          exact ih2 x40 z39 y19 (show (200000 - x40.toInt : Int) < (n2 : Int) from by omega) ⟨by omega, by omega⟩ J39 _ _ hP hS _ (lv_sub hl [0, 1, 2] rfl)
  exact loop2 200001 0 z1 y1 (show (200000 - (0 : Int) : Int) < ((200001 : Nat) : Int) from by omega) ⟨by decide, by decide⟩ J1 _ _ hP hS _ (lv_sub hl [0, 1, 2] rfl)
set_option maxRecDepth 100000 in
set_option maxHeartbeats 8000000 in
theorem u_Fits_isCounted (l : Launch) (D : va_G) (ca : Nat → ClassId) (o : Nat) (b z : Nat → Nat → Int32) (y : Nat → Nat → Int64) (J0 : qJU b z)   : qM l yX3_isCounted cX3_isCounted 2 (some .boolean) 5 148 (qPre D vwCl (qT6 ca) o 132 (qG (GU ca o) z y) [.ref (o + 108), .ref (o + 104)]) (va_Qi (fun r u => ((0 : Int) ≤ r.toInt ∧ r.toInt ≤ 1) ∧ qJU b u.1) (qB D vwCl (qT6 ca) o 132 (fun u : qZ => qG (GU ca o) u.1 u.2)) (qw_A o 132)) (qw_A o 132) := by
  refine Met.ofW (cc := cX3_isCounted) (maxL := 2) (ret := (some .boolean)) (by decide) rfl ?_
  intro p e s m args below meth c s₁ B hml hv
  obtain ⟨rfl, hP, hK⟩ := hv
  have hx := B.exec
  have hb := B.bytes
  have hr := B.returns
  have hts0 := atoms_spec (ws := Cond.code yX3_isCounted cX3_isCounted 2 (some .boolean) :: qtbl) B.pre
  have hts : ∀ w ∈ qtbl, w.before _ s = true := fun w h => hts0 w (List.mem_cons_of_mem _ h)
  have hown : s.vm.findClass RX3 = some m.cls := findClass_of_methodNamed B.named
  have hlocks := B.notSynchronized
  have hS : va_S (qw_A o 132) s.heap s.heap [] := va_S.rf
  have hl := lv_entry ([.ref (o + 108), .ref (o + 104)]) (n := 2) (Nat.le_of_ble_eq_true rfl)
  rw [lg_entry_eq]
  generalize (lg_sl ([.ref (o + 108), .ref (o + 104)]) ++ List.replicate (2 - (lg_sl ([.ref (o + 108), .ref (o + 104)])).length) Slot.unset).toArray = ls at hl ⊢
  have hl : lv_has ls 2 [(0, .ref (o + 108)), (1, .ref (o + 104))] := hl
  refine lv_aload_n hx hb dX3_isCounted_0 rfl (lv_at hl 0 rfl) ?_
  refine qf_get hx hb hts inX3 hown hK hP (q0 := 108) (by decide) (hgU_108 ca o) rfl 1 (by decide) wq_217 (v := .int (z 108 1)) rfl dX3_isCounted_1 ?_
  refine lv_topi (fun x1 e1 => ?_)
  have b1 := iU_108_1 J0 e1
  refine lv_if_ne (tgt := 31) hx hb dX3_isCounted_4 (by decide) (fun c2 => ?_) (fun c2 => ?_)
  · have t2 : x1.toInt ≠ (0 : Int) := gl_ne c2
    refine lv_aload_n hx hb dX3_isCounted_31 rfl (lv_at hl 0 rfl) ?_
    refine qf_get hx hb hts inX3 hown hK hP (q0 := 108) (by decide) (hgU_108 ca o) rfl 1 (by decide) wq_217 (v := .int (z 108 1)) rfl dX3_isCounted_32 ?_
    refine lv_topi (fun x3 e3 => ?_)
    have b3 := iU_108_1 J0 e3
    have ag3 : x3.toInt = x1.toInt := congrArg Int32.toInt (e3.trans e1.symm)
    exact W.zret (v := x3) (ty := .boolean) hx hb hr (nb_ok ⟨by omega, by omega⟩) (fun t ht hW => ⟨⟨x3, (z, y), rfl, ⟨⟨by omega, by omega⟩, J0⟩, by rw [ht]; exact hP, va_K.moved hW.alike hK⟩, hS.F ht⟩) hS.2.2 dX3_isCounted_35
  · have t2 : x1.toInt = (0 : Int) := gl_eq c2
    refine lv_aload_n hx hb dX3_isCounted_7 rfl (lv_at hl 1 rfl) ?_
    refine lv_aload_n hx hb dX3_isCounted_8 rfl (lv_at hl 1 rfl) ?_
    refine qf_get hx hb hts inX7 hown hK hP (q0 := 104) (by decide) (hgU_104 ca o) rfl 0 (by decide) wq_186 (v := .ref (o + 1)) rfl dX3_isCounted_9 ?_
    refine qc_Vip (As := []) (rest := [.ref (o + 104)]) (k0 := 0) (u_Told_remarksSaid l D ca o b z y J0) kc_yX9_remarksSaid ⟨hx, hb, hml, hown, hts⟩ wq_631 rfl rfl ⟨Nat.le_of_ble_eq_true rfl, Nat.le_of_ble_eq_true rfl⟩ wq_all hP hK hS qw_Ai (q0 := 1) (by decide) (hgU_1 ca o _ _) rfl rfl hl.1 rfl (Nat.le_of_ble_eq_true rfl) dX3_isCounted_12 ⟨Nat.zero_le _, Nat.zero_le _⟩ (fun r4 H locs h4 hP hS _ _ => ?_)
    have b4 : (0 : Int) ≤ r4.toInt ∧ r4.toInt ≤ 1023 := h4
    refine qc_Vi2 (As := [.int r4]) (rest := []) (k0 := 1) (u_Rows_start l D ca o b z y J0 r4) kc_yX7_start ⟨hx, hb, hml, hown, hts⟩ wq_632 rfl rfl ⟨Nat.le_of_ble_eq_true rfl, Nat.le_of_ble_eq_true rfl⟩ wq_all hP hK hS qw_Ai (q0 := 104) (by decide) (hgU_104 ca o _ _) rfl rfl hl.1 rfl (Nat.le_of_ble_eq_true rfl) dX3_isCounted_15 ⟨Nat.zero_le _, Nat.zero_le _⟩ (fun r5 z5 y5 H locs h5 hP hS _ _ => ?_)
    have J5 : qJU b z5 := h5.2
    have b5 : (0 : Int) ≤ r5.toInt ∧ r5.toInt ≤ 1 := h5.1
    refine lv_if_eq (tgt := 31) hx hb dX3_isCounted_18 (by decide) (fun c6 => ?_) (fun c6 => ?_)
    · have t6 : r5.toInt = (0 : Int) := gl_eq c6
      refine lv_aload_n hx hb dX3_isCounted_31 rfl (lv_at hl 0 rfl) ?_
      refine qf_get hx hb hts inX3 hown hK hP (q0 := 108) (by decide) (hgU_108 ca o) rfl 1 (by decide) wq_217 (v := .int (z5 108 1)) rfl dX3_isCounted_32 ?_
      refine lv_topi (fun x7 e7 => ?_)
      have b7 := iU_108_1 J5 e7
      exact W.zret (v := x7) (ty := .boolean) hx hb hr (nb_ok ⟨by omega, by omega⟩) (fun t ht hW => ⟨⟨x7, (z5, y5), rfl, ⟨⟨by omega, by omega⟩, J5⟩, by rw [ht]; exact hP, va_K.moved hW.alike hK⟩, hS.F ht⟩) hS.2.2 dX3_isCounted_35
    · have t6 : r5.toInt ≠ (0 : Int) := gl_ne c6
      refine lv_aload_n hx hb dX3_isCounted_21 rfl (lv_at hl 0 rfl) ?_
      refine lv_aload_n hx hb dX3_isCounted_22 rfl (lv_at hl 1 rfl) ?_
      refine qc_Vv2 (As := [.ref (o + 104)]) (rest := []) (k0 := 1) (u_Fits_countAll l D ca o b z5 y5 J5) kc_yX3_countAll ⟨hx, hb, hml, hown, hts⟩ wq_633 rfl rfl ⟨Nat.le_of_ble_eq_true rfl, Nat.le_of_ble_eq_true rfl⟩ wq_all hP hK hS qw_Ai (q0 := 108) (by decide) (hgU_108 ca o _ _) rfl rfl hl.1 rfl (Nat.le_of_ble_eq_true rfl) dX3_isCounted_23 ⟨Nat.zero_le _, Nat.zero_le _⟩ (fun z8 y8 H locs h8 hP hS _ _ => ?_)
      have J8 : qJU b z8 := h8
      refine lv_aload_n hx hb dX3_isCounted_26 rfl (lv_at hl 0 rfl) ?_
      refine lv_iconst (v := 1) hx hb dX3_isCounted_27 (by decide) ?_
      refine qf_put2 hx hb hts inX3 tyX3 tyX3_ok nmX3 hown hK hP hS qw_Ai (q0 := 108) (by decide) (hgU_108 ca o) rfl 1 (by decide) wq_217 rfl (x := 1) 1 rfl rfl rfl (Nat.le_of_ble_eq_true rfl) dX3_isCounted_28 (fun z9 H locs hz9 hP hS => ?_)
      have J9 := jU_108_1 J8 hz9 ⟨by decide, by decide⟩
      refine lv_aload_n hx hb dX3_isCounted_31 rfl (lv_at hl 0 rfl) ?_
      refine qf_get hx hb hts inX3 hown hK hP (q0 := 108) (by decide) (hgU_108 ca o) rfl 1 (by decide) wq_217 (v := .int (z9 108 1)) rfl dX3_isCounted_32 ?_
      refine lv_topi (fun x10 e10 => ?_)
      have b10 := iU_108_1 J9 e10
      exact W.zret (v := x10) (ty := .boolean) hx hb hr (nb_ok ⟨by omega, by omega⟩) (fun t ht hW => ⟨⟨x10, (z9, y8), rfl, ⟨⟨by omega, by omega⟩, J9⟩, by rw [ht]; exact hP, va_K.moved hW.alike hK⟩, hS.F ht⟩) hS.2.2 dX3_isCounted_35
set_option maxRecDepth 100000 in
set_option maxHeartbeats 8000000 in
theorem u_Fits_of (l : Launch) (D : va_G) (ca : Nat → ClassId) (o : Nat) (b z : Nat → Nat → Int32) (y : Nat → Nat → Int64) (J0 : qJU b z) (a0 : Int32)  : qM l yX3_of cX3_of 2 (some .int) 1 60 (qPre D vwCl (qT6 ca) o 132 (qG (GU ca o) z y) [.ref (o + 108), .int a0]) (va_Qi (fun r (_ : Unit) => True) (qB D vwCl (qT6 ca) o 132 (fun _ : Unit => qG (GU ca o) z y)) (qw_A o 132)) (qw_A o 132) := by
  refine Met.ofW (cc := cX3_of) (maxL := 2) (ret := (some .int)) (by decide) rfl ?_
  intro p e s m args below meth c s₁ B hml hv
  obtain ⟨rfl, hP, hK⟩ := hv
  have hx := B.exec
  have hb := B.bytes
  have hr := B.returns
  have hts0 := atoms_spec (ws := Cond.code yX3_of cX3_of 2 (some .int) :: qtbl) B.pre
  have hts : ∀ w ∈ qtbl, w.before _ s = true := fun w h => hts0 w (List.mem_cons_of_mem _ h)
  have hown : s.vm.findClass RX3 = some m.cls := findClass_of_methodNamed B.named
  have hlocks := B.notSynchronized
  have hS : va_S (qw_A o 132) s.heap s.heap [] := va_S.rf
  have hl := lv_entry ([.ref (o + 108), .int a0]) (n := 2) (Nat.le_of_ble_eq_true rfl)
  rw [lg_entry_eq]
  generalize (lg_sl ([.ref (o + 108), .int a0]) ++ List.replicate (2 - (lg_sl ([.ref (o + 108), .int a0])).length) Slot.unset).toArray = ls at hl ⊢
  have hl : lv_has ls 2 [(0, .ref (o + 108)), (1, .int a0)] := hl
  refine lv_iload_n hx hb dX3_of_0 rfl (lv_at hl 1 rfl) ?_
  refine lv_if_lt (tgt := 20) hx hb dX3_of_1 (by decide) (fun c1 => ?_) (fun c1 => ?_)
  · have t1 : a0.toInt < (0 : Int) := gl_lt c1
    refine lv_iconst (v := 0) hx hb dX3_of_20 (by decide) ?_
    exact W.iret (v := 0) hx hb hr (fun t ht hW => ⟨⟨0, (), rfl, trivial, by rw [ht]; exact hP, va_K.moved hW.alike hK⟩, hS.F ht⟩) hS.2.2 dX3_of_21
  · have t1 : a0.toInt ≥ (0 : Int) := gl_nlt c1
    refine lv_iload_n hx hb dX3_of_4 rfl (lv_at hl 1 rfl) ?_
    refine lv_sipush (v := 1024) hx hb dX3_of_5 (by decide) ?_
    refine lv_icmp_ge (tgt := 20) hx hb dX3_of_8 (by decide) (fun c2 => ?_) (fun c2 => ?_)
    · have t2 : a0.toInt ≥ (1024 : Int) := gl_le c2
      refine lv_iconst (v := 0) hx hb dX3_of_20 (by decide) ?_
      exact W.iret (v := 0) hx hb hr (fun t ht hW => ⟨⟨0, (), rfl, trivial, by rw [ht]; exact hP, va_K.moved hW.alike hK⟩, hS.F ht⟩) hS.2.2 dX3_of_21
    · have t2 : a0.toInt < (1024 : Int) := gl_nle c2
      refine lv_aload_n hx hb dX3_of_11 rfl (lv_at hl 0 rfl) ?_
      refine qf_get hx hb hts inX3 hown hK hP (q0 := 108) (by decide) (hgU_108 ca o) rfl 0 (by decide) wq_216 (v := .ref (o + 109)) rfl dX3_of_12 ?_
      refine lv_iload_n hx hb dX3_of_15 rfl (lv_at hl 1 rfl) ?_
      refine qa_iald hx hb hK hP (q0 := 109) (by decide) 0 (N := 1024) (hgU_109 ca o) rfl (gi_in (by omega) (by omega)) dX3_of_16 ?_
      refine lv_topi (fun x3 e3 => ?_)
      refine lv_goto (tgt := 21) hx hb dX3_of_17 (by decide) ?_
      exact W.iret (v := x3) hx hb hr (fun t ht hW => ⟨⟨x3, (), rfl, trivial, by rw [ht]; exact hP, va_K.moved hW.alike hK⟩, hS.F ht⟩) hS.2.2 dX3_of_21
set_option maxRecDepth 100000 in
set_option maxHeartbeats 8000000 in
theorem u_Fits_allButOne (l : Launch) (D : va_G) (ca : Nat → ClassId) (o : Nat) (b z : Nat → Nat → Int32) (y : Nat → Nat → Int64) (J0 : qJU b z) (a0 : Int32)  : qM l yX3_allButOne cX3_allButOne 5 (some .int) 2 81 (qPre D vwCl (qT6 ca) o 132 (qG (GU ca o) z y) [.ref (o + 108), .int a0]) (va_Qi (fun r (_ : Unit) => True) (qB D vwCl (qT6 ca) o 132 (fun _ : Unit => qG (GU ca o) z y)) (qw_A o 132)) (qw_A o 132) := by
  refine Met.ofW (cc := cX3_allButOne) (maxL := 5) (ret := (some .int)) (by decide) rfl ?_
  intro p e s m args below meth c s₁ B hml hv
  obtain ⟨rfl, hP, hK⟩ := hv
  have hx := B.exec
  have hb := B.bytes
  have hr := B.returns
  have hts0 := atoms_spec (ws := Cond.code yX3_allButOne cX3_allButOne 5 (some .int) :: qtbl) B.pre
  have hts : ∀ w ∈ qtbl, w.before _ s = true := fun w h => hts0 w (List.mem_cons_of_mem _ h)
  have hown : s.vm.findClass RX3 = some m.cls := findClass_of_methodNamed B.named
  have hlocks := B.notSynchronized
  have hS : va_S (qw_A o 132) s.heap s.heap [] := va_S.rf
  have hl := lv_entry ([.ref (o + 108), .int a0]) (n := 5) (Nat.le_of_ble_eq_true rfl)
  rw [lg_entry_eq]
  generalize (lg_sl ([.ref (o + 108), .int a0]) ++ List.replicate (5 - (lg_sl ([.ref (o + 108), .int a0])).length) Slot.unset).toArray = ls at hl ⊢
  have hl : lv_has ls 5 [(0, .ref (o + 108)), (1, .int a0)] := hl
  refine lv_aload_n hx hb dX3_allButOne_0 rfl (lv_at hl 0 rfl) ?_
  refine lv_iload_n hx hb dX3_allButOne_1 rfl (lv_at hl 1 rfl) ?_
  refine qc_Vip (As := [.int a0]) (rest := []) (k0 := 1) (u_Fits_of l D ca o b z y J0 a0) kc_yX3_of ⟨hx, hb, hml, hown, hts⟩ wq_652 rfl rfl ⟨Nat.le_of_ble_eq_true rfl, Nat.le_of_ble_eq_true rfl⟩ wq_all hP hK hS qw_Ai (q0 := 108) (by decide) (hgU_108 ca o _ _) rfl rfl hl.1 rfl (Nat.le_of_ble_eq_true rfl) dX3_allButOne_2 ⟨Nat.zero_le _, Nat.zero_le _⟩ (fun r1 H locs h1 hP hS _ _ => ?_)
  refine lv_istore_n (lv' := [(2, .int r1), (0, .ref (o + 108)), (1, .int a0)]) hx hb dX3_allButOne_5 rfl hl (by decide) rfl (fun ls hl => ?_)
  refine lv_iload_n hx hb dX3_allButOne_6 rfl (lv_at hl 0 rfl) ?_
  refine lv_istore_n (lv' := [(3, .int r1), (2, .int r1), (0, .ref (o + 108)), (1, .int a0)]) hx hb dX3_allButOne_7 rfl hl (by decide) rfl (fun ls hl => ?_)
  refine lv_iconst (v := 0) hx hb dX3_allButOne_8 (by decide) ?_
  refine lv_istore (lv' := [(4, .int 0), (3, .int r1), (2, .int r1), (0, .ref (o + 108)), (1, .int a0)]) hx hb dX3_allButOne_9 hl (by decide) rfl (fun ls hl => ?_)
  have loop2 : ∀ (n : Nat) (w2_4 : Int32) (w2_3 : Int32), ((10 - w2_4.toInt : Int) < (n : Int)) → ((0 : Int) ≤ w2_4.toInt ∧ w2_4.toInt ≤ 10) → ∀ (H : Heap) (locs : List Loc), qw_P D vwCl o 132 (qG (GU ca o) z y) H → va_S (qw_A o 132) s.heap H locs → ∀ (ls : Array Slot), lv_has ls 5 [(4, .int w2_4), (3, .int w2_3), (2, .int r1), (0, .ref (o + 108)), (1, .int a0)] → W p l e (headSpec (Cond.code yX3_allButOne cX3_allButOne 5 (some .int) :: qtbl) ({ frames := 2, cells := 0, slots := 0, locals := 81 })).room s m (([.ref (o + 108), .int a0] : List Value).toArray) below meth c H locs 0 0 (MQ below (va_Qi (fun r (_ : Unit) => True) (qB D vwCl (qT6 ca) o 132 (fun _ : Unit => qG (GU ca o) z y)) (qw_A o 132)) (([.ref (o + 108), .int a0] : List Value).toArray) s 0 0 (qw_A o 132)) (F0 m 11 ls []) := by
    intro n
    induction n with
    | zero => intro w2_4 w2_3 hb2 hv2_4; exfalso; omega
    | succ n2 ih2 =>
      intro w2_4 w2_3 hb2 hv2_4 H locs hP hS ls hl
      refine lv_iload hx hb dX3_allButOne_11 (lv_at hl 0 rfl) ?_
      refine lv_bipush (v := 10) hx hb dX3_allButOne_13 (by decide) ?_
      refine lv_icmp_ge (tgt := 50) hx hb dX3_allButOne_15 (by decide) (fun c3 => ?_) (fun c3 => ?_)
      · have t3 : w2_4.toInt ≥ (10 : Int) := gl_le c3
        refine lv_iload_n hx hb dX3_allButOne_50 rfl (lv_at hl 1 rfl) ?_
        exact W.iret (v := w2_3) hx hb hr (fun t ht hW => ⟨⟨w2_3, (), rfl, trivial, by rw [ht]; exact hP, va_K.moved hW.alike hK⟩, hS.F ht⟩) hS.2.2 dX3_allButOne_51
      · have t3 : w2_4.toInt < (10 : Int) := gl_nle c3
        refine lv_iload_n hx hb dX3_allButOne_18 rfl (lv_at hl 4 rfl) ?_
        refine lv_iload hx hb dX3_allButOne_19 (lv_at hl 0 rfl) ?_
        refine lv_ishr hx hb dX3_allButOne_21 ?_
        refine lv_topi (fun x4 e4 => ?_)
        refine lv_iconst (v := 1) hx hb dX3_allButOne_22 (by decide) ?_
        refine lv_iand hx hb dX3_allButOne_23 ?_
        refine lv_topi (fun x5 e5 => ?_)
        have t5 : 0 ≤ x5.toInt ∧ x5.toInt ≤ (1 : Int) := ga_and e5 rfl (by omega)
        refine lv_if_eq (tgt := 44) hx hb dX3_allButOne_24 (by decide) (fun c6 => ?_) (fun c6 => ?_)
        · have t6 : x5.toInt = (0 : Int) := gl_eq c6
          obtain ⟨x7, e7⟩ : ∃ t : Int32, t = w2_4 + 1 := ⟨_, rfl⟩
          refine lv_iinc (v := x7) (lv' := [(4, .int x7), (3, .int w2_3), (2, .int r1), (0, .ref (o + 108)), (1, .int a0)]) hx hb dX3_allButOne_44 hl (k := 0) rfl (by rw [e7]; rfl) (by decide) rfl (fun ls hl => ?_)
          have t7 : x7.toInt = w2_4.toInt + (1 : Int) := ga_add e7 rfl rfl (by omega) (by omega)
          refine lv_goto (tgt := 11) hx hb dX3_allButOne_47 (by decide) ?_
          exact ih2 x7 w2_3 (show (10 - x7.toInt : Int) < (n2 : Int) from by omega) ⟨by omega, by omega⟩ _ _ hP hS _ (lv_sub hl [0, 1, 2, 3, 4] rfl)
        · have t6 : x5.toInt ≠ (0 : Int) := gl_ne c6
          refine lv_iload_n hx hb dX3_allButOne_27 rfl (lv_at hl 1 rfl) ?_
          refine lv_aload_n hx hb dX3_allButOne_28 rfl (lv_at hl 3 rfl) ?_
          refine lv_iload_n hx hb dX3_allButOne_29 rfl (lv_at hl 4 rfl) ?_
          refine lv_iconst (v := 1) hx hb dX3_allButOne_30 (by decide) ?_
          refine lv_iload hx hb dX3_allButOne_31 (lv_at hl 0 rfl) ?_
          refine lv_ishl hx hb dX3_allButOne_33 ?_
          refine lv_topi (fun x8 e8 => ?_)
          have t8 : 1 ≤ x8.toInt ∧ x8.toInt ≤ 512 := ga_shl 9 512 e8 (by decide) (by decide) (by omega) (by omega)
          refine lv_iconst (v := (-1)) hx hb dX3_allButOne_34 (by decide) ?_
          refine lv_ixor hx hb dX3_allButOne_35 ?_
          refine lv_topi (fun x9 e9 => ?_)
          refine lv_iand hx hb dX3_allButOne_36 ?_
          refine lv_topi (fun x10 e10 => ?_)
          refine qc_Vip (As := [.int x10]) (rest := [.int w2_3]) (k0 := 1) (u_Fits_of l D ca o b z y J0 x10) kc_yX3_of ⟨hx, hb, hml, hown, hts⟩ wq_652 rfl rfl ⟨Nat.le_of_ble_eq_true rfl, Nat.le_of_ble_eq_true rfl⟩ wq_all hP hK hS qw_Ai (q0 := 108) (by decide) (hgU_108 ca o _ _) rfl rfl hl.1 rfl (Nat.le_of_ble_eq_true rfl) dX3_allButOne_37 ⟨Nat.zero_le _, Nat.zero_le _⟩ (fun r11 H locs h11 hP hS _ _ => ?_)
          refine lv_iload_n hx hb dX3_allButOne_40 rfl (lv_at hl 2 rfl) ?_
          refine lv_isub hx hb dX3_allButOne_41 ?_
          refine lv_topi (fun x12 e12 => ?_)
          refine lv_iadd hx hb dX3_allButOne_42 ?_
          refine lv_topi (fun x13 e13 => ?_)
          refine lv_istore_n (lv' := [(3, .int x13), (4, .int w2_4), (2, .int r1), (0, .ref (o + 108)), (1, .int a0)]) hx hb dX3_allButOne_43 rfl hl (by decide) rfl (fun ls hl => ?_)
          obtain ⟨x14, e14⟩ : ∃ t : Int32, t = w2_4 + 1 := ⟨_, rfl⟩
          refine lv_iinc (v := x14) (lv' := [(4, .int x14), (3, .int x13), (2, .int r1), (0, .ref (o + 108)), (1, .int a0)]) hx hb dX3_allButOne_44 hl (k := 1) rfl (by rw [e14]; rfl) (by decide) rfl (fun ls hl => ?_)
          have t14 : x14.toInt = w2_4.toInt + (1 : Int) := ga_add e14 rfl rfl (by omega) (by omega)
          refine lv_goto (tgt := 11) hx hb dX3_allButOne_47 (by decide) ?_
          exact ih2 x14 x13 (show (10 - x14.toInt : Int) < (n2 : Int) from by omega) ⟨by omega, by omega⟩ _ _ hP hS _ (lv_sub hl [0, 1, 2, 3, 4] rfl)
  exact loop2 11 0 r1 (show (10 - (0 : Int) : Int) < ((11 : Nat) : Int) from by omega) ⟨by decide, by decide⟩ _ _ hP hS _ (lv_sub hl [0, 1, 2, 3, 4] rfl)
set_option maxRecDepth 100000 in
set_option maxHeartbeats 8000000 in
theorem u_Rows_allHold (l : Launch) (D : va_G) (ca : Nat → ClassId) (o : Nat) (b z : Nat → Nat → Int32) (y : Nat → Nat → Int64) (J0 : qJU b z)   : qM l yX7_allHold cX7_allHold 2 (some .boolean) 2 81 (qPre D vwCl (qT6 ca) o 132 (qG (GU ca o) z y) [.ref (o + 104)]) (va_Qi (fun r (_ : Unit) => ((0 : Int) ≤ r.toInt ∧ r.toInt ≤ 1)) (qB D vwCl (qT6 ca) o 132 (fun _ : Unit => qG (GU ca o) z y)) (qw_A o 132)) (qw_A o 132) := by
  refine Met.ofW (cc := cX7_allHold) (maxL := 2) (ret := (some .boolean)) (by decide) rfl ?_
  intro p e s m args below meth c s₁ B hml hv
  obtain ⟨rfl, hP, hK⟩ := hv
  have hx := B.exec
  have hb := B.bytes
  have hr := B.returns
  have hts0 := atoms_spec (ws := Cond.code yX7_allHold cX7_allHold 2 (some .boolean) :: qtbl) B.pre
  have hts : ∀ w ∈ qtbl, w.before _ s = true := fun w h => hts0 w (List.mem_cons_of_mem _ h)
  have hown : s.vm.findClass RX7 = some m.cls := findClass_of_methodNamed B.named
  have hlocks := B.notSynchronized
  have hS : va_S (qw_A o 132) s.heap s.heap [] := va_S.rf
  have hl := lv_entry ([.ref (o + 104)]) (n := 2) (Nat.le_of_ble_eq_true rfl)
  rw [lg_entry_eq]
  generalize (lg_sl ([.ref (o + 104)]) ++ List.replicate (2 - (lg_sl ([.ref (o + 104)])).length) Slot.unset).toArray = ls at hl ⊢
  have hl : lv_has ls 2 [(0, .ref (o + 104))] := hl
  refine lv_iconst (v := 0) hx hb dX7_allHold_0 (by decide) ?_
  refine lv_istore_n (lv' := [(1, .int 0), (0, .ref (o + 104))]) hx hb dX7_allHold_1 rfl hl (by decide) rfl (fun ls hl => ?_)
  have loop1 : ∀ (n : Nat) (w1_1 : Int32), ((10 - w1_1.toInt : Int) < (n : Int)) → ((0 : Int) ≤ w1_1.toInt ∧ w1_1.toInt ≤ 10) → ∀ (H : Heap) (locs : List Loc), qw_P D vwCl o 132 (qG (GU ca o) z y) H → va_S (qw_A o 132) s.heap H locs → ∀ (ls : Array Slot), lv_has ls 2 [(1, .int w1_1), (0, .ref (o + 104))] → W p l e (headSpec (Cond.code yX7_allHold cX7_allHold 2 (some .boolean) :: qtbl) ({ frames := 2, cells := 0, slots := 0, locals := 81 })).room s m (([.ref (o + 104)] : List Value).toArray) below meth c H locs 0 0 (MQ below (va_Qi (fun r (_ : Unit) => ((0 : Int) ≤ r.toInt ∧ r.toInt ≤ 1)) (qB D vwCl (qT6 ca) o 132 (fun _ : Unit => qG (GU ca o) z y)) (qw_A o 132)) (([.ref (o + 104)] : List Value).toArray) s 0 0 (qw_A o 132)) (F0 m 2 ls []) := by
    intro n
    induction n with
    | zero => intro w1_1 hb1 hv1_1; exfalso; omega
    | succ n1 ih1 =>
      intro w1_1 hb1 hv1_1 H locs hP hS ls hl
      refine lv_iload_n hx hb dX7_allHold_2 rfl (lv_at hl 0 rfl) ?_
      refine lv_aload_n hx hb dX7_allHold_3 rfl (lv_at hl 1 rfl) ?_
      refine qf_get hx hb hts inX7 hown hK hP (q0 := 104) (by decide) (hgU_104 ca o) rfl 4 (by decide) wq_192 (v := .int (z 104 4)) rfl dX7_allHold_4 ?_
      refine lv_topi (fun x2 e2 => ?_)
      have b2 := iU_104_4 J0 e2
      refine lv_icmp_ge (tgt := 44) hx hb dX7_allHold_7 (by decide) (fun c3 => ?_) (fun c3 => ?_)
      · have t3 : w1_1.toInt ≥ x2.toInt := gl_le c3
        refine lv_iconst (v := 1) hx hb dX7_allHold_44 (by decide) ?_
        exact W.zret (v := 1) (ty := .boolean) hx hb hr rfl (fun t ht hW => ⟨⟨1, (), rfl, ⟨by decide, by decide⟩, by rw [ht]; exact hP, va_K.moved hW.alike hK⟩, hS.F ht⟩) hS.2.2 dX7_allHold_45
      · have t3 : w1_1.toInt < x2.toInt := gl_nle c3
        refine lv_aload_n hx hb dX7_allHold_10 rfl (lv_at hl 1 rfl) ?_
        refine qf_get hx hb hts inX7 hown hK hP (q0 := 104) (by decide) (hgU_104 ca o) rfl 0 (by decide) wq_185 (v := .ref (o + 1)) rfl dX7_allHold_11 ?_
        refine qf_get hx hb hts inX9 hown hK hP (q0 := 1) (by decide) (hgU_1 ca o) rfl 4 (by decide) wq_95 (v := .ref (o + 6)) rfl dX7_allHold_14 ?_
        refine lv_aload_n hx hb dX7_allHold_17 rfl (lv_at hl 1 rfl) ?_
        refine qf_get hx hb hts inX7 hown hK hP (q0 := 104) (by decide) (hgU_104 ca o) rfl 2 (by decide) wq_190 (v := .ref (o + 106)) rfl dX7_allHold_18 ?_
        refine lv_iload_n hx hb dX7_allHold_21 rfl (lv_at hl 0 rfl) ?_
        refine qa_iald hx hb hK hP (q0 := 106) (by decide) 0 (N := 10) (hgU_106 ca o) rfl (gi_in (by omega) (by omega)) dX7_allHold_22 ?_
        refine lv_topi (fun x4 e4 => ?_)
        have b4 := iU_106 J0 e4
        have hi_x4 : x4.toNatClampNeg < 16 := ga_nat (by omega) (show _ < (16 : Int) from by omega)
        refine qa_aald hx hb hK hP (q0 := 6) (by decide) 4 rfl (N := 16) (hgU_6 ca o) rfl (gi_in (by omega) (by omega)) dX7_allHold_23 ?_
        refine lv_aload_n hx hb dX7_allHold_24 rfl (lv_at hl 1 rfl) ?_
        refine qf_get hx hb hts inX7 hown hK hP (q0 := 104) (by decide) (hgU_104 ca o) rfl 3 (by decide) wq_191 (v := .ref (o + 107)) rfl dX7_allHold_25 ?_
        refine lv_iload_n hx hb dX7_allHold_28 rfl (lv_at hl 0 rfl) ?_
        refine qa_iald hx hb hK hP (q0 := 107) (by decide) 0 (N := 10) (hgU_107 ca o) rfl (gi_in (by omega) (by omega)) dX7_allHold_29 ?_
        refine lv_topi (fun x5 e5 => ?_)
        refine qc_Vip (As := [.int x5]) (rest := []) (k0 := 1) (u_Line_holds l D ca o b z y J0 (i0_ := x4.toNatClampNeg) hi_x4 x5) kc_yX5_holds ⟨hx, hb, hml, hown, hts⟩ wq_623 rfl rfl ⟨Nat.le_of_ble_eq_true rfl, Nat.le_of_ble_eq_true rfl⟩ wq_all hP hK hS qw_Ai (q0 := 7 + 2 * x4.toNatClampNeg) (show _ < _ from by have := hi_x4; omega) (hgU_LT ca o hi_x4 _ _) rfl rfl hl.1 rfl (Nat.le_of_ble_eq_true rfl) dX7_allHold_30 ⟨Nat.zero_le _, Nat.zero_le _⟩ (fun r6 H locs h6 hP hS _ _ => ?_)
        have b6 : (0 : Int) ≤ r6.toInt ∧ r6.toInt ≤ 1 := h6
        refine lv_if_ne (tgt := 38) hx hb dX7_allHold_33 (by decide) (fun c7 => ?_) (fun c7 => ?_)
        · have t7 : r6.toInt ≠ (0 : Int) := gl_ne c7
          obtain ⟨x8, e8⟩ : ∃ t : Int32, t = w1_1 + 1 := ⟨_, rfl⟩
          refine lv_iinc (v := x8) (lv' := [(1, .int x8), (0, .ref (o + 104))]) hx hb dX7_allHold_38 hl (k := 0) rfl (by rw [e8]; rfl) (by decide) rfl (fun ls hl => ?_)
          have t8 : x8.toInt = w1_1.toInt + (1 : Int) := ga_add e8 rfl rfl (by omega) (by omega)
          refine lv_goto (tgt := 2) hx hb dX7_allHold_41 (by decide) ?_
          exact ih1 x8 (show (10 - x8.toInt : Int) < (n1 : Int) from by omega) ⟨by omega, by omega⟩ _ _ hP hS _ (lv_sub hl [0, 1] rfl)
        · have t7 : r6.toInt = (0 : Int) := gl_eq c7
          refine lv_iconst (v := 0) hx hb dX7_allHold_36 (by decide) ?_
          exact W.zret (v := 0) (ty := .boolean) hx hb hr rfl (fun t ht hW => ⟨⟨0, (), rfl, ⟨by decide, by decide⟩, by rw [ht]; exact hP, va_K.moved hW.alike hK⟩, hS.F ht⟩) hS.2.2 dX7_allHold_37
  exact loop1 11 0 (show (10 - (0 : Int) : Int) < ((11 : Nat) : Int) from by omega) ⟨by decide, by decide⟩ _ _ hP hS _ (lv_sub hl [0, 1] rfl)
set_option maxRecDepth 100000 in
set_option maxHeartbeats 8000000 in
theorem u_Rows_next (l : Launch) (D : va_G) (ca : Nat → ClassId) (o : Nat) (b z : Nat → Nat → Int32) (y : Nat → Nat → Int64) (J0 : qJU b z)   : qM l yX7_next cX7_next 2 (some .boolean) 4 124 (qPre D vwCl (qT6 ca) o 132 (qG (GU ca o) z y) [.ref (o + 104)]) (va_Qi (fun r u => ((0 : Int) ≤ r.toInt ∧ r.toInt ≤ 1) ∧ qJU b u.1) (qB D vwCl (qT6 ca) o 132 (fun u : qZ => qG (GU ca o) u.1 u.2)) (qw_A o 132)) (qw_A o 132) := by
  refine Met.ofW (cc := cX7_next) (maxL := 2) (ret := (some .boolean)) (by decide) rfl ?_
  intro p e s m args below meth c s₁ B hml hv
  obtain ⟨rfl, hP, hK⟩ := hv
  have hx := B.exec
  have hb := B.bytes
  have hr := B.returns
  have hts0 := atoms_spec (ws := Cond.code yX7_next cX7_next 2 (some .boolean) :: qtbl) B.pre
  have hts : ∀ w ∈ qtbl, w.before _ s = true := fun w h => hts0 w (List.mem_cons_of_mem _ h)
  have hown : s.vm.findClass RX7 = some m.cls := findClass_of_methodNamed B.named
  have hlocks := B.notSynchronized
  have hS : va_S (qw_A o 132) s.heap s.heap [] := va_S.rf
  have hl := lv_entry ([.ref (o + 104)]) (n := 2) (Nat.le_of_ble_eq_true rfl)
  rw [lg_entry_eq]
  generalize (lg_sl ([.ref (o + 104)]) ++ List.replicate (2 - (lg_sl ([.ref (o + 104)])).length) Slot.unset).toArray = ls at hl ⊢
  have hl : lv_has ls 2 [(0, .ref (o + 104))] := hl
  refine lv_iconst (v := 0) hx hb dX7_next_0 (by decide) ?_
  refine lv_istore_n (lv' := [(1, .int 0), (0, .ref (o + 104))]) hx hb dX7_next_1 rfl hl (by decide) rfl (fun ls hl => ?_)
  have loop1 : ∀ (n : Nat) (w1_1 : Int32) (z1 : Nat → Nat → Int32) (y1 : Nat → Nat → Int64), ((200000 - w1_1.toInt : Int) < (n : Int)) → ((0 : Int) ≤ w1_1.toInt ∧ w1_1.toInt ≤ 200000) → (qJU b z1) → ∀ (H : Heap) (locs : List Loc), qw_P D vwCl o 132 (qG (GU ca o) z1 y1) H → va_S (qw_A o 132) s.heap H locs → ∀ (ls : Array Slot), lv_has ls 2 [(1, .int w1_1), (0, .ref (o + 104))] → W p l e (headSpec (Cond.code yX7_next cX7_next 2 (some .boolean) :: qtbl) ({ frames := 4, cells := 0, slots := 0, locals := 124 })).room s m (([.ref (o + 104)] : List Value).toArray) below meth c H locs 0 0 (MQ below (va_Qi (fun r u => ((0 : Int) ≤ r.toInt ∧ r.toInt ≤ 1) ∧ qJU b u.1) (qB D vwCl (qT6 ca) o 132 (fun u : qZ => qG (GU ca o) u.1 u.2)) (qw_A o 132)) (([.ref (o + 104)] : List Value).toArray) s 0 0 (qw_A o 132)) (F0 m 2 ls []) := by
    intro n
    induction n with
    | zero => intro w1_1 z1 y1 hb1 hv1_1 J1; exfalso; omega
    | succ n1 ih1 =>
      intro w1_1 z1 y1 hb1 hv1_1 J1 H locs hP hS ls hl
      refine lv_iload_n hx hb dX7_next_2 rfl (lv_at hl 0 rfl) ?_
      refine lv_ldc (v := 200000) hx hb hown (hts _ wq_606) dX7_next_3 ?_
      refine lv_icmp_ge (tgt := 30) hx hb dX7_next_5 (by decide) (fun c2 => ?_) (fun c2 => ?_)
      · have t2 : w1_1.toInt ≥ (200000 : Int) := gl_le c2
        refine lv_iconst (v := 0) hx hb dX7_next_30 (by decide) ?_
        exact W.zret (v := 0) (ty := .boolean) hx hb hr rfl (fun t ht hW => ⟨⟨0, (z1, y1), rfl, ⟨⟨by decide, by decide⟩, J1⟩, by rw [ht]; exact hP, va_K.moved hW.alike hK⟩, hS.F ht⟩) hS.2.2 dX7_next_31
      · have t2 : w1_1.toInt < (200000 : Int) := gl_nle c2
        refine lv_aload_n hx hb dX7_next_8 rfl (lv_at hl 1 rfl) ?_
        refine qc_Vi2 (As := []) (rest := []) (k0 := 0) (u_Rows_move l D ca o b z1 y1 J1) kc_yX7_move ⟨hx, hb, hml, hown, hts⟩ wq_607 rfl rfl ⟨Nat.le_of_ble_eq_true rfl, Nat.le_of_ble_eq_true rfl⟩ wq_all hP hK hS qw_Ai (q0 := 104) (by decide) (hgU_104 ca o _ _) rfl rfl hl.1 rfl (Nat.le_of_ble_eq_true rfl) dX7_next_9 ⟨Nat.zero_le _, Nat.zero_le _⟩ (fun r3 z3 y3 H locs h3 hP hS _ _ => ?_)
        have J3 : qJU b z3 := h3.2
        have b3 : (0 : Int) ≤ r3.toInt ∧ r3.toInt ≤ 1 := h3.1
        refine lv_if_eq (tgt := 30) hx hb dX7_next_12 (by decide) (fun c4 => ?_) (fun c4 => ?_)
        · have t4 : r3.toInt = (0 : Int) := gl_eq c4
          refine lv_iconst (v := 0) hx hb dX7_next_30 (by decide) ?_
          exact W.zret (v := 0) (ty := .boolean) hx hb hr rfl (fun t ht hW => ⟨⟨0, (z3, y3), rfl, ⟨⟨by decide, by decide⟩, J3⟩, by rw [ht]; exact hP, va_K.moved hW.alike hK⟩, hS.F ht⟩) hS.2.2 dX7_next_31
        · have t4 : r3.toInt ≠ (0 : Int) := gl_ne c4
          refine lv_aload_n hx hb dX7_next_15 rfl (lv_at hl 1 rfl) ?_
          refine qc_Vip (As := []) (rest := []) (k0 := 0) (u_Rows_allHold l D ca o b z3 y3 J3) kc_yX7_allHold ⟨hx, hb, hml, hown, hts⟩ wq_619 rfl rfl ⟨Nat.le_of_ble_eq_true rfl, Nat.le_of_ble_eq_true rfl⟩ wq_all hP hK hS qw_Ai (q0 := 104) (by decide) (hgU_104 ca o _ _) rfl rfl hl.1 rfl (Nat.le_of_ble_eq_true rfl) dX7_next_16 ⟨Nat.zero_le _, Nat.zero_le _⟩ (fun r5 H locs h5 hP hS _ _ => ?_)
          have b5 : (0 : Int) ≤ r5.toInt ∧ r5.toInt ≤ 1 := h5
          refine lv_if_eq (tgt := 24) hx hb dX7_next_19 (by decide) (fun c6 => ?_) (fun c6 => ?_)
          · have t6 : r5.toInt = (0 : Int) := gl_eq c6
            obtain ⟨x7, e7⟩ : ∃ t : Int32, t = w1_1 + 1 := ⟨_, rfl⟩
            refine lv_iinc (v := x7) (lv' := [(1, .int x7), (0, .ref (o + 104))]) hx hb dX7_next_24 hl (k := 0) rfl (by rw [e7]; rfl) (by decide) rfl (fun ls hl => ?_)
            have t7 : x7.toInt = w1_1.toInt + (1 : Int) := ga_add e7 rfl rfl (by omega) (by omega)
            refine lv_goto (tgt := 2) hx hb dX7_next_27 (by decide) ?_
            exact ih1 x7 z3 y3 (show (200000 - x7.toInt : Int) < (n1 : Int) from by omega) ⟨by omega, by omega⟩ J3 _ _ hP hS _ (lv_sub hl [0, 1] rfl)
          · have t6 : r5.toInt ≠ (0 : Int) := gl_ne c6
            refine lv_iconst (v := 1) hx hb dX7_next_22 (by decide) ?_
            exact W.zret (v := 1) (ty := .boolean) hx hb hr rfl (fun t ht hW => ⟨⟨1, (z3, y3), rfl, ⟨⟨by decide, by decide⟩, J3⟩, by rw [ht]; exact hP, va_K.moved hW.alike hK⟩, hS.F ht⟩) hS.2.2 dX7_next_23
  exact loop1 200001 0 z y (show (200000 - (0 : Int) : Int) < ((200001 : Nat) : Int) from by omega) ⟨by decide, by decide⟩ J0 _ _ hP hS _ (lv_sub hl [0, 1] rfl)
set_option maxRecDepth 100000 in
set_option maxHeartbeats 8000000 in
theorem u_Rows_seek (l : Launch) (D : va_G) (ca : Nat → ClassId) (o : Nat) (b z : Nat → Nat → Int32) (y : Nat → Nat → Int64) (J0 : qJU b z) (a0 : Int32)  : qM l yX7_seek cX7_seek 2 (some .int) 5 145 (qPre D vwCl (qT6 ca) o 132 (qG (GU ca o) z y) [.ref (o + 104), .int a0]) (va_Qi (fun r u => ((-3 : Int) ≤ r.toInt ∧ r.toInt ≤ 0) ∧ qJU b u.1) (qB D vwCl (qT6 ca) o 132 (fun u : qZ => qG (GU ca o) u.1 u.2)) (qw_A o 132)) (qw_A o 132) := by
  refine Met.ofW (cc := cX7_seek) (maxL := 2) (ret := (some .int)) (by decide) rfl ?_
  intro p e s m args below meth c s₁ B hml hv
  obtain ⟨rfl, hP, hK⟩ := hv
  have hx := B.exec
  have hb := B.bytes
  have hr := B.returns
  have hts0 := atoms_spec (ws := Cond.code yX7_seek cX7_seek 2 (some .int) :: qtbl) B.pre
  have hts : ∀ w ∈ qtbl, w.before _ s = true := fun w h => hts0 w (List.mem_cons_of_mem _ h)
  have hown : s.vm.findClass RX7 = some m.cls := findClass_of_methodNamed B.named
  have hlocks := B.notSynchronized
  have hS : va_S (qw_A o 132) s.heap s.heap [] := va_S.rf
  have hl := lv_entry ([.ref (o + 104), .int a0]) (n := 2) (Nat.le_of_ble_eq_true rfl)
  rw [lg_entry_eq]
  generalize (lg_sl ([.ref (o + 104), .int a0]) ++ List.replicate (2 - (lg_sl ([.ref (o + 104), .int a0])).length) Slot.unset).toArray = ls at hl ⊢
  have hl : lv_has ls 2 [(0, .ref (o + 104)), (1, .int a0)] := hl
  refine lv_aload_n hx hb dX7_seek_0 rfl (lv_at hl 0 rfl) ?_
  refine lv_iload_n hx hb dX7_seek_1 rfl (lv_at hl 1 rfl) ?_
  refine qc_Vi2 (As := [.int a0]) (rest := []) (k0 := 1) (u_Rows_start l D ca o b z y J0 a0) kc_yX7_start ⟨hx, hb, hml, hown, hts⟩ wq_591 rfl rfl ⟨Nat.le_of_ble_eq_true rfl, Nat.le_of_ble_eq_true rfl⟩ wq_all hP hK hS qw_Ai (q0 := 104) (by decide) (hgU_104 ca o _ _) rfl rfl hl.1 rfl (Nat.le_of_ble_eq_true rfl) dX7_seek_2 ⟨Nat.zero_le _, Nat.zero_le _⟩ (fun r1 z1 y1 H locs h1 hP hS _ _ => ?_)
  have J1 : qJU b z1 := h1.2
  have b1 : (0 : Int) ≤ r1.toInt ∧ r1.toInt ≤ 1 := h1.1
  refine lv_if_ne (tgt := 11) hx hb dX7_seek_5 (by decide) (fun c2 => ?_) (fun c2 => ?_)
  · have t2 : r1.toInt ≠ (0 : Int) := gl_ne c2
    refine lv_aload_n hx hb dX7_seek_11 rfl (lv_at hl 0 rfl) ?_
    refine qc_Vi2 (As := []) (rest := []) (k0 := 0) (u_Rows_next l D ca o b z1 y1 J1) kc_yX7_next ⟨hx, hb, hml, hown, hts⟩ wq_602 rfl rfl ⟨Nat.le_of_ble_eq_true rfl, Nat.le_of_ble_eq_true rfl⟩ wq_all hP hK hS qw_Ai (q0 := 104) (by decide) (hgU_104 ca o _ _) rfl rfl hl.1 rfl (Nat.le_of_ble_eq_true rfl) dX7_seek_12 ⟨Nat.zero_le _, Nat.zero_le _⟩ (fun r3 z3 y3 H locs h3 hP hS _ _ => ?_)
    have J3 : qJU b z3 := h3.2
    have b3 : (0 : Int) ≤ r3.toInt ∧ r3.toInt ≤ 1 := h3.1
    refine lv_if_eq (tgt := 22) hx hb dX7_seek_15 (by decide) (fun c4 => ?_) (fun c4 => ?_)
    · have t4 : r3.toInt = (0 : Int) := gl_eq c4
      refine lv_bipush (v := (-2)) hx hb dX7_seek_22 (by decide) ?_
      exact W.iret (v := (-2)) hx hb hr (fun t ht hW => ⟨⟨(-2), (z3, y3), rfl, ⟨⟨by decide, by decide⟩, J3⟩, by rw [ht]; exact hP, va_K.moved hW.alike hK⟩, hS.F ht⟩) hS.2.2 dX7_seek_24
    · have t4 : r3.toInt ≠ (0 : Int) := gl_ne c4
      refine lv_iconst (v := 0) hx hb dX7_seek_18 (by decide) ?_
      refine lv_goto (tgt := 24) hx hb dX7_seek_19 (by decide) ?_
      exact W.iret (v := 0) hx hb hr (fun t ht hW => ⟨⟨0, (z3, y3), rfl, ⟨⟨by decide, by decide⟩, J3⟩, by rw [ht]; exact hP, va_K.moved hW.alike hK⟩, hS.F ht⟩) hS.2.2 dX7_seek_24
  · have t2 : r1.toInt = (0 : Int) := gl_eq c2
    refine lv_bipush (v := (-3)) hx hb dX7_seek_8 (by decide) ?_
    exact W.iret (v := (-3)) hx hb hr (fun t ht hW => ⟨⟨(-3), (z1, y1), rfl, ⟨⟨by decide, by decide⟩, J1⟩, by rw [ht]; exact hP, va_K.moved hW.alike hK⟩, hS.F ht⟩) hS.2.2 dX7_seek_10
set_option maxRecDepth 100000 in
set_option maxHeartbeats 8000000 in
theorem u_fit (l : Launch) (D : va_G) (ca : Nat → ClassId) (o : Nat) (b z : Nat → Nat → Int32) (y : Nat → Nat → Int64) (J0 : qJU b z) (a0 : Int32) (a1 : Int32)  : qM l yX10_fit cX10_fit 4 (some .int) 6 169 (qPre D vwCl (qT6 ca) o 132 (qG (GU ca o) z y) [.ref (o + 0), .int a0, .int a1]) (va_Qi (fun r u => True ∧ qJU b u.1) (qB D vwCl (qT6 ca) o 132 (fun u : qZ => qG (GU ca o) u.1 u.2)) (qw_A o 132)) (qw_A o 132) := by
  refine Met.ofW (cc := cX10_fit) (maxL := 4) (ret := (some .int)) (by decide) rfl ?_
  intro p e s m args below meth c s₁ B hml hv
  obtain ⟨rfl, hP, hK⟩ := hv
  have hx := B.exec
  have hb := B.bytes
  have hr := B.returns
  have hts0 := atoms_spec (ws := Cond.code yX10_fit cX10_fit 4 (some .int) :: qtbl) B.pre
  have hts : ∀ w ∈ qtbl, w.before _ s = true := fun w h => hts0 w (List.mem_cons_of_mem _ h)
  have hown : s.vm.findClass RX10 = some m.cls := findClass_of_methodNamed B.named
  have hlocks := B.notSynchronized
  have hS : va_S (qw_A o 132) s.heap s.heap [] := va_S.rf
  have hl := lv_entry ([.ref (o + 0), .int a0, .int a1]) (n := 4) (Nat.le_of_ble_eq_true rfl)
  rw [lg_entry_eq]
  generalize (lg_sl ([.ref (o + 0), .int a0, .int a1]) ++ List.replicate (4 - (lg_sl ([.ref (o + 0), .int a0, .int a1])).length) Slot.unset).toArray = ls at hl ⊢
  have hl : lv_has ls 4 [(0, .ref (o + 0)), (1, .int a0), (2, .int a1)] := hl
  refine lv_aload_n hx hb dX10_fit_0 rfl (lv_at hl 0 rfl) ?_
  refine lv_iload_n hx hb dX10_fit_1 rfl (lv_at hl 1 rfl) ?_
  refine qc_Vip (As := [.int a0]) (rest := []) (k0 := 1) (u_areRemarks l D ca o b z y J0 a0) kc_yX10_areRemarks ⟨hx, hb, hml, hown, hts⟩ wq_583 rfl rfl ⟨Nat.le_of_ble_eq_true rfl, Nat.le_of_ble_eq_true rfl⟩ wq_all hP hK hS qw_Ai (q0 := 0) (by decide) (hgU_0 ca o _ _) rfl rfl hl.1 rfl (Nat.le_of_ble_eq_true rfl) dX10_fit_2 ⟨Nat.zero_le _, Nat.zero_le _⟩ (fun r1 H locs h1 hP hS _ _ => ?_)
  have b1 : (0 : Int) ≤ r1.toInt ∧ r1.toInt ≤ 1 := h1
  refine lv_if_eq (tgt := 31) hx hb dX10_fit_5 (by decide) (fun c2 => ?_) (fun c2 => ?_)
  · have t2 : r1.toInt = (0 : Int) := gl_eq c2
    refine lv_iconst (v := (-1)) hx hb dX10_fit_31 (by decide) ?_
    exact W.iret (v := (-1)) hx hb hr (fun t ht hW => ⟨⟨(-1), (z, y), rfl, ⟨trivial, J0⟩, by rw [ht]; exact hP, va_K.moved hW.alike hK⟩, hS.F ht⟩) hS.2.2 dX10_fit_32
  · have t2 : r1.toInt ≠ (0 : Int) := gl_ne c2
    refine lv_iload_n hx hb dX10_fit_8 rfl (lv_at hl 2 rfl) ?_
    refine lv_bipush (v := 100) hx hb dX10_fit_9 (by decide) ?_
    refine lv_icmp_eq (tgt := 33) hx hb dX10_fit_11 (by decide) (fun c3 => ?_) (fun c3 => ?_)
    · have t3 : a1.toInt = (100 : Int) := gl_eq c3
      refine lv_iload_n hx hb dX10_fit_33 rfl (lv_at hl 2 rfl) ?_
      refine lv_bipush (v := 6) hx hb dX10_fit_34 (by decide) ?_
      refine lv_icmp_ge (tgt := 66) hx hb dX10_fit_36 (by decide) (fun c4 => ?_) (fun c4 => ?_)
      · have t4 : a1.toInt ≥ (6 : Int) := gl_le c4
        refine lv_aload_n hx hb dX10_fit_66 rfl (lv_at hl 0 rfl) ?_
        refine qf_get hx hb hts inX10 hown hK hP (q0 := 0) (by decide) (hgU_0 ca o) rfl 7 (by decide) wq_360 (v := .ref (o + 108)) rfl dX10_fit_67 ?_
        refine lv_aload_n hx hb dX10_fit_70 rfl (lv_at hl 0 rfl) ?_
        refine qf_get hx hb hts inX10 hown hK hP (q0 := 0) (by decide) (hgU_0 ca o) rfl 6 (by decide) wq_359 (v := .ref (o + 104)) rfl dX10_fit_71 ?_
        refine qc_Vi2 (As := [.ref (o + 104)]) (rest := []) (k0 := 1) (u_Fits_isCounted l D ca o b z y J0) kc_yX3_isCounted ⟨hx, hb, hml, hown, hts⟩ wq_627 rfl rfl ⟨Nat.le_of_ble_eq_true rfl, Nat.le_of_ble_eq_true rfl⟩ wq_all hP hK hS qw_Ai (q0 := 108) (by decide) (hgU_108 ca o _ _) rfl rfl hl.1 rfl (Nat.le_of_ble_eq_true rfl) dX10_fit_74 ⟨Nat.zero_le _, Nat.zero_le _⟩ (fun r5 z5 y5 H locs h5 hP hS _ _ => ?_)
        have J5 : qJU b z5 := h5.2
        have b5 : (0 : Int) ≤ r5.toInt ∧ r5.toInt ≤ 1 := h5.1
        refine lv_if_ne (tgt := 83) hx hb dX10_fit_77 (by decide) (fun c6 => ?_) (fun c6 => ?_)
        · have t6 : r5.toInt ≠ (0 : Int) := gl_ne c6
          refine lv_iload_n hx hb dX10_fit_83 rfl (lv_at hl 2 rfl) ?_
          refine lv_bipush (v := 100) hx hb dX10_fit_84 (by decide) ?_
          refine lv_icmp_ne (tgt := 100) hx hb dX10_fit_86 (by decide) (fun c7 => ?_) (fun c7 => ?_)
          · have t7 : a1.toInt ≠ (100 : Int) := gl_ne c7
            exfalso; omega
          · have t7 : a1.toInt = (100 : Int) := gl_eq c7
            refine lv_aload_n hx hb dX10_fit_89 rfl (lv_at hl 0 rfl) ?_
            refine qf_get hx hb hts inX10 hown hK hP (q0 := 0) (by decide) (hgU_0 ca o) rfl 7 (by decide) wq_360 (v := .ref (o + 108)) rfl dX10_fit_90 ?_
            refine lv_iload_n hx hb dX10_fit_93 rfl (lv_at hl 1 rfl) ?_
            refine qc_Vip (As := [.int a0]) (rest := []) (k0 := 1) (u_Fits_of l D ca o b z5 y5 J5 a0) kc_yX3_of ⟨hx, hb, hml, hown, hts⟩ wq_644 rfl rfl ⟨Nat.le_of_ble_eq_true rfl, Nat.le_of_ble_eq_true rfl⟩ wq_all hP hK hS qw_Ai (q0 := 108) (by decide) (hgU_108 ca o _ _) rfl rfl hl.1 rfl (Nat.le_of_ble_eq_true rfl) dX10_fit_94 ⟨Nat.zero_le _, Nat.zero_le _⟩ (fun r8 H locs h8 hP hS _ _ => ?_)
            refine lv_goto (tgt := 108) hx hb dX10_fit_97 (by decide) ?_
            exact W.iret (v := r8) hx hb hr (fun t ht hW => ⟨⟨r8, (z5, y5), rfl, ⟨trivial, J5⟩, by rw [ht]; exact hP, va_K.moved hW.alike hK⟩, hS.F ht⟩) hS.2.2 dX10_fit_108
        · have t6 : r5.toInt = (0 : Int) := gl_eq c6
          refine lv_bipush (v := (-3)) hx hb dX10_fit_80 (by decide) ?_
          exact W.iret (v := (-3)) hx hb hr (fun t ht hW => ⟨⟨(-3), (z5, y5), rfl, ⟨trivial, J5⟩, by rw [ht]; exact hP, va_K.moved hW.alike hK⟩, hS.F ht⟩) hS.2.2 dX10_fit_82
      · have t4 : a1.toInt < (6 : Int) := gl_nle c4
        exfalso; omega
    · have t3 : a1.toInt ≠ (100 : Int) := gl_ne c3
      refine lv_iload_n hx hb dX10_fit_14 rfl (lv_at hl 2 rfl) ?_
      refine lv_bipush (v := 101) hx hb dX10_fit_15 (by decide) ?_
      refine lv_icmp_eq (tgt := 33) hx hb dX10_fit_17 (by decide) (fun c9 => ?_) (fun c9 => ?_)
      · have t9 : a1.toInt = (101 : Int) := gl_eq c9
        refine lv_iload_n hx hb dX10_fit_33 rfl (lv_at hl 2 rfl) ?_
        refine lv_bipush (v := 6) hx hb dX10_fit_34 (by decide) ?_
        refine lv_icmp_ge (tgt := 66) hx hb dX10_fit_36 (by decide) (fun c10 => ?_) (fun c10 => ?_)
        · have t10 : a1.toInt ≥ (6 : Int) := gl_le c10
          refine lv_aload_n hx hb dX10_fit_66 rfl (lv_at hl 0 rfl) ?_
          refine qf_get hx hb hts inX10 hown hK hP (q0 := 0) (by decide) (hgU_0 ca o) rfl 7 (by decide) wq_360 (v := .ref (o + 108)) rfl dX10_fit_67 ?_
          refine lv_aload_n hx hb dX10_fit_70 rfl (lv_at hl 0 rfl) ?_
          refine qf_get hx hb hts inX10 hown hK hP (q0 := 0) (by decide) (hgU_0 ca o) rfl 6 (by decide) wq_359 (v := .ref (o + 104)) rfl dX10_fit_71 ?_
          refine qc_Vi2 (As := [.ref (o + 104)]) (rest := []) (k0 := 1) (u_Fits_isCounted l D ca o b z y J0) kc_yX3_isCounted ⟨hx, hb, hml, hown, hts⟩ wq_627 rfl rfl ⟨Nat.le_of_ble_eq_true rfl, Nat.le_of_ble_eq_true rfl⟩ wq_all hP hK hS qw_Ai (q0 := 108) (by decide) (hgU_108 ca o _ _) rfl rfl hl.1 rfl (Nat.le_of_ble_eq_true rfl) dX10_fit_74 ⟨Nat.zero_le _, Nat.zero_le _⟩ (fun r11 z11 y11 H locs h11 hP hS _ _ => ?_)
          have J11 : qJU b z11 := h11.2
          have b11 : (0 : Int) ≤ r11.toInt ∧ r11.toInt ≤ 1 := h11.1
          refine lv_if_ne (tgt := 83) hx hb dX10_fit_77 (by decide) (fun c12 => ?_) (fun c12 => ?_)
          · have t12 : r11.toInt ≠ (0 : Int) := gl_ne c12
            refine lv_iload_n hx hb dX10_fit_83 rfl (lv_at hl 2 rfl) ?_
            refine lv_bipush (v := 100) hx hb dX10_fit_84 (by decide) ?_
            refine lv_icmp_ne (tgt := 100) hx hb dX10_fit_86 (by decide) (fun c13 => ?_) (fun c13 => ?_)
            · have t13 : a1.toInt ≠ (100 : Int) := gl_ne c13
              refine lv_aload_n hx hb dX10_fit_100 rfl (lv_at hl 0 rfl) ?_
              refine qf_get hx hb hts inX10 hown hK hP (q0 := 0) (by decide) (hgU_0 ca o) rfl 7 (by decide) wq_360 (v := .ref (o + 108)) rfl dX10_fit_101 ?_
              refine lv_iload_n hx hb dX10_fit_104 rfl (lv_at hl 1 rfl) ?_
              refine qc_Vip (As := [.int a0]) (rest := []) (k0 := 1) (u_Fits_allButOne l D ca o b z11 y11 J11 a0) kc_yX3_allButOne ⟨hx, hb, hml, hown, hts⟩ wq_648 rfl rfl ⟨Nat.le_of_ble_eq_true rfl, Nat.le_of_ble_eq_true rfl⟩ wq_all hP hK hS qw_Ai (q0 := 108) (by decide) (hgU_108 ca o _ _) rfl rfl hl.1 rfl (Nat.le_of_ble_eq_true rfl) dX10_fit_105 ⟨Nat.zero_le _, Nat.zero_le _⟩ (fun r14 H locs h14 hP hS _ _ => ?_)
              exact W.iret (v := r14) hx hb hr (fun t ht hW => ⟨⟨r14, (z11, y11), rfl, ⟨trivial, J11⟩, by rw [ht]; exact hP, va_K.moved hW.alike hK⟩, hS.F ht⟩) hS.2.2 dX10_fit_108
            · have t13 : a1.toInt = (100 : Int) := gl_eq c13
              exfalso; omega
          · have t12 : r11.toInt = (0 : Int) := gl_eq c12
            refine lv_bipush (v := (-3)) hx hb dX10_fit_80 (by decide) ?_
            exact W.iret (v := (-3)) hx hb hr (fun t ht hW => ⟨⟨(-3), (z11, y11), rfl, ⟨trivial, J11⟩, by rw [ht]; exact hP, va_K.moved hW.alike hK⟩, hS.F ht⟩) hS.2.2 dX10_fit_82
        · have t10 : a1.toInt < (6 : Int) := gl_nle c10
          exfalso; omega
      · have t9 : a1.toInt ≠ (101 : Int) := gl_ne c9
        refine lv_aload_n hx hb dX10_fit_20 rfl (lv_at hl 0 rfl) ?_
        refine qf_get hx hb hts inX10 hown hK hP (q0 := 0) (by decide) (hgU_0 ca o) rfl 0 (by decide) wq_353 (v := .ref (o + 1)) rfl dX10_fit_21 ?_
        refine lv_iload_n hx hb dX10_fit_24 rfl (lv_at hl 2 rfl) ?_
        refine qc_Vip (As := [.int a1]) (rest := []) (k0 := 1) (u_Told_hasPerson l D ca o b z y J0 a1) kc_yX9_hasPerson ⟨hx, hb, hml, hown, hts⟩ wq_411 rfl rfl ⟨Nat.le_of_ble_eq_true rfl, Nat.le_of_ble_eq_true rfl⟩ wq_all hP hK hS qw_Ai (q0 := 1) (by decide) (hgU_1 ca o _ _) rfl rfl hl.1 rfl (Nat.le_of_ble_eq_true rfl) dX10_fit_25 ⟨Nat.zero_le _, Nat.zero_le _⟩ (fun r15 H locs h15 hP hS _ _ => ?_)
        rcases h15 with ⟨hr15, hf15_0, hf15_1⟩ | ⟨hr15, hf15_0⟩
        · subst hr15
          have hg15_0 : pHas (z 1 5) a1 := hf15_0
          have hg15_1 : 0 ≤ a1.toInt ∧ a1.toInt ≤ 5 := hf15_1
          refine lv_if_ne (tgt := 33) hx hb dX10_fit_28 (by decide) (fun _ => ?_) (fun q => absurd q (by decide))
          refine lv_iload_n hx hb dX10_fit_33 rfl (lv_at hl 2 rfl) ?_
          refine lv_bipush (v := 6) hx hb dX10_fit_34 (by decide) ?_
          refine lv_icmp_ge (tgt := 66) hx hb dX10_fit_36 (by decide) (fun c16 => ?_) (fun c16 => ?_)
          · have t16 : a1.toInt ≥ (6 : Int) := gl_le c16
            exfalso; omega
          · have t16 : a1.toInt < (6 : Int) := gl_nle c16
            refine lv_aload_n hx hb dX10_fit_39 rfl (lv_at hl 0 rfl) ?_
            refine qf_get hx hb hts inX10 hown hK hP (q0 := 0) (by decide) (hgU_0 ca o) rfl 6 (by decide) wq_359 (v := .ref (o + 104)) rfl dX10_fit_40 ?_
            refine lv_iload_n hx hb dX10_fit_43 rfl (lv_at hl 1 rfl) ?_
            refine qc_Vi2 (As := [.int a0]) (rest := []) (k0 := 1) (u_Rows_seek l D ca o b z y J0 a0) kc_yX7_seek ⟨hx, hb, hml, hown, hts⟩ wq_587 rfl rfl ⟨Nat.le_of_ble_eq_true rfl, Nat.le_of_ble_eq_true rfl⟩ wq_all hP hK hS qw_Ai (q0 := 104) (by decide) (hgU_104 ca o _ _) rfl rfl hl.1 rfl (Nat.le_of_ble_eq_true rfl) dX10_fit_44 ⟨Nat.zero_le _, Nat.zero_le _⟩ (fun r17 z17 y17 H locs h17 hP hS _ _ => ?_)
            have J17 : qJU b z17 := h17.2
            have b17 : (-3 : Int) ≤ r17.toInt ∧ r17.toInt ≤ 0 := h17.1
            refine lv_istore_n (lv' := [(3, .int r17), (0, .ref (o + 0)), (1, .int a0), (2, .int a1)]) hx hb dX10_fit_47 rfl hl (by decide) rfl (fun ls hl => ?_)
            refine lv_iload_n hx hb dX10_fit_48 rfl (lv_at hl 0 rfl) ?_
            refine lv_if_ge (tgt := 56) hx hb dX10_fit_49 (by decide) (fun c18 => ?_) (fun c18 => ?_)
            · have t18 : r17.toInt ≥ (0 : Int) := gl_le c18
              refine lv_aload_n hx hb dX10_fit_56 rfl (lv_at hl 1 rfl) ?_
              refine qf_get hx hb hts inX10 hown hK hP (q0 := 0) (by decide) (hgU_0 ca o) rfl 6 (by decide) wq_359 (v := .ref (o + 104)) rfl dX10_fit_57 ?_
              refine qf_get hx hb hts inX7 hown hK hP (q0 := 104) (by decide) (hgU_104 ca o) rfl 1 (by decide) wq_189 (v := .ref (o + 105)) rfl dX10_fit_60 ?_
              refine lv_iload_n hx hb dX10_fit_63 rfl (lv_at hl 3 rfl) ?_
              refine qa_iald hx hb hK hP (q0 := 105) (by decide) 0 (N := 6) (hgU_105 ca o) rfl (gi_in (by omega) (by omega)) dX10_fit_64 ?_
              refine lv_topi (fun x19 e19 => ?_)
              have b19 := iU_105 J17 e19
              exact W.iret (v := x19) hx hb hr (fun t ht hW => ⟨⟨x19, (z17, y17), rfl, ⟨trivial, J17⟩, by rw [ht]; exact hP, va_K.moved hW.alike hK⟩, hS.F ht⟩) hS.2.2 dX10_fit_65
            · have t18 : r17.toInt < (0 : Int) := gl_nle c18
              refine lv_iload_n hx hb dX10_fit_52 rfl (lv_at hl 0 rfl) ?_
              refine lv_goto (tgt := 65) hx hb dX10_fit_53 (by decide) ?_
              exact W.iret (v := r17) hx hb hr (fun t ht hW => ⟨⟨r17, (z17, y17), rfl, ⟨trivial, J17⟩, by rw [ht]; exact hP, va_K.moved hW.alike hK⟩, hS.F ht⟩) hS.2.2 dX10_fit_65
        · subst hr15
          have hg15_0 : ¬ pHas (z 1 5) a1 := hf15_0
          refine lv_if_ne (tgt := 33) hx hb dX10_fit_28 (by decide) (fun q => absurd q (by decide)) (fun _ => ?_)
          refine lv_iconst (v := (-1)) hx hb dX10_fit_31 (by decide) ?_
          exact W.iret (v := (-1)) hx hb hr (fun t ht hW => ⟨⟨(-1), (z, y), rfl, ⟨trivial, J0⟩, by rw [ht]; exact hP, va_K.moved hW.alike hK⟩, hS.F ht⟩) hS.2.2 dX10_fit_32
set_option maxRecDepth 100000 in
set_option maxHeartbeats 8000000 in
theorem u_Arrays_fill_v22 (l : Launch) (D : va_G) (ca : Nat → ClassId) (o : Nat) (b z : Nat → Nat → Int32) (y : Nat → Nat → Int64) (J0 : qJU b z) (a1 : Int32)  : qM l yJ7_fill_53178 cJ7_fill_53178 4 none 1 60 (qPre D vwCl (qT6 ca) o 132 (qG (GU ca o) z y) [.ref (o + 130), .int a1]) (va_Qv (fun u => qJU b u.1) (qB D vwCl (qT6 ca) o 132 (fun u : qZ => qG (GU ca o) u.1 u.2)) (qw_A o 132)) (qw_A o 132) := by
  refine Met.ofW (cc := cJ7_fill_53178) (maxL := 4) (ret := none) (by decide) rfl ?_
  intro p e s m args below meth c s₁ B hml hv
  obtain ⟨rfl, hP, hK⟩ := hv
  have hx := B.exec
  have hb := B.bytes
  have hr := B.returns
  have hts0 := atoms_spec (ws := Cond.code yJ7_fill_53178 cJ7_fill_53178 4 none :: qtbl) B.pre
  have hts : ∀ w ∈ qtbl, w.before _ s = true := fun w h => hts0 w (List.mem_cons_of_mem _ h)
  have hown : s.vm.findClass RJ7 = some m.cls := findClass_of_methodNamed B.named
  have hlocks := B.notSynchronized
  have hS : va_S (qw_A o 132) s.heap s.heap [] := va_S.rf
  have hl := lv_entry ([.ref (o + 130), .int a1]) (n := 4) (Nat.le_of_ble_eq_true rfl)
  rw [lg_entry_eq]
  generalize (lg_sl ([.ref (o + 130), .int a1]) ++ List.replicate (4 - (lg_sl ([.ref (o + 130), .int a1])).length) Slot.unset).toArray = ls at hl ⊢
  have hl : lv_has ls 4 [(0, .ref (o + 130)), (1, .int a1)] := hl
  refine lv_iconst (v := 0) hx hb dJ7_fill_53178_0 (by decide) ?_
  refine lv_istore_n (lv' := [(2, .int 0), (0, .ref (o + 130)), (1, .int a1)]) hx hb dJ7_fill_53178_1 rfl hl (by decide) rfl (fun ls hl => ?_)
  refine lv_aload_n hx hb dJ7_fill_53178_2 rfl (lv_at hl 1 rfl) ?_
  refine qa_len hx hb hK hP (q0 := 130) (by decide) 0 (hgU_130 ca o) rfl (v := 100) rfl dJ7_fill_53178_3 ?_
  refine lv_istore_n (lv' := [(3, .int 100), (2, .int 0), (0, .ref (o + 130)), (1, .int a1)]) hx hb dJ7_fill_53178_4 rfl hl (by decide) rfl (fun ls hl => ?_)
  have loop1 : ∀ (n : Nat) (w1_2 : Int32) (z1 : Nat → Nat → Int32) (y1 : Nat → Nat → Int64), ((100 - w1_2.toInt : Int) < (n : Int)) → ((0 : Int) ≤ w1_2.toInt ∧ w1_2.toInt ≤ 100) → (qJU b z1) → ∀ (H : Heap) (locs : List Loc), qw_P D vwCl o 132 (qG (GU ca o) z1 y1) H → va_S (qw_A o 132) s.heap H locs → ∀ (ls : Array Slot), lv_has ls 4 [(3, .int 100), (2, .int w1_2), (0, .ref (o + 130)), (1, .int a1)] → W p l e (headSpec (Cond.code yJ7_fill_53178 cJ7_fill_53178 4 none :: qtbl) ({ frames := 1, cells := 0, slots := 0, locals := 60 })).room s m (([.ref (o + 130), .int a1] : List Value).toArray) below meth c H locs 0 0 (MQ below (va_Qv (fun u => qJU b u.1) (qB D vwCl (qT6 ca) o 132 (fun u : qZ => qG (GU ca o) u.1 u.2)) (qw_A o 132)) (([.ref (o + 130), .int a1] : List Value).toArray) s 0 0 (qw_A o 132)) (F0 m 5 ls []) := by
    intro n
    induction n with
    | zero => intro w1_2 z1 y1 hb1 hv1_2 J1; exfalso; omega
    | succ n1 ih1 =>
      intro w1_2 z1 y1 hb1 hv1_2 J1 H locs hP hS ls hl
      refine lv_iload_n hx hb dJ7_fill_53178_5 rfl (lv_at hl 1 rfl) ?_
      refine lv_iload_n hx hb dJ7_fill_53178_6 rfl (lv_at hl 0 rfl) ?_
      refine lv_icmp_ge (tgt := 20) hx hb dJ7_fill_53178_7 (by decide) (fun c2 => ?_) (fun c2 => ?_)
      · have t2 : w1_2.toInt ≥ (100 : Int) := gl_le c2
        exact W.vret hx hb hr (fun t ht hW => ⟨⟨(z1, y1), rfl, J1, by rw [ht]; exact hP, va_K.moved hW.alike hK⟩, hS.F ht⟩) hS.2.2 dJ7_fill_53178_20
      · have t2 : w1_2.toInt < (100 : Int) := gl_nle c2
        refine lv_aload_n hx hb dJ7_fill_53178_10 rfl (lv_at hl 2 rfl) ?_
        refine lv_iload_n hx hb dJ7_fill_53178_11 rfl (lv_at hl 1 rfl) ?_
        refine lv_iload_n hx hb dJ7_fill_53178_12 rfl (lv_at hl 3 rfl) ?_
        refine qa_iast2 hx hb hK hP hS qw_Ai (q0 := 130) (by decide) 0 (N := 100) (hgU_130 ca o) rfl (i := w1_2) (x := a1) (gi_in (by omega) (by omega)) dJ7_fill_53178_13 (fun z3 H locs hz3 hP hS => ?_)
        have J3 := jU_130 J1 hz3
        obtain ⟨x4, e4⟩ : ∃ t : Int32, t = w1_2 + 1 := ⟨_, rfl⟩
        refine lv_iinc (v := x4) (lv' := [(2, .int x4), (3, .int 100), (0, .ref (o + 130)), (1, .int a1)]) hx hb dJ7_fill_53178_14 hl (k := 1) rfl (by rw [e4]; rfl) (by decide) rfl (fun ls hl => ?_)
        have t4 : x4.toInt = w1_2.toInt + (1 : Int) := ga_add e4 rfl rfl (by omega) (by omega)
        refine lv_goto (tgt := 5) hx hb dJ7_fill_53178_17 (by decide) ?_
        exact ih1 x4 z3 y1 (show (100 - x4.toInt : Int) < (n1 : Int) from by omega) ⟨by omega, by omega⟩ J3 _ _ hP hS _ (lv_sub hl [1, 0, 2, 3] rfl)
  exact loop1 101 0 z y (show (100 - (0 : Int) : Int) < ((101 : Nat) : Int) from by omega) ⟨by decide, by decide⟩ J0 _ _ hP hS _ (lv_sub hl [0, 1, 2, 3] rfl)
set_option maxRecDepth 100000 in
set_option maxHeartbeats 8000000 in
theorem u_countAges (l : Launch) (D : va_G) (ca : Nat → ClassId) (o : Nat) (b z : Nat → Nat → Int32) (y : Nat → Nat → Int64) (J0 : qJU b z) (a0 : Int32) (a1 : Int32) (ha1 : (0 : Int) ≤ a1.toInt ∧ a1.toInt ≤ 5) : qM l yX10_countAges cX10_countAges 5 (some .int) 5 145 (qPre D vwCl (qT6 ca) o 132 (qG (GU ca o) z y) [.ref (o + 0), .int a0, .int a1]) (va_Qi (fun r u => True ∧ qJU b u.1) (qB D vwCl (qT6 ca) o 132 (fun u : qZ => qG (GU ca o) u.1 u.2)) (qw_A o 132)) (qw_A o 132) := by
  refine Met.ofW (cc := cX10_countAges) (maxL := 5) (ret := (some .int)) (by decide) rfl ?_
  intro p e s m args below meth c s₁ B hml hv
  obtain ⟨rfl, hP, hK⟩ := hv
  have hx := B.exec
  have hb := B.bytes
  have hr := B.returns
  have hts0 := atoms_spec (ws := Cond.code yX10_countAges cX10_countAges 5 (some .int) :: qtbl) B.pre
  have hts : ∀ w ∈ qtbl, w.before _ s = true := fun w h => hts0 w (List.mem_cons_of_mem _ h)
  have hown : s.vm.findClass RX10 = some m.cls := findClass_of_methodNamed B.named
  have hlocks := B.notSynchronized
  have hS : va_S (qw_A o 132) s.heap s.heap [] := va_S.rf
  have hl := lv_entry ([.ref (o + 0), .int a0, .int a1]) (n := 5) (Nat.le_of_ble_eq_true rfl)
  rw [lg_entry_eq]
  generalize (lg_sl ([.ref (o + 0), .int a0, .int a1]) ++ List.replicate (5 - (lg_sl ([.ref (o + 0), .int a0, .int a1])).length) Slot.unset).toArray = ls at hl ⊢
  have hl : lv_has ls 5 [(0, .ref (o + 0)), (1, .int a0), (2, .int a1)] := hl
  refine lv_aload_n hx hb dX10_countAges_0 rfl (lv_at hl 0 rfl) ?_
  refine qf_get hx hb hts inX10 hown hK hP (q0 := 0) (by decide) (hgU_0 ca o) rfl 6 (by decide) wq_359 (v := .ref (o + 104)) rfl dX10_countAges_1 ?_
  refine lv_iload_n hx hb dX10_countAges_4 rfl (lv_at hl 1 rfl) ?_
  refine qc_Vi2 (As := [.int a0]) (rest := []) (k0 := 1) (u_Rows_start l D ca o b z y J0 a0) kc_yX7_start ⟨hx, hb, hml, hown, hts⟩ wq_661 rfl rfl ⟨Nat.le_of_ble_eq_true rfl, Nat.le_of_ble_eq_true rfl⟩ wq_all hP hK hS qw_Ai (q0 := 104) (by decide) (hgU_104 ca o _ _) rfl rfl hl.1 rfl (Nat.le_of_ble_eq_true rfl) dX10_countAges_5 ⟨Nat.zero_le _, Nat.zero_le _⟩ (fun r1 z1 y1 H locs h1 hP hS _ _ => ?_)
  have J1 : qJU b z1 := h1.2
  have b1 : (0 : Int) ≤ r1.toInt ∧ r1.toInt ≤ 1 := h1.1
  refine lv_if_ne (tgt := 14) hx hb dX10_countAges_8 (by decide) (fun c2 => ?_) (fun c2 => ?_)
  · have t2 : r1.toInt ≠ (0 : Int) := gl_ne c2
    refine lv_aload_n hx hb dX10_countAges_14 rfl (lv_at hl 0 rfl) ?_
    refine qf_get hx hb hts inX10 hown hK hP (q0 := 0) (by decide) (hgU_0 ca o) rfl 13 (by decide) wq_366 (v := .ref (o + 130)) rfl dX10_countAges_15 ?_
    refine lv_iconst (v := 0) hx hb dX10_countAges_18 (by decide) ?_
    refine qc_Sv2 (As := [.ref (o + 130), .int 0]) (rest := []) (k0 := 2) (u_Arrays_fill_v22 l D ca o b z1 y1 J1 0) kc_yJ7_fill_53178 ⟨hx, hb, hml, hown, hts⟩ wq_662 rfl rfl ⟨Nat.le_of_ble_eq_true rfl, Nat.le_of_ble_eq_true rfl⟩ wq_all hP hK hS qw_Ai rfl hl.1 rfl (Nat.le_of_ble_eq_true rfl) dX10_countAges_19 ⟨Nat.zero_le _, Nat.zero_le _⟩ (fun z3 y3 H locs h3 hP hS _ _ => ?_)
    have J3 : qJU b z3 := h3
    refine lv_iconst (v := 0) hx hb dX10_countAges_22 (by decide) ?_
    refine lv_istore_n (lv' := [(3, .int 0), (0, .ref (o + 0)), (1, .int a0), (2, .int a1)]) hx hb dX10_countAges_23 rfl hl (by decide) rfl (fun ls hl => ?_)
    refine lv_iconst (v := 0) hx hb dX10_countAges_24 (by decide) ?_
    refine lv_istore (lv' := [(4, .int 0), (3, .int 0), (0, .ref (o + 0)), (1, .int a0), (2, .int a1)]) hx hb dX10_countAges_25 hl (by decide) rfl (fun ls hl => ?_)
    have loop4 : ∀ (n : Nat) (w4_4 : Int32) (w4_3 : Int32) (z4 : Nat → Nat → Int32) (y4 : Nat → Nat → Int64), ((200000 - w4_4.toInt : Int) < (n : Int)) → ((0 : Int) ≤ w4_4.toInt ∧ w4_4.toInt ≤ 200000) → (qJU b z4) → ∀ (H : Heap) (locs : List Loc), qw_P D vwCl o 132 (qG (GU ca o) z4 y4) H → va_S (qw_A o 132) s.heap H locs → ∀ (ls : Array Slot), lv_has ls 5 [(4, .int w4_4), (3, .int w4_3), (0, .ref (o + 0)), (1, .int a0), (2, .int a1)] → W p l e (headSpec (Cond.code yX10_countAges cX10_countAges 5 (some .int) :: qtbl) ({ frames := 5, cells := 0, slots := 0, locals := 145 })).room s m (([.ref (o + 0), .int a0, .int a1] : List Value).toArray) below meth c H locs 0 0 (MQ below (va_Qi (fun r u => True ∧ qJU b u.1) (qB D vwCl (qT6 ca) o 132 (fun u : qZ => qG (GU ca o) u.1 u.2)) (qw_A o 132)) (([.ref (o + 0), .int a0, .int a1] : List Value).toArray) s 0 0 (qw_A o 132)) (F0 m 27 ls []) := by
      intro n
      induction n with
      | zero => intro w4_4 w4_3 z4 y4 hb4 hv4_4 J4; exfalso; omega
      | succ n4 ih4 =>
        intro w4_4 w4_3 z4 y4 hb4 hv4_4 J4 H locs hP hS ls hl
        refine lv_iload hx hb dX10_countAges_27 (lv_at hl 0 rfl) ?_
        refine lv_ldc (v := 200000) hx hb hown (hts _ wq_663) dX10_countAges_29 ?_
        refine lv_icmp_ge (tgt := 71) hx hb dX10_countAges_31 (by decide) (fun c5 => ?_) (fun c5 => ?_)
        · have t5 : w4_4.toInt ≥ (200000 : Int) := gl_le c5
          refine lv_iload_n hx hb dX10_countAges_71 rfl (lv_at hl 1 rfl) ?_
          exact W.iret (v := w4_3) hx hb hr (fun t ht hW => ⟨⟨w4_3, (z4, y4), rfl, ⟨trivial, J4⟩, by rw [ht]; exact hP, va_K.moved hW.alike hK⟩, hS.F ht⟩) hS.2.2 dX10_countAges_72
        · have t5 : w4_4.toInt < (200000 : Int) := gl_nle c5
          refine lv_aload_n hx hb dX10_countAges_34 rfl (lv_at hl 2 rfl) ?_
          refine qf_get hx hb hts inX10 hown hK hP (q0 := 0) (by decide) (hgU_0 ca o) rfl 6 (by decide) wq_359 (v := .ref (o + 104)) rfl dX10_countAges_35 ?_
          refine qc_Vi2 (As := []) (rest := []) (k0 := 0) (u_Rows_next l D ca o b z4 y4 J4) kc_yX7_next ⟨hx, hb, hml, hown, hts⟩ wq_664 rfl rfl ⟨Nat.le_of_ble_eq_true rfl, Nat.le_of_ble_eq_true rfl⟩ wq_all hP hK hS qw_Ai (q0 := 104) (by decide) (hgU_104 ca o _ _) rfl rfl hl.1 rfl (Nat.le_of_ble_eq_true rfl) dX10_countAges_38 ⟨Nat.zero_le _, Nat.zero_le _⟩ (fun r6 z6 y6 H locs h6 hP hS _ _ => ?_)
          have J6 : qJU b z6 := h6.2
          have b6 : (0 : Int) ≤ r6.toInt ∧ r6.toInt ≤ 1 := h6.1
          refine lv_if_eq (tgt := 71) hx hb dX10_countAges_41 (by decide) (fun c7 => ?_) (fun c7 => ?_)
          · have t7 : r6.toInt = (0 : Int) := gl_eq c7
            refine lv_iload_n hx hb dX10_countAges_71 rfl (lv_at hl 1 rfl) ?_
            exact W.iret (v := w4_3) hx hb hr (fun t ht hW => ⟨⟨w4_3, (z6, y6), rfl, ⟨trivial, J6⟩, by rw [ht]; exact hP, va_K.moved hW.alike hK⟩, hS.F ht⟩) hS.2.2 dX10_countAges_72
          · have t7 : r6.toInt ≠ (0 : Int) := gl_ne c7
            refine lv_aload_n hx hb dX10_countAges_44 rfl (lv_at hl 2 rfl) ?_
            refine qf_get hx hb hts inX10 hown hK hP (q0 := 0) (by decide) (hgU_0 ca o) rfl 13 (by decide) wq_366 (v := .ref (o + 130)) rfl dX10_countAges_45 ?_
            refine lv_aload_n hx hb dX10_countAges_48 rfl (lv_at hl 2 rfl) ?_
            refine qf_get hx hb hts inX10 hown hK hP (q0 := 0) (by decide) (hgU_0 ca o) rfl 6 (by decide) wq_359 (v := .ref (o + 104)) rfl dX10_countAges_49 ?_
            refine qf_get hx hb hts inX7 hown hK hP (q0 := 104) (by decide) (hgU_104 ca o) rfl 1 (by decide) wq_189 (v := .ref (o + 105)) rfl dX10_countAges_52 ?_
            refine lv_iload_n hx hb dX10_countAges_55 rfl (lv_at hl 4 rfl) ?_
            refine qa_iald hx hb hK hP (q0 := 105) (by decide) 0 (N := 6) (hgU_105 ca o) rfl (gi_in (by omega) (by omega)) dX10_countAges_56 ?_
            refine lv_topi (fun x8 e8 => ?_)
            have b8 := iU_105 J6 e8
            refine lv_dup2_11 hx hb dX10_countAges_57 rfl rfl ?_
            refine qa_iald hx hb hK hP (q0 := 130) (by decide) 0 (N := 100) (hgU_130 ca o) rfl (gi_in (by omega) (by omega)) dX10_countAges_58 ?_
            refine lv_topi (fun x9 e9 => ?_)
            refine lv_iconst (v := 1) hx hb dX10_countAges_59 (by decide) ?_
            refine lv_iadd hx hb dX10_countAges_60 ?_
            refine lv_topi (fun x10 e10 => ?_)
            refine qa_iast2 hx hb hK hP hS qw_Ai (q0 := 130) (by decide) 0 (N := 100) (hgU_130 ca o) rfl (i := x8) (x := x10) (gi_in (by omega) (by omega)) dX10_countAges_61 (fun z11 H locs hz11 hP hS => ?_)
            have J11 := jU_130 J6 hz11
            obtain ⟨x12, e12⟩ : ∃ t : Int32, t = w4_3 + 1 := ⟨_, rfl⟩
            refine lv_iinc (v := x12) (lv' := [(3, .int x12), (4, .int w4_4), (0, .ref (o + 0)), (1, .int a0), (2, .int a1)]) hx hb dX10_countAges_62 hl (k := 1) rfl (by rw [e12]; rfl) (by decide) rfl (fun ls hl => ?_)
            obtain ⟨x13, e13⟩ : ∃ t : Int32, t = w4_4 + 1 := ⟨_, rfl⟩
            refine lv_iinc (v := x13) (lv' := [(4, .int x13), (3, .int x12), (0, .ref (o + 0)), (1, .int a0), (2, .int a1)]) hx hb dX10_countAges_65 hl (k := 1) rfl (by rw [e13]; rfl) (by decide) rfl (fun ls hl => ?_)
            have t13 : x13.toInt = w4_4.toInt + (1 : Int) := ga_add e13 rfl rfl (by omega) (by omega)
            refine lv_goto (tgt := 27) hx hb dX10_countAges_68 (by decide) ?_
            exact ih4 x13 x12 z11 y6 (show (200000 - x13.toInt : Int) < (n4 : Int) from by omega) ⟨by omega, by omega⟩ J11 _ _ hP hS _ (lv_sub hl [0, 1, 2, 3, 4] rfl)
    exact loop4 200001 0 0 z3 y3 (show (200000 - (0 : Int) : Int) < ((200001 : Nat) : Int) from by omega) ⟨by decide, by decide⟩ J3 _ _ hP hS _ (lv_sub hl [0, 1, 2, 3, 4] rfl)
  · have t2 : r1.toInt = (0 : Int) := gl_eq c2
    refine lv_bipush (v := (-3)) hx hb dX10_countAges_11 (by decide) ?_
    exact W.iret (v := (-3)) hx hb hr (fun t ht hW => ⟨⟨(-3), (z1, y1), rfl, ⟨trivial, J1⟩, by rw [ht]; exact hP, va_K.moved hW.alike hK⟩, hS.F ht⟩) hS.2.2 dX10_countAges_13
set_option maxRecDepth 100000 in
set_option maxHeartbeats 8000000 in
theorem u_ageAt (l : Launch) (D : va_G) (ca : Nat → ClassId) (o : Nat) (b z : Nat → Nat → Int32) (y : Nat → Nat → Int64) (J0 : qJU b z) (a0 : Int32)  : qM l yX10_ageAt cX10_ageAt 4 (some .int) 1 60 (qPre D vwCl (qT6 ca) o 132 (qG (GU ca o) z y) [.ref (o + 0), .int a0]) (va_Qi (fun r (_ : Unit) => ((-2 : Int) ≤ r.toInt ∧ r.toInt ≤ 99)) (qB D vwCl (qT6 ca) o 132 (fun _ : Unit => qG (GU ca o) z y)) (qw_A o 132)) (qw_A o 132) := by
  refine Met.ofW (cc := cX10_ageAt) (maxL := 4) (ret := (some .int)) (by decide) rfl ?_
  intro p e s m args below meth c s₁ B hml hv
  obtain ⟨rfl, hP, hK⟩ := hv
  have hx := B.exec
  have hb := B.bytes
  have hr := B.returns
  have hts0 := atoms_spec (ws := Cond.code yX10_ageAt cX10_ageAt 4 (some .int) :: qtbl) B.pre
  have hts : ∀ w ∈ qtbl, w.before _ s = true := fun w h => hts0 w (List.mem_cons_of_mem _ h)
  have hown : s.vm.findClass RX10 = some m.cls := findClass_of_methodNamed B.named
  have hlocks := B.notSynchronized
  have hS : va_S (qw_A o 132) s.heap s.heap [] := va_S.rf
  have hl := lv_entry ([.ref (o + 0), .int a0]) (n := 4) (Nat.le_of_ble_eq_true rfl)
  rw [lg_entry_eq]
  generalize (lg_sl ([.ref (o + 0), .int a0]) ++ List.replicate (4 - (lg_sl ([.ref (o + 0), .int a0])).length) Slot.unset).toArray = ls at hl ⊢
  have hl : lv_has ls 4 [(0, .ref (o + 0)), (1, .int a0)] := hl
  refine lv_iconst (v := 0) hx hb dX10_ageAt_0 (by decide) ?_
  refine lv_istore_n (lv' := [(2, .int 0), (0, .ref (o + 0)), (1, .int a0)]) hx hb dX10_ageAt_1 rfl hl (by decide) rfl (fun ls hl => ?_)
  refine lv_iconst (v := 0) hx hb dX10_ageAt_2 (by decide) ?_
  refine lv_istore_n (lv' := [(3, .int 0), (2, .int 0), (0, .ref (o + 0)), (1, .int a0)]) hx hb dX10_ageAt_3 rfl hl (by decide) rfl (fun ls hl => ?_)
  have loop1 : ∀ (n : Nat) (w1_3 : Int32) (w1_2 : Int32), ((100 - w1_3.toInt : Int) < (n : Int)) → ((0 : Int) ≤ w1_3.toInt ∧ w1_3.toInt ≤ 100) → ∀ (H : Heap) (locs : List Loc), qw_P D vwCl o 132 (qG (GU ca o) z y) H → va_S (qw_A o 132) s.heap H locs → ∀ (ls : Array Slot), lv_has ls 4 [(3, .int w1_3), (2, .int w1_2), (0, .ref (o + 0)), (1, .int a0)] → W p l e (headSpec (Cond.code yX10_ageAt cX10_ageAt 4 (some .int) :: qtbl) ({ frames := 1, cells := 0, slots := 0, locals := 60 })).room s m (([.ref (o + 0), .int a0] : List Value).toArray) below meth c H locs 0 0 (MQ below (va_Qi (fun r (_ : Unit) => ((-2 : Int) ≤ r.toInt ∧ r.toInt ≤ 99)) (qB D vwCl (qT6 ca) o 132 (fun _ : Unit => qG (GU ca o) z y)) (qw_A o 132)) (([.ref (o + 0), .int a0] : List Value).toArray) s 0 0 (qw_A o 132)) (F0 m 4 ls []) := by
    intro n
    induction n with
    | zero => intro w1_3 w1_2 hb1 hv1_3; exfalso; omega
    | succ n1 ih1 =>
      intro w1_3 w1_2 hb1 hv1_3 H locs hP hS ls hl
      refine lv_iload_n hx hb dX10_ageAt_4 rfl (lv_at hl 0 rfl) ?_
      refine lv_bipush (v := 99) hx hb dX10_ageAt_5 (by decide) ?_
      refine lv_icmp_gt (tgt := 32) hx hb dX10_ageAt_7 (by decide) (fun c2 => ?_) (fun c2 => ?_)
      · have t2 : w1_3.toInt > (99 : Int) := gl_lt c2
        refine lv_bipush (v := (-2)) hx hb dX10_ageAt_32 (by decide) ?_
        exact W.iret (v := (-2)) hx hb hr (fun t ht hW => ⟨⟨(-2), (), rfl, ⟨by decide, by decide⟩, by rw [ht]; exact hP, va_K.moved hW.alike hK⟩, hS.F ht⟩) hS.2.2 dX10_ageAt_34
      · have t2 : w1_3.toInt ≤ (99 : Int) := gl_nlt c2
        refine lv_iload_n hx hb dX10_ageAt_10 rfl (lv_at hl 1 rfl) ?_
        refine lv_aload_n hx hb dX10_ageAt_11 rfl (lv_at hl 2 rfl) ?_
        refine qf_get hx hb hts inX10 hown hK hP (q0 := 0) (by decide) (hgU_0 ca o) rfl 13 (by decide) wq_366 (v := .ref (o + 130)) rfl dX10_ageAt_12 ?_
        refine lv_iload_n hx hb dX10_ageAt_15 rfl (lv_at hl 0 rfl) ?_
        refine qa_iald hx hb hK hP (q0 := 130) (by decide) 0 (N := 100) (hgU_130 ca o) rfl (gi_in (by omega) (by omega)) dX10_ageAt_16 ?_
        refine lv_topi (fun x3 e3 => ?_)
        refine lv_iadd hx hb dX10_ageAt_17 ?_
        refine lv_topi (fun x4 e4 => ?_)
        refine lv_istore_n (lv' := [(2, .int x4), (3, .int w1_3), (0, .ref (o + 0)), (1, .int a0)]) hx hb dX10_ageAt_18 rfl hl (by decide) rfl (fun ls hl => ?_)
        refine lv_iload_n hx hb dX10_ageAt_19 rfl (lv_at hl 0 rfl) ?_
        refine lv_iload_n hx hb dX10_ageAt_20 rfl (lv_at hl 3 rfl) ?_
        refine lv_icmp_le (tgt := 26) hx hb dX10_ageAt_21 (by decide) (fun c5 => ?_) (fun c5 => ?_)
        · have t5 : x4.toInt ≤ a0.toInt := gl_le c5
          obtain ⟨x6, e6⟩ : ∃ t : Int32, t = w1_3 + 1 := ⟨_, rfl⟩
          refine lv_iinc (v := x6) (lv' := [(3, .int x6), (2, .int x4), (0, .ref (o + 0)), (1, .int a0)]) hx hb dX10_ageAt_26 hl (k := 1) rfl (by rw [e6]; rfl) (by decide) rfl (fun ls hl => ?_)
          have t6 : x6.toInt = w1_3.toInt + (1 : Int) := ga_add e6 rfl rfl (by omega) (by omega)
          refine lv_goto (tgt := 4) hx hb dX10_ageAt_29 (by decide) ?_
          exact ih1 x6 x4 (show (100 - x6.toInt : Int) < (n1 : Int) from by omega) ⟨by omega, by omega⟩ _ _ hP hS _ (lv_sub hl [0, 1, 2, 3] rfl)
        · have t5 : x4.toInt > a0.toInt := gl_nle c5
          refine lv_iload_n hx hb dX10_ageAt_24 rfl (lv_at hl 1 rfl) ?_
          exact W.iret (v := w1_3) hx hb hr (fun t ht hW => ⟨⟨w1_3, (), rfl, ⟨by omega, by omega⟩, by rw [ht]; exact hP, va_K.moved hW.alike hK⟩, hS.F ht⟩) hS.2.2 dX10_ageAt_25
  exact loop1 101 0 0 (show (100 - (0 : Int) : Int) < ((101 : Nat) : Int) from by omega) ⟨by decide, by decide⟩ _ _ hP hS _ (lv_sub hl [0, 1, 2, 3] rfl)
set_option maxRecDepth 100000 in
set_option maxHeartbeats 8000000 in
theorem u_unlikeAges (l : Launch) (D : va_G) (ca : Nat → ClassId) (o : Nat) (b z : Nat → Nat → Int32) (y : Nat → Nat → Int64) (J0 : qJU b z)   : qM l yX10_unlikeAges cX10_unlikeAges 3 (some .int) 1 60 (qPre D vwCl (qT6 ca) o 132 (qG (GU ca o) z y) [.ref (o + 0)]) (va_Qi (fun r (_ : Unit) => True) (qB D vwCl (qT6 ca) o 132 (fun _ : Unit => qG (GU ca o) z y)) (qw_A o 132)) (qw_A o 132) := by
  refine Met.ofW (cc := cX10_unlikeAges) (maxL := 3) (ret := (some .int)) (by decide) rfl ?_
  intro p e s m args below meth c s₁ B hml hv
  obtain ⟨rfl, hP, hK⟩ := hv
  have hx := B.exec
  have hb := B.bytes
  have hr := B.returns
  have hts0 := atoms_spec (ws := Cond.code yX10_unlikeAges cX10_unlikeAges 3 (some .int) :: qtbl) B.pre
  have hts : ∀ w ∈ qtbl, w.before _ s = true := fun w h => hts0 w (List.mem_cons_of_mem _ h)
  have hown : s.vm.findClass RX10 = some m.cls := findClass_of_methodNamed B.named
  have hlocks := B.notSynchronized
  have hS : va_S (qw_A o 132) s.heap s.heap [] := va_S.rf
  have hl := lv_entry ([.ref (o + 0)]) (n := 3) (Nat.le_of_ble_eq_true rfl)
  rw [lg_entry_eq]
  generalize (lg_sl ([.ref (o + 0)]) ++ List.replicate (3 - (lg_sl ([.ref (o + 0)])).length) Slot.unset).toArray = ls at hl ⊢
  have hl : lv_has ls 3 [(0, .ref (o + 0))] := hl
  refine lv_iconst (v := 0) hx hb dX10_unlikeAges_0 (by decide) ?_
  refine lv_istore_n (lv' := [(1, .int 0), (0, .ref (o + 0))]) hx hb dX10_unlikeAges_1 rfl hl (by decide) rfl (fun ls hl => ?_)
  refine lv_iconst (v := 0) hx hb dX10_unlikeAges_2 (by decide) ?_
  refine lv_istore_n (lv' := [(2, .int 0), (1, .int 0), (0, .ref (o + 0))]) hx hb dX10_unlikeAges_3 rfl hl (by decide) rfl (fun ls hl => ?_)
  have loop1 : ∀ (n : Nat) (w1_2 : Int32) (w1_1 : Int32), ((100 - w1_2.toInt : Int) < (n : Int)) → ((0 : Int) ≤ w1_2.toInt ∧ w1_2.toInt ≤ 100) → ∀ (H : Heap) (locs : List Loc), qw_P D vwCl o 132 (qG (GU ca o) z y) H → va_S (qw_A o 132) s.heap H locs → ∀ (ls : Array Slot), lv_has ls 3 [(2, .int w1_2), (1, .int w1_1), (0, .ref (o + 0))] → W p l e (headSpec (Cond.code yX10_unlikeAges cX10_unlikeAges 3 (some .int) :: qtbl) ({ frames := 1, cells := 0, slots := 0, locals := 60 })).room s m (([.ref (o + 0)] : List Value).toArray) below meth c H locs 0 0 (MQ below (va_Qi (fun r (_ : Unit) => True) (qB D vwCl (qT6 ca) o 132 (fun _ : Unit => qG (GU ca o) z y)) (qw_A o 132)) (([.ref (o + 0)] : List Value).toArray) s 0 0 (qw_A o 132)) (F0 m 4 ls []) := by
    intro n
    induction n with
    | zero => intro w1_2 w1_1 hb1 hv1_2; exfalso; omega
    | succ n1 ih1 =>
      intro w1_2 w1_1 hb1 hv1_2 H locs hP hS ls hl
      refine lv_iload_n hx hb dX10_unlikeAges_4 rfl (lv_at hl 0 rfl) ?_
      refine lv_bipush (v := 99) hx hb dX10_unlikeAges_5 (by decide) ?_
      refine lv_icmp_gt (tgt := 28) hx hb dX10_unlikeAges_7 (by decide) (fun c2 => ?_) (fun c2 => ?_)
      · have t2 : w1_2.toInt > (99 : Int) := gl_lt c2
        refine lv_iload_n hx hb dX10_unlikeAges_28 rfl (lv_at hl 1 rfl) ?_
        exact W.iret (v := w1_1) hx hb hr (fun t ht hW => ⟨⟨w1_1, (), rfl, trivial, by rw [ht]; exact hP, va_K.moved hW.alike hK⟩, hS.F ht⟩) hS.2.2 dX10_unlikeAges_29
      · have t2 : w1_2.toInt ≤ (99 : Int) := gl_nlt c2
        refine lv_aload_n hx hb dX10_unlikeAges_10 rfl (lv_at hl 2 rfl) ?_
        refine qf_get hx hb hts inX10 hown hK hP (q0 := 0) (by decide) (hgU_0 ca o) rfl 13 (by decide) wq_366 (v := .ref (o + 130)) rfl dX10_unlikeAges_11 ?_
        refine lv_iload_n hx hb dX10_unlikeAges_14 rfl (lv_at hl 0 rfl) ?_
        refine qa_iald hx hb hK hP (q0 := 130) (by decide) 0 (N := 100) (hgU_130 ca o) rfl (gi_in (by omega) (by omega)) dX10_unlikeAges_15 ?_
        refine lv_topi (fun x3 e3 => ?_)
        refine lv_if_le (tgt := 22) hx hb dX10_unlikeAges_16 (by decide) (fun c4 => ?_) (fun c4 => ?_)
        · have t4 : x3.toInt ≤ (0 : Int) := gl_le c4
          obtain ⟨x5, e5⟩ : ∃ t : Int32, t = w1_2 + 1 := ⟨_, rfl⟩
          refine lv_iinc (v := x5) (lv' := [(2, .int x5), (1, .int w1_1), (0, .ref (o + 0))]) hx hb dX10_unlikeAges_22 hl (k := 0) rfl (by rw [e5]; rfl) (by decide) rfl (fun ls hl => ?_)
          have t5 : x5.toInt = w1_2.toInt + (1 : Int) := ga_add e5 rfl rfl (by omega) (by omega)
          refine lv_goto (tgt := 4) hx hb dX10_unlikeAges_25 (by decide) ?_
          exact ih1 x5 w1_1 (show (100 - x5.toInt : Int) < (n1 : Int) from by omega) ⟨by omega, by omega⟩ _ _ hP hS _ (lv_sub hl [0, 1, 2] rfl)
        · have t4 : x3.toInt > (0 : Int) := gl_nle c4
          obtain ⟨x6, e6⟩ : ∃ t : Int32, t = w1_1 + 1 := ⟨_, rfl⟩
          refine lv_iinc (v := x6) (lv' := [(1, .int x6), (2, .int w1_2), (0, .ref (o + 0))]) hx hb dX10_unlikeAges_19 hl (k := 1) rfl (by rw [e6]; rfl) (by decide) rfl (fun ls hl => ?_)
          obtain ⟨x7, e7⟩ : ∃ t : Int32, t = w1_2 + 1 := ⟨_, rfl⟩
          refine lv_iinc (v := x7) (lv' := [(2, .int x7), (1, .int x6), (0, .ref (o + 0))]) hx hb dX10_unlikeAges_22 hl (k := 1) rfl (by rw [e7]; rfl) (by decide) rfl (fun ls hl => ?_)
          have t7 : x7.toInt = w1_2.toInt + (1 : Int) := ga_add e7 rfl rfl (by omega) (by omega)
          refine lv_goto (tgt := 4) hx hb dX10_unlikeAges_25 (by decide) ?_
          exact ih1 x7 x6 (show (100 - x7.toInt : Int) < (n1 : Int) from by omega) ⟨by omega, by omega⟩ _ _ hP hS _ (lv_sub hl [0, 1, 2] rfl)
  exact loop1 101 0 0 (show (100 - (0 : Int) : Int) < ((101 : Nat) : Int) from by omega) ⟨by decide, by decide⟩ _ _ hP hS _ (lv_sub hl [0, 1, 2] rfl)
set_option maxRecDepth 100000 in
set_option maxHeartbeats 8000000 in
theorem u_ageIs (l : Launch) (D : va_G) (ca : Nat → ClassId) (o : Nat) (b z : Nat → Nat → Int32) (y : Nat → Nat → Int64) (J0 : qJU b z) (a0 : Int32) (a1 : Int32) (a2 : Int32)  : qM l yX10_ageIs cX10_ageIs 5 (some .int) 6 169 (qPre D vwCl (qT6 ca) o 132 (qG (GU ca o) z y) [.ref (o + 0), .int a0, .int a1, .int a2]) (va_Qi (fun r u => True ∧ qJU b u.1) (qB D vwCl (qT6 ca) o 132 (fun u : qZ => qG (GU ca o) u.1 u.2)) (qw_A o 132)) (qw_A o 132) := by
  refine Met.ofW (cc := cX10_ageIs) (maxL := 5) (ret := (some .int)) (by decide) rfl ?_
  intro p e s m args below meth c s₁ B hml hv
  obtain ⟨rfl, hP, hK⟩ := hv
  have hx := B.exec
  have hb := B.bytes
  have hr := B.returns
  have hts0 := atoms_spec (ws := Cond.code yX10_ageIs cX10_ageIs 5 (some .int) :: qtbl) B.pre
  have hts : ∀ w ∈ qtbl, w.before _ s = true := fun w h => hts0 w (List.mem_cons_of_mem _ h)
  have hown : s.vm.findClass RX10 = some m.cls := findClass_of_methodNamed B.named
  have hlocks := B.notSynchronized
  have hS : va_S (qw_A o 132) s.heap s.heap [] := va_S.rf
  have hl := lv_entry ([.ref (o + 0), .int a0, .int a1, .int a2]) (n := 5) (Nat.le_of_ble_eq_true rfl)
  rw [lg_entry_eq]
  generalize (lg_sl ([.ref (o + 0), .int a0, .int a1, .int a2]) ++ List.replicate (5 - (lg_sl ([.ref (o + 0), .int a0, .int a1, .int a2])).length) Slot.unset).toArray = ls at hl ⊢
  have hl : lv_has ls 5 [(0, .ref (o + 0)), (1, .int a0), (2, .int a1), (3, .int a2)] := hl
  refine lv_aload_n hx hb dX10_ageIs_0 rfl (lv_at hl 0 rfl) ?_
  refine lv_iload_n hx hb dX10_ageIs_1 rfl (lv_at hl 1 rfl) ?_
  refine qc_Vip (As := [.int a0]) (rest := []) (k0 := 1) (u_areRemarks l D ca o b z y J0 a0) kc_yX10_areRemarks ⟨hx, hb, hml, hown, hts⟩ wq_583 rfl rfl ⟨Nat.le_of_ble_eq_true rfl, Nat.le_of_ble_eq_true rfl⟩ wq_all hP hK hS qw_Ai (q0 := 0) (by decide) (hgU_0 ca o _ _) rfl rfl hl.1 rfl (Nat.le_of_ble_eq_true rfl) dX10_ageIs_2 ⟨Nat.zero_le _, Nat.zero_le _⟩ (fun r1 H locs h1 hP hS _ _ => ?_)
  have b1 : (0 : Int) ≤ r1.toInt ∧ r1.toInt ≤ 1 := h1
  refine lv_if_eq (tgt := 28) hx hb dX10_ageIs_5 (by decide) (fun c2 => ?_) (fun c2 => ?_)
  · have t2 : r1.toInt = (0 : Int) := gl_eq c2
    refine lv_iconst (v := (-1)) hx hb dX10_ageIs_28 (by decide) ?_
    exact W.iret (v := (-1)) hx hb hr (fun t ht hW => ⟨⟨(-1), (z, y), rfl, ⟨trivial, J0⟩, by rw [ht]; exact hP, va_K.moved hW.alike hK⟩, hS.F ht⟩) hS.2.2 dX10_ageIs_29
  · have t2 : r1.toInt ≠ (0 : Int) := gl_ne c2
    refine lv_aload_n hx hb dX10_ageIs_8 rfl (lv_at hl 0 rfl) ?_
    refine qf_get hx hb hts inX10 hown hK hP (q0 := 0) (by decide) (hgU_0 ca o) rfl 0 (by decide) wq_353 (v := .ref (o + 1)) rfl dX10_ageIs_9 ?_
    refine lv_iload_n hx hb dX10_ageIs_12 rfl (lv_at hl 2 rfl) ?_
    refine qc_Vip (As := [.int a1]) (rest := []) (k0 := 1) (u_Told_hasPerson l D ca o b z y J0 a1) kc_yX9_hasPerson ⟨hx, hb, hml, hown, hts⟩ wq_411 rfl rfl ⟨Nat.le_of_ble_eq_true rfl, Nat.le_of_ble_eq_true rfl⟩ wq_all hP hK hS qw_Ai (q0 := 1) (by decide) (hgU_1 ca o _ _) rfl rfl hl.1 rfl (Nat.le_of_ble_eq_true rfl) dX10_ageIs_13 ⟨Nat.zero_le _, Nat.zero_le _⟩ (fun r3 H locs h3 hP hS _ _ => ?_)
    rcases h3 with ⟨hr3, hf3_0, hf3_1⟩ | ⟨hr3, hf3_0⟩
    · subst hr3
      have hg3_0 : pHas (z 1 5) a1 := hf3_0
      have hg3_1 : 0 ≤ a1.toInt ∧ a1.toInt ≤ 5 := hf3_1
      refine lv_if_eq (tgt := 28) hx hb dX10_ageIs_16 (by decide) (fun q => absurd q (by decide)) (fun _ => ?_)
      refine lv_iload_n hx hb dX10_ageIs_19 rfl (lv_at hl 3 rfl) ?_
      refine lv_if_lt (tgt := 28) hx hb dX10_ageIs_20 (by decide) (fun c4 => ?_) (fun c4 => ?_)
      · have t4 : a2.toInt < (0 : Int) := gl_lt c4
        refine lv_iconst (v := (-1)) hx hb dX10_ageIs_28 (by decide) ?_
        exact W.iret (v := (-1)) hx hb hr (fun t ht hW => ⟨⟨(-1), (z, y), rfl, ⟨trivial, J0⟩, by rw [ht]; exact hP, va_K.moved hW.alike hK⟩, hS.F ht⟩) hS.2.2 dX10_ageIs_29
      · have t4 : a2.toInt ≥ (0 : Int) := gl_nlt c4
        refine lv_iload_n hx hb dX10_ageIs_23 rfl (lv_at hl 3 rfl) ?_
        refine lv_iconst (v := 2) hx hb dX10_ageIs_24 (by decide) ?_
        refine lv_icmp_le (tgt := 30) hx hb dX10_ageIs_25 (by decide) (fun c5 => ?_) (fun c5 => ?_)
        · have t5 : a2.toInt ≤ (2 : Int) := gl_le c5
          refine lv_aload_n hx hb dX10_ageIs_30 rfl (lv_at hl 0 rfl) ?_
          refine lv_iload_n hx hb dX10_ageIs_31 rfl (lv_at hl 1 rfl) ?_
          refine lv_iload_n hx hb dX10_ageIs_32 rfl (lv_at hl 2 rfl) ?_
          refine qc_Vi2 (As := [.int a0, .int a1]) (rest := []) (k0 := 2) (u_countAges l D ca o b z y J0 a0 a1 ⟨by omega, by omega⟩) kc_yX10_countAges ⟨hx, hb, hml, hown, hts⟩ wq_657 rfl rfl ⟨Nat.le_of_ble_eq_true rfl, Nat.le_of_ble_eq_true rfl⟩ wq_all hP hK hS qw_Ai (q0 := 0) (by decide) (hgU_0 ca o _ _) rfl rfl hl.1 rfl (Nat.le_of_ble_eq_true rfl) dX10_ageIs_33 ⟨Nat.zero_le _, Nat.zero_le _⟩ (fun r6 z6 y6 H locs h6 hP hS _ _ => ?_)
          have J6 : qJU b z6 := h6.2
          refine lv_istore (lv' := [(4, .int r6), (0, .ref (o + 0)), (1, .int a0), (2, .int a1), (3, .int a2)]) hx hb dX10_ageIs_36 hl (by decide) rfl (fun ls hl => ?_)
          refine lv_iload hx hb dX10_ageIs_38 (lv_at hl 0 rfl) ?_
          refine lv_if_ge (tgt := 46) hx hb dX10_ageIs_40 (by decide) (fun c7 => ?_) (fun c7 => ?_)
          · have t7 : r6.toInt ≥ (0 : Int) := gl_le c7
            refine lv_iload_n hx hb dX10_ageIs_46 rfl (lv_at hl 4 rfl) ?_
            refine lv_iconst (v := 2) hx hb dX10_ageIs_47 (by decide) ?_
            refine lv_icmp_ne (tgt := 56) hx hb dX10_ageIs_48 (by decide) (fun c8 => ?_) (fun c8 => ?_)
            · have t8 : a2.toInt ≠ (2 : Int) := gl_ne c8
              refine lv_iload hx hb dX10_ageIs_56 (lv_at hl 0 rfl) ?_
              refine lv_if_ne (tgt := 64) hx hb dX10_ageIs_58 (by decide) (fun c9 => ?_) (fun c9 => ?_)
              · have t9 : r6.toInt ≠ (0 : Int) := gl_ne c9
                refine lv_aload_n hx hb dX10_ageIs_64 rfl (lv_at hl 1 rfl) ?_
                refine lv_iload_n hx hb dX10_ageIs_65 rfl (lv_at hl 4 rfl) ?_
                refine lv_if_ne (tgt := 73) hx hb dX10_ageIs_66 (by decide) (fun c10 => ?_) (fun c10 => ?_)
                · have t10 : a2.toInt ≠ (0 : Int) := gl_ne c10
                  refine lv_iload hx hb dX10_ageIs_73 (lv_at hl 0 rfl) ?_
                  refine lv_iconst (v := 1) hx hb dX10_ageIs_75 (by decide) ?_
                  refine lv_isub hx hb dX10_ageIs_76 ?_
                  refine lv_topi (fun x11 e11 => ?_)
                  have gb11_0 := gl_b r6
                  have gb11_1 := gl_b r1
                  have gb11_2 := gl_b a2
                  have t11 : x11.toInt = r6.toInt - (1 : Int) := ga_sub e11 rfl rfl (by omega) (by omega)
                  refine qc_Vip (As := [.int x11]) (rest := []) (k0 := 1) (u_ageAt l D ca o b z6 y6 J6 x11) kc_yX10_ageAt ⟨hx, hb, hml, hown, hts⟩ wq_669 rfl rfl ⟨Nat.le_of_ble_eq_true rfl, Nat.le_of_ble_eq_true rfl⟩ wq_all hP hK hS qw_Ai (q0 := 0) (by decide) (hgU_0 ca o _ _) rfl rfl hl.1 rfl (Nat.le_of_ble_eq_true rfl) dX10_ageIs_77 ⟨Nat.zero_le _, Nat.zero_le _⟩ (fun r12 H locs h12 hP hS _ _ => ?_)
                  have b12 : (-2 : Int) ≤ r12.toInt ∧ r12.toInt ≤ 99 := h12
                  exact W.iret (v := r12) hx hb hr (fun t ht hW => ⟨⟨r12, (z6, y6), rfl, ⟨trivial, J6⟩, by rw [ht]; exact hP, va_K.moved hW.alike hK⟩, hS.F ht⟩) hS.2.2 dX10_ageIs_80
                · have t10 : a2.toInt = (0 : Int) := gl_eq c10
                  refine lv_iconst (v := 0) hx hb dX10_ageIs_69 (by decide) ?_
                  refine lv_goto (tgt := 77) hx hb dX10_ageIs_70 (by decide) ?_
                  refine qc_Vip (As := [.int 0]) (rest := []) (k0 := 1) (u_ageAt l D ca o b z6 y6 J6 0) kc_yX10_ageAt ⟨hx, hb, hml, hown, hts⟩ wq_669 rfl rfl ⟨Nat.le_of_ble_eq_true rfl, Nat.le_of_ble_eq_true rfl⟩ wq_all hP hK hS qw_Ai (q0 := 0) (by decide) (hgU_0 ca o _ _) rfl rfl hl.1 rfl (Nat.le_of_ble_eq_true rfl) dX10_ageIs_77 ⟨Nat.zero_le _, Nat.zero_le _⟩ (fun r13 H locs h13 hP hS _ _ => ?_)
                  have b13 : (-2 : Int) ≤ r13.toInt ∧ r13.toInt ≤ 99 := h13
                  exact W.iret (v := r13) hx hb hr (fun t ht hW => ⟨⟨r13, (z6, y6), rfl, ⟨trivial, J6⟩, by rw [ht]; exact hP, va_K.moved hW.alike hK⟩, hS.F ht⟩) hS.2.2 dX10_ageIs_80
              · have t9 : r6.toInt = (0 : Int) := gl_eq c9
                refine lv_bipush (v := (-2)) hx hb dX10_ageIs_61 (by decide) ?_
                exact W.iret (v := (-2)) hx hb hr (fun t ht hW => ⟨⟨(-2), (z6, y6), rfl, ⟨trivial, J6⟩, by rw [ht]; exact hP, va_K.moved hW.alike hK⟩, hS.F ht⟩) hS.2.2 dX10_ageIs_63
            · have t8 : a2.toInt = (2 : Int) := gl_eq c8
              refine lv_aload_n hx hb dX10_ageIs_51 rfl (lv_at hl 1 rfl) ?_
              refine qc_Vip (As := []) (rest := []) (k0 := 0) (u_unlikeAges l D ca o b z6 y6 J6) kc_yX10_unlikeAges ⟨hx, hb, hml, hown, hts⟩ wq_665 rfl rfl ⟨Nat.le_of_ble_eq_true rfl, Nat.le_of_ble_eq_true rfl⟩ wq_all hP hK hS qw_Ai (q0 := 0) (by decide) (hgU_0 ca o _ _) rfl rfl hl.1 rfl (Nat.le_of_ble_eq_true rfl) dX10_ageIs_52 ⟨Nat.zero_le _, Nat.zero_le _⟩ (fun r14 H locs h14 hP hS _ _ => ?_)
              exact W.iret (v := r14) hx hb hr (fun t ht hW => ⟨⟨r14, (z6, y6), rfl, ⟨trivial, J6⟩, by rw [ht]; exact hP, va_K.moved hW.alike hK⟩, hS.F ht⟩) hS.2.2 dX10_ageIs_55
          · have t7 : r6.toInt < (0 : Int) := gl_nle c7
            refine lv_iload hx hb dX10_ageIs_43 (lv_at hl 0 rfl) ?_
            exact W.iret (v := r6) hx hb hr (fun t ht hW => ⟨⟨r6, (z6, y6), rfl, ⟨trivial, J6⟩, by rw [ht]; exact hP, va_K.moved hW.alike hK⟩, hS.F ht⟩) hS.2.2 dX10_ageIs_45
        · have t5 : a2.toInt > (2 : Int) := gl_nle c5
          refine lv_iconst (v := (-1)) hx hb dX10_ageIs_28 (by decide) ?_
          exact W.iret (v := (-1)) hx hb hr (fun t ht hW => ⟨⟨(-1), (z, y), rfl, ⟨trivial, J0⟩, by rw [ht]; exact hP, va_K.moved hW.alike hK⟩, hS.F ht⟩) hS.2.2 dX10_ageIs_29
    · subst hr3
      have hg3_0 : ¬ pHas (z 1 5) a1 := hf3_0
      refine lv_if_eq (tgt := 28) hx hb dX10_ageIs_16 (by decide) (fun _ => ?_) (fun q => absurd (by decide) q)
      refine lv_iconst (v := (-1)) hx hb dX10_ageIs_28 (by decide) ?_
      exact W.iret (v := (-1)) hx hb hr (fun t ht hW => ⟨⟨(-1), (z, y), rfl, ⟨trivial, J0⟩, by rw [ht]; exact hP, va_K.moved hW.alike hK⟩, hS.F ht⟩) hS.2.2 dX10_ageIs_29
