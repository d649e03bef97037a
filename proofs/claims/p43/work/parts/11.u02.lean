set_option maxRecDepth 100000 in
set_option maxHeartbeats 8000000 in
theorem u_Reader_multiply_v1 (l : Launch) (D : va_G) (ca : Nat → ClassId) (o : Nat) (b z : Nat → Nat → Int32) (y : Nat → Nat → Int64) (J0 : qJU b z) (a2 : Int32)  : qM l yX6_multiply cX6_multiply 5 none 1 60 (qPre D vwCl (qT6 ca) o 132 (qG (GU ca o) z y) [.ref (o + 93), .ref (o + 101), .int a2]) (va_Qv (fun u => qJU b u.1) (qB D vwCl (qT6 ca) o 132 (fun u : qZ => qG (GU ca o) u.1 u.2)) (qw_A o 132)) (qw_A o 132) := by
  refine Met.ofW (cc := cX6_multiply) (maxL := 5) (ret := none) (by decide) rfl ?_
  intro p e s m args below meth c s₁ B hml hv
  obtain ⟨rfl, hP, hK⟩ := hv
  have hx := B.exec
  have hb := B.bytes
  have hr := B.returns
  have hts0 := atoms_spec (ws := Cond.code yX6_multiply cX6_multiply 5 none :: qtbl) B.pre
  have hts : ∀ w ∈ qtbl, w.before _ s = true := fun w h => hts0 w (List.mem_cons_of_mem _ h)
  have hown : s.vm.findClass RX6 = some m.cls := findClass_of_methodNamed B.named
  have hlocks := B.notSynchronized
  have hS : va_S (qw_A o 132) s.heap s.heap [] := va_S.rf
  have hl := lv_entry ([.ref (o + 93), .ref (o + 101), .int a2]) (n := 5) (Nat.le_of_ble_eq_true rfl)
  rw [lg_entry_eq]
  generalize (lg_sl ([.ref (o + 93), .ref (o + 101), .int a2]) ++ List.replicate (5 - (lg_sl ([.ref (o + 93), .ref (o + 101), .int a2])).length) Slot.unset).toArray = ls at hl ⊢
  have hl : lv_has ls 5 [(0, .ref (o + 93)), (1, .ref (o + 101)), (2, .int a2)] := hl
  refine lv_iload_n hx hb dX6_multiply_0 rfl (lv_at hl 2 rfl) ?_
  refine lv_if_eq (tgt := 11) hx hb dX6_multiply_1 (by decide) (fun c1 => ?_) (fun c1 => ?_)
  · have t1 : a2.toInt = (0 : Int) := gl_eq c1
    refine lv_aload_n hx hb dX6_multiply_11 rfl (lv_at hl 1 rfl) ?_
    refine lv_bipush (v := 6) hx hb dX6_multiply_12 (by decide) ?_
    refine qa_iald hx hb hK hP (q0 := 101) (by decide) 0 (N := 7) (hgU_101 ca o) rfl (gi_in (by decide) (by decide)) dX6_multiply_14 ?_
    refine lv_topi (fun x2 e2 => ?_)
    refine lv_istore_n (lv' := [(3, .int x2), (0, .ref (o + 93)), (1, .ref (o + 101)), (2, .int a2)]) hx hb dX6_multiply_15 rfl hl (by decide) rfl (fun ls hl => ?_)
    refine lv_iconst (v := 0) hx hb dX6_multiply_16 (by decide) ?_
    refine lv_istore (lv' := [(4, .int 0), (3, .int x2), (0, .ref (o + 93)), (1, .ref (o + 101)), (2, .int a2)]) hx hb dX6_multiply_17 hl (by decide) rfl (fun ls hl => ?_)
    have loop3 : ∀ (n : Nat) (w3_4 : Int32) (z3 : Nat → Nat → Int32) (y3 : Nat → Nat → Int64), ((7 - w3_4.toInt : Int) < (n : Int)) → ((0 : Int) ≤ w3_4.toInt ∧ w3_4.toInt ≤ 7) → (qJU b z3) → ∀ (H : Heap) (locs : List Loc), qw_P D vwCl o 132 (qG (GU ca o) z3 y3) H → va_S (qw_A o 132) s.heap H locs → ∀ (ls : Array Slot), lv_has ls 5 [(4, .int w3_4), (3, .int x2), (0, .ref (o + 93)), (1, .ref (o + 101)), (2, .int a2)] → W p l e (headSpec (Cond.code yX6_multiply cX6_multiply 5 none :: qtbl) ({ frames := 1, cells := 0, slots := 0, locals := 60 })).room s m (([.ref (o + 93), .ref (o + 101), .int a2] : List Value).toArray) below meth c H locs 0 0 (MQ below (va_Qv (fun u => qJU b u.1) (qB D vwCl (qT6 ca) o 132 (fun u : qZ => qG (GU ca o) u.1 u.2)) (qw_A o 132)) (([.ref (o + 93), .ref (o + 101), .int a2] : List Value).toArray) s 0 0 (qw_A o 132)) (F0 m 19 ls []) := by
      intro n
      induction n with
      | zero => intro w3_4 z3 y3 hb3 hv3_4 J3; exfalso; omega
      | succ n3 ih3 =>
        intro w3_4 z3 y3 hb3 hv3_4 J3 H locs hP hS ls hl
        refine lv_iload hx hb dX6_multiply_19 (lv_at hl 0 rfl) ?_
        refine lv_bipush (v := 7) hx hb dX6_multiply_21 (by decide) ?_
        refine lv_icmp_ge (tgt := 53) hx hb dX6_multiply_23 (by decide) (fun c4 => ?_) (fun c4 => ?_)
        · have t4 : w3_4.toInt ≥ (7 : Int) := gl_le c4
          exact W.vret hx hb hr (fun t ht hW => ⟨⟨(z3, y3), rfl, J3, by rw [ht]; exact hP, va_K.moved hW.alike hK⟩, hS.F ht⟩) hS.2.2 dX6_multiply_53
        · have t4 : w3_4.toInt < (7 : Int) := gl_nle c4
          refine lv_aload_n hx hb dX6_multiply_26 rfl (lv_at hl 2 rfl) ?_
          refine lv_iload hx hb dX6_multiply_27 (lv_at hl 0 rfl) ?_
          refine lv_iload_n hx hb dX6_multiply_29 rfl (lv_at hl 1 rfl) ?_
          refine lv_iload_n hx hb dX6_multiply_30 rfl (lv_at hl 4 rfl) ?_
          refine lv_if_eq (tgt := 41) hx hb dX6_multiply_31 (by decide) (fun c5 => ?_) (fun c5 => ?_)
          · have t5 : a2.toInt = (0 : Int) := gl_eq c5
            refine lv_aload_n hx hb dX6_multiply_41 rfl (lv_at hl 2 rfl) ?_
            refine lv_iload hx hb dX6_multiply_42 (lv_at hl 0 rfl) ?_
            refine qa_iald hx hb hK hP (q0 := 93) (by decide) 0 (N := 7) (hgU_93 ca o) rfl (gi_in (by omega) (by omega)) dX6_multiply_44 ?_
            refine lv_topi (fun x6 e6 => ?_)
            refine lv_imul hx hb dX6_multiply_45 ?_
            refine lv_topi (fun x7 e7 => ?_)
            refine qa_iast2 hx hb hK hP hS qw_Ai (q0 := 93) (by decide) 0 (N := 7) (hgU_93 ca o) rfl (i := w3_4) (x := x7) (gi_in (by omega) (by omega)) dX6_multiply_46 (fun z8 H locs hz8 hP hS => ?_)
            have J8 := jU_93 J3 hz8
            obtain ⟨x9, e9⟩ : ∃ t : Int32, t = w3_4 + 1 := ⟨_, rfl⟩
            refine lv_iinc (v := x9) (lv' := [(4, .int x9), (3, .int x2), (0, .ref (o + 93)), (1, .ref (o + 101)), (2, .int a2)]) hx hb dX6_multiply_47 hl (k := 0) rfl (by rw [e9]; rfl) (by decide) rfl (fun ls hl => ?_)
            have t9 : x9.toInt = w3_4.toInt + (1 : Int) := ga_add e9 rfl rfl (by omega) (by omega)
            refine lv_goto (tgt := 19) hx hb dX6_multiply_50 (by decide) ?_
            exact ih3 x9 z8 y3 (show (7 - x9.toInt : Int) < (n3 : Int) from by omega) ⟨by omega, by omega⟩ J8 _ _ hP hS _ (lv_sub hl [0, 1, 2, 3, 4] rfl)
          · have t5 : a2.toInt ≠ (0 : Int) := gl_ne c5
            exfalso; omega
    exact loop3 8 0 z y (show (7 - (0 : Int) : Int) < ((8 : Nat) : Int) from by omega) ⟨by decide, by decide⟩ J0 _ _ hP hS _ (lv_sub hl [0, 1, 2, 3, 4] rfl)
  · have t1 : a2.toInt ≠ (0 : Int) := gl_ne c1
    refine lv_aload_n hx hb dX6_multiply_4 rfl (lv_at hl 0 rfl) ?_
    refine lv_bipush (v := 6) hx hb dX6_multiply_5 (by decide) ?_
    refine qa_iald hx hb hK hP (q0 := 93) (by decide) 0 (N := 7) (hgU_93 ca o) rfl (gi_in (by decide) (by decide)) dX6_multiply_7 ?_
    refine lv_topi (fun x10 e10 => ?_)
    refine lv_goto (tgt := 15) hx hb dX6_multiply_8 (by decide) ?_
    refine lv_istore_n (lv' := [(3, .int x10), (0, .ref (o + 93)), (1, .ref (o + 101)), (2, .int a2)]) hx hb dX6_multiply_15 rfl hl (by decide) rfl (fun ls hl => ?_)
    refine lv_iconst (v := 0) hx hb dX6_multiply_16 (by decide) ?_
    refine lv_istore (lv' := [(4, .int 0), (3, .int x10), (0, .ref (o + 93)), (1, .ref (o + 101)), (2, .int a2)]) hx hb dX6_multiply_17 hl (by decide) rfl (fun ls hl => ?_)
    have loop11 : ∀ (n : Nat) (w11_4 : Int32) (z11 : Nat → Nat → Int32) (y11 : Nat → Nat → Int64), ((7 - w11_4.toInt : Int) < (n : Int)) → ((0 : Int) ≤ w11_4.toInt ∧ w11_4.toInt ≤ 7) → (qJU b z11) → ∀ (H : Heap) (locs : List Loc), qw_P D vwCl o 132 (qG (GU ca o) z11 y11) H → va_S (qw_A o 132) s.heap H locs → ∀ (ls : Array Slot), lv_has ls 5 [(4, .int w11_4), (3, .int x10), (0, .ref (o + 93)), (1, .ref (o + 101)), (2, .int a2)] → W p l e (headSpec (Cond.code yX6_multiply cX6_multiply 5 none :: qtbl) ({ frames := 1, cells := 0, slots := 0, locals := 60 })).room s m (([.ref (o + 93), .ref (o + 101), .int a2] : List Value).toArray) below meth c H locs 0 0 (MQ below (va_Qv (fun u => qJU b u.1) (qB D vwCl (qT6 ca) o 132 (fun u : qZ => qG (GU ca o) u.1 u.2)) (qw_A o 132)) (([.ref (o + 93), .ref (o + 101), .int a2] : List Value).toArray) s 0 0 (qw_A o 132)) (F0 m 19 ls []) := by
      intro n
      induction n with
      | zero => intro w11_4 z11 y11 hb11 hv11_4 J11; exfalso; omega
      | succ n11 ih11 =>
        intro w11_4 z11 y11 hb11 hv11_4 J11 H locs hP hS ls hl
        refine lv_iload hx hb dX6_multiply_19 (lv_at hl 0 rfl) ?_
        refine lv_bipush (v := 7) hx hb dX6_multiply_21 (by decide) ?_
        refine lv_icmp_ge (tgt := 53) hx hb dX6_multiply_23 (by decide) (fun c12 => ?_) (fun c12 => ?_)
        · have t12 : w11_4.toInt ≥ (7 : Int) := gl_le c12
          exact W.vret hx hb hr (fun t ht hW => ⟨⟨(z11, y11), rfl, J11, by rw [ht]; exact hP, va_K.moved hW.alike hK⟩, hS.F ht⟩) hS.2.2 dX6_multiply_53
        · have t12 : w11_4.toInt < (7 : Int) := gl_nle c12
          refine lv_aload_n hx hb dX6_multiply_26 rfl (lv_at hl 2 rfl) ?_
          refine lv_iload hx hb dX6_multiply_27 (lv_at hl 0 rfl) ?_
          refine lv_iload_n hx hb dX6_multiply_29 rfl (lv_at hl 1 rfl) ?_
          refine lv_iload_n hx hb dX6_multiply_30 rfl (lv_at hl 4 rfl) ?_
          refine lv_if_eq (tgt := 41) hx hb dX6_multiply_31 (by decide) (fun c13 => ?_) (fun c13 => ?_)
          · have t13 : a2.toInt = (0 : Int) := gl_eq c13
            refine lv_aload_n hx hb dX6_multiply_41 rfl (lv_at hl 2 rfl) ?_
            refine lv_iload hx hb dX6_multiply_42 (lv_at hl 0 rfl) ?_
            refine qa_iald hx hb hK hP (q0 := 93) (by decide) 0 (N := 7) (hgU_93 ca o) rfl (gi_in (by omega) (by omega)) dX6_multiply_44 ?_
            refine lv_topi (fun x14 e14 => ?_)
            refine lv_imul hx hb dX6_multiply_45 ?_
            refine lv_topi (fun x15 e15 => ?_)
            refine qa_iast2 hx hb hK hP hS qw_Ai (q0 := 93) (by decide) 0 (N := 7) (hgU_93 ca o) rfl (i := w11_4) (x := x15) (gi_in (by omega) (by omega)) dX6_multiply_46 (fun z16 H locs hz16 hP hS => ?_)
            have J16 := jU_93 J11 hz16
            obtain ⟨x17, e17⟩ : ∃ t : Int32, t = w11_4 + 1 := ⟨_, rfl⟩
            refine lv_iinc (v := x17) (lv' := [(4, .int x17), (3, .int x10), (0, .ref (o + 93)), (1, .ref (o + 101)), (2, .int a2)]) hx hb dX6_multiply_47 hl (k := 0) rfl (by rw [e17]; rfl) (by decide) rfl (fun ls hl => ?_)
            have t17 : x17.toInt = w11_4.toInt + (1 : Int) := ga_add e17 rfl rfl (by omega) (by omega)
            refine lv_goto (tgt := 19) hx hb dX6_multiply_50 (by decide) ?_
            exact ih11 x17 z16 y11 (show (7 - x17.toInt : Int) < (n11 : Int) from by omega) ⟨by omega, by omega⟩ J16 _ _ hP hS _ (lv_sub hl [0, 1, 2, 3, 4] rfl)
          · have t13 : a2.toInt ≠ (0 : Int) := gl_ne c13
            refine lv_aload_n hx hb dX6_multiply_34 rfl (lv_at hl 3 rfl) ?_
            refine lv_iload hx hb dX6_multiply_35 (lv_at hl 0 rfl) ?_
            refine qa_iald hx hb hK hP (q0 := 101) (by decide) 0 (N := 7) (hgU_101 ca o) rfl (gi_in (by omega) (by omega)) dX6_multiply_37 ?_
            refine lv_topi (fun x18 e18 => ?_)
            refine lv_goto (tgt := 45) hx hb dX6_multiply_38 (by decide) ?_
            refine lv_imul hx hb dX6_multiply_45 ?_
            refine lv_topi (fun x19 e19 => ?_)
            refine qa_iast2 hx hb hK hP hS qw_Ai (q0 := 93) (by decide) 0 (N := 7) (hgU_93 ca o) rfl (i := w11_4) (x := x19) (gi_in (by omega) (by omega)) dX6_multiply_46 (fun z20 H locs hz20 hP hS => ?_)
            have J20 := jU_93 J11 hz20
            obtain ⟨x21, e21⟩ : ∃ t : Int32, t = w11_4 + 1 := ⟨_, rfl⟩
            refine lv_iinc (v := x21) (lv' := [(4, .int x21), (3, .int x10), (0, .ref (o + 93)), (1, .ref (o + 101)), (2, .int a2)]) hx hb dX6_multiply_47 hl (k := 0) rfl (by rw [e21]; rfl) (by decide) rfl (fun ls hl => ?_)
            have t21 : x21.toInt = w11_4.toInt + (1 : Int) := ga_add e21 rfl rfl (by omega) (by omega)
            refine lv_goto (tgt := 19) hx hb dX6_multiply_50 (by decide) ?_
            exact ih11 x21 z20 y11 (show (7 - x21.toInt : Int) < (n11 : Int) from by omega) ⟨by omega, by omega⟩ J20 _ _ hP hS _ (lv_sub hl [0, 1, 2, 3, 4] rfl)
    exact loop11 8 0 z y (show (7 - (0 : Int) : Int) < ((8 : Nat) : Int) from by omega) ⟨by decide, by decide⟩ J0 _ _ hP hS _ (lv_sub hl [0, 1, 2, 3, 4] rfl)
set_option maxRecDepth 100000 in
set_option maxHeartbeats 8000000 in
theorem u_Reader_readTerm_v5 (l : Launch) (D : va_G) (ca : Nat → ClassId) (o : Nat) (b z : Nat → Nat → Int32) (y : Nat → Nat → Int64) (J0 : qJU b z)   : qM l yX6_readTerm cX6_readTerm 8 (some .boolean) 9 251 (qPre D vwCl (qT6 ca) o 132 (qG (GU ca o) z y) [.ref (o + 78), .int 5]) (va_Qi (fun r u => ((0 : Int) ≤ r.toInt ∧ r.toInt ≤ 1) ∧ qJU b u.1) (qB D vwCl (qT6 ca) o 132 (fun u : qZ => qG (GU ca o) u.1 u.2)) (qw_A o 132)) (qw_A o 132) := by
  refine Met.ofW (cc := cX6_readTerm) (maxL := 8) (ret := (some .boolean)) (by decide) rfl ?_
  intro p e s m args below meth c s₁ B hml hv
  obtain ⟨rfl, hP, hK⟩ := hv
  have hx := B.exec
  have hb := B.bytes
  have hr := B.returns
  have hts0 := atoms_spec (ws := Cond.code yX6_readTerm cX6_readTerm 8 (some .boolean) :: qtbl) B.pre
  have hts : ∀ w ∈ qtbl, w.before _ s = true := fun w h => hts0 w (List.mem_cons_of_mem _ h)
  have hown : s.vm.findClass RX6 = some m.cls := findClass_of_methodNamed B.named
  have hlocks := B.notSynchronized
  have hS : va_S (qw_A o 132) s.heap s.heap [] := va_S.rf
  have hl := lv_entry ([.ref (o + 78), .int 5]) (n := 8) (Nat.le_of_ble_eq_true rfl)
  rw [lg_entry_eq]
  generalize (lg_sl ([.ref (o + 78), .int 5]) ++ List.replicate (8 - (lg_sl ([.ref (o + 78), .int 5])).length) Slot.unset).toArray = ls at hl ⊢
  have hl : lv_has ls 8 [(0, .ref (o + 78)), (1, .int 5)] := hl
  refine lv_aload_n hx hb dX6_readTerm_0 rfl (lv_at hl 0 rfl) ?_
  refine qf_get hx hb hts inX6 hown hK hP (q0 := 78) (by decide) (hgU_78 ca o) rfl 2 (by decide) wq_132 (v := .ref (o + 87)) rfl dX6_readTerm_1 ?_
  refine lv_iload_n hx hb dX6_readTerm_4 rfl (lv_at hl 1 rfl) ?_
  refine qa_aald hx hb hK hP (q0 := 87) (by decide) 5 rfl (N := 7) (hgU_87 ca o) rfl (gi_in (by decide) (by decide)) dX6_readTerm_5 ?_
  refine lv_astore_n (lv' := [(2, .ref (o + (88 + (5 : Int32).toNatClampNeg))), (0, .ref (o + 78)), (1, .int 5)]) hx hb dX6_readTerm_6 rfl hl (by decide) rfl (fun ls hl => ?_)
  refine lv_aload_n hx hb dX6_readTerm_7 rfl (lv_at hl 0 rfl) ?_
  refine lv_iconst (v := 0) hx hb dX6_readTerm_8 (by decide) ?_
  refine qc_Sv2 (As := [.ref (o + (88 + (5 : Int32).toNatClampNeg)), .int 0]) (rest := []) (k0 := 2) (u_Arrays_fill_v16 l D ca o b z y J0 0) kc_yJ7_fill_53178 ⟨hx, hb, hml, hown, hts⟩ wq_454 rfl rfl ⟨Nat.le_of_ble_eq_true rfl, Nat.le_of_ble_eq_true rfl⟩ wq_all hP hK hS qw_Ai rfl hl.1 rfl (Nat.le_of_ble_eq_true rfl) dX6_readTerm_9 ⟨Nat.zero_le _, Nat.zero_le _⟩ (fun z1 y1 H locs h1 hP hS _ _ => ?_)
  have J1 : qJU b z1 := h1
  refine lv_aload_n hx hb dX6_readTerm_12 rfl (lv_at hl 0 rfl) ?_
  refine lv_bipush (v := 6) hx hb dX6_readTerm_13 (by decide) ?_
  refine lv_iconst (v := 1) hx hb dX6_readTerm_15 (by decide) ?_
  refine qa_iast2 hx hb hK hP hS qw_Ai (q0 := 93) (by decide) 0 (N := 7) (hgU_93 ca o) rfl (i := 6) (x := 1) (gi_in (by decide) (by decide)) dX6_readTerm_16 (fun z2 H locs hz2 hP hS => ?_)
  have J2 := jU_93 J1 hz2
  refine lv_iconst (v := 0) hx hb dX6_readTerm_17 (by decide) ?_
  refine lv_istore_n (lv' := [(3, .int 0), (2, .ref (o + (88 + (5 : Int32).toNatClampNeg))), (0, .ref (o + 78)), (1, .int 5)]) hx hb dX6_readTerm_18 rfl hl (by decide) rfl (fun ls hl => ?_)
  refine lv_aload_n hx hb dX6_readTerm_19 rfl (lv_at hl 2 rfl) ?_
  refine qf_get hx hb hts inX6 hown hK hP (q0 := 78) (by decide) (hgU_78 ca o) rfl 6 (by decide) wq_136 (v := .int (z2 78 6)) rfl dX6_readTerm_20 ?_
  refine lv_topi (fun x3 e3 => ?_)
  refine lv_istore (lv' := [(4, .int x3), (3, .int 0), (2, .ref (o + (88 + (5 : Int32).toNatClampNeg))), (0, .ref (o + 78)), (1, .int 5)]) hx hb dX6_readTerm_23 hl (by decide) rfl (fun ls hl => ?_)
  refine lv_iconst (v := 0) hx hb dX6_readTerm_25 (by decide) ?_
  refine lv_istore (lv' := [(5, .int 0), (4, .int x3), (3, .int 0), (2, .ref (o + (88 + (5 : Int32).toNatClampNeg))), (0, .ref (o + 78)), (1, .int 5)]) hx hb dX6_readTerm_26 hl (by decide) rfl (fun ls hl => ?_)
  have loop4 : ∀ (n : Nat) (w4_5 : Int32) (w4_4 : Int32) (w4_3 : Int32) (z4 : Nat → Nat → Int32) (y4 : Nat → Nat → Int64), ((61 - w4_5.toInt : Int) < (n : Int)) → ((0 : Int) ≤ w4_5.toInt ∧ w4_5.toInt ≤ 61) → ((0 : Int) ≤ w4_3.toInt ∧ w4_3.toInt ≤ 1) → (qJU b z4) → ∀ (H : Heap) (locs : List Loc), qw_P D vwCl o 132 (qG (GU ca o) z4 y4) H → va_S (qw_A o 132) s.heap H locs → ∀ (ls : Array Slot), lv_has ls 8 [(5, .int w4_5), (4, .int w4_4), (3, .int w4_3), (2, .ref (o + (88 + (5 : Int32).toNatClampNeg))), (0, .ref (o + 78)), (1, .int 5)] → W p l e (headSpec (Cond.code yX6_readTerm cX6_readTerm 8 (some .boolean) :: qtbl) ({ frames := 9, cells := 0, slots := 0, locals := 251 })).room s m (([.ref (o + 78), .int 5] : List Value).toArray) below meth c H locs 0 0 (MQ below (va_Qi (fun r u => ((0 : Int) ≤ r.toInt ∧ r.toInt ≤ 1) ∧ qJU b u.1) (qB D vwCl (qT6 ca) o 132 (fun u : qZ => qG (GU ca o) u.1 u.2)) (qw_A o 132)) (([.ref (o + 78), .int 5] : List Value).toArray) s 0 0 (qw_A o 132)) (F0 m 28 ls []) := by
    intro n
    induction n with
    | zero => intro w4_5 w4_4 w4_3 z4 y4 hb4 hv4_5 hv4_3 J4; exfalso; omega
    | succ n4 ih4 =>
      intro w4_5 w4_4 w4_3 z4 y4 hb4 hv4_5 hv4_3 J4 H locs hP hS ls hl
      refine lv_iload hx hb dX6_readTerm_28 (lv_at hl 0 rfl) ?_
      refine lv_bipush (v := 60) hx hb dX6_readTerm_30 (by decide) ?_
      refine lv_icmp_gt (tgt := 145) hx hb dX6_readTerm_32 (by decide) (fun c5 => ?_) (fun c5 => ?_)
      · have t5 : w4_5.toInt > (60 : Int) := gl_lt c5
        refine lv_aload_n hx hb dX6_readTerm_145 rfl (lv_at hl 4 rfl) ?_
        refine lv_iconst (v := 1) hx hb dX6_readTerm_146 (by decide) ?_
        refine lv_aload_n hx hb dX6_readTerm_147 rfl (lv_at hl 4 rfl) ?_
        refine qf_get hx hb hts inX6 hown hK hP (q0 := 78) (by decide) (hgU_78 ca o) rfl 6 (by decide) wq_136 (v := .int (z4 78 6)) rfl dX6_readTerm_148 ?_
        refine lv_topi (fun x6 e6 => ?_)
        refine qc_Vi2 (As := [.int 1, .int x6]) (rest := []) (k0 := 2) (u_Reader_fail l D ca o b z4 y4 J4 1 x6) kc_yX6_fail ⟨hx, hb, hml, hown, hts⟩ wq_450 rfl rfl ⟨Nat.le_of_ble_eq_true rfl, Nat.le_of_ble_eq_true rfl⟩ wq_all hP hK hS qw_Ai (q0 := 78) (by decide) (hgU_78 ca o _ _) rfl rfl hl.1 rfl (Nat.le_of_ble_eq_true rfl) dX6_readTerm_151 ⟨Nat.zero_le _, Nat.zero_le _⟩ (fun r7 z7 y7 H locs h7 hP hS _ _ => ?_)
        have J7 : qJU b z7 := h7.2
        have b7 : (0 : Int) ≤ r7.toInt ∧ r7.toInt ≤ 0 := h7.1
        obtain rfl : r7 = 0 := lit_eq (k := 0) (K := 0) rfl (by omega) (by omega)
        exact W.zret (v := 0) (ty := .boolean) hx hb hr rfl (fun t ht hW => ⟨⟨0, (z7, y7), rfl, ⟨⟨by decide, by decide⟩, J7⟩, by rw [ht]; exact hP, va_K.moved hW.alike hK⟩, hS.F ht⟩) hS.2.2 dX6_readTerm_154
      · have t5 : w4_5.toInt ≤ (60 : Int) := gl_nlt c5
        refine lv_aload_n hx hb dX6_readTerm_35 rfl (lv_at hl 4 rfl) ?_
        refine qf_get hx hb hts inX6 hown hK hP (q0 := 78) (by decide) (hgU_78 ca o) rfl 8 (by decide) wq_138 (v := .int (z4 78 8)) rfl dX6_readTerm_36 ?_
        refine lv_topi (fun x8 e8 => ?_)
        refine lv_istore (lv' := [(6, .int x8), (5, .int w4_5), (4, .int w4_4), (3, .int w4_3), (2, .ref (o + (88 + (5 : Int32).toNatClampNeg))), (0, .ref (o + 78)), (1, .int 5)]) hx hb dX6_readTerm_39 hl (by decide) rfl (fun ls hl => ?_)
        refine lv_aload_n hx hb dX6_readTerm_41 rfl (lv_at hl 5 rfl) ?_
        refine lv_iload_n hx hb dX6_readTerm_42 rfl (lv_at hl 6 rfl) ?_
        refine qc_Vi2 (As := [.int 5]) (rest := []) (k0 := 1) (u_Reader_readFactor_v5 l D ca o b z4 y4 J4) kc_yX6_readFactor ⟨hx, hb, hml, hown, hts⟩ wq_459 rfl rfl ⟨Nat.le_of_ble_eq_true rfl, Nat.le_of_ble_eq_true rfl⟩ wq_all hP hK hS qw_Ai (q0 := 78) (by decide) (hgU_78 ca o _ _) rfl rfl hl.1 rfl (Nat.le_of_ble_eq_true rfl) dX6_readTerm_43 ⟨Nat.zero_le _, Nat.zero_le _⟩ (fun r9 z9 y9 H locs h9 hP hS _ _ => ?_)
        have J9 : qJU b z9 := h9.2
        have b9 : (0 : Int) ≤ r9.toInt ∧ r9.toInt ≤ 1 := h9.1
        refine lv_if_ne (tgt := 51) hx hb dX6_readTerm_46 (by decide) (fun c10 => ?_) (fun c10 => ?_)
        · have t10 : r9.toInt ≠ (0 : Int) := gl_ne c10
          refine lv_aload_n hx hb dX6_readTerm_51 rfl (lv_at hl 5 rfl) ?_
          refine qf_get hx hb hts inX6 hown hK hP (q0 := 78) (by decide) (hgU_78 ca o) rfl 8 (by decide) wq_138 (v := .int (z9 78 8)) rfl dX6_readTerm_52 ?_
          refine lv_topi (fun x11 e11 => ?_)
          refine lv_iload hx hb dX6_readTerm_55 (lv_at hl 0 rfl) ?_
          refine lv_icmp_le (tgt := 64) hx hb dX6_readTerm_57 (by decide) (fun c12 => ?_) (fun c12 => ?_)
          · have t12 : x11.toInt ≤ x8.toInt := gl_le c12
            refine lv_iconst (v := 0) hx hb dX6_readTerm_64 (by decide) ?_
            refine lv_istore (lv' := [(7, .int 0), (6, .int x8), (5, .int w4_5), (4, .int w4_4), (3, .int w4_3), (2, .ref (o + (88 + (5 : Int32).toNatClampNeg))), (0, .ref (o + 78)), (1, .int 5)]) hx hb dX6_readTerm_65 hl (by decide) rfl (fun ls hl => ?_)
            refine lv_iload_n hx hb dX6_readTerm_67 rfl (lv_at hl 4 rfl) ?_
            refine lv_if_eq (tgt := 85) hx hb dX6_readTerm_68 (by decide) (fun c13 => ?_) (fun c13 => ?_)
            · have t13 : w4_3.toInt = (0 : Int) := gl_eq c13
              refine lv_aload_n hx hb dX6_readTerm_85 rfl (lv_at hl 5 rfl) ?_
              refine lv_aload_n hx hb dX6_readTerm_86 rfl (lv_at hl 6 rfl) ?_
              refine qf_get hx hb hts inX6 hown hK hP (q0 := 78) (by decide) (hgU_78 ca o) rfl 3 (by decide) wq_133 (v := .ref (o + 95)) rfl dX6_readTerm_87 ?_
              refine lv_iload_n hx hb dX6_readTerm_90 rfl (lv_at hl 7 rfl) ?_
              refine qa_aald hx hb hK hP (q0 := 95) (by decide) 5 rfl (N := 7) (hgU_95 ca o) rfl (gi_in (by decide) (by decide)) dX6_readTerm_91 ?_
              refine lv_iload hx hb dX6_readTerm_92 (lv_at hl 0 rfl) ?_
              refine qc_Sv2 (As := [.ref (o + (88 + (5 : Int32).toNatClampNeg)), .ref (o + (96 + (5 : Int32).toNatClampNeg)), .int 0]) (rest := []) (k0 := 3) (u_Reader_multiply_v1 l D ca o b z9 y9 J9 0) kc_yX6_multiply ⟨hx, hb, hml, hown, hts⟩ wq_490 rfl rfl ⟨Nat.le_of_ble_eq_true rfl, Nat.le_of_ble_eq_true rfl⟩ wq_all hP hK hS qw_Ai rfl hl.1 rfl (Nat.le_of_ble_eq_true rfl) dX6_readTerm_94 ⟨Nat.zero_le _, Nat.zero_le _⟩ (fun z14 y14 H locs h14 hP hS _ _ => ?_)
              have J14 : qJU b z14 := h14
              refine lv_iload_n hx hb dX6_readTerm_97 rfl (lv_at hl 4 rfl) ?_
              refine lv_if_ne (tgt := 106) hx hb dX6_readTerm_98 (by decide) (fun c15 => ?_) (fun c15 => ?_)
              · have t15 : w4_3.toInt ≠ (0 : Int) := gl_ne c15
                exfalso; omega
              · have t15 : w4_3.toInt = (0 : Int) := gl_eq c15
                refine lv_iload hx hb dX6_readTerm_101 (lv_at hl 0 rfl) ?_
                refine lv_if_eq (tgt := 110) hx hb dX6_readTerm_103 (by decide) (fun _ => ?_) (fun q => absurd (by decide) q)
                refine lv_iconst (v := 0) hx hb dX6_readTerm_110 (by decide) ?_
                refine lv_istore_n (lv' := [(3, .int 0), (7, .int 0), (6, .int x8), (5, .int w4_5), (4, .int w4_4), (2, .ref (o + (88 + (5 : Int32).toNatClampNeg))), (0, .ref (o + 78)), (1, .int 5)]) hx hb dX6_readTerm_111 rfl hl (by decide) rfl (fun ls hl => ?_)
                refine lv_aload_n hx hb dX6_readTerm_112 rfl (lv_at hl 6 rfl) ?_
                refine qc_Vip (As := []) (rest := []) (k0 := 0) (u_Reader_peek l D ca o b z14 y14 J14) kc_yX6_peek ⟨hx, hb, hml, hown, hts⟩ wq_463 rfl rfl ⟨Nat.le_of_ble_eq_true rfl, Nat.le_of_ble_eq_true rfl⟩ wq_all hP hK hS qw_Ai (q0 := 78) (by decide) (hgU_78 ca o _ _) rfl rfl hl.1 rfl (Nat.le_of_ble_eq_true rfl) dX6_readTerm_113 ⟨Nat.zero_le _, Nat.zero_le _⟩ (fun r16 H locs h16 hP hS _ _ => ?_)
                refine lv_bipush (v := 42) hx hb dX6_readTerm_116 (by decide) ?_
                refine lv_icmp_eq (tgt := 123) hx hb dX6_readTerm_118 (by decide) (fun c17 => ?_) (fun c17 => ?_)
                · have t17 : r16.toInt = (42 : Int) := gl_eq c17
                  refine lv_aload_n hx hb dX6_readTerm_123 rfl (lv_at hl 6 rfl) ?_
                  refine qf_get hx hb hts inX6 hown hK hP (q0 := 78) (by decide) (hgU_78 ca o) rfl 6 (by decide) wq_136 (v := .int (z14 78 6)) rfl dX6_readTerm_124 ?_
                  refine lv_topi (fun x18 e18 => ?_)
                  refine lv_istore (lv' := [(4, .int x18), (3, .int 0), (7, .int 0), (6, .int x8), (5, .int w4_5), (2, .ref (o + (88 + (5 : Int32).toNatClampNeg))), (0, .ref (o + 78)), (1, .int 5)]) hx hb dX6_readTerm_127 hl (by decide) rfl (fun ls hl => ?_)
                  refine lv_aload_n hx hb dX6_readTerm_129 rfl (lv_at hl 6 rfl) ?_
                  refine lv_dup hx hb dX6_readTerm_130 rfl ?_
                  refine qf_get hx hb hts inX6 hown hK hP (q0 := 78) (by decide) (hgU_78 ca o) rfl 6 (by decide) wq_136 (v := .int (z14 78 6)) rfl dX6_readTerm_131 ?_
                  refine lv_topi (fun x19 e19 => ?_)
                  have ag19 : x19.toInt = x18.toInt := congrArg Int32.toInt (e19.trans e18.symm)
                  refine lv_iconst (v := 1) hx hb dX6_readTerm_134 (by decide) ?_
                  refine lv_iadd hx hb dX6_readTerm_135 ?_
                  refine lv_topi (fun x20 e20 => ?_)
                  refine qf_put2 hx hb hts inX6 tyX6 tyX6_ok nmX6 hown hK hP hS qw_Ai (q0 := 78) (by decide) (hgU_78 ca o) rfl 6 (by decide) wq_136 rfl (x := x20) 6 rfl rfl rfl (Nat.le_of_ble_eq_true rfl) dX6_readTerm_136 (fun z21 H locs hz21 hP hS => ?_)
                  have J21 := jU_78_6 J14 hz21
                  obtain ⟨x22, e22⟩ : ∃ t : Int32, t = w4_5 + 1 := ⟨_, rfl⟩
                  refine lv_iinc (v := x22) (lv' := [(5, .int x22), (4, .int x18), (3, .int 0), (7, .int 0), (6, .int x8), (2, .ref (o + (88 + (5 : Int32).toNatClampNeg))), (0, .ref (o + 78)), (1, .int 5)]) hx hb dX6_readTerm_139 hl (k := 4) rfl (by rw [e22]; rfl) (by decide) rfl (fun ls hl => ?_)
                  have t22 : x22.toInt = w4_5.toInt + (1 : Int) := ga_add e22 rfl rfl (by omega) (by omega)
                  refine lv_goto (tgt := 28) hx hb dX6_readTerm_142 (by decide) ?_
                  exact ih4 x22 x18 0 z21 y14 (show (61 - x22.toInt : Int) < (n4 : Int) from by omega) ⟨by omega, by omega⟩ ⟨by decide, by decide⟩ J21 _ _ hP hS _ (lv_sub hl [0, 1, 2, 5, 6, 7] rfl)
                · have t17 : r16.toInt ≠ (42 : Int) := gl_ne c17
                  refine lv_iconst (v := 1) hx hb dX6_readTerm_121 (by decide) ?_
                  exact W.zret (v := 1) (ty := .boolean) hx hb hr rfl (fun t ht hW => ⟨⟨1, (z14, y14), rfl, ⟨⟨by decide, by decide⟩, J14⟩, by rw [ht]; exact hP, va_K.moved hW.alike hK⟩, hS.F ht⟩) hS.2.2 dX6_readTerm_122
            · have t13 : w4_3.toInt ≠ (0 : Int) := gl_ne c13
              refine lv_iload hx hb dX6_readTerm_71 (lv_at hl 0 rfl) ?_
              refine lv_if_eq (tgt := 85) hx hb dX6_readTerm_73 (by decide) (fun _ => ?_) (fun q => absurd (by decide) q)
              refine lv_aload_n hx hb dX6_readTerm_85 rfl (lv_at hl 5 rfl) ?_
              refine lv_aload_n hx hb dX6_readTerm_86 rfl (lv_at hl 6 rfl) ?_
              refine qf_get hx hb hts inX6 hown hK hP (q0 := 78) (by decide) (hgU_78 ca o) rfl 3 (by decide) wq_133 (v := .ref (o + 95)) rfl dX6_readTerm_87 ?_
              refine lv_iload_n hx hb dX6_readTerm_90 rfl (lv_at hl 7 rfl) ?_
              refine qa_aald hx hb hK hP (q0 := 95) (by decide) 5 rfl (N := 7) (hgU_95 ca o) rfl (gi_in (by decide) (by decide)) dX6_readTerm_91 ?_
              refine lv_iload hx hb dX6_readTerm_92 (lv_at hl 0 rfl) ?_
              refine qc_Sv2 (As := [.ref (o + (88 + (5 : Int32).toNatClampNeg)), .ref (o + (96 + (5 : Int32).toNatClampNeg)), .int 0]) (rest := []) (k0 := 3) (u_Reader_multiply_v1 l D ca o b z9 y9 J9 0) kc_yX6_multiply ⟨hx, hb, hml, hown, hts⟩ wq_490 rfl rfl ⟨Nat.le_of_ble_eq_true rfl, Nat.le_of_ble_eq_true rfl⟩ wq_all hP hK hS qw_Ai rfl hl.1 rfl (Nat.le_of_ble_eq_true rfl) dX6_readTerm_94 ⟨Nat.zero_le _, Nat.zero_le _⟩ (fun z23 y23 H locs h23 hP hS _ _ => ?_)
              have J23 : qJU b z23 := h23
              refine lv_iload_n hx hb dX6_readTerm_97 rfl (lv_at hl 4 rfl) ?_
              refine lv_if_ne (tgt := 106) hx hb dX6_readTerm_98 (by decide) (fun c24 => ?_) (fun c24 => ?_)
              · have t24 : w4_3.toInt ≠ (0 : Int) := gl_ne c24
                refine lv_iconst (v := 1) hx hb dX6_readTerm_106 (by decide) ?_
                refine lv_goto (tgt := 111) hx hb dX6_readTerm_107 (by decide) ?_
                refine lv_istore_n (lv' := [(3, .int 1), (7, .int 0), (6, .int x8), (5, .int w4_5), (4, .int w4_4), (2, .ref (o + (88 + (5 : Int32).toNatClampNeg))), (0, .ref (o + 78)), (1, .int 5)]) hx hb dX6_readTerm_111 rfl hl (by decide) rfl (fun ls hl => ?_)
                refine lv_aload_n hx hb dX6_readTerm_112 rfl (lv_at hl 6 rfl) ?_
                refine qc_Vip (As := []) (rest := []) (k0 := 0) (u_Reader_peek l D ca o b z23 y23 J23) kc_yX6_peek ⟨hx, hb, hml, hown, hts⟩ wq_463 rfl rfl ⟨Nat.le_of_ble_eq_true rfl, Nat.le_of_ble_eq_true rfl⟩ wq_all hP hK hS qw_Ai (q0 := 78) (by decide) (hgU_78 ca o _ _) rfl rfl hl.1 rfl (Nat.le_of_ble_eq_true rfl) dX6_readTerm_113 ⟨Nat.zero_le _, Nat.zero_le _⟩ (fun r25 H locs h25 hP hS _ _ => ?_)
                refine lv_bipush (v := 42) hx hb dX6_readTerm_116 (by decide) ?_
                refine lv_icmp_eq (tgt := 123) hx hb dX6_readTerm_118 (by decide) (fun c26 => ?_) (fun c26 => ?_)
                · have t26 : r25.toInt = (42 : Int) := gl_eq c26
                  refine lv_aload_n hx hb dX6_readTerm_123 rfl (lv_at hl 6 rfl) ?_
                  refine qf_get hx hb hts inX6 hown hK hP (q0 := 78) (by decide) (hgU_78 ca o) rfl 6 (by decide) wq_136 (v := .int (z23 78 6)) rfl dX6_readTerm_124 ?_
                  refine lv_topi (fun x27 e27 => ?_)
                  refine lv_istore (lv' := [(4, .int x27), (3, .int 1), (7, .int 0), (6, .int x8), (5, .int w4_5), (2, .ref (o + (88 + (5 : Int32).toNatClampNeg))), (0, .ref (o + 78)), (1, .int 5)]) hx hb dX6_readTerm_127 hl (by decide) rfl (fun ls hl => ?_)
                  refine lv_aload_n hx hb dX6_readTerm_129 rfl (lv_at hl 6 rfl) ?_
                  refine lv_dup hx hb dX6_readTerm_130 rfl ?_
                  refine qf_get hx hb hts inX6 hown hK hP (q0 := 78) (by decide) (hgU_78 ca o) rfl 6 (by decide) wq_136 (v := .int (z23 78 6)) rfl dX6_readTerm_131 ?_
                  refine lv_topi (fun x28 e28 => ?_)
                  have ag28 : x28.toInt = x27.toInt := congrArg Int32.toInt (e28.trans e27.symm)
                  refine lv_iconst (v := 1) hx hb dX6_readTerm_134 (by decide) ?_
                  refine lv_iadd hx hb dX6_readTerm_135 ?_
                  refine lv_topi (fun x29 e29 => ?_)
                  refine qf_put2 hx hb hts inX6 tyX6 tyX6_ok nmX6 hown hK hP hS qw_Ai (q0 := 78) (by decide) (hgU_78 ca o) rfl 6 (by decide) wq_136 rfl (x := x29) 6 rfl rfl rfl (Nat.le_of_ble_eq_true rfl) dX6_readTerm_136 (fun z30 H locs hz30 hP hS => ?_)
                  have J30 := jU_78_6 J23 hz30
                  obtain ⟨x31, e31⟩ : ∃ t : Int32, t = w4_5 + 1 := ⟨_, rfl⟩
                  refine lv_iinc (v := x31) (lv' := [(5, .int x31), (4, .int x27), (3, .int 1), (7, .int 0), (6, .int x8), (2, .ref (o + (88 + (5 : Int32).toNatClampNeg))), (0, .ref (o + 78)), (1, .int 5)]) hx hb dX6_readTerm_139 hl (k := 4) rfl (by rw [e31]; rfl) (by decide) rfl (fun ls hl => ?_)
                  have t31 : x31.toInt = w4_5.toInt + (1 : Int) := ga_add e31 rfl rfl (by omega) (by omega)
                  refine lv_goto (tgt := 28) hx hb dX6_readTerm_142 (by decide) ?_
                  exact ih4 x31 x27 1 z30 y23 (show (61 - x31.toInt : Int) < (n4 : Int) from by omega) ⟨by omega, by omega⟩ ⟨by decide, by decide⟩ J30 _ _ hP hS _ (lv_sub hl [0, 1, 2, 5, 6, 7] rfl)
                · have t26 : r25.toInt ≠ (42 : Int) := gl_ne c26
                  refine lv_iconst (v := 1) hx hb dX6_readTerm_121 (by decide) ?_
                  exact W.zret (v := 1) (ty := .boolean) hx hb hr rfl (fun t ht hW => ⟨⟨1, (z23, y23), rfl, ⟨⟨by decide, by decide⟩, J23⟩, by rw [ht]; exact hP, va_K.moved hW.alike hK⟩, hS.F ht⟩) hS.2.2 dX6_readTerm_122
              · have t24 : w4_3.toInt = (0 : Int) := gl_eq c24
                exfalso; omega
          · have t12 : x11.toInt > x8.toInt := gl_nle c12
            refine lv_iconst (v := 1) hx hb dX6_readTerm_60 (by decide) ?_
            refine lv_goto (tgt := 65) hx hb dX6_readTerm_61 (by decide) ?_
            refine lv_istore (lv' := [(7, .int 1), (6, .int x8), (5, .int w4_5), (4, .int w4_4), (3, .int w4_3), (2, .ref (o + (88 + (5 : Int32).toNatClampNeg))), (0, .ref (o + 78)), (1, .int 5)]) hx hb dX6_readTerm_65 hl (by decide) rfl (fun ls hl => ?_)
            refine lv_iload_n hx hb dX6_readTerm_67 rfl (lv_at hl 4 rfl) ?_
            refine lv_if_eq (tgt := 85) hx hb dX6_readTerm_68 (by decide) (fun c32 => ?_) (fun c32 => ?_)
            · have t32 : w4_3.toInt = (0 : Int) := gl_eq c32
              refine lv_aload_n hx hb dX6_readTerm_85 rfl (lv_at hl 5 rfl) ?_
              refine lv_aload_n hx hb dX6_readTerm_86 rfl (lv_at hl 6 rfl) ?_
              refine qf_get hx hb hts inX6 hown hK hP (q0 := 78) (by decide) (hgU_78 ca o) rfl 3 (by decide) wq_133 (v := .ref (o + 95)) rfl dX6_readTerm_87 ?_
              refine lv_iload_n hx hb dX6_readTerm_90 rfl (lv_at hl 7 rfl) ?_
              refine qa_aald hx hb hK hP (q0 := 95) (by decide) 5 rfl (N := 7) (hgU_95 ca o) rfl (gi_in (by decide) (by decide)) dX6_readTerm_91 ?_
              refine lv_iload hx hb dX6_readTerm_92 (lv_at hl 0 rfl) ?_
              refine qc_Sv2 (As := [.ref (o + (88 + (5 : Int32).toNatClampNeg)), .ref (o + (96 + (5 : Int32).toNatClampNeg)), .int 1]) (rest := []) (k0 := 3) (u_Reader_multiply_v1 l D ca o b z9 y9 J9 1) kc_yX6_multiply ⟨hx, hb, hml, hown, hts⟩ wq_490 rfl rfl ⟨Nat.le_of_ble_eq_true rfl, Nat.le_of_ble_eq_true rfl⟩ wq_all hP hK hS qw_Ai rfl hl.1 rfl (Nat.le_of_ble_eq_true rfl) dX6_readTerm_94 ⟨Nat.zero_le _, Nat.zero_le _⟩ (fun z33 y33 H locs h33 hP hS _ _ => ?_)
              have J33 : qJU b z33 := h33
              refine lv_iload_n hx hb dX6_readTerm_97 rfl (lv_at hl 4 rfl) ?_
              refine lv_if_ne (tgt := 106) hx hb dX6_readTerm_98 (by decide) (fun c34 => ?_) (fun c34 => ?_)
              · have t34 : w4_3.toInt ≠ (0 : Int) := gl_ne c34
                exfalso; omega
              · have t34 : w4_3.toInt = (0 : Int) := gl_eq c34
                refine lv_iload hx hb dX6_readTerm_101 (lv_at hl 0 rfl) ?_
                refine lv_if_eq (tgt := 110) hx hb dX6_readTerm_103 (by decide) (fun q => absurd q (by decide)) (fun _ => ?_)
                refine lv_iconst (v := 1) hx hb dX6_readTerm_106 (by decide) ?_
                refine lv_goto (tgt := 111) hx hb dX6_readTerm_107 (by decide) ?_
                refine lv_istore_n (lv' := [(3, .int 1), (7, .int 1), (6, .int x8), (5, .int w4_5), (4, .int w4_4), (2, .ref (o + (88 + (5 : Int32).toNatClampNeg))), (0, .ref (o + 78)), (1, .int 5)]) hx hb dX6_readTerm_111 rfl hl (by decide) rfl (fun ls hl => ?_)
                refine lv_aload_n hx hb dX6_readTerm_112 rfl (lv_at hl 6 rfl) ?_
                refine qc_Vip (As := []) (rest := []) (k0 := 0) (u_Reader_peek l D ca o b z33 y33 J33) kc_yX6_peek ⟨hx, hb, hml, hown, hts⟩ wq_463 rfl rfl ⟨Nat.le_of_ble_eq_true rfl, Nat.le_of_ble_eq_true rfl⟩ wq_all hP hK hS qw_Ai (q0 := 78) (by decide) (hgU_78 ca o _ _) rfl rfl hl.1 rfl (Nat.le_of_ble_eq_true rfl) dX6_readTerm_113 ⟨Nat.zero_le _, Nat.zero_le _⟩ (fun r35 H locs h35 hP hS _ _ => ?_)
                refine lv_bipush (v := 42) hx hb dX6_readTerm_116 (by decide) ?_
                refine lv_icmp_eq (tgt := 123) hx hb dX6_readTerm_118 (by decide) (fun c36 => ?_) (fun c36 => ?_)
                · have t36 : r35.toInt = (42 : Int) := gl_eq c36
                  refine lv_aload_n hx hb dX6_readTerm_123 rfl (lv_at hl 6 rfl) ?_
                  refine qf_get hx hb hts inX6 hown hK hP (q0 := 78) (by decide) (hgU_78 ca o) rfl 6 (by decide) wq_136 (v := .int (z33 78 6)) rfl dX6_readTerm_124 ?_
                  refine lv_topi (fun x37 e37 => ?_)
                  refine lv_istore (lv' := [(4, .int x37), (3, .int 1), (7, .int 1), (6, .int x8), (5, .int w4_5), (2, .ref (o + (88 + (5 : Int32).toNatClampNeg))), (0, .ref (o + 78)), (1, .int 5)]) hx hb dX6_readTerm_127 hl (by decide) rfl (fun ls hl => ?_)
                  refine lv_aload_n hx hb dX6_readTerm_129 rfl (lv_at hl 6 rfl) ?_
                  refine lv_dup hx hb dX6_readTerm_130 rfl ?_
                  refine qf_get hx hb hts inX6 hown hK hP (q0 := 78) (by decide) (hgU_78 ca o) rfl 6 (by decide) wq_136 (v := .int (z33 78 6)) rfl dX6_readTerm_131 ?_
                  refine lv_topi (fun x38 e38 => ?_)
                  have ag38 : x38.toInt = x37.toInt := congrArg Int32.toInt (e38.trans e37.symm)
                  refine lv_iconst (v := 1) hx hb dX6_readTerm_134 (by decide) ?_
                  refine lv_iadd hx hb dX6_readTerm_135 ?_
                  refine lv_topi (fun x39 e39 => ?_)
                  refine qf_put2 hx hb hts inX6 tyX6 tyX6_ok nmX6 hown hK hP hS qw_Ai (q0 := 78) (by decide) (hgU_78 ca o) rfl 6 (by decide) wq_136 rfl (x := x39) 6 rfl rfl rfl (Nat.le_of_ble_eq_true rfl) dX6_readTerm_136 (fun z40 H locs hz40 hP hS => ?_)
                  have J40 := jU_78_6 J33 hz40
                  obtain ⟨x41, e41⟩ : ∃ t : Int32, t = w4_5 + 1 := ⟨_, rfl⟩
                  refine lv_iinc (v := x41) (lv' := [(5, .int x41), (4, .int x37), (3, .int 1), (7, .int 1), (6, .int x8), (2, .ref (o + (88 + (5 : Int32).toNatClampNeg))), (0, .ref (o + 78)), (1, .int 5)]) hx hb dX6_readTerm_139 hl (k := 4) rfl (by rw [e41]; rfl) (by decide) rfl (fun ls hl => ?_)
                  have t41 : x41.toInt = w4_5.toInt + (1 : Int) := ga_add e41 rfl rfl (by omega) (by omega)
                  refine lv_goto (tgt := 28) hx hb dX6_readTerm_142 (by decide) ?_
                  exact ih4 x41 x37 1 z40 y33 (show (61 - x41.toInt : Int) < (n4 : Int) from by omega) ⟨by omega, by omega⟩ ⟨by decide, by decide⟩ J40 _ _ hP hS _ (lv_sub hl [0, 1, 2, 5, 6, 7] rfl)
                · have t36 : r35.toInt ≠ (42 : Int) := gl_ne c36
                  refine lv_iconst (v := 1) hx hb dX6_readTerm_121 (by decide) ?_
                  exact W.zret (v := 1) (ty := .boolean) hx hb hr rfl (fun t ht hW => ⟨⟨1, (z33, y33), rfl, ⟨⟨by decide, by decide⟩, J33⟩, by rw [ht]; exact hP, va_K.moved hW.alike hK⟩, hS.F ht⟩) hS.2.2 dX6_readTerm_122
            · have t32 : w4_3.toInt ≠ (0 : Int) := gl_ne c32
              refine lv_iload hx hb dX6_readTerm_71 (lv_at hl 0 rfl) ?_
              refine lv_if_eq (tgt := 85) hx hb dX6_readTerm_73 (by decide) (fun q => absurd q (by decide)) (fun _ => ?_)
              refine lv_aload_n hx hb dX6_readTerm_76 rfl (lv_at hl 6 rfl) ?_
              refine lv_bipush (v := 8) hx hb dX6_readTerm_77 (by decide) ?_
              refine lv_iload hx hb dX6_readTerm_79 (lv_at hl 3 rfl) ?_
              refine qc_Vi2 (As := [.int 8, .int w4_4]) (rest := []) (k0 := 2) (u_Reader_fail l D ca o b z9 y9 J9 8 w4_4) kc_yX6_fail ⟨hx, hb, hml, hown, hts⟩ wq_450 rfl rfl ⟨Nat.le_of_ble_eq_true rfl, Nat.le_of_ble_eq_true rfl⟩ wq_all hP hK hS qw_Ai (q0 := 78) (by decide) (hgU_78 ca o _ _) rfl rfl hl.1 rfl (Nat.le_of_ble_eq_true rfl) dX6_readTerm_81 ⟨Nat.zero_le _, Nat.zero_le _⟩ (fun r42 z42 y42 H locs h42 hP hS _ _ => ?_)
              have J42 : qJU b z42 := h42.2
              have b42 : (0 : Int) ≤ r42.toInt ∧ r42.toInt ≤ 0 := h42.1
              obtain rfl : r42 = 0 := lit_eq (k := 0) (K := 0) rfl (by omega) (by omega)
              exact W.zret (v := 0) (ty := .boolean) hx hb hr rfl (fun t ht hW => ⟨⟨0, (z42, y42), rfl, ⟨⟨by decide, by decide⟩, J42⟩, by rw [ht]; exact hP, va_K.moved hW.alike hK⟩, hS.F ht⟩) hS.2.2 dX6_readTerm_84
        · have t10 : r9.toInt = (0 : Int) := gl_eq c10
          refine lv_iconst (v := 0) hx hb dX6_readTerm_49 (by decide) ?_
          exact W.zret (v := 0) (ty := .boolean) hx hb hr rfl (fun t ht hW => ⟨⟨0, (z9, y9), rfl, ⟨⟨by decide, by decide⟩, J9⟩, by rw [ht]; exact hP, va_K.moved hW.alike hK⟩, hS.F ht⟩) hS.2.2 dX6_readTerm_50
  exact loop4 62 0 x3 0 z2 y1 (show (61 - (0 : Int) : Int) < ((62 : Nat) : Int) from by omega) ⟨by decide, by decide⟩ ⟨by decide, by decide⟩ J2 _ _ hP hS _ (lv_sub hl [0, 1, 2, 3, 4, 5] rfl)
set_option maxRecDepth 100000 in
set_option maxHeartbeats 8000000 in
theorem u_Reader_add_v1 (l : Launch) (D : va_G) (ca : Nat → ClassId) (o : Nat) (b z : Nat → Nat → Int32) (y : Nat → Nat → Int64) (J0 : qJU b z) (a2 : Int32)  : qM l yX6_add cX6_add 4 none 1 60 (qPre D vwCl (qT6 ca) o 132 (qG (GU ca o) z y) [.ref (o + 85), .ref (o + 93), .int a2]) (va_Qv (fun u => qJU b u.1) (qB D vwCl (qT6 ca) o 132 (fun u : qZ => qG (GU ca o) u.1 u.2)) (qw_A o 132)) (qw_A o 132) := by
  refine Met.ofW (cc := cX6_add) (maxL := 4) (ret := none) (by decide) rfl ?_
  intro p e s m args below meth c s₁ B hml hv
  obtain ⟨rfl, hP, hK⟩ := hv
  have hx := B.exec
  have hb := B.bytes
  have hr := B.returns
  have hts0 := atoms_spec (ws := Cond.code yX6_add cX6_add 4 none :: qtbl) B.pre
  have hts : ∀ w ∈ qtbl, w.before _ s = true := fun w h => hts0 w (List.mem_cons_of_mem _ h)
  have hown : s.vm.findClass RX6 = some m.cls := findClass_of_methodNamed B.named
  have hlocks := B.notSynchronized
  have hS : va_S (qw_A o 132) s.heap s.heap [] := va_S.rf
  have hl := lv_entry ([.ref (o + 85), .ref (o + 93), .int a2]) (n := 4) (Nat.le_of_ble_eq_true rfl)
  rw [lg_entry_eq]
  generalize (lg_sl ([.ref (o + 85), .ref (o + 93), .int a2]) ++ List.replicate (4 - (lg_sl ([.ref (o + 85), .ref (o + 93), .int a2])).length) Slot.unset).toArray = ls at hl ⊢
  have hl : lv_has ls 4 [(0, .ref (o + 85)), (1, .ref (o + 93)), (2, .int a2)] := hl
  refine lv_iconst (v := 0) hx hb dX6_add_0 (by decide) ?_
  refine lv_istore_n (lv' := [(3, .int 0), (0, .ref (o + 85)), (1, .ref (o + 93)), (2, .int a2)]) hx hb dX6_add_1 rfl hl (by decide) rfl (fun ls hl => ?_)
  have loop1 : ∀ (n : Nat) (w1_3 : Int32) (z1 : Nat → Nat → Int32) (y1 : Nat → Nat → Int64), ((7 - w1_3.toInt : Int) < (n : Int)) → ((0 : Int) ≤ w1_3.toInt ∧ w1_3.toInt ≤ 7) → (qJU b z1) → ∀ (H : Heap) (locs : List Loc), qw_P D vwCl o 132 (qG (GU ca o) z1 y1) H → va_S (qw_A o 132) s.heap H locs → ∀ (ls : Array Slot), lv_has ls 4 [(3, .int w1_3), (0, .ref (o + 85)), (1, .ref (o + 93)), (2, .int a2)] → W p l e (headSpec (Cond.code yX6_add cX6_add 4 none :: qtbl) ({ frames := 1, cells := 0, slots := 0, locals := 60 })).room s m (([.ref (o + 85), .ref (o + 93), .int a2] : List Value).toArray) below meth c H locs 0 0 (MQ below (va_Qv (fun u => qJU b u.1) (qB D vwCl (qT6 ca) o 132 (fun u : qZ => qG (GU ca o) u.1 u.2)) (qw_A o 132)) (([.ref (o + 85), .ref (o + 93), .int a2] : List Value).toArray) s 0 0 (qw_A o 132)) (F0 m 2 ls []) := by
    intro n
    induction n with
    | zero => intro w1_3 z1 y1 hb1 hv1_3 J1; exfalso; omega
    | succ n1 ih1 =>
      intro w1_3 z1 y1 hb1 hv1_3 J1 H locs hP hS ls hl
      refine lv_iload_n hx hb dX6_add_2 rfl (lv_at hl 0 rfl) ?_
      refine lv_bipush (v := 7) hx hb dX6_add_3 (by decide) ?_
      refine lv_icmp_ge (tgt := 25) hx hb dX6_add_5 (by decide) (fun c2 => ?_) (fun c2 => ?_)
      · have t2 : w1_3.toInt ≥ (7 : Int) := gl_le c2
        exact W.vret hx hb hr (fun t ht hW => ⟨⟨(z1, y1), rfl, J1, by rw [ht]; exact hP, va_K.moved hW.alike hK⟩, hS.F ht⟩) hS.2.2 dX6_add_25
      · have t2 : w1_3.toInt < (7 : Int) := gl_nle c2
        refine lv_aload_n hx hb dX6_add_8 rfl (lv_at hl 1 rfl) ?_
        refine lv_iload_n hx hb dX6_add_9 rfl (lv_at hl 0 rfl) ?_
        refine lv_dup2_11 hx hb dX6_add_10 rfl rfl ?_
        refine qa_iald hx hb hK hP (q0 := 85) (by decide) 0 (N := 7) (hgU_85 ca o) rfl (gi_in (by omega) (by omega)) dX6_add_11 ?_
        refine lv_topi (fun x3 e3 => ?_)
        refine lv_iload_n hx hb dX6_add_12 rfl (lv_at hl 3 rfl) ?_
        refine lv_aload_n hx hb dX6_add_13 rfl (lv_at hl 2 rfl) ?_
        refine lv_iload_n hx hb dX6_add_14 rfl (lv_at hl 0 rfl) ?_
        refine qa_iald hx hb hK hP (q0 := 93) (by decide) 0 (N := 7) (hgU_93 ca o) rfl (gi_in (by omega) (by omega)) dX6_add_15 ?_
        refine lv_topi (fun x4 e4 => ?_)
        refine lv_imul hx hb dX6_add_16 ?_
        refine lv_topi (fun x5 e5 => ?_)
        refine lv_iadd hx hb dX6_add_17 ?_
        refine lv_topi (fun x6 e6 => ?_)
        refine qa_iast2 hx hb hK hP hS qw_Ai (q0 := 85) (by decide) 0 (N := 7) (hgU_85 ca o) rfl (i := w1_3) (x := x6) (gi_in (by omega) (by omega)) dX6_add_18 (fun z7 H locs hz7 hP hS => ?_)
        have J7 := jU_85 J1 hz7
        obtain ⟨x8, e8⟩ : ∃ t : Int32, t = w1_3 + 1 := ⟨_, rfl⟩
        refine lv_iinc (v := x8) (lv' := [(3, .int x8), (0, .ref (o + 85)), (1, .ref (o + 93)), (2, .int a2)]) hx hb dX6_add_19 hl (k := 0) rfl (by rw [e8]; rfl) (by decide) rfl (fun ls hl => ?_)
        have t8 : x8.toInt = w1_3.toInt + (1 : Int) := ga_add e8 rfl rfl (by omega) (by omega)
        refine lv_goto (tgt := 2) hx hb dX6_add_22 (by decide) ?_
        exact ih1 x8 z7 y1 (show (7 - x8.toInt : Int) < (n1 : Int) from by omega) ⟨by omega, by omega⟩ J7 _ _ hP hS _ (lv_sub hl [0, 1, 2, 3] rfl)
  exact loop1 8 0 z y (show (7 - (0 : Int) : Int) < ((8 : Nat) : Int) from by omega) ⟨by decide, by decide⟩ J0 _ _ hP hS _ (lv_sub hl [0, 1, 2, 3] rfl)
set_option maxRecDepth 100000 in
set_option maxHeartbeats 8000000 in
theorem u_Reader_readSide_v5 (l : Launch) (D : va_G) (ca : Nat → ClassId) (o : Nat) (b z : Nat → Nat → Int32) (y : Nat → Nat → Int64) (J0 : qJU b z)   : qM l yX6_readSide cX6_readSide 6 (some .boolean) 10 278 (qPre D vwCl (qT6 ca) o 132 (qG (GU ca o) z y) [.ref (o + 78), .int 5]) (va_Qi (fun r u => ((0 : Int) ≤ r.toInt ∧ r.toInt ≤ 1) ∧ qJU b u.1) (qB D vwCl (qT6 ca) o 132 (fun u : qZ => qG (GU ca o) u.1 u.2)) (qw_A o 132)) (qw_A o 132) := by
  refine Met.ofW (cc := cX6_readSide) (maxL := 6) (ret := (some .boolean)) (by decide) rfl ?_
  intro p e s m args below meth c s₁ B hml hv
  obtain ⟨rfl, hP, hK⟩ := hv
  have hx := B.exec
  have hb := B.bytes
  have hr := B.returns
  have hts0 := atoms_spec (ws := Cond.code yX6_readSide cX6_readSide 6 (some .boolean) :: qtbl) B.pre
  have hts : ∀ w ∈ qtbl, w.before _ s = true := fun w h => hts0 w (List.mem_cons_of_mem _ h)
  have hown : s.vm.findClass RX6 = some m.cls := findClass_of_methodNamed B.named
  have hlocks := B.notSynchronized
  have hS : va_S (qw_A o 132) s.heap s.heap [] := va_S.rf
  have hl := lv_entry ([.ref (o + 78), .int 5]) (n := 6) (Nat.le_of_ble_eq_true rfl)
  rw [lg_entry_eq]
  generalize (lg_sl ([.ref (o + 78), .int 5]) ++ List.replicate (6 - (lg_sl ([.ref (o + 78), .int 5])).length) Slot.unset).toArray = ls at hl ⊢
  have hl : lv_has ls 6 [(0, .ref (o + 78)), (1, .int 5)] := hl
  refine lv_iload_n hx hb dX6_readSide_0 rfl (lv_at hl 1 rfl) ?_
  refine lv_bipush (v := 6) hx hb dX6_readSide_1 (by decide) ?_
  refine lv_icmp_le (tgt := 16) hx hb dX6_readSide_3 (by decide) (fun _ => ?_) (fun q => absurd (by decide) q)
  refine lv_aload_n hx hb dX6_readSide_16 rfl (lv_at hl 0 rfl) ?_
  refine qf_get hx hb hts inX6 hown hK hP (q0 := 78) (by decide) (hgU_78 ca o) rfl 1 (by decide) wq_131 (v := .ref (o + 79)) rfl dX6_readSide_17 ?_
  refine lv_iload_n hx hb dX6_readSide_20 rfl (lv_at hl 1 rfl) ?_
  refine qa_aald hx hb hK hP (q0 := 79) (by decide) 5 rfl (N := 7) (hgU_79 ca o) rfl (gi_in (by decide) (by decide)) dX6_readSide_21 ?_
  refine lv_astore_n (lv' := [(2, .ref (o + (80 + (5 : Int32).toNatClampNeg))), (0, .ref (o + 78)), (1, .int 5)]) hx hb dX6_readSide_22 rfl hl (by decide) rfl (fun ls hl => ?_)
  refine lv_aload_n hx hb dX6_readSide_23 rfl (lv_at hl 0 rfl) ?_
  refine lv_iconst (v := 0) hx hb dX6_readSide_24 (by decide) ?_
  refine qc_Sv2 (As := [.ref (o + (80 + (5 : Int32).toNatClampNeg)), .int 0]) (rest := []) (k0 := 2) (u_Arrays_fill_v15 l D ca o b z y J0 0) kc_yJ7_fill_53178 ⟨hx, hb, hml, hown, hts⟩ wq_454 rfl rfl ⟨Nat.le_of_ble_eq_true rfl, Nat.le_of_ble_eq_true rfl⟩ wq_all hP hK hS qw_Ai rfl hl.1 rfl (Nat.le_of_ble_eq_true rfl) dX6_readSide_25 ⟨Nat.zero_le _, Nat.zero_le _⟩ (fun z1 y1 H locs h1 hP hS _ _ => ?_)
  have J1 : qJU b z1 := h1
  refine lv_iconst (v := 1) hx hb dX6_readSide_28 (by decide) ?_
  refine lv_istore_n (lv' := [(3, .int 1), (2, .ref (o + (80 + (5 : Int32).toNatClampNeg))), (0, .ref (o + 78)), (1, .int 5)]) hx hb dX6_readSide_29 rfl hl (by decide) rfl (fun ls hl => ?_)
  refine lv_iconst (v := 0) hx hb dX6_readSide_30 (by decide) ?_
  refine lv_istore (lv' := [(4, .int 0), (3, .int 1), (2, .ref (o + (80 + (5 : Int32).toNatClampNeg))), (0, .ref (o + 78)), (1, .int 5)]) hx hb dX6_readSide_31 hl (by decide) rfl (fun ls hl => ?_)
  have loop2 : ∀ (n : Nat) (w2_4 : Int32) (w2_3 : Int32) (z2 : Nat → Nat → Int32) (y2 : Nat → Nat → Int64), ((61 - w2_4.toInt : Int) < (n : Int)) → ((0 : Int) ≤ w2_4.toInt ∧ w2_4.toInt ≤ 61) → ((-1 : Int) ≤ w2_3.toInt ∧ w2_3.toInt ≤ 1) → (qJU b z2) → ∀ (H : Heap) (locs : List Loc), qw_P D vwCl o 132 (qG (GU ca o) z2 y2) H → va_S (qw_A o 132) s.heap H locs → ∀ (ls : Array Slot), lv_has ls 6 [(4, .int w2_4), (3, .int w2_3), (2, .ref (o + (80 + (5 : Int32).toNatClampNeg))), (0, .ref (o + 78)), (1, .int 5)] → W p l e (headSpec (Cond.code yX6_readSide cX6_readSide 6 (some .boolean) :: qtbl) ({ frames := 10, cells := 0, slots := 0, locals := 278 })).room s m (([.ref (o + 78), .int 5] : List Value).toArray) below meth c H locs 0 0 (MQ below (va_Qi (fun r u => ((0 : Int) ≤ r.toInt ∧ r.toInt ≤ 1) ∧ qJU b u.1) (qB D vwCl (qT6 ca) o 132 (fun u : qZ => qG (GU ca o) u.1 u.2)) (qw_A o 132)) (([.ref (o + 78), .int 5] : List Value).toArray) s 0 0 (qw_A o 132)) (F0 m 33 ls []) := by
    intro n
    induction n with
    | zero => intro w2_4 w2_3 z2 y2 hb2 hv2_4 hv2_3 J2; exfalso; omega
    | succ n2 ih2 =>
      intro w2_4 w2_3 z2 y2 hb2 hv2_4 hv2_3 J2 H locs hP hS ls hl
      refine lv_iload hx hb dX6_readSide_33 (lv_at hl 0 rfl) ?_
      refine lv_bipush (v := 60) hx hb dX6_readSide_35 (by decide) ?_
      refine lv_icmp_gt (tgt := 112) hx hb dX6_readSide_37 (by decide) (fun c3 => ?_) (fun c3 => ?_)
      · have t3 : w2_4.toInt > (60 : Int) := gl_lt c3
        refine lv_aload_n hx hb dX6_readSide_112 rfl (lv_at hl 3 rfl) ?_
        refine lv_iconst (v := 1) hx hb dX6_readSide_113 (by decide) ?_
        refine lv_aload_n hx hb dX6_readSide_114 rfl (lv_at hl 3 rfl) ?_
        refine qf_get hx hb hts inX6 hown hK hP (q0 := 78) (by decide) (hgU_78 ca o) rfl 6 (by decide) wq_136 (v := .int (z2 78 6)) rfl dX6_readSide_115 ?_
        refine lv_topi (fun x4 e4 => ?_)
        refine qc_Vi2 (As := [.int 1, .int x4]) (rest := []) (k0 := 2) (u_Reader_fail l D ca o b z2 y2 J2 1 x4) kc_yX6_fail ⟨hx, hb, hml, hown, hts⟩ wq_450 rfl rfl ⟨Nat.le_of_ble_eq_true rfl, Nat.le_of_ble_eq_true rfl⟩ wq_all hP hK hS qw_Ai (q0 := 78) (by decide) (hgU_78 ca o _ _) rfl rfl hl.1 rfl (Nat.le_of_ble_eq_true rfl) dX6_readSide_118 ⟨Nat.zero_le _, Nat.zero_le _⟩ (fun r5 z5 y5 H locs h5 hP hS _ _ => ?_)
        have J5 : qJU b z5 := h5.2
        have b5 : (0 : Int) ≤ r5.toInt ∧ r5.toInt ≤ 0 := h5.1
        obtain rfl : r5 = 0 := lit_eq (k := 0) (K := 0) rfl (by omega) (by omega)
        exact W.zret (v := 0) (ty := .boolean) hx hb hr rfl (fun t ht hW => ⟨⟨0, (z5, y5), rfl, ⟨⟨by decide, by decide⟩, J5⟩, by rw [ht]; exact hP, va_K.moved hW.alike hK⟩, hS.F ht⟩) hS.2.2 dX6_readSide_121
      · have t3 : w2_4.toInt ≤ (60 : Int) := gl_nlt c3
        refine lv_aload_n hx hb dX6_readSide_40 rfl (lv_at hl 3 rfl) ?_
        refine lv_iload_n hx hb dX6_readSide_41 rfl (lv_at hl 4 rfl) ?_
        refine qc_Vi2 (As := [.int 5]) (rest := []) (k0 := 1) (u_Reader_readTerm_v5 l D ca o b z2 y2 J2) kc_yX6_readTerm ⟨hx, hb, hml, hown, hts⟩ wq_455 rfl rfl ⟨Nat.le_of_ble_eq_true rfl, Nat.le_of_ble_eq_true rfl⟩ wq_all hP hK hS qw_Ai (q0 := 78) (by decide) (hgU_78 ca o _ _) rfl rfl hl.1 rfl (Nat.le_of_ble_eq_true rfl) dX6_readSide_42 ⟨Nat.zero_le _, Nat.zero_le _⟩ (fun r6 z6 y6 H locs h6 hP hS _ _ => ?_)
        have J6 : qJU b z6 := h6.2
        have b6 : (0 : Int) ≤ r6.toInt ∧ r6.toInt ≤ 1 := h6.1
        refine lv_if_ne (tgt := 50) hx hb dX6_readSide_45 (by decide) (fun c7 => ?_) (fun c7 => ?_)
        · have t7 : r6.toInt ≠ (0 : Int) := gl_ne c7
          refine lv_aload_n hx hb dX6_readSide_50 rfl (lv_at hl 2 rfl) ?_
          refine lv_aload_n hx hb dX6_readSide_51 rfl (lv_at hl 3 rfl) ?_
          refine qf_get hx hb hts inX6 hown hK hP (q0 := 78) (by decide) (hgU_78 ca o) rfl 2 (by decide) wq_132 (v := .ref (o + 87)) rfl dX6_readSide_52 ?_
          refine lv_iload_n hx hb dX6_readSide_55 rfl (lv_at hl 4 rfl) ?_
          refine qa_aald hx hb hK hP (q0 := 87) (by decide) 5 rfl (N := 7) (hgU_87 ca o) rfl (gi_in (by decide) (by decide)) dX6_readSide_56 ?_
          refine lv_iload_n hx hb dX6_readSide_57 rfl (lv_at hl 1 rfl) ?_
          refine qc_Sv2 (As := [.ref (o + (80 + (5 : Int32).toNatClampNeg)), .ref (o + (88 + (5 : Int32).toNatClampNeg)), .int w2_3]) (rest := []) (k0 := 3) (u_Reader_add_v1 l D ca o b z6 y6 J6 w2_3) kc_yX6_add ⟨hx, hb, hml, hown, hts⟩ wq_493 rfl rfl ⟨Nat.le_of_ble_eq_true rfl, Nat.le_of_ble_eq_true rfl⟩ wq_all hP hK hS qw_Ai rfl hl.1 rfl (Nat.le_of_ble_eq_true rfl) dX6_readSide_58 ⟨Nat.zero_le _, Nat.zero_le _⟩ (fun z8 y8 H locs h8 hP hS _ _ => ?_)
          have J8 : qJU b z8 := h8
          refine lv_aload_n hx hb dX6_readSide_61 rfl (lv_at hl 3 rfl) ?_
          refine qc_Vip (As := []) (rest := []) (k0 := 0) (u_Reader_peek l D ca o b z8 y8 J8) kc_yX6_peek ⟨hx, hb, hml, hown, hts⟩ wq_463 rfl rfl ⟨Nat.le_of_ble_eq_true rfl, Nat.le_of_ble_eq_true rfl⟩ wq_all hP hK hS qw_Ai (q0 := 78) (by decide) (hgU_78 ca o _ _) rfl rfl hl.1 rfl (Nat.le_of_ble_eq_true rfl) dX6_readSide_62 ⟨Nat.zero_le _, Nat.zero_le _⟩ (fun r9 H locs h9 hP hS _ _ => ?_)
          refine lv_istore (lv' := [(5, .int r9), (4, .int w2_4), (3, .int w2_3), (2, .ref (o + (80 + (5 : Int32).toNatClampNeg))), (0, .ref (o + 78)), (1, .int 5)]) hx hb dX6_readSide_65 hl (by decide) rfl (fun ls hl => ?_)
          refine lv_iload hx hb dX6_readSide_67 (lv_at hl 0 rfl) ?_
          refine lv_bipush (v := 43) hx hb dX6_readSide_69 (by decide) ?_
          refine lv_icmp_eq (tgt := 83) hx hb dX6_readSide_71 (by decide) (fun c10 => ?_) (fun c10 => ?_)
          · have t10 : r9.toInt = (43 : Int) := gl_eq c10
            refine lv_iload hx hb dX6_readSide_83 (lv_at hl 0 rfl) ?_
            refine lv_bipush (v := 43) hx hb dX6_readSide_85 (by decide) ?_
            refine lv_icmp_ne (tgt := 94) hx hb dX6_readSide_87 (by decide) (fun c11 => ?_) (fun c11 => ?_)
            · have t11 : r9.toInt ≠ (43 : Int) := gl_ne c11
              exfalso; omega
            · have t11 : r9.toInt = (43 : Int) := gl_eq c11
              refine lv_iconst (v := 1) hx hb dX6_readSide_90 (by decide) ?_
              refine lv_goto (tgt := 95) hx hb dX6_readSide_91 (by decide) ?_
              refine lv_istore_n (lv' := [(3, .int 1), (5, .int r9), (4, .int w2_4), (2, .ref (o + (80 + (5 : Int32).toNatClampNeg))), (0, .ref (o + 78)), (1, .int 5)]) hx hb dX6_readSide_95 rfl hl (by decide) rfl (fun ls hl => ?_)
              refine lv_aload_n hx hb dX6_readSide_96 rfl (lv_at hl 4 rfl) ?_
              refine lv_dup hx hb dX6_readSide_97 rfl ?_
              refine qf_get hx hb hts inX6 hown hK hP (q0 := 78) (by decide) (hgU_78 ca o) rfl 6 (by decide) wq_136 (v := .int (z8 78 6)) rfl dX6_readSide_98 ?_
              refine lv_topi (fun x12 e12 => ?_)
              refine lv_iconst (v := 1) hx hb dX6_readSide_101 (by decide) ?_
              refine lv_iadd hx hb dX6_readSide_102 ?_
              refine lv_topi (fun x13 e13 => ?_)
              refine qf_put2 hx hb hts inX6 tyX6 tyX6_ok nmX6 hown hK hP hS qw_Ai (q0 := 78) (by decide) (hgU_78 ca o) rfl 6 (by decide) wq_136 rfl (x := x13) 6 rfl rfl rfl (Nat.le_of_ble_eq_true rfl) dX6_readSide_103 (fun z14 H locs hz14 hP hS => ?_)
              have J14 := jU_78_6 J8 hz14
              obtain ⟨x15, e15⟩ : ∃ t : Int32, t = w2_4 + 1 := ⟨_, rfl⟩
              refine lv_iinc (v := x15) (lv' := [(4, .int x15), (3, .int 1), (5, .int r9), (2, .ref (o + (80 + (5 : Int32).toNatClampNeg))), (0, .ref (o + 78)), (1, .int 5)]) hx hb dX6_readSide_106 hl (k := 2) rfl (by rw [e15]; rfl) (by decide) rfl (fun ls hl => ?_)
              have t15 : x15.toInt = w2_4.toInt + (1 : Int) := ga_add e15 rfl rfl (by omega) (by omega)
              refine lv_goto (tgt := 33) hx hb dX6_readSide_109 (by decide) ?_
              exact ih2 x15 1 z14 y8 (show (61 - x15.toInt : Int) < (n2 : Int) from by omega) ⟨by omega, by omega⟩ ⟨by decide, by decide⟩ J14 _ _ hP hS _ (lv_sub hl [0, 1, 3, 4, 5] rfl)
          · have t10 : r9.toInt ≠ (43 : Int) := gl_ne c10
            refine lv_iload hx hb dX6_readSide_74 (lv_at hl 0 rfl) ?_
            refine lv_bipush (v := 45) hx hb dX6_readSide_76 (by decide) ?_
            refine lv_icmp_eq (tgt := 83) hx hb dX6_readSide_78 (by decide) (fun c16 => ?_) (fun c16 => ?_)
            · have t16 : r9.toInt = (45 : Int) := gl_eq c16
              refine lv_iload hx hb dX6_readSide_83 (lv_at hl 0 rfl) ?_
              refine lv_bipush (v := 43) hx hb dX6_readSide_85 (by decide) ?_
              refine lv_icmp_ne (tgt := 94) hx hb dX6_readSide_87 (by decide) (fun c17 => ?_) (fun c17 => ?_)
              · have t17 : r9.toInt ≠ (43 : Int) := gl_ne c17
                refine lv_iconst (v := (-1)) hx hb dX6_readSide_94 (by decide) ?_
                refine lv_istore_n (lv' := [(3, .int ((-1))), (5, .int r9), (4, .int w2_4), (2, .ref (o + (80 + (5 : Int32).toNatClampNeg))), (0, .ref (o + 78)), (1, .int 5)]) hx hb dX6_readSide_95 rfl hl (by decide) rfl (fun ls hl => ?_)
                refine lv_aload_n hx hb dX6_readSide_96 rfl (lv_at hl 4 rfl) ?_
                refine lv_dup hx hb dX6_readSide_97 rfl ?_
                refine qf_get hx hb hts inX6 hown hK hP (q0 := 78) (by decide) (hgU_78 ca o) rfl 6 (by decide) wq_136 (v := .int (z8 78 6)) rfl dX6_readSide_98 ?_
                refine lv_topi (fun x18 e18 => ?_)
                refine lv_iconst (v := 1) hx hb dX6_readSide_101 (by decide) ?_
                refine lv_iadd hx hb dX6_readSide_102 ?_
                refine lv_topi (fun x19 e19 => ?_)
                refine qf_put2 hx hb hts inX6 tyX6 tyX6_ok nmX6 hown hK hP hS qw_Ai (q0 := 78) (by decide) (hgU_78 ca o) rfl 6 (by decide) wq_136 rfl (x := x19) 6 rfl rfl rfl (Nat.le_of_ble_eq_true rfl) dX6_readSide_103 (fun z20 H locs hz20 hP hS => ?_)
                have J20 := jU_78_6 J8 hz20
                obtain ⟨x21, e21⟩ : ∃ t : Int32, t = w2_4 + 1 := ⟨_, rfl⟩
                refine lv_iinc (v := x21) (lv' := [(4, .int x21), (3, .int ((-1))), (5, .int r9), (2, .ref (o + (80 + (5 : Int32).toNatClampNeg))), (0, .ref (o + 78)), (1, .int 5)]) hx hb dX6_readSide_106 hl (k := 2) rfl (by rw [e21]; rfl) (by decide) rfl (fun ls hl => ?_)
                have t21 : x21.toInt = w2_4.toInt + (1 : Int) := ga_add e21 rfl rfl (by omega) (by omega)
                refine lv_goto (tgt := 33) hx hb dX6_readSide_109 (by decide) ?_
                exact ih2 x21 (-1) z20 y8 (show (61 - x21.toInt : Int) < (n2 : Int) from by omega) ⟨by omega, by omega⟩ ⟨by decide, by decide⟩ J20 _ _ hP hS _ (lv_sub hl [0, 1, 3, 4, 5] rfl)
              · have t17 : r9.toInt = (43 : Int) := gl_eq c17
                exfalso; omega
            · have t16 : r9.toInt ≠ (45 : Int) := gl_ne c16
              refine lv_iconst (v := 1) hx hb dX6_readSide_81 (by decide) ?_
              exact W.zret (v := 1) (ty := .boolean) hx hb hr rfl (fun t ht hW => ⟨⟨1, (z8, y8), rfl, ⟨⟨by decide, by decide⟩, J8⟩, by rw [ht]; exact hP, va_K.moved hW.alike hK⟩, hS.F ht⟩) hS.2.2 dX6_readSide_82
        · have t7 : r6.toInt = (0 : Int) := gl_eq c7
          refine lv_iconst (v := 0) hx hb dX6_readSide_48 (by decide) ?_
          exact W.zret (v := 0) (ty := .boolean) hx hb hr rfl (fun t ht hW => ⟨⟨0, (z6, y6), rfl, ⟨⟨by decide, by decide⟩, J6⟩, by rw [ht]; exact hP, va_K.moved hW.alike hK⟩, hS.F ht⟩) hS.2.2 dX6_readSide_49
  exact loop2 62 0 1 z1 y1 (show (61 - (0 : Int) : Int) < ((62 : Nat) : Int) from by omega) ⟨by decide, by decide⟩ ⟨by decide, by decide⟩ J1 _ _ hP hS _ (lv_sub hl [0, 1, 2, 3, 4] rfl)
set_option maxRecDepth 100000 in
set_option maxHeartbeats 8000000 in
theorem u_Reader_readPerson_v2 (l : Launch) (D : va_G) (ca : Nat → ClassId) (o : Nat) (b z : Nat → Nat → Int32) (y : Nat → Nat → Int64) (J0 : qJU b z)   : qM l yX6_readPerson cX6_readPerson 5 (some .boolean) 11 303 (qPre D vwCl (qT6 ca) o 132 (qG (GU ca o) z y) [.ref (o + 78), .int 4]) (va_Qi (fun r u => ((0 : Int) ≤ r.toInt ∧ r.toInt ≤ 1) ∧ qJU b u.1) (qB D vwCl (qT6 ca) o 132 (fun u : qZ => qG (GU ca o) u.1 u.2)) (qw_A o 132)) (qw_A o 132) := by
  refine Met.ofW (cc := cX6_readPerson) (maxL := 5) (ret := (some .boolean)) (by decide) rfl ?_
  intro p e s m args below meth c s₁ B hml hv
  obtain ⟨rfl, hP, hK⟩ := hv
  have hx := B.exec
  have hb := B.bytes
  have hr := B.returns
  have hts0 := atoms_spec (ws := Cond.code yX6_readPerson cX6_readPerson 5 (some .boolean) :: qtbl) B.pre
  have hts : ∀ w ∈ qtbl, w.before _ s = true := fun w h => hts0 w (List.mem_cons_of_mem _ h)
  have hown : s.vm.findClass RX6 = some m.cls := findClass_of_methodNamed B.named
  have hlocks := B.notSynchronized
  have hS : va_S (qw_A o 132) s.heap s.heap [] := va_S.rf
  have hl := lv_entry ([.ref (o + 78), .int 4]) (n := 5) (Nat.le_of_ble_eq_true rfl)
  rw [lg_entry_eq]
  generalize (lg_sl ([.ref (o + 78), .int 4]) ++ List.replicate (5 - (lg_sl ([.ref (o + 78), .int 4])).length) Slot.unset).toArray = ls at hl ⊢
  have hl : lv_has ls 5 [(0, .ref (o + 78)), (1, .int 4)] := hl
  refine lv_aload_n hx hb dX6_readPerson_0 rfl (lv_at hl 0 rfl) ?_
  refine qf_get hx hb hts inX6 hown hK hP (q0 := 78) (by decide) (hgU_78 ca o) rfl 3 (by decide) wq_133 (v := .ref (o + 95)) rfl dX6_readPerson_1 ?_
  refine lv_iload_n hx hb dX6_readPerson_4 rfl (lv_at hl 1 rfl) ?_
  refine qa_aald hx hb hK hP (q0 := 95) (by decide) 5 rfl (N := 7) (hgU_95 ca o) rfl (gi_in (by decide) (by decide)) dX6_readPerson_5 ?_
  refine lv_astore_n (lv' := [(2, .ref (o + (96 + (4 : Int32).toNatClampNeg))), (0, .ref (o + 78)), (1, .int 4)]) hx hb dX6_readPerson_6 rfl hl (by decide) rfl (fun ls hl => ?_)
  refine lv_aload_n hx hb dX6_readPerson_7 rfl (lv_at hl 1 rfl) ?_
  refine qc_Vi2 (As := []) (rest := []) (k0 := 0) (u_Reader_readLetter l D ca o b z y J0) kc_yX6_readLetter ⟨hx, hb, hml, hown, hts⟩ wq_471 rfl rfl ⟨Nat.le_of_ble_eq_true rfl, Nat.le_of_ble_eq_true rfl⟩ wq_all hP hK hS qw_Ai (q0 := 78) (by decide) (hgU_78 ca o _ _) rfl rfl hl.1 rfl (Nat.le_of_ble_eq_true rfl) dX6_readPerson_8 ⟨Nat.zero_le _, Nat.zero_le _⟩ (fun r1 z1 y1 H locs h1 hP hS _ _ => ?_)
  have J1 : qJU b z1 := h1.2
  have b1 : (-1 : Int) ≤ r1.toInt ∧ r1.toInt ≤ 5 := h1.1
  refine lv_istore_n (lv' := [(3, .int r1), (2, .ref (o + (96 + (4 : Int32).toNatClampNeg))), (0, .ref (o + 78)), (1, .int 4)]) hx hb dX6_readPerson_11 rfl hl (by decide) rfl (fun ls hl => ?_)
  refine lv_iload_n hx hb dX6_readPerson_12 rfl (lv_at hl 0 rfl) ?_
  refine lv_if_ge (tgt := 18) hx hb dX6_readPerson_13 (by decide) (fun c2 => ?_) (fun c2 => ?_)
  · have t2 : r1.toInt ≥ (0 : Int) := gl_le c2
    refine lv_aload_n hx hb dX6_readPerson_18 rfl (lv_at hl 2 rfl) ?_
    refine qc_Vip (As := []) (rest := []) (k0 := 0) (u_Reader_peek l D ca o b z1 y1 J1) kc_yX6_peek ⟨hx, hb, hml, hown, hts⟩ wq_463 rfl rfl ⟨Nat.le_of_ble_eq_true rfl, Nat.le_of_ble_eq_true rfl⟩ wq_all hP hK hS qw_Ai (q0 := 78) (by decide) (hgU_78 ca o _ _) rfl rfl hl.1 rfl (Nat.le_of_ble_eq_true rfl) dX6_readPerson_19 ⟨Nat.zero_le _, Nat.zero_le _⟩ (fun r3 H locs h3 hP hS _ _ => ?_)
    refine lv_bipush (v := 64) hx hb dX6_readPerson_22 (by decide) ?_
    refine lv_icmp_eq (tgt := 38) hx hb dX6_readPerson_24 (by decide) (fun c4 => ?_) (fun c4 => ?_)
    · have t4 : r3.toInt = (64 : Int) := gl_eq c4
      refine lv_aload_n hx hb dX6_readPerson_38 rfl (lv_at hl 2 rfl) ?_
      refine lv_dup hx hb dX6_readPerson_39 rfl ?_
      refine qf_get hx hb hts inX6 hown hK hP (q0 := 78) (by decide) (hgU_78 ca o) rfl 6 (by decide) wq_136 (v := .int (z1 78 6)) rfl dX6_readPerson_40 ?_
      refine lv_topi (fun x5 e5 => ?_)
      refine lv_iconst (v := 1) hx hb dX6_readPerson_43 (by decide) ?_
      refine lv_iadd hx hb dX6_readPerson_44 ?_
      refine lv_topi (fun x6 e6 => ?_)
      refine qf_put2 hx hb hts inX6 tyX6 tyX6_ok nmX6 hown hK hP hS qw_Ai (q0 := 78) (by decide) (hgU_78 ca o) rfl 6 (by decide) wq_136 rfl (x := x6) 6 rfl rfl rfl (Nat.le_of_ble_eq_true rfl) dX6_readPerson_45 (fun z7 H locs hz7 hP hS => ?_)
      have J7 := jU_78_6 J1 hz7
      refine lv_aload_n hx hb dX6_readPerson_48 rfl (lv_at hl 2 rfl) ?_
      refine lv_iload_n hx hb dX6_readPerson_49 rfl (lv_at hl 3 rfl) ?_
      refine qc_Vi2 (As := [.int 4]) (rest := []) (k0 := 1) (u_Reader_open_v4 l D ca o b z7 y1 J7) kc_yX6_open ⟨hx, hb, hml, hown, hts⟩ wq_475 rfl rfl ⟨Nat.le_of_ble_eq_true rfl, Nat.le_of_ble_eq_true rfl⟩ wq_all hP hK hS qw_Ai (q0 := 78) (by decide) (hgU_78 ca o _ _) rfl rfl hl.1 rfl (Nat.le_of_ble_eq_true rfl) dX6_readPerson_50 ⟨Nat.zero_le _, Nat.zero_le _⟩ (fun r8 z8 y8 H locs h8 hP hS _ _ => ?_)
      have J8 : qJU b z8 := h8.2
      have b8 : (0 : Int) ≤ r8.toInt ∧ r8.toInt ≤ 1 := h8.1
      refine lv_if_ne (tgt := 58) hx hb dX6_readPerson_53 (by decide) (fun c9 => ?_) (fun c9 => ?_)
      · have t9 : r8.toInt ≠ (0 : Int) := gl_ne c9
        refine lv_aload_n hx hb dX6_readPerson_58 rfl (lv_at hl 2 rfl) ?_
        refine qc_Vi2 (As := []) (rest := []) (k0 := 0) (u_Reader_readLetter l D ca o b z8 y8 J8) kc_yX6_readLetter ⟨hx, hb, hml, hown, hts⟩ wq_471 rfl rfl ⟨Nat.le_of_ble_eq_true rfl, Nat.le_of_ble_eq_true rfl⟩ wq_all hP hK hS qw_Ai (q0 := 78) (by decide) (hgU_78 ca o _ _) rfl rfl hl.1 rfl (Nat.le_of_ble_eq_true rfl) dX6_readPerson_59 ⟨Nat.zero_le _, Nat.zero_le _⟩ (fun r10 z10 y10 H locs h10 hP hS _ _ => ?_)
        have J10 : qJU b z10 := h10.2
        have b10 : (-1 : Int) ≤ r10.toInt ∧ r10.toInt ≤ 5 := h10.1
        refine lv_istore (lv' := [(4, .int r10), (3, .int r1), (2, .ref (o + (96 + (4 : Int32).toNatClampNeg))), (0, .ref (o + 78)), (1, .int 4)]) hx hb dX6_readPerson_62 hl (by decide) rfl (fun ls hl => ?_)
        refine lv_iload hx hb dX6_readPerson_64 (lv_at hl 0 rfl) ?_
        refine lv_if_lt (tgt := 97) hx hb dX6_readPerson_66 (by decide) (fun c11 => ?_) (fun c11 => ?_)
        · have t11 : r10.toInt < (0 : Int) := gl_lt c11
          refine lv_iconst (v := 0) hx hb dX6_readPerson_97 (by decide) ?_
          exact W.zret (v := 0) (ty := .boolean) hx hb hr rfl (fun t ht hW => ⟨⟨0, (z10, y10), rfl, ⟨⟨by decide, by decide⟩, J10⟩, by rw [ht]; exact hP, va_K.moved hW.alike hK⟩, hS.F ht⟩) hS.2.2 dX6_readPerson_98
        · have t11 : r10.toInt ≥ (0 : Int) := gl_nlt c11
          refine lv_aload_n hx hb dX6_readPerson_69 rfl (lv_at hl 3 rfl) ?_
          refine lv_bipush (v := 58) hx hb dX6_readPerson_70 (by decide) ?_
          refine qc_Vi2 (As := [.int 58]) (rest := []) (k0 := 1) (u_Reader_pass l D ca o b z10 y10 J10 58) kc_yX6_pass ⟨hx, hb, hml, hown, hts⟩ wq_479 rfl rfl ⟨Nat.le_of_ble_eq_true rfl, Nat.le_of_ble_eq_true rfl⟩ wq_all hP hK hS qw_Ai (q0 := 78) (by decide) (hgU_78 ca o _ _) rfl rfl hl.1 rfl (Nat.le_of_ble_eq_true rfl) dX6_readPerson_72 ⟨Nat.zero_le _, Nat.zero_le _⟩ (fun r12 z12 y12 H locs h12 hP hS _ _ => ?_)
          have J12 : qJU b z12 := h12.2
          have b12 : (0 : Int) ≤ r12.toInt ∧ r12.toInt ≤ 1 := h12.1
          refine lv_if_eq (tgt := 97) hx hb dX6_readPerson_75 (by decide) (fun c13 => ?_) (fun c13 => ?_)
          · have t13 : r12.toInt = (0 : Int) := gl_eq c13
            refine lv_iconst (v := 0) hx hb dX6_readPerson_97 (by decide) ?_
            exact W.zret (v := 0) (ty := .boolean) hx hb hr rfl (fun t ht hW => ⟨⟨0, (z12, y12), rfl, ⟨⟨by decide, by decide⟩, J12⟩, by rw [ht]; exact hP, va_K.moved hW.alike hK⟩, hS.F ht⟩) hS.2.2 dX6_readPerson_98
          · have t13 : r12.toInt ≠ (0 : Int) := gl_ne c13
            refine lv_aload_n hx hb dX6_readPerson_78 rfl (lv_at hl 3 rfl) ?_
            refine lv_iload_n hx hb dX6_readPerson_79 rfl (lv_at hl 4 rfl) ?_
            refine lv_iconst (v := 1) hx hb dX6_readPerson_80 (by decide) ?_
            refine lv_iadd hx hb dX6_readPerson_81 ?_
            refine qtop (x' := 5) (by decide) ?_
            refine qc_Vi2 (As := [.int 5]) (rest := []) (k0 := 1) (u_Reader_readSide_v5 l D ca o b z12 y12 J12) kc_yX6_readSide ⟨hx, hb, hml, hown, hts⟩ wq_446 rfl rfl ⟨Nat.le_of_ble_eq_true rfl, Nat.le_of_ble_eq_true rfl⟩ wq_all hP hK hS qw_Ai (q0 := 78) (by decide) (hgU_78 ca o _ _) rfl rfl hl.1 rfl (Nat.le_of_ble_eq_true rfl) dX6_readPerson_82 ⟨Nat.zero_le _, Nat.zero_le _⟩ (fun r14 z14 y14 H locs h14 hP hS _ _ => ?_)
            have J14 : qJU b z14 := h14.2
            have b14 : (0 : Int) ≤ r14.toInt ∧ r14.toInt ≤ 1 := h14.1
            refine lv_if_eq (tgt := 97) hx hb dX6_readPerson_85 (by decide) (fun c15 => ?_) (fun c15 => ?_)
            · have t15 : r14.toInt = (0 : Int) := gl_eq c15
              refine lv_iconst (v := 0) hx hb dX6_readPerson_97 (by decide) ?_
              exact W.zret (v := 0) (ty := .boolean) hx hb hr rfl (fun t ht hW => ⟨⟨0, (z14, y14), rfl, ⟨⟨by decide, by decide⟩, J14⟩, by rw [ht]; exact hP, va_K.moved hW.alike hK⟩, hS.F ht⟩) hS.2.2 dX6_readPerson_98
            · have t15 : r14.toInt ≠ (0 : Int) := gl_ne c15
              refine lv_aload_n hx hb dX6_readPerson_88 rfl (lv_at hl 3 rfl) ?_
              refine lv_bipush (v := 41) hx hb dX6_readPerson_89 (by decide) ?_
              refine qc_Vi2 (As := [.int 41]) (rest := []) (k0 := 1) (u_Reader_pass l D ca o b z14 y14 J14 41) kc_yX6_pass ⟨hx, hb, hml, hown, hts⟩ wq_479 rfl rfl ⟨Nat.le_of_ble_eq_true rfl, Nat.le_of_ble_eq_true rfl⟩ wq_all hP hK hS qw_Ai (q0 := 78) (by decide) (hgU_78 ca o _ _) rfl rfl hl.1 rfl (Nat.le_of_ble_eq_true rfl) dX6_readPerson_91 ⟨Nat.zero_le _, Nat.zero_le _⟩ (fun r16 z16 y16 H locs h16 hP hS _ _ => ?_)
              have J16 : qJU b z16 := h16.2
              have b16 : (0 : Int) ≤ r16.toInt ∧ r16.toInt ≤ 1 := h16.1
              refine lv_if_ne (tgt := 99) hx hb dX6_readPerson_94 (by decide) (fun c17 => ?_) (fun c17 => ?_)
              · have t17 : r16.toInt ≠ (0 : Int) := gl_ne c17
                refine lv_aload_n hx hb dX6_readPerson_99 rfl (lv_at hl 3 rfl) ?_
                refine qf_get hx hb hts inX6 hown hK hP (q0 := 78) (by decide) (hgU_78 ca o) rfl 1 (by decide) wq_131 (v := .ref (o + 79)) rfl dX6_readPerson_100 ?_
                refine lv_iload_n hx hb dX6_readPerson_103 rfl (lv_at hl 4 rfl) ?_
                refine lv_iconst (v := 1) hx hb dX6_readPerson_104 (by decide) ?_
                refine lv_iadd hx hb dX6_readPerson_105 ?_
                refine qtop (x' := 5) (by decide) ?_
                refine qa_aald hx hb hK hP (q0 := 79) (by decide) 5 rfl (N := 7) (hgU_79 ca o) rfl (gi_in (by decide) (by decide)) dX6_readPerson_106 ?_
                refine lv_iconst (v := 0) hx hb dX6_readPerson_107 (by decide) ?_
                refine lv_aload_n hx hb dX6_readPerson_108 rfl (lv_at hl 2 rfl) ?_
                refine lv_iconst (v := 0) hx hb dX6_readPerson_109 (by decide) ?_
                refine lv_bipush (v := 7) hx hb dX6_readPerson_110 (by decide) ?_
                refine qa_copy2 hx hb (hml.trans hl.1.symm) hown (hts _ wq_483) (hts _ wq_485) (hts _ wq_484) (hts _ wq_15) hK hP hS qw_Ai (q0 := 85) (q1 := 100) (by decide) (by decide) 0 (hgU_85 ca o) (hgU_100 ca o) rfl (sp := 0) (dp := 0) (k := 7) (by decide) (by decide) (by decide) (by decide) (by decide) (Nat.le_of_ble_eq_true rfl) (Nat.le_of_ble_eq_true rfl) dX6_readPerson_112 (fun z18 H locs hz18 hP hS => ?_)
                have J18 := jfU_100 J16 hz18
                refine lv_aload_n hx hb dX6_readPerson_115 rfl (lv_at hl 2 rfl) ?_
                refine lv_iload_n hx hb dX6_readPerson_116 rfl (lv_at hl 1 rfl) ?_
                refine lv_dup2_11 hx hb dX6_readPerson_117 rfl rfl ?_
                refine qa_iald hx hb hK hP (q0 := 100) (by decide) 0 (N := 7) (hgU_100 ca o) rfl (gi_in (by omega) (by omega)) dX6_readPerson_118 ?_
                refine lv_topi (fun x19 e19 => ?_)
                refine lv_iconst (v := 1) hx hb dX6_readPerson_119 (by decide) ?_
                refine lv_iadd hx hb dX6_readPerson_120 ?_
                refine lv_topi (fun x20 e20 => ?_)
                refine qa_iast2 hx hb hK hP hS qw_Ai (q0 := 100) (by decide) 0 (N := 7) (hgU_100 ca o) rfl (i := r1) (x := x20) (gi_in (by omega) (by omega)) dX6_readPerson_121 (fun z21 H locs hz21 hP hS => ?_)
                have J21 := jU_100 J18 hz21
                refine lv_aload_n hx hb dX6_readPerson_122 rfl (lv_at hl 2 rfl) ?_
                refine lv_iload hx hb dX6_readPerson_123 (lv_at hl 0 rfl) ?_
                refine lv_dup2_11 hx hb dX6_readPerson_125 rfl rfl ?_
                refine qa_iald hx hb hK hP (q0 := 100) (by decide) 0 (N := 7) (hgU_100 ca o) rfl (gi_in (by omega) (by omega)) dX6_readPerson_126 ?_
                refine lv_topi (fun x22 e22 => ?_)
                refine lv_iconst (v := 1) hx hb dX6_readPerson_127 (by decide) ?_
                refine lv_isub hx hb dX6_readPerson_128 ?_
                refine lv_topi (fun x23 e23 => ?_)
                refine qa_iast2 hx hb hK hP hS qw_Ai (q0 := 100) (by decide) 0 (N := 7) (hgU_100 ca o) rfl (i := r10) (x := x23) (gi_in (by omega) (by omega)) dX6_readPerson_129 (fun z24 H locs hz24 hP hS => ?_)
                have J24 := jU_100 J21 hz24
                refine lv_iconst (v := 1) hx hb dX6_readPerson_130 (by decide) ?_
                exact W.zret (v := 1) (ty := .boolean) hx hb hr rfl (fun t ht hW => ⟨⟨1, (z24, y16), rfl, ⟨⟨by decide, by decide⟩, J24⟩, by rw [ht]; exact hP, va_K.moved hW.alike hK⟩, hS.F ht⟩) hS.2.2 dX6_readPerson_131
              · have t17 : r16.toInt = (0 : Int) := gl_eq c17
                refine lv_iconst (v := 0) hx hb dX6_readPerson_97 (by decide) ?_
                exact W.zret (v := 0) (ty := .boolean) hx hb hr rfl (fun t ht hW => ⟨⟨0, (z16, y16), rfl, ⟨⟨by decide, by decide⟩, J16⟩, by rw [ht]; exact hP, va_K.moved hW.alike hK⟩, hS.F ht⟩) hS.2.2 dX6_readPerson_98
      · have t9 : r8.toInt = (0 : Int) := gl_eq c9
        refine lv_iconst (v := 0) hx hb dX6_readPerson_56 (by decide) ?_
        exact W.zret (v := 0) (ty := .boolean) hx hb hr rfl (fun t ht hW => ⟨⟨0, (z8, y8), rfl, ⟨⟨by decide, by decide⟩, J8⟩, by rw [ht]; exact hP, va_K.moved hW.alike hK⟩, hS.F ht⟩) hS.2.2 dX6_readPerson_57
    · have t4 : r3.toInt ≠ (64 : Int) := gl_ne c4
      refine lv_aload_n hx hb dX6_readPerson_27 rfl (lv_at hl 1 rfl) ?_
      refine lv_iconst (v := 0) hx hb dX6_readPerson_28 (by decide) ?_
      refine qc_Sv2 (As := [.ref (o + (96 + (4 : Int32).toNatClampNeg)), .int 0]) (rest := []) (k0 := 2) (u_Arrays_fill_v14 l D ca o b z1 y1 J1 0) kc_yJ7_fill_53178 ⟨hx, hb, hml, hown, hts⟩ wq_454 rfl rfl ⟨Nat.le_of_ble_eq_true rfl, Nat.le_of_ble_eq_true rfl⟩ wq_all hP hK hS qw_Ai rfl hl.1 rfl (Nat.le_of_ble_eq_true rfl) dX6_readPerson_29 ⟨Nat.zero_le _, Nat.zero_le _⟩ (fun z25 y25 H locs h25 hP hS _ _ => ?_)
      have J25 : qJU b z25 := h25
      refine lv_aload_n hx hb dX6_readPerson_32 rfl (lv_at hl 1 rfl) ?_
      refine lv_iload_n hx hb dX6_readPerson_33 rfl (lv_at hl 0 rfl) ?_
      refine lv_iconst (v := 1) hx hb dX6_readPerson_34 (by decide) ?_
      refine qa_iast2 hx hb hK hP hS qw_Ai (q0 := 100) (by decide) 0 (N := 7) (hgU_100 ca o) rfl (i := r1) (x := 1) (gi_in (by omega) (by omega)) dX6_readPerson_35 (fun z26 H locs hz26 hP hS => ?_)
      have J26 := jU_100 J25 hz26
      refine lv_iconst (v := 1) hx hb dX6_readPerson_36 (by decide) ?_
      exact W.zret (v := 1) (ty := .boolean) hx hb hr rfl (fun t ht hW => ⟨⟨1, (z26, y25), rfl, ⟨⟨by decide, by decide⟩, J26⟩, by rw [ht]; exact hP, va_K.moved hW.alike hK⟩, hS.F ht⟩) hS.2.2 dX6_readPerson_37
  · have t2 : r1.toInt < (0 : Int) := gl_nle c2
    refine lv_iconst (v := 0) hx hb dX6_readPerson_16 (by decide) ?_
    exact W.zret (v := 0) (ty := .boolean) hx hb hr rfl (fun t ht hW => ⟨⟨0, (z1, y1), rfl, ⟨⟨by decide, by decide⟩, J1⟩, by rw [ht]; exact hP, va_K.moved hW.alike hK⟩, hS.F ht⟩) hS.2.2 dX6_readPerson_17
set_option maxRecDepth 100000 in
set_option maxHeartbeats 8000000 in
theorem u_Reader_readFactor_v4 (l : Launch) (D : va_G) (ca : Nat → ClassId) (o : Nat) (b z : Nat → Nat → Int32) (y : Nat → Nat → Int64) (J0 : qJU b z)   : qM l yX6_readFactor cX6_readFactor 5 (some .boolean) 12 327 (qPre D vwCl (qT6 ca) o 132 (qG (GU ca o) z y) [.ref (o + 78), .int 4]) (va_Qi (fun r u => ((0 : Int) ≤ r.toInt ∧ r.toInt ≤ 1) ∧ qJU b u.1) (qB D vwCl (qT6 ca) o 132 (fun u : qZ => qG (GU ca o) u.1 u.2)) (qw_A o 132)) (qw_A o 132) := by
  refine Met.ofW (cc := cX6_readFactor) (maxL := 5) (ret := (some .boolean)) (by decide) rfl ?_
  intro p e s m args below meth c s₁ B hml hv
  obtain ⟨rfl, hP, hK⟩ := hv
  have hx := B.exec
  have hb := B.bytes
  have hr := B.returns
  have hts0 := atoms_spec (ws := Cond.code yX6_readFactor cX6_readFactor 5 (some .boolean) :: qtbl) B.pre
  have hts : ∀ w ∈ qtbl, w.before _ s = true := fun w h => hts0 w (List.mem_cons_of_mem _ h)
  have hown : s.vm.findClass RX6 = some m.cls := findClass_of_methodNamed B.named
  have hlocks := B.notSynchronized
  have hS : va_S (qw_A o 132) s.heap s.heap [] := va_S.rf
  have hl := lv_entry ([.ref (o + 78), .int 4]) (n := 5) (Nat.le_of_ble_eq_true rfl)
  rw [lg_entry_eq]
  generalize (lg_sl ([.ref (o + 78), .int 4]) ++ List.replicate (5 - (lg_sl ([.ref (o + 78), .int 4])).length) Slot.unset).toArray = ls at hl ⊢
  have hl : lv_has ls 5 [(0, .ref (o + 78)), (1, .int 4)] := hl
  refine lv_aload_n hx hb dX6_readFactor_0 rfl (lv_at hl 0 rfl) ?_
  refine qf_get hx hb hts inX6 hown hK hP (q0 := 78) (by decide) (hgU_78 ca o) rfl 3 (by decide) wq_133 (v := .ref (o + 95)) rfl dX6_readFactor_1 ?_
  refine lv_iload_n hx hb dX6_readFactor_4 rfl (lv_at hl 1 rfl) ?_
  refine qa_aald hx hb hK hP (q0 := 95) (by decide) 5 rfl (N := 7) (hgU_95 ca o) rfl (gi_in (by decide) (by decide)) dX6_readFactor_5 ?_
  refine lv_astore_n (lv' := [(2, .ref (o + (96 + (4 : Int32).toNatClampNeg))), (0, .ref (o + 78)), (1, .int 4)]) hx hb dX6_readFactor_6 rfl hl (by decide) rfl (fun ls hl => ?_)
  refine lv_aload_n hx hb dX6_readFactor_7 rfl (lv_at hl 1 rfl) ?_
  refine qc_Vip (As := []) (rest := []) (k0 := 0) (u_Reader_peek l D ca o b z y J0) kc_yX6_peek ⟨hx, hb, hml, hown, hts⟩ wq_463 rfl rfl ⟨Nat.le_of_ble_eq_true rfl, Nat.le_of_ble_eq_true rfl⟩ wq_all hP hK hS qw_Ai (q0 := 78) (by decide) (hgU_78 ca o _ _) rfl rfl hl.1 rfl (Nat.le_of_ble_eq_true rfl) dX6_readFactor_8 ⟨Nat.zero_le _, Nat.zero_le _⟩ (fun r1 H locs h1 hP hS _ _ => ?_)
  refine lv_istore_n (lv' := [(3, .int r1), (2, .ref (o + (96 + (4 : Int32).toNatClampNeg))), (0, .ref (o + 78)), (1, .int 4)]) hx hb dX6_readFactor_11 rfl hl (by decide) rfl (fun ls hl => ?_)
  refine lv_iload_n hx hb dX6_readFactor_12 rfl (lv_at hl 0 rfl) ?_
  refine lv_bipush (v := 97) hx hb dX6_readFactor_13 (by decide) ?_
  refine lv_icmp_lt (tgt := 30) hx hb dX6_readFactor_15 (by decide) (fun c2 => ?_) (fun c2 => ?_)
  · have t2 : r1.toInt < (97 : Int) := gl_lt c2
    refine lv_iload_n hx hb dX6_readFactor_30 rfl (lv_at hl 0 rfl) ?_
    refine lv_bipush (v := 40) hx hb dX6_readFactor_31 (by decide) ?_
    refine lv_icmp_ne (tgt := 83) hx hb dX6_readFactor_33 (by decide) (fun c3 => ?_) (fun c3 => ?_)
    · have t3 : r1.toInt ≠ (40 : Int) := gl_ne c3
      refine lv_aload_n hx hb dX6_readFactor_83 rfl (lv_at hl 1 rfl) ?_
      refine lv_iconst (v := 0) hx hb dX6_readFactor_84 (by decide) ?_
      refine qc_Sv2 (As := [.ref (o + (96 + (4 : Int32).toNatClampNeg)), .int 0]) (rest := []) (k0 := 2) (u_Arrays_fill_v14 l D ca o b z y J0 0) kc_yJ7_fill_53178 ⟨hx, hb, hml, hown, hts⟩ wq_454 rfl rfl ⟨Nat.le_of_ble_eq_true rfl, Nat.le_of_ble_eq_true rfl⟩ wq_all hP hK hS qw_Ai rfl hl.1 rfl (Nat.le_of_ble_eq_true rfl) dX6_readFactor_85 ⟨Nat.zero_le _, Nat.zero_le _⟩ (fun z4 y4 H locs h4 hP hS _ _ => ?_)
      have J4 : qJU b z4 := h4
      refine lv_aload_n hx hb dX6_readFactor_88 rfl (lv_at hl 2 rfl) ?_
      refine qc_Vi2 (As := []) (rest := []) (k0 := 0) (u_Reader_readNumber l D ca o b z4 y4 J4) kc_yX6_readNumber ⟨hx, hb, hml, hown, hts⟩ wq_486 rfl rfl ⟨Nat.le_of_ble_eq_true rfl, Nat.le_of_ble_eq_true rfl⟩ wq_all hP hK hS qw_Ai (q0 := 78) (by decide) (hgU_78 ca o _ _) rfl rfl hl.1 rfl (Nat.le_of_ble_eq_true rfl) dX6_readFactor_89 ⟨Nat.zero_le _, Nat.zero_le _⟩ (fun r5 z5 y5 H locs h5 hP hS _ _ => ?_)
      have J5 : qJU b z5 := h5.2
      have b5 : (0 : Int) ≤ r5.toInt ∧ r5.toInt ≤ 1 := h5.1
      refine lv_istore (lv' := [(4, .int r5), (3, .int r1), (2, .ref (o + (96 + (4 : Int32).toNatClampNeg))), (0, .ref (o + 78)), (1, .int 4)]) hx hb dX6_readFactor_92 hl (by decide) rfl (fun ls hl => ?_)
      refine lv_aload_n hx hb dX6_readFactor_94 rfl (lv_at hl 2 rfl) ?_
      refine lv_bipush (v := 6) hx hb dX6_readFactor_95 (by decide) ?_
      refine lv_aload_n hx hb dX6_readFactor_97 rfl (lv_at hl 3 rfl) ?_
      refine qf_get hx hb hts inX6 hown hK hP (q0 := 78) (by decide) (hgU_78 ca o) rfl 9 (by decide) wq_139 (v := .int (z5 78 9)) rfl dX6_readFactor_98 ?_
      refine lv_topi (fun x6 e6 => ?_)
      refine qa_iast2 hx hb hK hP hS qw_Ai (q0 := 100) (by decide) 0 (N := 7) (hgU_100 ca o) rfl (i := 6) (x := x6) (gi_in (by decide) (by decide)) dX6_readFactor_101 (fun z7 H locs hz7 hP hS => ?_)
      have J7 := jU_100 J5 hz7
      refine lv_iload hx hb dX6_readFactor_102 (lv_at hl 0 rfl) ?_
      exact W.zret (v := r5) (ty := .boolean) hx hb hr (nb_ok ⟨by omega, by omega⟩) (fun t ht hW => ⟨⟨r5, (z7, y5), rfl, ⟨⟨by omega, by omega⟩, J7⟩, by rw [ht]; exact hP, va_K.moved hW.alike hK⟩, hS.F ht⟩) hS.2.2 dX6_readFactor_104
    · have t3 : r1.toInt = (40 : Int) := gl_eq c3
      refine lv_aload_n hx hb dX6_readFactor_36 rfl (lv_at hl 2 rfl) ?_
      refine lv_iload_n hx hb dX6_readFactor_37 rfl (lv_at hl 3 rfl) ?_
      refine qc_Vi2 (As := [.int 4]) (rest := []) (k0 := 1) (u_Reader_open_v4 l D ca o b z y J0) kc_yX6_open ⟨hx, hb, hml, hown, hts⟩ wq_475 rfl rfl ⟨Nat.le_of_ble_eq_true rfl, Nat.le_of_ble_eq_true rfl⟩ wq_all hP hK hS qw_Ai (q0 := 78) (by decide) (hgU_78 ca o _ _) rfl rfl hl.1 rfl (Nat.le_of_ble_eq_true rfl) dX6_readFactor_38 ⟨Nat.zero_le _, Nat.zero_le _⟩ (fun r8 z8 y8 H locs h8 hP hS _ _ => ?_)
      have J8 : qJU b z8 := h8.2
      have b8 : (0 : Int) ≤ r8.toInt ∧ r8.toInt ≤ 1 := h8.1
      refine lv_if_eq (tgt := 63) hx hb dX6_readFactor_41 (by decide) (fun c9 => ?_) (fun c9 => ?_)
      · have t9 : r8.toInt = (0 : Int) := gl_eq c9
        refine lv_iconst (v := 0) hx hb dX6_readFactor_63 (by decide) ?_
        exact W.zret (v := 0) (ty := .boolean) hx hb hr rfl (fun t ht hW => ⟨⟨0, (z8, y8), rfl, ⟨⟨by decide, by decide⟩, J8⟩, by rw [ht]; exact hP, va_K.moved hW.alike hK⟩, hS.F ht⟩) hS.2.2 dX6_readFactor_64
      · have t9 : r8.toInt ≠ (0 : Int) := gl_ne c9
        refine lv_aload_n hx hb dX6_readFactor_44 rfl (lv_at hl 2 rfl) ?_
        refine lv_iload_n hx hb dX6_readFactor_45 rfl (lv_at hl 3 rfl) ?_
        refine lv_iconst (v := 1) hx hb dX6_readFactor_46 (by decide) ?_
        refine lv_iadd hx hb dX6_readFactor_47 ?_
        refine qtop (x' := 5) (by decide) ?_
        refine qc_Vi2 (As := [.int 5]) (rest := []) (k0 := 1) (u_Reader_readSide_v5 l D ca o b z8 y8 J8) kc_yX6_readSide ⟨hx, hb, hml, hown, hts⟩ wq_446 rfl rfl ⟨Nat.le_of_ble_eq_true rfl, Nat.le_of_ble_eq_true rfl⟩ wq_all hP hK hS qw_Ai (q0 := 78) (by decide) (hgU_78 ca o _ _) rfl rfl hl.1 rfl (Nat.le_of_ble_eq_true rfl) dX6_readFactor_48 ⟨Nat.zero_le _, Nat.zero_le _⟩ (fun r10 z10 y10 H locs h10 hP hS _ _ => ?_)
        have J10 : qJU b z10 := h10.2
        have b10 : (0 : Int) ≤ r10.toInt ∧ r10.toInt ≤ 1 := h10.1
        refine lv_if_eq (tgt := 63) hx hb dX6_readFactor_51 (by decide) (fun c11 => ?_) (fun c11 => ?_)
        · have t11 : r10.toInt = (0 : Int) := gl_eq c11
          refine lv_iconst (v := 0) hx hb dX6_readFactor_63 (by decide) ?_
          exact W.zret (v := 0) (ty := .boolean) hx hb hr rfl (fun t ht hW => ⟨⟨0, (z10, y10), rfl, ⟨⟨by decide, by decide⟩, J10⟩, by rw [ht]; exact hP, va_K.moved hW.alike hK⟩, hS.F ht⟩) hS.2.2 dX6_readFactor_64
        · have t11 : r10.toInt ≠ (0 : Int) := gl_ne c11
          refine lv_aload_n hx hb dX6_readFactor_54 rfl (lv_at hl 2 rfl) ?_
          refine lv_bipush (v := 41) hx hb dX6_readFactor_55 (by decide) ?_
          refine qc_Vi2 (As := [.int 41]) (rest := []) (k0 := 1) (u_Reader_pass l D ca o b z10 y10 J10 41) kc_yX6_pass ⟨hx, hb, hml, hown, hts⟩ wq_479 rfl rfl ⟨Nat.le_of_ble_eq_true rfl, Nat.le_of_ble_eq_true rfl⟩ wq_all hP hK hS qw_Ai (q0 := 78) (by decide) (hgU_78 ca o _ _) rfl rfl hl.1 rfl (Nat.le_of_ble_eq_true rfl) dX6_readFactor_57 ⟨Nat.zero_le _, Nat.zero_le _⟩ (fun r12 z12 y12 H locs h12 hP hS _ _ => ?_)
          have J12 : qJU b z12 := h12.2
          have b12 : (0 : Int) ≤ r12.toInt ∧ r12.toInt ≤ 1 := h12.1
          refine lv_if_ne (tgt := 65) hx hb dX6_readFactor_60 (by decide) (fun c13 => ?_) (fun c13 => ?_)
          · have t13 : r12.toInt ≠ (0 : Int) := gl_ne c13
            refine lv_aload_n hx hb dX6_readFactor_65 rfl (lv_at hl 2 rfl) ?_
            refine qf_get hx hb hts inX6 hown hK hP (q0 := 78) (by decide) (hgU_78 ca o) rfl 1 (by decide) wq_131 (v := .ref (o + 79)) rfl dX6_readFactor_66 ?_
            refine lv_iload_n hx hb dX6_readFactor_69 rfl (lv_at hl 3 rfl) ?_
            refine lv_iconst (v := 1) hx hb dX6_readFactor_70 (by decide) ?_
            refine lv_iadd hx hb dX6_readFactor_71 ?_
            refine qtop (x' := 5) (by decide) ?_
            refine qa_aald hx hb hK hP (q0 := 79) (by decide) 5 rfl (N := 7) (hgU_79 ca o) rfl (gi_in (by decide) (by decide)) dX6_readFactor_72 ?_
            refine lv_iconst (v := 0) hx hb dX6_readFactor_73 (by decide) ?_
            refine lv_aload_n hx hb dX6_readFactor_74 rfl (lv_at hl 1 rfl) ?_
            refine lv_iconst (v := 0) hx hb dX6_readFactor_75 (by decide) ?_
            refine lv_bipush (v := 7) hx hb dX6_readFactor_76 (by decide) ?_
            refine qa_copy2 hx hb (hml.trans hl.1.symm) hown (hts _ wq_483) (hts _ wq_485) (hts _ wq_484) (hts _ wq_15) hK hP hS qw_Ai (q0 := 85) (q1 := 100) (by decide) (by decide) 0 (hgU_85 ca o) (hgU_100 ca o) rfl (sp := 0) (dp := 0) (k := 7) (by decide) (by decide) (by decide) (by decide) (by decide) (Nat.le_of_ble_eq_true rfl) (Nat.le_of_ble_eq_true rfl) dX6_readFactor_78 (fun z14 H locs hz14 hP hS => ?_)
            have J14 := jfU_100 J12 hz14
            refine lv_iconst (v := 1) hx hb dX6_readFactor_81 (by decide) ?_
            exact W.zret (v := 1) (ty := .boolean) hx hb hr rfl (fun t ht hW => ⟨⟨1, (z14, y12), rfl, ⟨⟨by decide, by decide⟩, J14⟩, by rw [ht]; exact hP, va_K.moved hW.alike hK⟩, hS.F ht⟩) hS.2.2 dX6_readFactor_82
          · have t13 : r12.toInt = (0 : Int) := gl_eq c13
            refine lv_iconst (v := 0) hx hb dX6_readFactor_63 (by decide) ?_
            exact W.zret (v := 0) (ty := .boolean) hx hb hr rfl (fun t ht hW => ⟨⟨0, (z12, y12), rfl, ⟨⟨by decide, by decide⟩, J12⟩, by rw [ht]; exact hP, va_K.moved hW.alike hK⟩, hS.F ht⟩) hS.2.2 dX6_readFactor_64
  · have t2 : r1.toInt ≥ (97 : Int) := gl_nlt c2
    refine lv_iload_n hx hb dX6_readFactor_18 rfl (lv_at hl 0 rfl) ?_
    refine lv_bipush (v := 102) hx hb dX6_readFactor_19 (by decide) ?_
    refine lv_icmp_gt (tgt := 30) hx hb dX6_readFactor_21 (by decide) (fun c15 => ?_) (fun c15 => ?_)
    · have t15 : r1.toInt > (102 : Int) := gl_lt c15
      refine lv_iload_n hx hb dX6_readFactor_30 rfl (lv_at hl 0 rfl) ?_
      refine lv_bipush (v := 40) hx hb dX6_readFactor_31 (by decide) ?_
      refine lv_icmp_ne (tgt := 83) hx hb dX6_readFactor_33 (by decide) (fun c16 => ?_) (fun c16 => ?_)
      · have t16 : r1.toInt ≠ (40 : Int) := gl_ne c16
        refine lv_aload_n hx hb dX6_readFactor_83 rfl (lv_at hl 1 rfl) ?_
        refine lv_iconst (v := 0) hx hb dX6_readFactor_84 (by decide) ?_
        refine qc_Sv2 (As := [.ref (o + (96 + (4 : Int32).toNatClampNeg)), .int 0]) (rest := []) (k0 := 2) (u_Arrays_fill_v14 l D ca o b z y J0 0) kc_yJ7_fill_53178 ⟨hx, hb, hml, hown, hts⟩ wq_454 rfl rfl ⟨Nat.le_of_ble_eq_true rfl, Nat.le_of_ble_eq_true rfl⟩ wq_all hP hK hS qw_Ai rfl hl.1 rfl (Nat.le_of_ble_eq_true rfl) dX6_readFactor_85 ⟨Nat.zero_le _, Nat.zero_le _⟩ (fun z17 y17 H locs h17 hP hS _ _ => ?_)
        have J17 : qJU b z17 := h17
        refine lv_aload_n hx hb dX6_readFactor_88 rfl (lv_at hl 2 rfl) ?_
        refine qc_Vi2 (As := []) (rest := []) (k0 := 0) (u_Reader_readNumber l D ca o b z17 y17 J17) kc_yX6_readNumber ⟨hx, hb, hml, hown, hts⟩ wq_486 rfl rfl ⟨Nat.le_of_ble_eq_true rfl, Nat.le_of_ble_eq_true rfl⟩ wq_all hP hK hS qw_Ai (q0 := 78) (by decide) (hgU_78 ca o _ _) rfl rfl hl.1 rfl (Nat.le_of_ble_eq_true rfl) dX6_readFactor_89 ⟨Nat.zero_le _, Nat.zero_le _⟩ (fun r18 z18 y18 H locs h18 hP hS _ _ => ?_)
        have J18 : qJU b z18 := h18.2
        have b18 : (0 : Int) ≤ r18.toInt ∧ r18.toInt ≤ 1 := h18.1
        refine lv_istore (lv' := [(4, .int r18), (3, .int r1), (2, .ref (o + (96 + (4 : Int32).toNatClampNeg))), (0, .ref (o + 78)), (1, .int 4)]) hx hb dX6_readFactor_92 hl (by decide) rfl (fun ls hl => ?_)
        refine lv_aload_n hx hb dX6_readFactor_94 rfl (lv_at hl 2 rfl) ?_
        refine lv_bipush (v := 6) hx hb dX6_readFactor_95 (by decide) ?_
        refine lv_aload_n hx hb dX6_readFactor_97 rfl (lv_at hl 3 rfl) ?_
        refine qf_get hx hb hts inX6 hown hK hP (q0 := 78) (by decide) (hgU_78 ca o) rfl 9 (by decide) wq_139 (v := .int (z18 78 9)) rfl dX6_readFactor_98 ?_
        refine lv_topi (fun x19 e19 => ?_)
        refine qa_iast2 hx hb hK hP hS qw_Ai (q0 := 100) (by decide) 0 (N := 7) (hgU_100 ca o) rfl (i := 6) (x := x19) (gi_in (by decide) (by decide)) dX6_readFactor_101 (fun z20 H locs hz20 hP hS => ?_)
        have J20 := jU_100 J18 hz20
        refine lv_iload hx hb dX6_readFactor_102 (lv_at hl 0 rfl) ?_
        exact W.zret (v := r18) (ty := .boolean) hx hb hr (nb_ok ⟨by omega, by omega⟩) (fun t ht hW => ⟨⟨r18, (z20, y18), rfl, ⟨⟨by omega, by omega⟩, J20⟩, by rw [ht]; exact hP, va_K.moved hW.alike hK⟩, hS.F ht⟩) hS.2.2 dX6_readFactor_104
      · have t16 : r1.toInt = (40 : Int) := gl_eq c16
        exfalso; omega
    · have t15 : r1.toInt ≤ (102 : Int) := gl_nlt c15
      refine lv_aload_n hx hb dX6_readFactor_24 rfl (lv_at hl 2 rfl) ?_
      refine lv_iload_n hx hb dX6_readFactor_25 rfl (lv_at hl 3 rfl) ?_
      refine qc_Vi2 (As := [.int 4]) (rest := []) (k0 := 1) (u_Reader_readPerson_v2 l D ca o b z y J0) kc_yX6_readPerson ⟨hx, hb, hml, hown, hts⟩ wq_467 rfl rfl ⟨Nat.le_of_ble_eq_true rfl, Nat.le_of_ble_eq_true rfl⟩ wq_all hP hK hS qw_Ai (q0 := 78) (by decide) (hgU_78 ca o _ _) rfl rfl hl.1 rfl (Nat.le_of_ble_eq_true rfl) dX6_readFactor_26 ⟨Nat.zero_le _, Nat.zero_le _⟩ (fun r21 z21 y21 H locs h21 hP hS _ _ => ?_)
      have J21 : qJU b z21 := h21.2
      have b21 : (0 : Int) ≤ r21.toInt ∧ r21.toInt ≤ 1 := h21.1
      exact W.zret (v := r21) (ty := .boolean) hx hb hr (nb_ok ⟨by omega, by omega⟩) (fun t ht hW => ⟨⟨r21, (z21, y21), rfl, ⟨⟨by omega, by omega⟩, J21⟩, by rw [ht]; exact hP, va_K.moved hW.alike hK⟩, hS.F ht⟩) hS.2.2 dX6_readFactor_29
set_option maxRecDepth 100000 in
set_option maxHeartbeats 8000000 in
theorem u_Reader_multiply_v2 (l : Launch) (D : va_G) (ca : Nat → ClassId) (o : Nat) (b z : Nat → Nat → Int32) (y : Nat → Nat → Int64) (J0 : qJU b z) (a2 : Int32)  : qM l yX6_multiply cX6_multiply 5 none 1 60 (qPre D vwCl (qT6 ca) o 132 (qG (GU ca o) z y) [.ref (o + 92), .ref (o + 100), .int a2]) (va_Qv (fun u => qJU b u.1) (qB D vwCl (qT6 ca) o 132 (fun u : qZ => qG (GU ca o) u.1 u.2)) (qw_A o 132)) (qw_A o 132) := by
  refine Met.ofW (cc := cX6_multiply) (maxL := 5) (ret := none) (by decide) rfl ?_
  intro p e s m args below meth c s₁ B hml hv
  obtain ⟨rfl, hP, hK⟩ := hv
  have hx := B.exec
  have hb := B.bytes
  have hr := B.returns
  have hts0 := atoms_spec (ws := Cond.code yX6_multiply cX6_multiply 5 none :: qtbl) B.pre
  have hts : ∀ w ∈ qtbl, w.before _ s = true := fun w h => hts0 w (List.mem_cons_of_mem _ h)
  have hown : s.vm.findClass RX6 = some m.cls := findClass_of_methodNamed B.named
  have hlocks := B.notSynchronized
  have hS : va_S (qw_A o 132) s.heap s.heap [] := va_S.rf
  have hl := lv_entry ([.ref (o + 92), .ref (o + 100), .int a2]) (n := 5) (Nat.le_of_ble_eq_true rfl)
  rw [lg_entry_eq]
  generalize (lg_sl ([.ref (o + 92), .ref (o + 100), .int a2]) ++ List.replicate (5 - (lg_sl ([.ref (o + 92), .ref (o + 100), .int a2])).length) Slot.unset).toArray = ls at hl ⊢
  have hl : lv_has ls 5 [(0, .ref (o + 92)), (1, .ref (o + 100)), (2, .int a2)] := hl
  refine lv_iload_n hx hb dX6_multiply_0 rfl (lv_at hl 2 rfl) ?_
  refine lv_if_eq (tgt := 11) hx hb dX6_multiply_1 (by decide) (fun c1 => ?_) (fun c1 => ?_)
  · have t1 : a2.toInt = (0 : Int) := gl_eq c1
    refine lv_aload_n hx hb dX6_multiply_11 rfl (lv_at hl 1 rfl) ?_
    refine lv_bipush (v := 6) hx hb dX6_multiply_12 (by decide) ?_
    refine qa_iald hx hb hK hP (q0 := 100) (by decide) 0 (N := 7) (hgU_100 ca o) rfl (gi_in (by decide) (by decide)) dX6_multiply_14 ?_
    refine lv_topi (fun x2 e2 => ?_)
    refine lv_istore_n (lv' := [(3, .int x2), (0, .ref (o + 92)), (1, .ref (o + 100)), (2, .int a2)]) hx hb dX6_multiply_15 rfl hl (by decide) rfl (fun ls hl => ?_)
    refine lv_iconst (v := 0) hx hb dX6_multiply_16 (by decide) ?_
    refine lv_istore (lv' := [(4, .int 0), (3, .int x2), (0, .ref (o + 92)), (1, .ref (o + 100)), (2, .int a2)]) hx hb dX6_multiply_17 hl (by decide) rfl (fun ls hl => ?_)
    have loop3 : ∀ (n : Nat) (w3_4 : Int32) (z3 : Nat → Nat → Int32) (y3 : Nat → Nat → Int64), ((7 - w3_4.toInt : Int) < (n : Int)) → ((0 : Int) ≤ w3_4.toInt ∧ w3_4.toInt ≤ 7) → (qJU b z3) → ∀ (H : Heap) (locs : List Loc), qw_P D vwCl o 132 (qG (GU ca o) z3 y3) H → va_S (qw_A o 132) s.heap H locs → ∀ (ls : Array Slot), lv_has ls 5 [(4, .int w3_4), (3, .int x2), (0, .ref (o + 92)), (1, .ref (o + 100)), (2, .int a2)] → W p l e (headSpec (Cond.code yX6_multiply cX6_multiply 5 none :: qtbl) ({ frames := 1, cells := 0, slots := 0, locals := 60 })).room s m (([.ref (o + 92), .ref (o + 100), .int a2] : List Value).toArray) below meth c H locs 0 0 (MQ below (va_Qv (fun u => qJU b u.1) (qB D vwCl (qT6 ca) o 132 (fun u : qZ => qG (GU ca o) u.1 u.2)) (qw_A o 132)) (([.ref (o + 92), .ref (o + 100), .int a2] : List Value).toArray) s 0 0 (qw_A o 132)) (F0 m 19 ls []) := by
      intro n
      induction n with
      | zero => intro w3_4 z3 y3 hb3 hv3_4 J3; exfalso; omega
      | succ n3 ih3 =>
        intro w3_4 z3 y3 hb3 hv3_4 J3 H locs hP hS ls hl
        refine lv_iload hx hb dX6_multiply_19 (lv_at hl 0 rfl) ?_
        refine lv_bipush (v := 7) hx hb dX6_multiply_21 (by decide) ?_
        refine lv_icmp_ge (tgt := 53) hx hb dX6_multiply_23 (by decide) (fun c4 => ?_) (fun c4 => ?_)
        · have t4 : w3_4.toInt ≥ (7 : Int) := gl_le c4
          exact W.vret hx hb hr (fun t ht hW => ⟨⟨(z3, y3), rfl, J3, by rw [ht]; exact hP, va_K.moved hW.alike hK⟩, hS.F ht⟩) hS.2.2 dX6_multiply_53
        · have t4 : w3_4.toInt < (7 : Int) := gl_nle c4
          refine lv_aload_n hx hb dX6_multiply_26 rfl (lv_at hl 2 rfl) ?_
          refine lv_iload hx hb dX6_multiply_27 (lv_at hl 0 rfl) ?_
          refine lv_iload_n hx hb dX6_multiply_29 rfl (lv_at hl 1 rfl) ?_
          refine lv_iload_n hx hb dX6_multiply_30 rfl (lv_at hl 4 rfl) ?_
          refine lv_if_eq (tgt := 41) hx hb dX6_multiply_31 (by decide) (fun c5 => ?_) (fun c5 => ?_)
          · have t5 : a2.toInt = (0 : Int) := gl_eq c5
            refine lv_aload_n hx hb dX6_multiply_41 rfl (lv_at hl 2 rfl) ?_
            refine lv_iload hx hb dX6_multiply_42 (lv_at hl 0 rfl) ?_
            refine qa_iald hx hb hK hP (q0 := 92) (by decide) 0 (N := 7) (hgU_92 ca o) rfl (gi_in (by omega) (by omega)) dX6_multiply_44 ?_
            refine lv_topi (fun x6 e6 => ?_)
            refine lv_imul hx hb dX6_multiply_45 ?_
            refine lv_topi (fun x7 e7 => ?_)
            refine qa_iast2 hx hb hK hP hS qw_Ai (q0 := 92) (by decide) 0 (N := 7) (hgU_92 ca o) rfl (i := w3_4) (x := x7) (gi_in (by omega) (by omega)) dX6_multiply_46 (fun z8 H locs hz8 hP hS => ?_)
            have J8 := jU_92 J3 hz8
            obtain ⟨x9, e9⟩ : ∃ t : Int32, t = w3_4 + 1 := ⟨_, rfl⟩
            refine lv_iinc (v := x9) (lv' := [(4, .int x9), (3, .int x2), (0, .ref (o + 92)), (1, .ref (o + 100)), (2, .int a2)]) hx hb dX6_multiply_47 hl (k := 0) rfl (by rw [e9]; rfl) (by decide) rfl (fun ls hl => ?_)
            have t9 : x9.toInt = w3_4.toInt + (1 : Int) := ga_add e9 rfl rfl (by omega) (by omega)
            refine lv_goto (tgt := 19) hx hb dX6_multiply_50 (by decide) ?_
            exact ih3 x9 z8 y3 (show (7 - x9.toInt : Int) < (n3 : Int) from by omega) ⟨by omega, by omega⟩ J8 _ _ hP hS _ (lv_sub hl [0, 1, 2, 3, 4] rfl)
          · have t5 : a2.toInt ≠ (0 : Int) := gl_ne c5
            exfalso; omega
    exact loop3 8 0 z y (show (7 - (0 : Int) : Int) < ((8 : Nat) : Int) from by omega) ⟨by decide, by decide⟩ J0 _ _ hP hS _ (lv_sub hl [0, 1, 2, 3, 4] rfl)
  · have t1 : a2.toInt ≠ (0 : Int) := gl_ne c1
    refine lv_aload_n hx hb dX6_multiply_4 rfl (lv_at hl 0 rfl) ?_
    refine lv_bipush (v := 6) hx hb dX6_multiply_5 (by decide) ?_
    refine qa_iald hx hb hK hP (q0 := 92) (by decide) 0 (N := 7) (hgU_92 ca o) rfl (gi_in (by decide) (by decide)) dX6_multiply_7 ?_
    refine lv_topi (fun x10 e10 => ?_)
    refine lv_goto (tgt := 15) hx hb dX6_multiply_8 (by decide) ?_
    refine lv_istore_n (lv' := [(3, .int x10), (0, .ref (o + 92)), (1, .ref (o + 100)), (2, .int a2)]) hx hb dX6_multiply_15 rfl hl (by decide) rfl (fun ls hl => ?_)
    refine lv_iconst (v := 0) hx hb dX6_multiply_16 (by decide) ?_
    refine lv_istore (lv' := [(4, .int 0), (3, .int x10), (0, .ref (o + 92)), (1, .ref (o + 100)), (2, .int a2)]) hx hb dX6_multiply_17 hl (by decide) rfl (fun ls hl => ?_)
    have loop11 : ∀ (n : Nat) (w11_4 : Int32) (z11 : Nat → Nat → Int32) (y11 : Nat → Nat → Int64), ((7 - w11_4.toInt : Int) < (n : Int)) → ((0 : Int) ≤ w11_4.toInt ∧ w11_4.toInt ≤ 7) → (qJU b z11) → ∀ (H : Heap) (locs : List Loc), qw_P D vwCl o 132 (qG (GU ca o) z11 y11) H → va_S (qw_A o 132) s.heap H locs → ∀ (ls : Array Slot), lv_has ls 5 [(4, .int w11_4), (3, .int x10), (0, .ref (o + 92)), (1, .ref (o + 100)), (2, .int a2)] → W p l e (headSpec (Cond.code yX6_multiply cX6_multiply 5 none :: qtbl) ({ frames := 1, cells := 0, slots := 0, locals := 60 })).room s m (([.ref (o + 92), .ref (o + 100), .int a2] : List Value).toArray) below meth c H locs 0 0 (MQ below (va_Qv (fun u => qJU b u.1) (qB D vwCl (qT6 ca) o 132 (fun u : qZ => qG (GU ca o) u.1 u.2)) (qw_A o 132)) (([.ref (o + 92), .ref (o + 100), .int a2] : List Value).toArray) s 0 0 (qw_A o 132)) (F0 m 19 ls []) := by
      intro n
      induction n with
      | zero => intro w11_4 z11 y11 hb11 hv11_4 J11; exfalso; omega
      | succ n11 ih11 =>
        intro w11_4 z11 y11 hb11 hv11_4 J11 H locs hP hS ls hl
        refine lv_iload hx hb dX6_multiply_19 (lv_at hl 0 rfl) ?_
        refine lv_bipush (v := 7) hx hb dX6_multiply_21 (by decide) ?_
        refine lv_icmp_ge (tgt := 53) hx hb dX6_multiply_23 (by decide) (fun c12 => ?_) (fun c12 => ?_)
        · have t12 : w11_4.toInt ≥ (7 : Int) := gl_le c12
          exact W.vret hx hb hr (fun t ht hW => ⟨⟨(z11, y11), rfl, J11, by rw [ht]; exact hP, va_K.moved hW.alike hK⟩, hS.F ht⟩) hS.2.2 dX6_multiply_53
        · have t12 : w11_4.toInt < (7 : Int) := gl_nle c12
          refine lv_aload_n hx hb dX6_multiply_26 rfl (lv_at hl 2 rfl) ?_
          refine lv_iload hx hb dX6_multiply_27 (lv_at hl 0 rfl) ?_
          refine lv_iload_n hx hb dX6_multiply_29 rfl (lv_at hl 1 rfl) ?_
          refine lv_iload_n hx hb dX6_multiply_30 rfl (lv_at hl 4 rfl) ?_
          refine lv_if_eq (tgt := 41) hx hb dX6_multiply_31 (by decide) (fun c13 => ?_) (fun c13 => ?_)
          · have t13 : a2.toInt = (0 : Int) := gl_eq c13
            refine lv_aload_n hx hb dX6_multiply_41 rfl (lv_at hl 2 rfl) ?_
            refine lv_iload hx hb dX6_multiply_42 (lv_at hl 0 rfl) ?_
            refine qa_iald hx hb hK hP (q0 := 92) (by decide) 0 (N := 7) (hgU_92 ca o) rfl (gi_in (by omega) (by omega)) dX6_multiply_44 ?_
            refine lv_topi (fun x14 e14 => ?_)
            refine lv_imul hx hb dX6_multiply_45 ?_
            refine lv_topi (fun x15 e15 => ?_)
            refine qa_iast2 hx hb hK hP hS qw_Ai (q0 := 92) (by decide) 0 (N := 7) (hgU_92 ca o) rfl (i := w11_4) (x := x15) (gi_in (by omega) (by omega)) dX6_multiply_46 (fun z16 H locs hz16 hP hS => ?_)
            have J16 := jU_92 J11 hz16
            obtain ⟨x17, e17⟩ : ∃ t : Int32, t = w11_4 + 1 := ⟨_, rfl⟩
            refine lv_iinc (v := x17) (lv' := [(4, .int x17), (3, .int x10), (0, .ref (o + 92)), (1, .ref (o + 100)), (2, .int a2)]) hx hb dX6_multiply_47 hl (k := 0) rfl (by rw [e17]; rfl) (by decide) rfl (fun ls hl => ?_)
            have t17 : x17.toInt = w11_4.toInt + (1 : Int) := ga_add e17 rfl rfl (by omega) (by omega)
            refine lv_goto (tgt := 19) hx hb dX6_multiply_50 (by decide) ?_
            exact ih11 x17 z16 y11 (show (7 - x17.toInt : Int) < (n11 : Int) from by omega) ⟨by omega, by omega⟩ J16 _ _ hP hS _ (lv_sub hl [0, 1, 2, 3, 4] rfl)
          · have t13 : a2.toInt ≠ (0 : Int) := gl_ne c13
            refine lv_aload_n hx hb dX6_multiply_34 rfl (lv_at hl 3 rfl) ?_
            refine lv_iload hx hb dX6_multiply_35 (lv_at hl 0 rfl) ?_
            refine qa_iald hx hb hK hP (q0 := 100) (by decide) 0 (N := 7) (hgU_100 ca o) rfl (gi_in (by omega) (by omega)) dX6_multiply_37 ?_
            refine lv_topi (fun x18 e18 => ?_)
            refine lv_goto (tgt := 45) hx hb dX6_multiply_38 (by decide) ?_
            refine lv_imul hx hb dX6_multiply_45 ?_
            refine lv_topi (fun x19 e19 => ?_)
            refine qa_iast2 hx hb hK hP hS qw_Ai (q0 := 92) (by decide) 0 (N := 7) (hgU_92 ca o) rfl (i := w11_4) (x := x19) (gi_in (by omega) (by omega)) dX6_multiply_46 (fun z20 H locs hz20 hP hS => ?_)
            have J20 := jU_92 J11 hz20
            obtain ⟨x21, e21⟩ : ∃ t : Int32, t = w11_4 + 1 := ⟨_, rfl⟩
            refine lv_iinc (v := x21) (lv' := [(4, .int x21), (3, .int x10), (0, .ref (o + 92)), (1, .ref (o + 100)), (2, .int a2)]) hx hb dX6_multiply_47 hl (k := 0) rfl (by rw [e21]; rfl) (by decide) rfl (fun ls hl => ?_)
            have t21 : x21.toInt = w11_4.toInt + (1 : Int) := ga_add e21 rfl rfl (by omega) (by omega)
            refine lv_goto (tgt := 19) hx hb dX6_multiply_50 (by decide) ?_
            exact ih11 x21 z20 y11 (show (7 - x21.toInt : Int) < (n11 : Int) from by omega) ⟨by omega, by omega⟩ J20 _ _ hP hS _ (lv_sub hl [0, 1, 2, 3, 4] rfl)
    exact loop11 8 0 z y (show (7 - (0 : Int) : Int) < ((8 : Nat) : Int) from by omega) ⟨by decide, by decide⟩ J0 _ _ hP hS _ (lv_sub hl [0, 1, 2, 3, 4] rfl)
set_option maxRecDepth 100000 in
set_option maxHeartbeats 8000000 in
theorem u_Reader_readTerm_v4 (l : Launch) (D : va_G) (ca : Nat → ClassId) (o : Nat) (b z : Nat → Nat → Int32) (y : Nat → Nat → Int64) (J0 : qJU b z)   : qM l yX6_readTerm cX6_readTerm 8 (some .boolean) 13 351 (qPre D vwCl (qT6 ca) o 132 (qG (GU ca o) z y) [.ref (o + 78), .int 4]) (va_Qi (fun r u => ((0 : Int) ≤ r.toInt ∧ r.toInt ≤ 1) ∧ qJU b u.1) (qB D vwCl (qT6 ca) o 132 (fun u : qZ => qG (GU ca o) u.1 u.2)) (qw_A o 132)) (qw_A o 132) := by
  refine Met.ofW (cc := cX6_readTerm) (maxL := 8) (ret := (some .boolean)) (by decide) rfl ?_
  intro p e s m args below meth c s₁ B hml hv
  obtain ⟨rfl, hP, hK⟩ := hv
  have hx := B.exec
  have hb := B.bytes
  have hr := B.returns
  have hts0 := atoms_spec (ws := Cond.code yX6_readTerm cX6_readTerm 8 (some .boolean) :: qtbl) B.pre
  have hts : ∀ w ∈ qtbl, w.before _ s = true := fun w h => hts0 w (List.mem_cons_of_mem _ h)
  have hown : s.vm.findClass RX6 = some m.cls := findClass_of_methodNamed B.named
  have hlocks := B.notSynchronized
  have hS : va_S (qw_A o 132) s.heap s.heap [] := va_S.rf
  have hl := lv_entry ([.ref (o + 78), .int 4]) (n := 8) (Nat.le_of_ble_eq_true rfl)
  rw [lg_entry_eq]
  generalize (lg_sl ([.ref (o + 78), .int 4]) ++ List.replicate (8 - (lg_sl ([.ref (o + 78), .int 4])).length) Slot.unset).toArray = ls at hl ⊢
  have hl : lv_has ls 8 [(0, .ref (o + 78)), (1, .int 4)] := hl
  refine lv_aload_n hx hb dX6_readTerm_0 rfl (lv_at hl 0 rfl) ?_
  refine qf_get hx hb hts inX6 hown hK hP (q0 := 78) (by decide) (hgU_78 ca o) rfl 2 (by decide) wq_132 (v := .ref (o + 87)) rfl dX6_readTerm_1 ?_
  refine lv_iload_n hx hb dX6_readTerm_4 rfl (lv_at hl 1 rfl) ?_
  refine qa_aald hx hb hK hP (q0 := 87) (by decide) 5 rfl (N := 7) (hgU_87 ca o) rfl (gi_in (by decide) (by decide)) dX6_readTerm_5 ?_
  refine lv_astore_n (lv' := [(2, .ref (o + (88 + (4 : Int32).toNatClampNeg))), (0, .ref (o + 78)), (1, .int 4)]) hx hb dX6_readTerm_6 rfl hl (by decide) rfl (fun ls hl => ?_)
  refine lv_aload_n hx hb dX6_readTerm_7 rfl (lv_at hl 0 rfl) ?_
  refine lv_iconst (v := 0) hx hb dX6_readTerm_8 (by decide) ?_
  refine qc_Sv2 (As := [.ref (o + (88 + (4 : Int32).toNatClampNeg)), .int 0]) (rest := []) (k0 := 2) (u_Arrays_fill_v13 l D ca o b z y J0 0) kc_yJ7_fill_53178 ⟨hx, hb, hml, hown, hts⟩ wq_454 rfl rfl ⟨Nat.le_of_ble_eq_true rfl, Nat.le_of_ble_eq_true rfl⟩ wq_all hP hK hS qw_Ai rfl hl.1 rfl (Nat.le_of_ble_eq_true rfl) dX6_readTerm_9 ⟨Nat.zero_le _, Nat.zero_le _⟩ (fun z1 y1 H locs h1 hP hS _ _ => ?_)
  have J1 : qJU b z1 := h1
  refine lv_aload_n hx hb dX6_readTerm_12 rfl (lv_at hl 0 rfl) ?_
  refine lv_bipush (v := 6) hx hb dX6_readTerm_13 (by decide) ?_
  refine lv_iconst (v := 1) hx hb dX6_readTerm_15 (by decide) ?_
  refine qa_iast2 hx hb hK hP hS qw_Ai (q0 := 92) (by decide) 0 (N := 7) (hgU_92 ca o) rfl (i := 6) (x := 1) (gi_in (by decide) (by decide)) dX6_readTerm_16 (fun z2 H locs hz2 hP hS => ?_)
  have J2 := jU_92 J1 hz2
  refine lv_iconst (v := 0) hx hb dX6_readTerm_17 (by decide) ?_
  refine lv_istore_n (lv' := [(3, .int 0), (2, .ref (o + (88 + (4 : Int32).toNatClampNeg))), (0, .ref (o + 78)), (1, .int 4)]) hx hb dX6_readTerm_18 rfl hl (by decide) rfl (fun ls hl => ?_)
  refine lv_aload_n hx hb dX6_readTerm_19 rfl (lv_at hl 2 rfl) ?_
  refine qf_get hx hb hts inX6 hown hK hP (q0 := 78) (by decide) (hgU_78 ca o) rfl 6 (by decide) wq_136 (v := .int (z2 78 6)) rfl dX6_readTerm_20 ?_
  refine lv_topi (fun x3 e3 => ?_)
  refine lv_istore (lv' := [(4, .int x3), (3, .int 0), (2, .ref (o + (88 + (4 : Int32).toNatClampNeg))), (0, .ref (o + 78)), (1, .int 4)]) hx hb dX6_readTerm_23 hl (by decide) rfl (fun ls hl => ?_)
  refine lv_iconst (v := 0) hx hb dX6_readTerm_25 (by decide) ?_
  refine lv_istore (lv' := [(5, .int 0), (4, .int x3), (3, .int 0), (2, .ref (o + (88 + (4 : Int32).toNatClampNeg))), (0, .ref (o + 78)), (1, .int 4)]) hx hb dX6_readTerm_26 hl (by decide) rfl (fun ls hl => ?_)
  have loop4 : ∀ (n : Nat) (w4_5 : Int32) (w4_4 : Int32) (w4_3 : Int32) (z4 : Nat → Nat → Int32) (y4 : Nat → Nat → Int64), ((61 - w4_5.toInt : Int) < (n : Int)) → ((0 : Int) ≤ w4_5.toInt ∧ w4_5.toInt ≤ 61) → ((0 : Int) ≤ w4_3.toInt ∧ w4_3.toInt ≤ 1) → (qJU b z4) → ∀ (H : Heap) (locs : List Loc), qw_P D vwCl o 132 (qG (GU ca o) z4 y4) H → va_S (qw_A o 132) s.heap H locs → ∀ (ls : Array Slot), lv_has ls 8 [(5, .int w4_5), (4, .int w4_4), (3, .int w4_3), (2, .ref (o + (88 + (4 : Int32).toNatClampNeg))), (0, .ref (o + 78)), (1, .int 4)] → W p l e (headSpec (Cond.code yX6_readTerm cX6_readTerm 8 (some .boolean) :: qtbl) ({ frames := 13, cells := 0, slots := 0, locals := 351 })).room s m (([.ref (o + 78), .int 4] : List Value).toArray) below meth c H locs 0 0 (MQ below (va_Qi (fun r u => ((0 : Int) ≤ r.toInt ∧ r.toInt ≤ 1) ∧ qJU b u.1) (qB D vwCl (qT6 ca) o 132 (fun u : qZ => qG (GU ca o) u.1 u.2)) (qw_A o 132)) (([.ref (o + 78), .int 4] : List Value).toArray) s 0 0 (qw_A o 132)) (F0 m 28 ls []) := by
    intro n
    induction n with
    | zero => intro w4_5 w4_4 w4_3 z4 y4 hb4 hv4_5 hv4_3 J4; exfalso; omega
    | succ n4 ih4 =>
      intro w4_5 w4_4 w4_3 z4 y4 hb4 hv4_5 hv4_3 J4 H locs hP hS ls hl
      refine lv_iload hx hb dX6_readTerm_28 (lv_at hl 0 rfl) ?_
      refine lv_bipush (v := 60) hx hb dX6_readTerm_30 (by decide) ?_
      refine lv_icmp_gt (tgt := 145) hx hb dX6_readTerm_32 (by decide) (fun c5 => ?_) (fun c5 => ?_)
      · have t5 : w4_5.toInt > (60 : Int) := gl_lt c5
        refine lv_aload_n hx hb dX6_readTerm_145 rfl (lv_at hl 4 rfl) ?_
        refine lv_iconst (v := 1) hx hb dX6_readTerm_146 (by decide) ?_
        refine lv_aload_n hx hb dX6_readTerm_147 rfl (lv_at hl 4 rfl) ?_
        refine qf_get hx hb hts inX6 hown hK hP (q0 := 78) (by decide) (hgU_78 ca o) rfl 6 (by decide) wq_136 (v := .int (z4 78 6)) rfl dX6_readTerm_148 ?_
        refine lv_topi (fun x6 e6 => ?_)
        refine qc_Vi2 (As := [.int 1, .int x6]) (rest := []) (k0 := 2) (u_Reader_fail l D ca o b z4 y4 J4 1 x6) kc_yX6_fail ⟨hx, hb, hml, hown, hts⟩ wq_450 rfl rfl ⟨Nat.le_of_ble_eq_true rfl, Nat.le_of_ble_eq_true rfl⟩ wq_all hP hK hS qw_Ai (q0 := 78) (by decide) (hgU_78 ca o _ _) rfl rfl hl.1 rfl (Nat.le_of_ble_eq_true rfl) dX6_readTerm_151 ⟨Nat.zero_le _, Nat.zero_le _⟩ (fun r7 z7 y7 H locs h7 hP hS _ _ => ?_)
        have J7 : qJU b z7 := h7.2
        have b7 : (0 : Int) ≤ r7.toInt ∧ r7.toInt ≤ 0 := h7.1
        obtain rfl : r7 = 0 := lit_eq (k := 0) (K := 0) rfl (by omega) (by omega)
        exact W.zret (v := 0) (ty := .boolean) hx hb hr rfl (fun t ht hW => ⟨⟨0, (z7, y7), rfl, ⟨⟨by decide, by decide⟩, J7⟩, by rw [ht]; exact hP, va_K.moved hW.alike hK⟩, hS.F ht⟩) hS.2.2 dX6_readTerm_154
      · have t5 : w4_5.toInt ≤ (60 : Int) := gl_nlt c5
        refine lv_aload_n hx hb dX6_readTerm_35 rfl (lv_at hl 4 rfl) ?_
        refine qf_get hx hb hts inX6 hown hK hP (q0 := 78) (by decide) (hgU_78 ca o) rfl 8 (by decide) wq_138 (v := .int (z4 78 8)) rfl dX6_readTerm_36 ?_
        refine lv_topi (fun x8 e8 => ?_)
        refine lv_istore (lv' := [(6, .int x8), (5, .int w4_5), (4, .int w4_4), (3, .int w4_3), (2, .ref (o + (88 + (4 : Int32).toNatClampNeg))), (0, .ref (o + 78)), (1, .int 4)]) hx hb dX6_readTerm_39 hl (by decide) rfl (fun ls hl => ?_)
        refine lv_aload_n hx hb dX6_readTerm_41 rfl (lv_at hl 5 rfl) ?_
        refine lv_iload_n hx hb dX6_readTerm_42 rfl (lv_at hl 6 rfl) ?_
        refine qc_Vi2 (As := [.int 4]) (rest := []) (k0 := 1) (u_Reader_readFactor_v4 l D ca o b z4 y4 J4) kc_yX6_readFactor ⟨hx, hb, hml, hown, hts⟩ wq_459 rfl rfl ⟨Nat.le_of_ble_eq_true rfl, Nat.le_of_ble_eq_true rfl⟩ wq_all hP hK hS qw_Ai (q0 := 78) (by decide) (hgU_78 ca o _ _) rfl rfl hl.1 rfl (Nat.le_of_ble_eq_true rfl) dX6_readTerm_43 ⟨Nat.zero_le _, Nat.zero_le _⟩ (fun r9 z9 y9 H locs h9 hP hS _ _ => ?_)
        have J9 : qJU b z9 := h9.2
        have b9 : (0 : Int) ≤ r9.toInt ∧ r9.toInt ≤ 1 := h9.1
        refine lv_if_ne (tgt := 51) hx hb dX6_readTerm_46 (by decide) (fun c10 => ?_) (fun c10 => ?_)
        · have t10 : r9.toInt ≠ (0 : Int) := gl_ne c10
          refine lv_aload_n hx hb dX6_readTerm_51 rfl (lv_at hl 5 rfl) ?_
          refine qf_get hx hb hts inX6 hown hK hP (q0 := 78) (by decide) (hgU_78 ca o) rfl 8 (by decide) wq_138 (v := .int (z9 78 8)) rfl dX6_readTerm_52 ?_
          refine lv_topi (fun x11 e11 => ?_)
          refine lv_iload hx hb dX6_readTerm_55 (lv_at hl 0 rfl) ?_
          refine lv_icmp_le (tgt := 64) hx hb dX6_readTerm_57 (by decide) (fun c12 => ?_) (fun c12 => ?_)
          · have t12 : x11.toInt ≤ x8.toInt := gl_le c12
            refine lv_iconst (v := 0) hx hb dX6_readTerm_64 (by decide) ?_
            refine lv_istore (lv' := [(7, .int 0), (6, .int x8), (5, .int w4_5), (4, .int w4_4), (3, .int w4_3), (2, .ref (o + (88 + (4 : Int32).toNatClampNeg))), (0, .ref (o + 78)), (1, .int 4)]) hx hb dX6_readTerm_65 hl (by decide) rfl (fun ls hl => ?_)
            refine lv_iload_n hx hb dX6_readTerm_67 rfl (lv_at hl 4 rfl) ?_
            refine lv_if_eq (tgt := 85) hx hb dX6_readTerm_68 (by decide) (fun c13 => ?_) (fun c13 => ?_)
            · have t13 : w4_3.toInt = (0 : Int) := gl_eq c13
              refine lv_aload_n hx hb dX6_readTerm_85 rfl (lv_at hl 5 rfl) ?_
              refine lv_aload_n hx hb dX6_readTerm_86 rfl (lv_at hl 6 rfl) ?_
              refine qf_get hx hb hts inX6 hown hK hP (q0 := 78) (by decide) (hgU_78 ca o) rfl 3 (by decide) wq_133 (v := .ref (o + 95)) rfl dX6_readTerm_87 ?_
              refine lv_iload_n hx hb dX6_readTerm_90 rfl (lv_at hl 7 rfl) ?_
              refine qa_aald hx hb hK hP (q0 := 95) (by decide) 5 rfl (N := 7) (hgU_95 ca o) rfl (gi_in (by decide) (by decide)) dX6_readTerm_91 ?_
              refine lv_iload hx hb dX6_readTerm_92 (lv_at hl 0 rfl) ?_
              refine qc_Sv2 (As := [.ref (o + (88 + (4 : Int32).toNatClampNeg)), .ref (o + (96 + (4 : Int32).toNatClampNeg)), .int 0]) (rest := []) (k0 := 3) (u_Reader_multiply_v2 l D ca o b z9 y9 J9 0) kc_yX6_multiply ⟨hx, hb, hml, hown, hts⟩ wq_490 rfl rfl ⟨Nat.le_of_ble_eq_true rfl, Nat.le_of_ble_eq_true rfl⟩ wq_all hP hK hS qw_Ai rfl hl.1 rfl (Nat.le_of_ble_eq_true rfl) dX6_readTerm_94 ⟨Nat.zero_le _, Nat.zero_le _⟩ (fun z14 y14 H locs h14 hP hS _ _ => ?_)
              have J14 : qJU b z14 := h14
              refine lv_iload_n hx hb dX6_readTerm_97 rfl (lv_at hl 4 rfl) ?_
              refine lv_if_ne (tgt := 106) hx hb dX6_readTerm_98 (by decide) (fun c15 => ?_) (fun c15 => ?_)
              · have t15 : w4_3.toInt ≠ (0 : Int) := gl_ne c15
                exfalso; omega
              · have t15 : w4_3.toInt = (0 : Int) := gl_eq c15
                refine lv_iload hx hb dX6_readTerm_101 (lv_at hl 0 rfl) ?_
                refine lv_if_eq (tgt := 110) hx hb dX6_readTerm_103 (by decide) (fun _ => ?_) (fun q => absurd (by decide) q)
                refine lv_iconst (v := 0) hx hb dX6_readTerm_110 (by decide) ?_
                refine lv_istore_n (lv' := [(3, .int 0), (7, .int 0), (6, .int x8), (5, .int w4_5), (4, .int w4_4), (2, .ref (o + (88 + (4 : Int32).toNatClampNeg))), (0, .ref (o + 78)), (1, .int 4)]) hx hb dX6_readTerm_111 rfl hl (by decide) rfl (fun ls hl => ?_)
                refine lv_aload_n hx hb dX6_readTerm_112 rfl (lv_at hl 6 rfl) ?_
                refine qc_Vip (As := []) (rest := []) (k0 := 0) (u_Reader_peek l D ca o b z14 y14 J14) kc_yX6_peek ⟨hx, hb, hml, hown, hts⟩ wq_463 rfl rfl ⟨Nat.le_of_ble_eq_true rfl, Nat.le_of_ble_eq_true rfl⟩ wq_all hP hK hS qw_Ai (q0 := 78) (by decide) (hgU_78 ca o _ _) rfl rfl hl.1 rfl (Nat.le_of_ble_eq_true rfl) dX6_readTerm_113 ⟨Nat.zero_le _, Nat.zero_le _⟩ (fun r16 H locs h16 hP hS _ _ => ?_)
                refine lv_bipush (v := 42) hx hb dX6_readTerm_116 (by decide) ?_
                refine lv_icmp_eq (tgt := 123) hx hb dX6_readTerm_118 (by decide) (fun c17 => ?_) (fun c17 => ?_)
                · have t17 : r16.toInt = (42 : Int) := gl_eq c17
                  refine lv_aload_n hx hb dX6_readTerm_123 rfl (lv_at hl 6 rfl) ?_
                  refine qf_get hx hb hts inX6 hown hK hP (q0 := 78) (by decide) (hgU_78 ca o) rfl 6 (by decide) wq_136 (v := .int (z14 78 6)) rfl dX6_readTerm_124 ?_
                  refine lv_topi (fun x18 e18 => ?_)
                  refine lv_istore (lv' := [(4, .int x18), (3, .int 0), (7, .int 0), (6, .int x8), (5, .int w4_5), (2, .ref (o + (88 + (4 : Int32).toNatClampNeg))), (0, .ref (o + 78)), (1, .int 4)]) hx hb dX6_readTerm_127 hl (by decide) rfl (fun ls hl => ?_)
                  refine lv_aload_n hx hb dX6_readTerm_129 rfl (lv_at hl 6 rfl) ?_
                  refine lv_dup hx hb dX6_readTerm_130 rfl ?_
                  refine qf_get hx hb hts inX6 hown hK hP (q0 := 78) (by decide) (hgU_78 ca o) rfl 6 (by decide) wq_136 (v := .int (z14 78 6)) rfl dX6_readTerm_131 ?_
                  refine lv_topi (fun x19 e19 => ?_)
                  have ag19 : x19.toInt = x18.toInt := congrArg Int32.toInt (e19.trans e18.symm)
                  refine lv_iconst (v := 1) hx hb dX6_readTerm_134 (by decide) ?_
                  refine lv_iadd hx hb dX6_readTerm_135 ?_
                  refine lv_topi (fun x20 e20 => ?_)
                  refine qf_put2 hx hb hts inX6 tyX6 tyX6_ok nmX6 hown hK hP hS qw_Ai (q0 := 78) (by decide) (hgU_78 ca o) rfl 6 (by decide) wq_136 rfl (x := x20) 6 rfl rfl rfl (Nat.le_of_ble_eq_true rfl) dX6_readTerm_136 (fun z21 H locs hz21 hP hS => ?_)
                  have J21 := jU_78_6 J14 hz21
                  obtain ⟨x22, e22⟩ : ∃ t : Int32, t = w4_5 + 1 := ⟨_, rfl⟩
                  refine lv_iinc (v := x22) (lv' := [(5, .int x22), (4, .int x18), (3, .int 0), (7, .int 0), (6, .int x8), (2, .ref (o + (88 + (4 : Int32).toNatClampNeg))), (0, .ref (o + 78)), (1, .int 4)]) hx hb dX6_readTerm_139 hl (k := 4) rfl (by rw [e22]; rfl) (by decide) rfl (fun ls hl => ?_)
                  have t22 : x22.toInt = w4_5.toInt + (1 : Int) := ga_add e22 rfl rfl (by omega) (by omega)
                  refine lv_goto (tgt := 28) hx hb dX6_readTerm_142 (by decide) ?_
                  exact ih4 x22 x18 0 z21 y14 (show (61 - x22.toInt : Int) < (n4 : Int) from by omega) ⟨by omega, by omega⟩ ⟨by decide, by decide⟩ J21 _ _ hP hS _ (lv_sub hl [0, 1, 2, 5, 6, 7] rfl)
                · have t17 : r16.toInt ≠ (42 : Int) := gl_ne c17
                  refine lv_iconst (v := 1) hx hb dX6_readTerm_121 (by decide) ?_
                  exact W.zret (v := 1) (ty := .boolean) hx hb hr rfl (fun t ht hW => ⟨⟨1, (z14, y14), rfl, ⟨⟨by decide, by decide⟩, J14⟩, by rw [ht]; exact hP, va_K.moved hW.alike hK⟩, hS.F ht⟩) hS.2.2 dX6_readTerm_122
            · have t13 : w4_3.toInt ≠ (0 : Int) := gl_ne c13
              refine lv_iload hx hb dX6_readTerm_71 (lv_at hl 0 rfl) ?_
              refine lv_if_eq (tgt := 85) hx hb dX6_readTerm_73 (by decide) (fun _ => ?_) (fun q => absurd (by decide) q)
              refine lv_aload_n hx hb dX6_readTerm_85 rfl (lv_at hl 5 rfl) ?_
              refine lv_aload_n hx hb dX6_readTerm_86 rfl (lv_at hl 6 rfl) ?_
              refine qf_get hx hb hts inX6 hown hK hP (q0 := 78) (by decide) (hgU_78 ca o) rfl 3 (by decide) wq_133 (v := .ref (o + 95)) rfl dX6_readTerm_87 ?_
              refine lv_iload_n hx hb dX6_readTerm_90 rfl (lv_at hl 7 rfl) ?_
              refine qa_aald hx hb hK hP (q0 := 95) (by decide) 5 rfl (N := 7) (hgU_95 ca o) rfl (gi_in (by decide) (by decide)) dX6_readTerm_91 ?_
              refine lv_iload hx hb dX6_readTerm_92 (lv_at hl 0 rfl) ?_
              refine qc_Sv2 (As := [.ref (o + (88 + (4 : Int32).toNatClampNeg)), .ref (o + (96 + (4 : Int32).toNatClampNeg)), .int 0]) (rest := []) (k0 := 3) (u_Reader_multiply_v2 l D ca o b z9 y9 J9 0) kc_yX6_multiply ⟨hx, hb, hml, hown, hts⟩ wq_490 rfl rfl ⟨Nat.le_of_ble_eq_true rfl, Nat.le_of_ble_eq_true rfl⟩ wq_all hP hK hS qw_Ai rfl hl.1 rfl (Nat.le_of_ble_eq_true rfl) dX6_readTerm_94 ⟨Nat.zero_le _, Nat.zero_le _⟩ (fun z23 y23 H locs h23 hP hS _ _ => ?_)
              have J23 : qJU b z23 := h23
              refine lv_iload_n hx hb dX6_readTerm_97 rfl (lv_at hl 4 rfl) ?_
              refine lv_if_ne (tgt := 106) hx hb dX6_readTerm_98 (by decide) (fun c24 => ?_) (fun c24 => ?_)
              · have t24 : w4_3.toInt ≠ (0 : Int) := gl_ne c24
                refine lv_iconst (v := 1) hx hb dX6_readTerm_106 (by decide) ?_
                refine lv_goto (tgt := 111) hx hb dX6_readTerm_107 (by decide) ?_
                refine lv_istore_n (lv' := [(3, .int 1), (7, .int 0), (6, .int x8), (5, .int w4_5), (4, .int w4_4), (2, .ref (o + (88 + (4 : Int32).toNatClampNeg))), (0, .ref (o + 78)), (1, .int 4)]) hx hb dX6_readTerm_111 rfl hl (by decide) rfl (fun ls hl => ?_)
                refine lv_aload_n hx hb dX6_readTerm_112 rfl (lv_at hl 6 rfl) ?_
                refine qc_Vip (As := []) (rest := []) (k0 := 0) (u_Reader_peek l D ca o b z23 y23 J23) kc_yX6_peek ⟨hx, hb, hml, hown, hts⟩ wq_463 rfl rfl ⟨Nat.le_of_ble_eq_true rfl, Nat.le_of_ble_eq_true rfl⟩ wq_all hP hK hS qw_Ai (q0 := 78) (by decide) (hgU_78 ca o _ _) rfl rfl hl.1 rfl (Nat.le_of_ble_eq_true rfl) dX6_readTerm_113 ⟨Nat.zero_le _, Nat.zero_le _⟩ (fun r25 H locs h25 hP hS _ _ => ?_)
                refine lv_bipush (v := 42) hx hb dX6_readTerm_116 (by decide) ?_
                refine lv_icmp_eq (tgt := 123) hx hb dX6_readTerm_118 (by decide) (fun c26 => ?_) (fun c26 => ?_)
                · have t26 : r25.toInt = (42 : Int) := gl_eq c26
                  refine lv_aload_n hx hb dX6_readTerm_123 rfl (lv_at hl 6 rfl) ?_
                  refine qf_get hx hb hts inX6 hown hK hP (q0 := 78) (by decide) (hgU_78 ca o) rfl 6 (by decide) wq_136 (v := .int (z23 78 6)) rfl dX6_readTerm_124 ?_
                  refine lv_topi (fun x27 e27 => ?_)
                  refine lv_istore (lv' := [(4, .int x27), (3, .int 1), (7, .int 0), (6, .int x8), (5, .int w4_5), (2, .ref (o + (88 + (4 : Int32).toNatClampNeg))), (0, .ref (o + 78)), (1, .int 4)]) hx hb dX6_readTerm_127 hl (by decide) rfl (fun ls hl => ?_)
                  refine lv_aload_n hx hb dX6_readTerm_129 rfl (lv_at hl 6 rfl) ?_
                  refine lv_dup hx hb dX6_readTerm_130 rfl ?_
                  refine qf_get hx hb hts inX6 hown hK hP (q0 := 78) (by decide) (hgU_78 ca o) rfl 6 (by decide) wq_136 (v := .int (z23 78 6)) rfl dX6_readTerm_131 ?_
                  refine lv_topi (fun x28 e28 => ?_)
                  have ag28 : x28.toInt = x27.toInt := congrArg Int32.toInt (e28.trans e27.symm)
                  refine lv_iconst (v := 1) hx hb dX6_readTerm_134 (by decide) ?_
                  refine lv_iadd hx hb dX6_readTerm_135 ?_
                  refine lv_topi (fun x29 e29 => ?_)
                  refine qf_put2 hx hb hts inX6 tyX6 tyX6_ok nmX6 hown hK hP hS qw_Ai (q0 := 78) (by decide) (hgU_78 ca o) rfl 6 (by decide) wq_136 rfl (x := x29) 6 rfl rfl rfl (Nat.le_of_ble_eq_true rfl) dX6_readTerm_136 (fun z30 H locs hz30 hP hS => ?_)
                  have J30 := jU_78_6 J23 hz30
                  obtain ⟨x31, e31⟩ : ∃ t : Int32, t = w4_5 + 1 := ⟨_, rfl⟩
                  refine lv_iinc (v := x31) (lv' := [(5, .int x31), (4, .int x27), (3, .int 1), (7, .int 0), (6, .int x8), (2, .ref (o + (88 + (4 : Int32).toNatClampNeg))), (0, .ref (o + 78)), (1, .int 4)]) hx hb dX6_readTerm_139 hl (k := 4) rfl (by rw [e31]; rfl) (by decide) rfl (fun ls hl => ?_)
                  have t31 : x31.toInt = w4_5.toInt + (1 : Int) := ga_add e31 rfl rfl (by omega) (by omega)
                  refine lv_goto (tgt := 28) hx hb dX6_readTerm_142 (by decide) ?_
                  exact ih4 x31 x27 1 z30 y23 (show (61 - x31.toInt : Int) < (n4 : Int) from by omega) ⟨by omega, by omega⟩ ⟨by decide, by decide⟩ J30 _ _ hP hS _ (lv_sub hl [0, 1, 2, 5, 6, 7] rfl)
                · have t26 : r25.toInt ≠ (42 : Int) := gl_ne c26
                  refine lv_iconst (v := 1) hx hb dX6_readTerm_121 (by decide) ?_
                  exact W.zret (v := 1) (ty := .boolean) hx hb hr rfl (fun t ht hW => ⟨⟨1, (z23, y23), rfl, ⟨⟨by decide, by decide⟩, J23⟩, by rw [ht]; exact hP, va_K.moved hW.alike hK⟩, hS.F ht⟩) hS.2.2 dX6_readTerm_122
              · have t24 : w4_3.toInt = (0 : Int) := gl_eq c24
                exfalso; omega
          · have t12 : x11.toInt > x8.toInt := gl_nle c12
            refine lv_iconst (v := 1) hx hb dX6_readTerm_60 (by decide) ?_
            refine lv_goto (tgt := 65) hx hb dX6_readTerm_61 (by decide) ?_
            refine lv_istore (lv' := [(7, .int 1), (6, .int x8), (5, .int w4_5), (4, .int w4_4), (3, .int w4_3), (2, .ref (o + (88 + (4 : Int32).toNatClampNeg))), (0, .ref (o + 78)), (1, .int 4)]) hx hb dX6_readTerm_65 hl (by decide) rfl (fun ls hl => ?_)
            refine lv_iload_n hx hb dX6_readTerm_67 rfl (lv_at hl 4 rfl) ?_
            refine lv_if_eq (tgt := 85) hx hb dX6_readTerm_68 (by decide) (fun c32 => ?_) (fun c32 => ?_)
            · have t32 : w4_3.toInt = (0 : Int) := gl_eq c32
              refine lv_aload_n hx hb dX6_readTerm_85 rfl (lv_at hl 5 rfl) ?_
              refine lv_aload_n hx hb dX6_readTerm_86 rfl (lv_at hl 6 rfl) ?_
              refine qf_get hx hb hts inX6 hown hK hP (q0 := 78) (by decide) (hgU_78 ca o) rfl 3 (by decide) wq_133 (v := .ref (o + 95)) rfl dX6_readTerm_87 ?_
              refine lv_iload_n hx hb dX6_readTerm_90 rfl (lv_at hl 7 rfl) ?_
              refine qa_aald hx hb hK hP (q0 := 95) (by decide) 5 rfl (N := 7) (hgU_95 ca o) rfl (gi_in (by decide) (by decide)) dX6_readTerm_91 ?_
              refine lv_iload hx hb dX6_readTerm_92 (lv_at hl 0 rfl) ?_
              refine qc_Sv2 (As := [.ref (o + (88 + (4 : Int32).toNatClampNeg)), .ref (o + (96 + (4 : Int32).toNatClampNeg)), .int 1]) (rest := []) (k0 := 3) (u_Reader_multiply_v2 l D ca o b z9 y9 J9 1) kc_yX6_multiply ⟨hx, hb, hml, hown, hts⟩ wq_490 rfl rfl ⟨Nat.le_of_ble_eq_true rfl, Nat.le_of_ble_eq_true rfl⟩ wq_all hP hK hS qw_Ai rfl hl.1 rfl (Nat.le_of_ble_eq_true rfl) dX6_readTerm_94 ⟨Nat.zero_le _, Nat.zero_le _⟩ (fun z33 y33 H locs h33 hP hS _ _ => ?_)
              have J33 : qJU b z33 := h33
              refine lv_iload_n hx hb dX6_readTerm_97 rfl (lv_at hl 4 rfl) ?_
              refine lv_if_ne (tgt := 106) hx hb dX6_readTerm_98 (by decide) (fun c34 => ?_) (fun c34 => ?_)
              · have t34 : w4_3.toInt ≠ (0 : Int) := gl_ne c34
                exfalso; omega
              · have t34 : w4_3.toInt = (0 : Int) := gl_eq c34
                refine lv_iload hx hb dX6_readTerm_101 (lv_at hl 0 rfl) ?_
                refine lv_if_eq (tgt := 110) hx hb dX6_readTerm_103 (by decide) (fun q => absurd q (by decide)) (fun _ => ?_)
                refine lv_iconst (v := 1) hx hb dX6_readTerm_106 (by decide) ?_
                refine lv_goto (tgt := 111) hx hb dX6_readTerm_107 (by decide) ?_
                refine lv_istore_n (lv' := [(3, .int 1), (7, .int 1), (6, .int x8), (5, .int w4_5), (4, .int w4_4), (2, .ref (o + (88 + (4 : Int32).toNatClampNeg))), (0, .ref (o + 78)), (1, .int 4)]) hx hb dX6_readTerm_111 rfl hl (by decide) rfl (fun ls hl => ?_)
                refine lv_aload_n hx hb dX6_readTerm_112 rfl (lv_at hl 6 rfl) ?_
                refine qc_Vip (As := []) (rest := []) (k0 := 0) (u_Reader_peek l D ca o b z33 y33 J33) kc_yX6_peek ⟨hx, hb, hml, hown, hts⟩ wq_463 rfl rfl ⟨Nat.le_of_ble_eq_true rfl, Nat.le_of_ble_eq_true rfl⟩ wq_all hP hK hS qw_Ai (q0 := 78) (by decide) (hgU_78 ca o _ _) rfl rfl hl.1 rfl (Nat.le_of_ble_eq_true rfl) dX6_readTerm_113 ⟨Nat.zero_le _, Nat.zero_le _⟩ (fun r35 H locs h35 hP hS _ _ => ?_)
                refine lv_bipush (v := 42) hx hb dX6_readTerm_116 (by decide) ?_
                refine lv_icmp_eq (tgt := 123) hx hb dX6_readTerm_118 (by decide) (fun c36 => ?_) (fun c36 => ?_)
                · have t36 : r35.toInt = (42 : Int) := gl_eq c36
                  refine lv_aload_n hx hb dX6_readTerm_123 rfl (lv_at hl 6 rfl) ?_
                  refine qf_get hx hb hts inX6 hown hK hP (q0 := 78) (by decide) (hgU_78 ca o) rfl 6 (by decide) wq_136 (v := .int (z33 78 6)) rfl dX6_readTerm_124 ?_
                  refine lv_topi (fun x37 e37 => ?_)
                  refine lv_istore (lv' := [(4, .int x37), (3, .int 1), (7, .int 1), (6, .int x8), (5, .int w4_5), (2, .ref (o + (88 + (4 : Int32).toNatClampNeg))), (0, .ref (o + 78)), (1, .int 4)]) hx hb dX6_readTerm_127 hl (by decide) rfl (fun ls hl => ?_)
                  refine lv_aload_n hx hb dX6_readTerm_129 rfl (lv_at hl 6 rfl) ?_
                  refine lv_dup hx hb dX6_readTerm_130 rfl ?_
                  refine qf_get hx hb hts inX6 hown hK hP (q0 := 78) (by decide) (hgU_78 ca o) rfl 6 (by decide) wq_136 (v := .int (z33 78 6)) rfl dX6_readTerm_131 ?_
                  refine lv_topi (fun x38 e38 => ?_)
                  have ag38 : x38.toInt = x37.toInt := congrArg Int32.toInt (e38.trans e37.symm)
                  refine lv_iconst (v := 1) hx hb dX6_readTerm_134 (by decide) ?_
                  refine lv_iadd hx hb dX6_readTerm_135 ?_
                  refine lv_topi (fun x39 e39 => ?_)
                  refine qf_put2 hx hb hts inX6 tyX6 tyX6_ok nmX6 hown hK hP hS qw_Ai (q0 := 78) (by decide) (hgU_78 ca o) rfl 6 (by decide) wq_136 rfl (x := x39) 6 rfl rfl rfl (Nat.le_of_ble_eq_true rfl) dX6_readTerm_136 (fun z40 H locs hz40 hP hS => ?_)
                  have J40 := jU_78_6 J33 hz40
                  obtain ⟨x41, e41⟩ : ∃ t : Int32, t = w4_5 + 1 := ⟨_, rfl⟩
                  refine lv_iinc (v := x41) (lv' := [(5, .int x41), (4, .int x37), (3, .int 1), (7, .int 1), (6, .int x8), (2, .ref (o + (88 + (4 : Int32).toNatClampNeg))), (0, .ref (o + 78)), (1, .int 4)]) hx hb dX6_readTerm_139 hl (k := 4) rfl (by rw [e41]; rfl) (by decide) rfl (fun ls hl => ?_)
                  have t41 : x41.toInt = w4_5.toInt + (1 : Int) := ga_add e41 rfl rfl (by omega) (by omega)
                  refine lv_goto (tgt := 28) hx hb dX6_readTerm_142 (by decide) ?_
                  exact ih4 x41 x37 1 z40 y33 (show (61 - x41.toInt : Int) < (n4 : Int) from by omega) ⟨by omega, by omega⟩ ⟨by decide, by decide⟩ J40 _ _ hP hS _ (lv_sub hl [0, 1, 2, 5, 6, 7] rfl)
                · have t36 : r35.toInt ≠ (42 : Int) := gl_ne c36
                  refine lv_iconst (v := 1) hx hb dX6_readTerm_121 (by decide) ?_
                  exact W.zret (v := 1) (ty := .boolean) hx hb hr rfl (fun t ht hW => ⟨⟨1, (z33, y33), rfl, ⟨⟨by decide, by decide⟩, J33⟩, by rw [ht]; exact hP, va_K.moved hW.alike hK⟩, hS.F ht⟩) hS.2.2 dX6_readTerm_122
            · have t32 : w4_3.toInt ≠ (0 : Int) := gl_ne c32
              refine lv_iload hx hb dX6_readTerm_71 (lv_at hl 0 rfl) ?_
              refine lv_if_eq (tgt := 85) hx hb dX6_readTerm_73 (by decide) (fun q => absurd q (by decide)) (fun _ => ?_)
              refine lv_aload_n hx hb dX6_readTerm_76 rfl (lv_at hl 6 rfl) ?_
              refine lv_bipush (v := 8) hx hb dX6_readTerm_77 (by decide) ?_
              refine lv_iload hx hb dX6_readTerm_79 (lv_at hl 3 rfl) ?_
              refine qc_Vi2 (As := [.int 8, .int w4_4]) (rest := []) (k0 := 2) (u_Reader_fail l D ca o b z9 y9 J9 8 w4_4) kc_yX6_fail ⟨hx, hb, hml, hown, hts⟩ wq_450 rfl rfl ⟨Nat.le_of_ble_eq_true rfl, Nat.le_of_ble_eq_true rfl⟩ wq_all hP hK hS qw_Ai (q0 := 78) (by decide) (hgU_78 ca o _ _) rfl rfl hl.1 rfl (Nat.le_of_ble_eq_true rfl) dX6_readTerm_81 ⟨Nat.zero_le _, Nat.zero_le _⟩ (fun r42 z42 y42 H locs h42 hP hS _ _ => ?_)
              have J42 : qJU b z42 := h42.2
              have b42 : (0 : Int) ≤ r42.toInt ∧ r42.toInt ≤ 0 := h42.1
              obtain rfl : r42 = 0 := lit_eq (k := 0) (K := 0) rfl (by omega) (by omega)
              exact W.zret (v := 0) (ty := .boolean) hx hb hr rfl (fun t ht hW => ⟨⟨0, (z42, y42), rfl, ⟨⟨by decide, by decide⟩, J42⟩, by rw [ht]; exact hP, va_K.moved hW.alike hK⟩, hS.F ht⟩) hS.2.2 dX6_readTerm_84
        · have t10 : r9.toInt = (0 : Int) := gl_eq c10
          refine lv_iconst (v := 0) hx hb dX6_readTerm_49 (by decide) ?_
          exact W.zret (v := 0) (ty := .boolean) hx hb hr rfl (fun t ht hW => ⟨⟨0, (z9, y9), rfl, ⟨⟨by decide, by decide⟩, J9⟩, by rw [ht]; exact hP, va_K.moved hW.alike hK⟩, hS.F ht⟩) hS.2.2 dX6_readTerm_50
  exact loop4 62 0 x3 0 z2 y1 (show (61 - (0 : Int) : Int) < ((62 : Nat) : Int) from by omega) ⟨by decide, by decide⟩ ⟨by decide, by decide⟩ J2 _ _ hP hS _ (lv_sub hl [0, 1, 2, 3, 4, 5] rfl)
set_option maxRecDepth 100000 in
set_option maxHeartbeats 8000000 in
theorem u_Reader_add_v2 (l : Launch) (D : va_G) (ca : Nat → ClassId) (o : Nat) (b z : Nat → Nat → Int32) (y : Nat → Nat → Int64) (J0 : qJU b z) (a2 : Int32)  : qM l yX6_add cX6_add 4 none 1 60 (qPre D vwCl (qT6 ca) o 132 (qG (GU ca o) z y) [.ref (o + 84), .ref (o + 92), .int a2]) (va_Qv (fun u => qJU b u.1) (qB D vwCl (qT6 ca) o 132 (fun u : qZ => qG (GU ca o) u.1 u.2)) (qw_A o 132)) (qw_A o 132) := by
  refine Met.ofW (cc := cX6_add) (maxL := 4) (ret := none) (by decide) rfl ?_
  intro p e s m args below meth c s₁ B hml hv
  obtain ⟨rfl, hP, hK⟩ := hv
  have hx := B.exec
  have hb := B.bytes
  have hr := B.returns
  have hts0 := atoms_spec (ws := Cond.code yX6_add cX6_add 4 none :: qtbl) B.pre
  have hts : ∀ w ∈ qtbl, w.before _ s = true := fun w h => hts0 w (List.mem_cons_of_mem _ h)
  have hown : s.vm.findClass RX6 = some m.cls := findClass_of_methodNamed B.named
  have hlocks := B.notSynchronized
  have hS : va_S (qw_A o 132) s.heap s.heap [] := va_S.rf
  have hl := lv_entry ([.ref (o + 84), .ref (o + 92), .int a2]) (n := 4) (Nat.le_of_ble_eq_true rfl)
  rw [lg_entry_eq]
  generalize (lg_sl ([.ref (o + 84), .ref (o + 92), .int a2]) ++ List.replicate (4 - (lg_sl ([.ref (o + 84), .ref (o + 92), .int a2])).length) Slot.unset).toArray = ls at hl ⊢
  have hl : lv_has ls 4 [(0, .ref (o + 84)), (1, .ref (o + 92)), (2, .int a2)] := hl
  refine lv_iconst (v := 0) hx hb dX6_add_0 (by decide) ?_
  refine lv_istore_n (lv' := [(3, .int 0), (0, .ref (o + 84)), (1, .ref (o + 92)), (2, .int a2)]) hx hb dX6_add_1 rfl hl (by decide) rfl (fun ls hl => ?_)
  have loop1 : ∀ (n : Nat) (w1_3 : Int32) (z1 : Nat → Nat → Int32) (y1 : Nat → Nat → Int64), ((7 - w1_3.toInt : Int) < (n : Int)) → ((0 : Int) ≤ w1_3.toInt ∧ w1_3.toInt ≤ 7) → (qJU b z1) → ∀ (H : Heap) (locs : List Loc), qw_P D vwCl o 132 (qG (GU ca o) z1 y1) H → va_S (qw_A o 132) s.heap H locs → ∀ (ls : Array Slot), lv_has ls 4 [(3, .int w1_3), (0, .ref (o + 84)), (1, .ref (o + 92)), (2, .int a2)] → W p l e (headSpec (Cond.code yX6_add cX6_add 4 none :: qtbl) ({ frames := 1, cells := 0, slots := 0, locals := 60 })).room s m (([.ref (o + 84), .ref (o + 92), .int a2] : List Value).toArray) below meth c H locs 0 0 (MQ below (va_Qv (fun u => qJU b u.1) (qB D vwCl (qT6 ca) o 132 (fun u : qZ => qG (GU ca o) u.1 u.2)) (qw_A o 132)) (([.ref (o + 84), .ref (o + 92), .int a2] : List Value).toArray) s 0 0 (qw_A o 132)) (F0 m 2 ls []) := by
    intro n
    induction n with
    | zero => intro w1_3 z1 y1 hb1 hv1_3 J1; exfalso; omega
    | succ n1 ih1 =>
      intro w1_3 z1 y1 hb1 hv1_3 J1 H locs hP hS ls hl
      refine lv_iload_n hx hb dX6_add_2 rfl (lv_at hl 0 rfl) ?_
      refine lv_bipush (v := 7) hx hb dX6_add_3 (by decide) ?_
      refine lv_icmp_ge (tgt := 25) hx hb dX6_add_5 (by decide) (fun c2 => ?_) (fun c2 => ?_)
      · have t2 : w1_3.toInt ≥ (7 : Int) := gl_le c2
        exact W.vret hx hb hr (fun t ht hW => ⟨⟨(z1, y1), rfl, J1, by rw [ht]; exact hP, va_K.moved hW.alike hK⟩, hS.F ht⟩) hS.2.2 dX6_add_25
      · have t2 : w1_3.toInt < (7 : Int) := gl_nle c2
        refine lv_aload_n hx hb dX6_add_8 rfl (lv_at hl 1 rfl) ?_
        refine lv_iload_n hx hb dX6_add_9 rfl (lv_at hl 0 rfl) ?_
        refine lv_dup2_11 hx hb dX6_add_10 rfl rfl ?_
        refine qa_iald hx hb hK hP (q0 := 84) (by decide) 0 (N := 7) (hgU_84 ca o) rfl (gi_in (by omega) (by omega)) dX6_add_11 ?_
        refine lv_topi (fun x3 e3 => ?_)
        refine lv_iload_n hx hb dX6_add_12 rfl (lv_at hl 3 rfl) ?_
        refine lv_aload_n hx hb dX6_add_13 rfl (lv_at hl 2 rfl) ?_
        refine lv_iload_n hx hb dX6_add_14 rfl (lv_at hl 0 rfl) ?_
        refine qa_iald hx hb hK hP (q0 := 92) (by decide) 0 (N := 7) (hgU_92 ca o) rfl (gi_in (by omega) (by omega)) dX6_add_15 ?_
        refine lv_topi (fun x4 e4 => ?_)
        refine lv_imul hx hb dX6_add_16 ?_
        refine lv_topi (fun x5 e5 => ?_)
        refine lv_iadd hx hb dX6_add_17 ?_
        refine lv_topi (fun x6 e6 => ?_)
        refine qa_iast2 hx hb hK hP hS qw_Ai (q0 := 84) (by decide) 0 (N := 7) (hgU_84 ca o) rfl (i := w1_3) (x := x6) (gi_in (by omega) (by omega)) dX6_add_18 (fun z7 H locs hz7 hP hS => ?_)
        have J7 := jU_84 J1 hz7
        obtain ⟨x8, e8⟩ : ∃ t : Int32, t = w1_3 + 1 := ⟨_, rfl⟩
        refine lv_iinc (v := x8) (lv' := [(3, .int x8), (0, .ref (o + 84)), (1, .ref (o + 92)), (2, .int a2)]) hx hb dX6_add_19 hl (k := 0) rfl (by rw [e8]; rfl) (by decide) rfl (fun ls hl => ?_)
        have t8 : x8.toInt = w1_3.toInt + (1 : Int) := ga_add e8 rfl rfl (by omega) (by omega)
        refine lv_goto (tgt := 2) hx hb dX6_add_22 (by decide) ?_
        exact ih1 x8 z7 y1 (show (7 - x8.toInt : Int) < (n1 : Int) from by omega) ⟨by omega, by omega⟩ J7 _ _ hP hS _ (lv_sub hl [0, 1, 2, 3] rfl)
  exact loop1 8 0 z y (show (7 - (0 : Int) : Int) < ((8 : Nat) : Int) from by omega) ⟨by decide, by decide⟩ J0 _ _ hP hS _ (lv_sub hl [0, 1, 2, 3] rfl)
set_option maxRecDepth 100000 in
set_option maxHeartbeats 8000000 in
theorem u_Reader_readSide_v4 (l : Launch) (D : va_G) (ca : Nat → ClassId) (o : Nat) (b z : Nat → Nat → Int32) (y : Nat → Nat → Int64) (J0 : qJU b z)   : qM l yX6_readSide cX6_readSide 6 (some .boolean) 14 378 (qPre D vwCl (qT6 ca) o 132 (qG (GU ca o) z y) [.ref (o + 78), .int 4]) (va_Qi (fun r u => ((0 : Int) ≤ r.toInt ∧ r.toInt ≤ 1) ∧ qJU b u.1) (qB D vwCl (qT6 ca) o 132 (fun u : qZ => qG (GU ca o) u.1 u.2)) (qw_A o 132)) (qw_A o 132) := by
  refine Met.ofW (cc := cX6_readSide) (maxL := 6) (ret := (some .boolean)) (by decide) rfl ?_
  intro p e s m args below meth c s₁ B hml hv
  obtain ⟨rfl, hP, hK⟩ := hv
  have hx := B.exec
  have hb := B.bytes
  have hr := B.returns
  have hts0 := atoms_spec (ws := Cond.code yX6_readSide cX6_readSide 6 (some .boolean) :: qtbl) B.pre
  have hts : ∀ w ∈ qtbl, w.before _ s = true := fun w h => hts0 w (List.mem_cons_of_mem _ h)
  have hown : s.vm.findClass RX6 = some m.cls := findClass_of_methodNamed B.named
  have hlocks := B.notSynchronized
  have hS : va_S (qw_A o 132) s.heap s.heap [] := va_S.rf
  have hl := lv_entry ([.ref (o + 78), .int 4]) (n := 6) (Nat.le_of_ble_eq_true rfl)
  rw [lg_entry_eq]
  generalize (lg_sl ([.ref (o + 78), .int 4]) ++ List.replicate (6 - (lg_sl ([.ref (o + 78), .int 4])).length) Slot.unset).toArray = ls at hl ⊢
  have hl : lv_has ls 6 [(0, .ref (o + 78)), (1, .int 4)] := hl
  refine lv_iload_n hx hb dX6_readSide_0 rfl (lv_at hl 1 rfl) ?_
  refine lv_bipush (v := 6) hx hb dX6_readSide_1 (by decide) ?_
  refine lv_icmp_le (tgt := 16) hx hb dX6_readSide_3 (by decide) (fun _ => ?_) (fun q => absurd (by decide) q)
  refine lv_aload_n hx hb dX6_readSide_16 rfl (lv_at hl 0 rfl) ?_
  refine qf_get hx hb hts inX6 hown hK hP (q0 := 78) (by decide) (hgU_78 ca o) rfl 1 (by decide) wq_131 (v := .ref (o + 79)) rfl dX6_readSide_17 ?_
  refine lv_iload_n hx hb dX6_readSide_20 rfl (lv_at hl 1 rfl) ?_
  refine qa_aald hx hb hK hP (q0 := 79) (by decide) 5 rfl (N := 7) (hgU_79 ca o) rfl (gi_in (by decide) (by decide)) dX6_readSide_21 ?_
  refine lv_astore_n (lv' := [(2, .ref (o + (80 + (4 : Int32).toNatClampNeg))), (0, .ref (o + 78)), (1, .int 4)]) hx hb dX6_readSide_22 rfl hl (by decide) rfl (fun ls hl => ?_)
  refine lv_aload_n hx hb dX6_readSide_23 rfl (lv_at hl 0 rfl) ?_
  refine lv_iconst (v := 0) hx hb dX6_readSide_24 (by decide) ?_
  refine qc_Sv2 (As := [.ref (o + (80 + (4 : Int32).toNatClampNeg)), .int 0]) (rest := []) (k0 := 2) (u_Arrays_fill_v12 l D ca o b z y J0 0) kc_yJ7_fill_53178 ⟨hx, hb, hml, hown, hts⟩ wq_454 rfl rfl ⟨Nat.le_of_ble_eq_true rfl, Nat.le_of_ble_eq_true rfl⟩ wq_all hP hK hS qw_Ai rfl hl.1 rfl (Nat.le_of_ble_eq_true rfl) dX6_readSide_25 ⟨Nat.zero_le _, Nat.zero_le _⟩ (fun z1 y1 H locs h1 hP hS _ _ => ?_)
  have J1 : qJU b z1 := h1
  refine lv_iconst (v := 1) hx hb dX6_readSide_28 (by decide) ?_
  refine lv_istore_n (lv' := [(3, .int 1), (2, .ref (o + (80 + (4 : Int32).toNatClampNeg))), (0, .ref (o + 78)), (1, .int 4)]) hx hb dX6_readSide_29 rfl hl (by decide) rfl (fun ls hl => ?_)
  refine lv_iconst (v := 0) hx hb dX6_readSide_30 (by decide) ?_
  refine lv_istore (lv' := [(4, .int 0), (3, .int 1), (2, .ref (o + (80 + (4 : Int32).toNatClampNeg))), (0, .ref (o + 78)), (1, .int 4)]) hx hb dX6_readSide_31 hl (by decide) rfl (fun ls hl => ?_)
  have loop2 : ∀ (n : Nat) (w2_4 : Int32) (w2_3 : Int32) (z2 : Nat → Nat → Int32) (y2 : Nat → Nat → Int64), ((61 - w2_4.toInt : Int) < (n : Int)) → ((0 : Int) ≤ w2_4.toInt ∧ w2_4.toInt ≤ 61) → ((-1 : Int) ≤ w2_3.toInt ∧ w2_3.toInt ≤ 1) → (qJU b z2) → ∀ (H : Heap) (locs : List Loc), qw_P D vwCl o 132 (qG (GU ca o) z2 y2) H → va_S (qw_A o 132) s.heap H locs → ∀ (ls : Array Slot), lv_has ls 6 [(4, .int w2_4), (3, .int w2_3), (2, .ref (o + (80 + (4 : Int32).toNatClampNeg))), (0, .ref (o + 78)), (1, .int 4)] → W p l e (headSpec (Cond.code yX6_readSide cX6_readSide 6 (some .boolean) :: qtbl) ({ frames := 14, cells := 0, slots := 0, locals := 378 })).room s m (([.ref (o + 78), .int 4] : List Value).toArray) below meth c H locs 0 0 (MQ below (va_Qi (fun r u => ((0 : Int) ≤ r.toInt ∧ r.toInt ≤ 1) ∧ qJU b u.1) (qB D vwCl (qT6 ca) o 132 (fun u : qZ => qG (GU ca o) u.1 u.2)) (qw_A o 132)) (([.ref (o + 78), .int 4] : List Value).toArray) s 0 0 (qw_A o 132)) (F0 m 33 ls []) := by
    intro n
    induction n with
    | zero => intro w2_4 w2_3 z2 y2 hb2 hv2_4 hv2_3 J2; exfalso; omega
    | succ n2 ih2 =>
      intro w2_4 w2_3 z2 y2 hb2 hv2_4 hv2_3 J2 H locs hP hS ls hl
      refine lv_iload hx hb dX6_readSide_33 (lv_at hl 0 rfl) ?_
      refine lv_bipush (v := 60) hx hb dX6_readSide_35 (by decide) ?_
      refine lv_icmp_gt (tgt := 112) hx hb dX6_readSide_37 (by decide) (fun c3 => ?_) (fun c3 => ?_)
      · have t3 : w2_4.toInt > (60 : Int) := gl_lt c3
        refine lv_aload_n hx hb dX6_readSide_112 rfl (lv_at hl 3 rfl) ?_
        refine lv_iconst (v := 1) hx hb dX6_readSide_113 (by decide) ?_
        refine lv_aload_n hx hb dX6_readSide_114 rfl (lv_at hl 3 rfl) ?_
        refine qf_get hx hb hts inX6 hown hK hP (q0 := 78) (by decide) (hgU_78 ca o) rfl 6 (by decide) wq_136 (v := .int (z2 78 6)) rfl dX6_readSide_115 ?_
        refine lv_topi (fun x4 e4 => ?_)
        refine qc_Vi2 (As := [.int 1, .int x4]) (rest := []) (k0 := 2) (u_Reader_fail l D ca o b z2 y2 J2 1 x4) kc_yX6_fail ⟨hx, hb, hml, hown, hts⟩ wq_450 rfl rfl ⟨Nat.le_of_ble_eq_true rfl, Nat.le_of_ble_eq_true rfl⟩ wq_all hP hK hS qw_Ai (q0 := 78) (by decide) (hgU_78 ca o _ _) rfl rfl hl.1 rfl (Nat.le_of_ble_eq_true rfl) dX6_readSide_118 ⟨Nat.zero_le _, Nat.zero_le _⟩ (fun r5 z5 y5 H locs h5 hP hS _ _ => ?_)
        have J5 : qJU b z5 := h5.2
        have b5 : (0 : Int) ≤ r5.toInt ∧ r5.toInt ≤ 0 := h5.1
        obtain rfl : r5 = 0 := lit_eq (k := 0) (K := 0) rfl (by omega) (by omega)
        exact W.zret (v := 0) (ty := .boolean) hx hb hr rfl (fun t ht hW => ⟨⟨0, (z5, y5), rfl, ⟨⟨by decide, by decide⟩, J5⟩, by rw [ht]; exact hP, va_K.moved hW.alike hK⟩, hS.F ht⟩) hS.2.2 dX6_readSide_121
      · have t3 : w2_4.toInt ≤ (60 : Int) := gl_nlt c3
        refine lv_aload_n hx hb dX6_readSide_40 rfl (lv_at hl 3 rfl) ?_
        refine lv_iload_n hx hb dX6_readSide_41 rfl (lv_at hl 4 rfl) ?_
        refine qc_Vi2 (As := [.int 4]) (rest := []) (k0 := 1) (u_Reader_readTerm_v4 l D ca o b z2 y2 J2) kc_yX6_readTerm ⟨hx, hb, hml, hown, hts⟩ wq_455 rfl rfl ⟨Nat.le_of_ble_eq_true rfl, Nat.le_of_ble_eq_true rfl⟩ wq_all hP hK hS qw_Ai (q0 := 78) (by decide) (hgU_78 ca o _ _) rfl rfl hl.1 rfl (Nat.le_of_ble_eq_true rfl) dX6_readSide_42 ⟨Nat.zero_le _, Nat.zero_le _⟩ (fun r6 z6 y6 H locs h6 hP hS _ _ => ?_)
        have J6 : qJU b z6 := h6.2
        have b6 : (0 : Int) ≤ r6.toInt ∧ r6.toInt ≤ 1 := h6.1
        refine lv_if_ne (tgt := 50) hx hb dX6_readSide_45 (by decide) (fun c7 => ?_) (fun c7 => ?_)
        · have t7 : r6.toInt ≠ (0 : Int) := gl_ne c7
          refine lv_aload_n hx hb dX6_readSide_50 rfl (lv_at hl 2 rfl) ?_
          refine lv_aload_n hx hb dX6_readSide_51 rfl (lv_at hl 3 rfl) ?_
          refine qf_get hx hb hts inX6 hown hK hP (q0 := 78) (by decide) (hgU_78 ca o) rfl 2 (by decide) wq_132 (v := .ref (o + 87)) rfl dX6_readSide_52 ?_
          refine lv_iload_n hx hb dX6_readSide_55 rfl (lv_at hl 4 rfl) ?_
          refine qa_aald hx hb hK hP (q0 := 87) (by decide) 5 rfl (N := 7) (hgU_87 ca o) rfl (gi_in (by decide) (by decide)) dX6_readSide_56 ?_
          refine lv_iload_n hx hb dX6_readSide_57 rfl (lv_at hl 1 rfl) ?_
          refine qc_Sv2 (As := [.ref (o + (80 + (4 : Int32).toNatClampNeg)), .ref (o + (88 + (4 : Int32).toNatClampNeg)), .int w2_3]) (rest := []) (k0 := 3) (u_Reader_add_v2 l D ca o b z6 y6 J6 w2_3) kc_yX6_add ⟨hx, hb, hml, hown, hts⟩ wq_493 rfl rfl ⟨Nat.le_of_ble_eq_true rfl, Nat.le_of_ble_eq_true rfl⟩ wq_all hP hK hS qw_Ai rfl hl.1 rfl (Nat.le_of_ble_eq_true rfl) dX6_readSide_58 ⟨Nat.zero_le _, Nat.zero_le _⟩ (fun z8 y8 H locs h8 hP hS _ _ => ?_)
          have J8 : qJU b z8 := h8
          refine lv_aload_n hx hb dX6_readSide_61 rfl (lv_at hl 3 rfl) ?_
          refine qc_Vip (As := []) (rest := []) (k0 := 0) (u_Reader_peek l D ca o b z8 y8 J8) kc_yX6_peek ⟨hx, hb, hml, hown, hts⟩ wq_463 rfl rfl ⟨Nat.le_of_ble_eq_true rfl, Nat.le_of_ble_eq_true rfl⟩ wq_all hP hK hS qw_Ai (q0 := 78) (by decide) (hgU_78 ca o _ _) rfl rfl hl.1 rfl (Nat.le_of_ble_eq_true rfl) dX6_readSide_62 ⟨Nat.zero_le _, Nat.zero_le _⟩ (fun r9 H locs h9 hP hS _ _ => ?_)
          refine lv_istore (lv' := [(5, .int r9), (4, .int w2_4), (3, .int w2_3), (2, .ref (o + (80 + (4 : Int32).toNatClampNeg))), (0, .ref (o + 78)), (1, .int 4)]) hx hb dX6_readSide_65 hl (by decide) rfl (fun ls hl => ?_)
          refine lv_iload hx hb dX6_readSide_67 (lv_at hl 0 rfl) ?_
          refine lv_bipush (v := 43) hx hb dX6_readSide_69 (by decide) ?_
          refine lv_icmp_eq (tgt := 83) hx hb dX6_readSide_71 (by decide) (fun c10 => ?_) (fun c10 => ?_)
          · have t10 : r9.toInt = (43 : Int) := gl_eq c10
            refine lv_iload hx hb dX6_readSide_83 (lv_at hl 0 rfl) ?_
            refine lv_bipush (v := 43) hx hb dX6_readSide_85 (by decide) ?_
            refine lv_icmp_ne (tgt := 94) hx hb dX6_readSide_87 (by decide) (fun c11 => ?_) (fun c11 => ?_)
            · have t11 : r9.toInt ≠ (43 : Int) := gl_ne c11
              exfalso; omega
            · have t11 : r9.toInt = (43 : Int) := gl_eq c11
              refine lv_iconst (v := 1) hx hb dX6_readSide_90 (by decide) ?_
              refine lv_goto (tgt := 95) hx hb dX6_readSide_91 (by decide) ?_
              refine lv_istore_n (lv' := [(3, .int 1), (5, .int r9), (4, .int w2_4), (2, .ref (o + (80 + (4 : Int32).toNatClampNeg))), (0, .ref (o + 78)), (1, .int 4)]) hx hb dX6_readSide_95 rfl hl (by decide) rfl (fun ls hl => ?_)
              refine lv_aload_n hx hb dX6_readSide_96 rfl (lv_at hl 4 rfl) ?_
              refine lv_dup hx hb dX6_readSide_97 rfl ?_
              refine qf_get hx hb hts inX6 hown hK hP (q0 := 78) (by decide) (hgU_78 ca o) rfl 6 (by decide) wq_136 (v := .int (z8 78 6)) rfl dX6_readSide_98 ?_
              refine lv_topi (fun x12 e12 => ?_)
              refine lv_iconst (v := 1) hx hb dX6_readSide_101 (by decide) ?_
              refine lv_iadd hx hb dX6_readSide_102 ?_
              refine lv_topi (fun x13 e13 => ?_)
              refine qf_put2 hx hb hts inX6 tyX6 tyX6_ok nmX6 hown hK hP hS qw_Ai (q0 := 78) (by decide) (hgU_78 ca o) rfl 6 (by decide) wq_136 rfl (x := x13) 6 rfl rfl rfl (Nat.le_of_ble_eq_true rfl) dX6_readSide_103 (fun z14 H locs hz14 hP hS => ?_)
              have J14 := jU_78_6 J8 hz14
              obtain ⟨x15, e15⟩ : ∃ t : Int32, t = w2_4 + 1 := ⟨_, rfl⟩
              refine lv_iinc (v := x15) (lv' := [(4, .int x15), (3, .int 1), (5, .int r9), (2, .ref (o + (80 + (4 : Int32).toNatClampNeg))), (0, .ref (o + 78)), (1, .int 4)]) hx hb dX6_readSide_106 hl (k := 2) rfl (by rw [e15]; rfl) (by decide) rfl (fun ls hl => ?_)
              have t15 : x15.toInt = w2_4.toInt + (1 : Int) := ga_add e15 rfl rfl (by omega) (by omega)
              refine lv_goto (tgt := 33) hx hb dX6_readSide_109 (by decide) ?_
              exact ih2 x15 1 z14 y8 (show (61 - x15.toInt : Int) < (n2 : Int) from by omega) ⟨by omega, by omega⟩ ⟨by decide, by decide⟩ J14 _ _ hP hS _ (lv_sub hl [0, 1, 3, 4, 5] rfl)
          · have t10 : r9.toInt ≠ (43 : Int) := gl_ne c10
            refine lv_iload hx hb dX6_readSide_74 (lv_at hl 0 rfl) ?_
            refine lv_bipush (v := 45) hx hb dX6_readSide_76 (by decide) ?_
            refine lv_icmp_eq (tgt := 83) hx hb dX6_readSide_78 (by decide) (fun c16 => ?_) (fun c16 => ?_)
            · have t16 : r9.toInt = (45 : Int) := gl_eq c16
              refine lv_iload hx hb dX6_readSide_83 (lv_at hl 0 rfl) ?_
              refine lv_bipush (v := 43) hx hb dX6_readSide_85 (by decide) ?_
              refine lv_icmp_ne (tgt := 94) hx hb dX6_readSide_87 (by decide) (fun c17 => ?_) (fun c17 => ?_)
              · have t17 : r9.toInt ≠ (43 : Int) := gl_ne c17
                refine lv_iconst (v := (-1)) hx hb dX6_readSide_94 (by decide) ?_
                refine lv_istore_n (lv' := [(3, .int ((-1))), (5, .int r9), (4, .int w2_4), (2, .ref (o + (80 + (4 : Int32).toNatClampNeg))), (0, .ref (o + 78)), (1, .int 4)]) hx hb dX6_readSide_95 rfl hl (by decide) rfl (fun ls hl => ?_)
                refine lv_aload_n hx hb dX6_readSide_96 rfl (lv_at hl 4 rfl) ?_
                refine lv_dup hx hb dX6_readSide_97 rfl ?_
                refine qf_get hx hb hts inX6 hown hK hP (q0 := 78) (by decide) (hgU_78 ca o) rfl 6 (by decide) wq_136 (v := .int (z8 78 6)) rfl dX6_readSide_98 ?_
                refine lv_topi (fun x18 e18 => ?_)
                refine lv_iconst (v := 1) hx hb dX6_readSide_101 (by decide) ?_
                refine lv_iadd hx hb dX6_readSide_102 ?_
                refine lv_topi (fun x19 e19 => ?_)
                refine qf_put2 hx hb hts inX6 tyX6 tyX6_ok nmX6 hown hK hP hS qw_Ai (q0 := 78) (by decide) (hgU_78 ca o) rfl 6 (by decide) wq_136 rfl (x := x19) 6 rfl rfl rfl (Nat.le_of_ble_eq_true rfl) dX6_readSide_103 (fun z20 H locs hz20 hP hS => ?_)
                have J20 := jU_78_6 J8 hz20
                obtain ⟨x21, e21⟩ : ∃ t : Int32, t = w2_4 + 1 := ⟨_, rfl⟩
                refine lv_iinc (v := x21) (lv' := [(4, .int x21), (3, .int ((-1))), (5, .int r9), (2, .ref (o + (80 + (4 : Int32).toNatClampNeg))), (0, .ref (o + 78)), (1, .int 4)]) hx hb dX6_readSide_106 hl (k := 2) rfl (by rw [e21]; rfl) (by decide) rfl (fun ls hl => ?_)
                have t21 : x21.toInt = w2_4.toInt + (1 : Int) := ga_add e21 rfl rfl (by omega) (by omega)
                refine lv_goto (tgt := 33) hx hb dX6_readSide_109 (by decide) ?_
                exact ih2 x21 (-1) z20 y8 (show (61 - x21.toInt : Int) < (n2 : Int) from by omega) ⟨by omega, by omega⟩ ⟨by decide, by decide⟩ J20 _ _ hP hS _ (lv_sub hl [0, 1, 3, 4, 5] rfl)
              · have t17 : r9.toInt = (43 : Int) := gl_eq c17
                exfalso; omega
            · have t16 : r9.toInt ≠ (45 : Int) := gl_ne c16
              refine lv_iconst (v := 1) hx hb dX6_readSide_81 (by decide) ?_
              exact W.zret (v := 1) (ty := .boolean) hx hb hr rfl (fun t ht hW => ⟨⟨1, (z8, y8), rfl, ⟨⟨by decide, by decide⟩, J8⟩, by rw [ht]; exact hP, va_K.moved hW.alike hK⟩, hS.F ht⟩) hS.2.2 dX6_readSide_82
        · have t7 : r6.toInt = (0 : Int) := gl_eq c7
          refine lv_iconst (v := 0) hx hb dX6_readSide_48 (by decide) ?_
          exact W.zret (v := 0) (ty := .boolean) hx hb hr rfl (fun t ht hW => ⟨⟨0, (z6, y6), rfl, ⟨⟨by decide, by decide⟩, J6⟩, by rw [ht]; exact hP, va_K.moved hW.alike hK⟩, hS.F ht⟩) hS.2.2 dX6_readSide_49
  exact loop2 62 0 1 z1 y1 (show (61 - (0 : Int) : Int) < ((62 : Nat) : Int) from by omega) ⟨by decide, by decide⟩ ⟨by decide, by decide⟩ J1 _ _ hP hS _ (lv_sub hl [0, 1, 2, 3, 4] rfl)
set_option maxRecDepth 100000 in
set_option maxHeartbeats 8000000 in
theorem u_Reader_readPerson_v3 (l : Launch) (D : va_G) (ca : Nat → ClassId) (o : Nat) (b z : Nat → Nat → Int32) (y : Nat → Nat → Int64) (J0 : qJU b z)   : qM l yX6_readPerson cX6_readPerson 5 (some .boolean) 15 403 (qPre D vwCl (qT6 ca) o 132 (qG (GU ca o) z y) [.ref (o + 78), .int 3]) (va_Qi (fun r u => ((0 : Int) ≤ r.toInt ∧ r.toInt ≤ 1) ∧ qJU b u.1) (qB D vwCl (qT6 ca) o 132 (fun u : qZ => qG (GU ca o) u.1 u.2)) (qw_A o 132)) (qw_A o 132) := by
  refine Met.ofW (cc := cX6_readPerson) (maxL := 5) (ret := (some .boolean)) (by decide) rfl ?_
  intro p e s m args below meth c s₁ B hml hv
  obtain ⟨rfl, hP, hK⟩ := hv
  have hx := B.exec
  have hb := B.bytes
  have hr := B.returns
  have hts0 := atoms_spec (ws := Cond.code yX6_readPerson cX6_readPerson 5 (some .boolean) :: qtbl) B.pre
  have hts : ∀ w ∈ qtbl, w.before _ s = true := fun w h => hts0 w (List.mem_cons_of_mem _ h)
  have hown : s.vm.findClass RX6 = some m.cls := findClass_of_methodNamed B.named
  have hlocks := B.notSynchronized
  have hS : va_S (qw_A o 132) s.heap s.heap [] := va_S.rf
  have hl := lv_entry ([.ref (o + 78), .int 3]) (n := 5) (Nat.le_of_ble_eq_true rfl)
  rw [lg_entry_eq]
  generalize (lg_sl ([.ref (o + 78), .int 3]) ++ List.replicate (5 - (lg_sl ([.ref (o + 78), .int 3])).length) Slot.unset).toArray = ls at hl ⊢
  have hl : lv_has ls 5 [(0, .ref (o + 78)), (1, .int 3)] := hl
  refine lv_aload_n hx hb dX6_readPerson_0 rfl (lv_at hl 0 rfl) ?_
  refine qf_get hx hb hts inX6 hown hK hP (q0 := 78) (by decide) (hgU_78 ca o) rfl 3 (by decide) wq_133 (v := .ref (o + 95)) rfl dX6_readPerson_1 ?_
  refine lv_iload_n hx hb dX6_readPerson_4 rfl (lv_at hl 1 rfl) ?_
  refine qa_aald hx hb hK hP (q0 := 95) (by decide) 5 rfl (N := 7) (hgU_95 ca o) rfl (gi_in (by decide) (by decide)) dX6_readPerson_5 ?_
  refine lv_astore_n (lv' := [(2, .ref (o + (96 + (3 : Int32).toNatClampNeg))), (0, .ref (o + 78)), (1, .int 3)]) hx hb dX6_readPerson_6 rfl hl (by decide) rfl (fun ls hl => ?_)
  refine lv_aload_n hx hb dX6_readPerson_7 rfl (lv_at hl 1 rfl) ?_
  refine qc_Vi2 (As := []) (rest := []) (k0 := 0) (u_Reader_readLetter l D ca o b z y J0) kc_yX6_readLetter ⟨hx, hb, hml, hown, hts⟩ wq_471 rfl rfl ⟨Nat.le_of_ble_eq_true rfl, Nat.le_of_ble_eq_true rfl⟩ wq_all hP hK hS qw_Ai (q0 := 78) (by decide) (hgU_78 ca o _ _) rfl rfl hl.1 rfl (Nat.le_of_ble_eq_true rfl) dX6_readPerson_8 ⟨Nat.zero_le _, Nat.zero_le _⟩ (fun r1 z1 y1 H locs h1 hP hS _ _ => ?_)
  have J1 : qJU b z1 := h1.2
  have b1 : (-1 : Int) ≤ r1.toInt ∧ r1.toInt ≤ 5 := h1.1
  refine lv_istore_n (lv' := [(3, .int r1), (2, .ref (o + (96 + (3 : Int32).toNatClampNeg))), (0, .ref (o + 78)), (1, .int 3)]) hx hb dX6_readPerson_11 rfl hl (by decide) rfl (fun ls hl => ?_)
  refine lv_iload_n hx hb dX6_readPerson_12 rfl (lv_at hl 0 rfl) ?_
  refine lv_if_ge (tgt := 18) hx hb dX6_readPerson_13 (by decide) (fun c2 => ?_) (fun c2 => ?_)
  · have t2 : r1.toInt ≥ (0 : Int) := gl_le c2
    refine lv_aload_n hx hb dX6_readPerson_18 rfl (lv_at hl 2 rfl) ?_
    refine qc_Vip (As := []) (rest := []) (k0 := 0) (u_Reader_peek l D ca o b z1 y1 J1) kc_yX6_peek ⟨hx, hb, hml, hown, hts⟩ wq_463 rfl rfl ⟨Nat.le_of_ble_eq_true rfl, Nat.le_of_ble_eq_true rfl⟩ wq_all hP hK hS qw_Ai (q0 := 78) (by decide) (hgU_78 ca o _ _) rfl rfl hl.1 rfl (Nat.le_of_ble_eq_true rfl) dX6_readPerson_19 ⟨Nat.zero_le _, Nat.zero_le _⟩ (fun r3 H locs h3 hP hS _ _ => ?_)
    refine lv_bipush (v := 64) hx hb dX6_readPerson_22 (by decide) ?_
    refine lv_icmp_eq (tgt := 38) hx hb dX6_readPerson_24 (by decide) (fun c4 => ?_) (fun c4 => ?_)
    · have t4 : r3.toInt = (64 : Int) := gl_eq c4
      refine lv_aload_n hx hb dX6_readPerson_38 rfl (lv_at hl 2 rfl) ?_
      refine lv_dup hx hb dX6_readPerson_39 rfl ?_
      refine qf_get hx hb hts inX6 hown hK hP (q0 := 78) (by decide) (hgU_78 ca o) rfl 6 (by decide) wq_136 (v := .int (z1 78 6)) rfl dX6_readPerson_40 ?_
      refine lv_topi (fun x5 e5 => ?_)
      refine lv_iconst (v := 1) hx hb dX6_readPerson_43 (by decide) ?_
      refine lv_iadd hx hb dX6_readPerson_44 ?_
      refine lv_topi (fun x6 e6 => ?_)
      refine qf_put2 hx hb hts inX6 tyX6 tyX6_ok nmX6 hown hK hP hS qw_Ai (q0 := 78) (by decide) (hgU_78 ca o) rfl 6 (by decide) wq_136 rfl (x := x6) 6 rfl rfl rfl (Nat.le_of_ble_eq_true rfl) dX6_readPerson_45 (fun z7 H locs hz7 hP hS => ?_)
      have J7 := jU_78_6 J1 hz7
      refine lv_aload_n hx hb dX6_readPerson_48 rfl (lv_at hl 2 rfl) ?_
      refine lv_iload_n hx hb dX6_readPerson_49 rfl (lv_at hl 3 rfl) ?_
      refine qc_Vi2 (As := [.int 3]) (rest := []) (k0 := 1) (u_Reader_open_v3 l D ca o b z7 y1 J7) kc_yX6_open ⟨hx, hb, hml, hown, hts⟩ wq_475 rfl rfl ⟨Nat.le_of_ble_eq_true rfl, Nat.le_of_ble_eq_true rfl⟩ wq_all hP hK hS qw_Ai (q0 := 78) (by decide) (hgU_78 ca o _ _) rfl rfl hl.1 rfl (Nat.le_of_ble_eq_true rfl) dX6_readPerson_50 ⟨Nat.zero_le _, Nat.zero_le _⟩ (fun r8 z8 y8 H locs h8 hP hS _ _ => ?_)
      have J8 : qJU b z8 := h8.2
      have b8 : (0 : Int) ≤ r8.toInt ∧ r8.toInt ≤ 1 := h8.1
      refine lv_if_ne (tgt := 58) hx hb dX6_readPerson_53 (by decide) (fun c9 => ?_) (fun c9 => ?_)
      · have t9 : r8.toInt ≠ (0 : Int) := gl_ne c9
        refine lv_aload_n hx hb dX6_readPerson_58 rfl (lv_at hl 2 rfl) ?_
        refine qc_Vi2 (As := []) (rest := []) (k0 := 0) (u_Reader_readLetter l D ca o b z8 y8 J8) kc_yX6_readLetter ⟨hx, hb, hml, hown, hts⟩ wq_471 rfl rfl ⟨Nat.le_of_ble_eq_true rfl, Nat.le_of_ble_eq_true rfl⟩ wq_all hP hK hS qw_Ai (q0 := 78) (by decide) (hgU_78 ca o _ _) rfl rfl hl.1 rfl (Nat.le_of_ble_eq_true rfl) dX6_readPerson_59 ⟨Nat.zero_le _, Nat.zero_le _⟩ (fun r10 z10 y10 H locs h10 hP hS _ _ => ?_)
        have J10 : qJU b z10 := h10.2
        have b10 : (-1 : Int) ≤ r10.toInt ∧ r10.toInt ≤ 5 := h10.1
        refine lv_istore (lv' := [(4, .int r10), (3, .int r1), (2, .ref (o + (96 + (3 : Int32).toNatClampNeg))), (0, .ref (o + 78)), (1, .int 3)]) hx hb dX6_readPerson_62 hl (by decide) rfl (fun ls hl => ?_)
        refine lv_iload hx hb dX6_readPerson_64 (lv_at hl 0 rfl) ?_
        refine lv_if_lt (tgt := 97) hx hb dX6_readPerson_66 (by decide) (fun c11 => ?_) (fun c11 => ?_)
        · have t11 : r10.toInt < (0 : Int) := gl_lt c11
          refine lv_iconst (v := 0) hx hb dX6_readPerson_97 (by decide) ?_
          exact W.zret (v := 0) (ty := .boolean) hx hb hr rfl (fun t ht hW => ⟨⟨0, (z10, y10), rfl, ⟨⟨by decide, by decide⟩, J10⟩, by rw [ht]; exact hP, va_K.moved hW.alike hK⟩, hS.F ht⟩) hS.2.2 dX6_readPerson_98
        · have t11 : r10.toInt ≥ (0 : Int) := gl_nlt c11
          refine lv_aload_n hx hb dX6_readPerson_69 rfl (lv_at hl 3 rfl) ?_
          refine lv_bipush (v := 58) hx hb dX6_readPerson_70 (by decide) ?_
          refine qc_Vi2 (As := [.int 58]) (rest := []) (k0 := 1) (u_Reader_pass l D ca o b z10 y10 J10 58) kc_yX6_pass ⟨hx, hb, hml, hown, hts⟩ wq_479 rfl rfl ⟨Nat.le_of_ble_eq_true rfl, Nat.le_of_ble_eq_true rfl⟩ wq_all hP hK hS qw_Ai (q0 := 78) (by decide) (hgU_78 ca o _ _) rfl rfl hl.1 rfl (Nat.le_of_ble_eq_true rfl) dX6_readPerson_72 ⟨Nat.zero_le _, Nat.zero_le _⟩ (fun r12 z12 y12 H locs h12 hP hS _ _ => ?_)
          have J12 : qJU b z12 := h12.2
          have b12 : (0 : Int) ≤ r12.toInt ∧ r12.toInt ≤ 1 := h12.1
          refine lv_if_eq (tgt := 97) hx hb dX6_readPerson_75 (by decide) (fun c13 => ?_) (fun c13 => ?_)
          · have t13 : r12.toInt = (0 : Int) := gl_eq c13
            refine lv_iconst (v := 0) hx hb dX6_readPerson_97 (by decide) ?_
            exact W.zret (v := 0) (ty := .boolean) hx hb hr rfl (fun t ht hW => ⟨⟨0, (z12, y12), rfl, ⟨⟨by decide, by decide⟩, J12⟩, by rw [ht]; exact hP, va_K.moved hW.alike hK⟩, hS.F ht⟩) hS.2.2 dX6_readPerson_98
          · have t13 : r12.toInt ≠ (0 : Int) := gl_ne c13
            refine lv_aload_n hx hb dX6_readPerson_78 rfl (lv_at hl 3 rfl) ?_
            refine lv_iload_n hx hb dX6_readPerson_79 rfl (lv_at hl 4 rfl) ?_
            refine lv_iconst (v := 1) hx hb dX6_readPerson_80 (by decide) ?_
            refine lv_iadd hx hb dX6_readPerson_81 ?_
            refine qtop (x' := 4) (by decide) ?_
            refine qc_Vi2 (As := [.int 4]) (rest := []) (k0 := 1) (u_Reader_readSide_v4 l D ca o b z12 y12 J12) kc_yX6_readSide ⟨hx, hb, hml, hown, hts⟩ wq_446 rfl rfl ⟨Nat.le_of_ble_eq_true rfl, Nat.le_of_ble_eq_true rfl⟩ wq_all hP hK hS qw_Ai (q0 := 78) (by decide) (hgU_78 ca o _ _) rfl rfl hl.1 rfl (Nat.le_of_ble_eq_true rfl) dX6_readPerson_82 ⟨Nat.zero_le _, Nat.zero_le _⟩ (fun r14 z14 y14 H locs h14 hP hS _ _ => ?_)
            have J14 : qJU b z14 := h14.2
            have b14 : (0 : Int) ≤ r14.toInt ∧ r14.toInt ≤ 1 := h14.1
            refine lv_if_eq (tgt := 97) hx hb dX6_readPerson_85 (by decide) (fun c15 => ?_) (fun c15 => ?_)
            · have t15 : r14.toInt = (0 : Int) := gl_eq c15
              refine lv_iconst (v := 0) hx hb dX6_readPerson_97 (by decide) ?_
              exact W.zret (v := 0) (ty := .boolean) hx hb hr rfl (fun t ht hW => ⟨⟨0, (z14, y14), rfl, ⟨⟨by decide, by decide⟩, J14⟩, by rw [ht]; exact hP, va_K.moved hW.alike hK⟩, hS.F ht⟩) hS.2.2 dX6_readPerson_98
            · have t15 : r14.toInt ≠ (0 : Int) := gl_ne c15
              refine lv_aload_n hx hb dX6_readPerson_88 rfl (lv_at hl 3 rfl) ?_
              refine lv_bipush (v := 41) hx hb dX6_readPerson_89 (by decide) ?_
              refine qc_Vi2 (As := [.int 41]) (rest := []) (k0 := 1) (u_Reader_pass l D ca o b z14 y14 J14 41) kc_yX6_pass ⟨hx, hb, hml, hown, hts⟩ wq_479 rfl rfl ⟨Nat.le_of_ble_eq_true rfl, Nat.le_of_ble_eq_true rfl⟩ wq_all hP hK hS qw_Ai (q0 := 78) (by decide) (hgU_78 ca o _ _) rfl rfl hl.1 rfl (Nat.le_of_ble_eq_true rfl) dX6_readPerson_91 ⟨Nat.zero_le _, Nat.zero_le _⟩ (fun r16 z16 y16 H locs h16 hP hS _ _ => ?_)
              have J16 : qJU b z16 := h16.2
              have b16 : (0 : Int) ≤ r16.toInt ∧ r16.toInt ≤ 1 := h16.1
              refine lv_if_ne (tgt := 99) hx hb dX6_readPerson_94 (by decide) (fun c17 => ?_) (fun c17 => ?_)
              · have t17 : r16.toInt ≠ (0 : Int) := gl_ne c17
                refine lv_aload_n hx hb dX6_readPerson_99 rfl (lv_at hl 3 rfl) ?_
                refine qf_get hx hb hts inX6 hown hK hP (q0 := 78) (by decide) (hgU_78 ca o) rfl 1 (by decide) wq_131 (v := .ref (o + 79)) rfl dX6_readPerson_100 ?_
                refine lv_iload_n hx hb dX6_readPerson_103 rfl (lv_at hl 4 rfl) ?_
                refine lv_iconst (v := 1) hx hb dX6_readPerson_104 (by decide) ?_
                refine lv_iadd hx hb dX6_readPerson_105 ?_
                refine qtop (x' := 4) (by decide) ?_
                refine qa_aald hx hb hK hP (q0 := 79) (by decide) 5 rfl (N := 7) (hgU_79 ca o) rfl (gi_in (by decide) (by decide)) dX6_readPerson_106 ?_
                refine lv_iconst (v := 0) hx hb dX6_readPerson_107 (by decide) ?_
                refine lv_aload_n hx hb dX6_readPerson_108 rfl (lv_at hl 2 rfl) ?_
                refine lv_iconst (v := 0) hx hb dX6_readPerson_109 (by decide) ?_
                refine lv_bipush (v := 7) hx hb dX6_readPerson_110 (by decide) ?_
                refine qa_copy2 hx hb (hml.trans hl.1.symm) hown (hts _ wq_483) (hts _ wq_485) (hts _ wq_484) (hts _ wq_15) hK hP hS qw_Ai (q0 := 84) (q1 := 99) (by decide) (by decide) 0 (hgU_84 ca o) (hgU_99 ca o) rfl (sp := 0) (dp := 0) (k := 7) (by decide) (by decide) (by decide) (by decide) (by decide) (Nat.le_of_ble_eq_true rfl) (Nat.le_of_ble_eq_true rfl) dX6_readPerson_112 (fun z18 H locs hz18 hP hS => ?_)
                have J18 := jfU_99 J16 hz18
                refine lv_aload_n hx hb dX6_readPerson_115 rfl (lv_at hl 2 rfl) ?_
                refine lv_iload_n hx hb dX6_readPerson_116 rfl (lv_at hl 1 rfl) ?_
                refine lv_dup2_11 hx hb dX6_readPerson_117 rfl rfl ?_
                refine qa_iald hx hb hK hP (q0 := 99) (by decide) 0 (N := 7) (hgU_99 ca o) rfl (gi_in (by omega) (by omega)) dX6_readPerson_118 ?_
                refine lv_topi (fun x19 e19 => ?_)
                refine lv_iconst (v := 1) hx hb dX6_readPerson_119 (by decide) ?_
                refine lv_iadd hx hb dX6_readPerson_120 ?_
                refine lv_topi (fun x20 e20 => ?_)
                refine qa_iast2 hx hb hK hP hS qw_Ai (q0 := 99) (by decide) 0 (N := 7) (hgU_99 ca o) rfl (i := r1) (x := x20) (gi_in (by omega) (by omega)) dX6_readPerson_121 (fun z21 H locs hz21 hP hS => ?_)
                have J21 := jU_99 J18 hz21
                refine lv_aload_n hx hb dX6_readPerson_122 rfl (lv_at hl 2 rfl) ?_
                refine lv_iload hx hb dX6_readPerson_123 (lv_at hl 0 rfl) ?_
                refine lv_dup2_11 hx hb dX6_readPerson_125 rfl rfl ?_
                refine qa_iald hx hb hK hP (q0 := 99) (by decide) 0 (N := 7) (hgU_99 ca o) rfl (gi_in (by omega) (by omega)) dX6_readPerson_126 ?_
                refine lv_topi (fun x22 e22 => ?_)
                refine lv_iconst (v := 1) hx hb dX6_readPerson_127 (by decide) ?_
                refine lv_isub hx hb dX6_readPerson_128 ?_
                refine lv_topi (fun x23 e23 => ?_)
                refine qa_iast2 hx hb hK hP hS qw_Ai (q0 := 99) (by decide) 0 (N := 7) (hgU_99 ca o) rfl (i := r10) (x := x23) (gi_in (by omega) (by omega)) dX6_readPerson_129 (fun z24 H locs hz24 hP hS => ?_)
                have J24 := jU_99 J21 hz24
                refine lv_iconst (v := 1) hx hb dX6_readPerson_130 (by decide) ?_
                exact W.zret (v := 1) (ty := .boolean) hx hb hr rfl (fun t ht hW => ⟨⟨1, (z24, y16), rfl, ⟨⟨by decide, by decide⟩, J24⟩, by rw [ht]; exact hP, va_K.moved hW.alike hK⟩, hS.F ht⟩) hS.2.2 dX6_readPerson_131
              · have t17 : r16.toInt = (0 : Int) := gl_eq c17
                refine lv_iconst (v := 0) hx hb dX6_readPerson_97 (by decide) ?_
                exact W.zret (v := 0) (ty := .boolean) hx hb hr rfl (fun t ht hW => ⟨⟨0, (z16, y16), rfl, ⟨⟨by decide, by decide⟩, J16⟩, by rw [ht]; exact hP, va_K.moved hW.alike hK⟩, hS.F ht⟩) hS.2.2 dX6_readPerson_98
      · have t9 : r8.toInt = (0 : Int) := gl_eq c9
        refine lv_iconst (v := 0) hx hb dX6_readPerson_56 (by decide) ?_
        exact W.zret (v := 0) (ty := .boolean) hx hb hr rfl (fun t ht hW => ⟨⟨0, (z8, y8), rfl, ⟨⟨by decide, by decide⟩, J8⟩, by rw [ht]; exact hP, va_K.moved hW.alike hK⟩, hS.F ht⟩) hS.2.2 dX6_readPerson_57
    · have t4 : r3.toInt ≠ (64 : Int) := gl_ne c4
      refine lv_aload_n hx hb dX6_readPerson_27 rfl (lv_at hl 1 rfl) ?_
      refine lv_iconst (v := 0) hx hb dX6_readPerson_28 (by decide) ?_
      refine qc_Sv2 (As := [.ref (o + (96 + (3 : Int32).toNatClampNeg)), .int 0]) (rest := []) (k0 := 2) (u_Arrays_fill_v11 l D ca o b z1 y1 J1 0) kc_yJ7_fill_53178 ⟨hx, hb, hml, hown, hts⟩ wq_454 rfl rfl ⟨Nat.le_of_ble_eq_true rfl, Nat.le_of_ble_eq_true rfl⟩ wq_all hP hK hS qw_Ai rfl hl.1 rfl (Nat.le_of_ble_eq_true rfl) dX6_readPerson_29 ⟨Nat.zero_le _, Nat.zero_le _⟩ (fun z25 y25 H locs h25 hP hS _ _ => ?_)
      have J25 : qJU b z25 := h25
      refine lv_aload_n hx hb dX6_readPerson_32 rfl (lv_at hl 1 rfl) ?_
      refine lv_iload_n hx hb dX6_readPerson_33 rfl (lv_at hl 0 rfl) ?_
      refine lv_iconst (v := 1) hx hb dX6_readPerson_34 (by decide) ?_
      refine qa_iast2 hx hb hK hP hS qw_Ai (q0 := 99) (by decide) 0 (N := 7) (hgU_99 ca o) rfl (i := r1) (x := 1) (gi_in (by omega) (by omega)) dX6_readPerson_35 (fun z26 H locs hz26 hP hS => ?_)
      have J26 := jU_99 J25 hz26
      refine lv_iconst (v := 1) hx hb dX6_readPerson_36 (by decide) ?_
      exact W.zret (v := 1) (ty := .boolean) hx hb hr rfl (fun t ht hW => ⟨⟨1, (z26, y25), rfl, ⟨⟨by decide, by decide⟩, J26⟩, by rw [ht]; exact hP, va_K.moved hW.alike hK⟩, hS.F ht⟩) hS.2.2 dX6_readPerson_37
  · have t2 : r1.toInt < (0 : Int) := gl_nle c2
    refine lv_iconst (v := 0) hx hb dX6_readPerson_16 (by decide) ?_
    exact W.zret (v := 0) (ty := .boolean) hx hb hr rfl (fun t ht hW => ⟨⟨0, (z1, y1), rfl, ⟨⟨by decide, by decide⟩, J1⟩, by rw [ht]; exact hP, va_K.moved hW.alike hK⟩, hS.F ht⟩) hS.2.2 dX6_readPerson_17
