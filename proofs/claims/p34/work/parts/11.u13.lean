set_option maxRecDepth 100000 in
set_option maxHeartbeats 8000000 in
theorem u_Arrays_fill_v24 (l : Launch) (D : va_G) (ca : Nat → ClassId) (o : Nat) (b z : Nat → Nat → Int32) (y : Nat → Nat → Int64) (J0 : qJU b z)   : qM l yJ7_fill_d0a16 cJ7_fill_d0a16 5 none 1 60 (qPre D vwCl (qT6 ca) o 132 (qG (GU ca o) z y) [.ref (o + 131), .long 0]) (va_Qv (fun u => qJU b u.1) (qB D vwCl (qT6 ca) o 132 (fun u : qZ => qG (GU ca o) u.1 u.2)) (qw_A o 132)) (qw_A o 132) := by
  refine Met.ofW (cc := cJ7_fill_d0a16) (maxL := 5) (ret := none) (by decide) rfl ?_
  intro p e s m args below meth c s₁ B hml hv
  obtain ⟨rfl, hP, hK⟩ := hv
  have hx := B.exec
  have hb := B.bytes
  have hr := B.returns
  have hts0 := atoms_spec (ws := Cond.code yJ7_fill_d0a16 cJ7_fill_d0a16 5 none :: qtbl) B.pre
  have hts : ∀ w ∈ qtbl, w.before _ s = true := fun w h => hts0 w (List.mem_cons_of_mem _ h)
  have hown : s.vm.findClass RJ7 = some m.cls := findClass_of_methodNamed B.named
  have hlocks := B.notSynchronized
  have hS : va_S (qw_A o 132) s.heap s.heap [] := va_S.rf
  have hl := lv_entry ([.ref (o + 131), .long 0]) (n := 5) (Nat.le_of_ble_eq_true rfl)
  rw [lg_entry_eq]
  generalize (lg_sl ([.ref (o + 131), .long 0]) ++ List.replicate (5 - (lg_sl ([.ref (o + 131), .long 0])).length) Slot.unset).toArray = ls at hl ⊢
  have hl : lv_has ls 5 [(0, .ref (o + 131)), (1, .long 0)] := hl
  refine lv_iconst (v := 0) hx hb dJ7_fill_d0a16_0 (by decide) ?_
  refine lv_istore_n (lv' := [(3, .int 0), (0, .ref (o + 131)), (1, .long 0)]) hx hb dJ7_fill_d0a16_1 rfl hl (by decide) rfl (fun ls hl => ?_)
  refine lv_aload_n hx hb dJ7_fill_d0a16_2 rfl (lv_at hl 1 rfl) ?_
  refine qa_len hx hb hK hP (q0 := 131) (by decide) 1 (hgU_131 ca o) rfl (v := 2807) rfl dJ7_fill_d0a16_3 ?_
  refine lv_istore (lv' := [(4, .int 2807), (3, .int 0), (0, .ref (o + 131)), (1, .long 0)]) hx hb dJ7_fill_d0a16_4 hl (by decide) rfl (fun ls hl => ?_)
  have loop1 : ∀ (n : Nat) (w1_3 : Int32) (z1 : Nat → Nat → Int32) (y1 : Nat → Nat → Int64), ((2147483647 - w1_3.toInt : Int) < (n : Int)) → ((0 : Int) ≤ w1_3.toInt ∧ w1_3.toInt ≤ 2147483647) → (qJU b z1) → ∀ (H : Heap) (locs : List Loc), qw_P D vwCl o 132 (qG (GU ca o) z1 y1) H → va_S (qw_A o 132) s.heap H locs → ∀ (ls : Array Slot), lv_has ls 5 [(4, .int 2807), (3, .int w1_3), (0, .ref (o + 131)), (1, .long 0)] → W p l e (headSpec (Cond.code yJ7_fill_d0a16 cJ7_fill_d0a16 5 none :: qtbl) ({ frames := 1, cells := 0, slots := 0, locals := 60 })).room s m (([.ref (o + 131), .long 0] : List Value).toArray) below meth c H locs 0 0 (MQ below (va_Qv (fun u => qJU b u.1) (qB D vwCl (qT6 ca) o 132 (fun u : qZ => qG (GU ca o) u.1 u.2)) (qw_A o 132)) (([.ref (o + 131), .long 0] : List Value).toArray) s 0 0 (qw_A o 132)) (F0 m 6 ls []) := by
    intro n
    induction n with
    | zero => intro w1_3 z1 y1 hb1 hv1_3 J1; exfalso; omega
    | succ n1 ih1 =>
      intro w1_3 z1 y1 hb1 hv1_3 J1 H locs hP hS ls hl
      refine lv_iload_n hx hb dJ7_fill_d0a16_6 rfl (lv_at hl 1 rfl) ?_
      refine lv_iload hx hb dJ7_fill_d0a16_7 (lv_at hl 0 rfl) ?_
      refine lv_icmp_ge (tgt := 22) hx hb dJ7_fill_d0a16_9 (by decide) (fun c2 => ?_) (fun c2 => ?_)
      · have t2 : w1_3.toInt ≥ (2807 : Int) := gl_le c2
        exact W.vret hx hb hr (fun t ht hW => ⟨⟨(z1, y1), rfl, J1, by rw [ht]; exact hP, va_K.moved hW.alike hK⟩, hS.F ht⟩) hS.2.2 dJ7_fill_d0a16_22
      · have t2 : w1_3.toInt < (2807 : Int) := gl_nle c2
        refine lv_aload_n hx hb dJ7_fill_d0a16_12 rfl (lv_at hl 2 rfl) ?_
        refine lv_iload_n hx hb dJ7_fill_d0a16_13 rfl (lv_at hl 1 rfl) ?_
        refine lv_lload_n hx hb dJ7_fill_d0a16_14 rfl (lv_at hl 3 rfl) ?_
        refine qa_last2 hx hb hK hP hS qw_Ai (q0 := 131) (by decide) 1 (N := 2807) (hgU_131 ca o) rfl (i := w1_3) (x := 0) (gi_in (by omega) (by omega)) dJ7_fill_d0a16_15 (fun y3 H locs hy3 hP hS => ?_)
        obtain ⟨x4, e4⟩ : ∃ t : Int32, t = w1_3 + 1 := ⟨_, rfl⟩
        refine lv_iinc (v := x4) (lv' := [(3, .int x4), (4, .int 2807), (0, .ref (o + 131)), (1, .long 0)]) hx hb dJ7_fill_d0a16_16 hl (k := 1) rfl (by rw [e4]; rfl) (by decide) rfl (fun ls hl => ?_)
        have t4 : x4.toInt = w1_3.toInt + (1 : Int) := ga_add e4 rfl rfl (by omega) (by omega)
        refine lv_goto (tgt := 6) hx hb dJ7_fill_d0a16_19 (by decide) ?_
        exact ih1 x4 z1 y3 (show (2147483647 - x4.toInt : Int) < (n1 : Int) from by omega) ⟨by omega, (gl_b x4).2⟩ J1 _ _ hP hS _ (lv_sub hl [1, 0, 2, 3] rfl)
  exact loop1 4294967296 0 z y (show (2147483647 - (0 : Int) : Int) < ((4294967296 : Nat) : Int) from by omega) ⟨by decide, by decide⟩ J0 _ _ hP hS _ (lv_sub hl [0, 1, 2, 3] rfl)
set_option maxRecDepth 100000 in
set_option maxHeartbeats 8000000 in
theorem u_howOld (l : Launch) (D : va_G) (ca : Nat → ClassId) (o : Nat) (b z : Nat → Nat → Int32) (y : Nat → Nat → Int64) (J0 : qJU b z) (a0 : Int32) (a1 : Int32) (a2 : Int32) (a3 : Int32)  : qM l yX10_howOld cX10_howOld 9 (some .long) 2 84 (qPre D vwCl (qT6 ca) o 132 (qG (GU ca o) z y) [.ref (o + 0), .int a0, .int a1, .int a2, .int a3]) (va_Ql (fun r u => qJU b u.1) (qB D vwCl (qT6 ca) o 132 (fun u : qZ => qG (GU ca o) u.1 u.2)) (qw_A o 132)) (qw_A o 132) := by
  refine Met.ofW (cc := cX10_howOld) (maxL := 9) (ret := (some .long)) (by decide) rfl ?_
  intro p e s m args below meth c s₁ B hml hv
  obtain ⟨rfl, hP, hK⟩ := hv
  have hx := B.exec
  have hb := B.bytes
  have hr := B.returns
  have hts0 := atoms_spec (ws := Cond.code yX10_howOld cX10_howOld 9 (some .long) :: qtbl) B.pre
  have hts : ∀ w ∈ qtbl, w.before _ s = true := fun w h => hts0 w (List.mem_cons_of_mem _ h)
  have hown : s.vm.findClass RX10 = some m.cls := findClass_of_methodNamed B.named
  have hlocks := B.notSynchronized
  have hS : va_S (qw_A o 132) s.heap s.heap [] := va_S.rf
  have hl := lv_entry ([.ref (o + 0), .int a0, .int a1, .int a2, .int a3]) (n := 9) (Nat.le_of_ble_eq_true rfl)
  rw [lg_entry_eq]
  generalize (lg_sl ([.ref (o + 0), .int a0, .int a1, .int a2, .int a3]) ++ List.replicate (9 - (lg_sl ([.ref (o + 0), .int a0, .int a1, .int a2, .int a3])).length) Slot.unset).toArray = ls at hl ⊢
  have hl : lv_has ls 9 [(0, .ref (o + 0)), (1, .int a0), (2, .int a1), (3, .int a2), (4, .int a3)] := hl
  refine lv_iload_n hx hb dX10_howOld_0 rfl (lv_at hl 1 rfl) ?_
  refine lv_iconst (v := 1) hx hb dX10_howOld_1 (by decide) ?_
  refine lv_icmp_lt (tgt := 39) hx hb dX10_howOld_2 (by decide) (fun c1 => ?_) (fun c1 => ?_)
  · have t1 : a0.toInt < (1 : Int) := gl_lt c1
    refine lv_ldc2 (v := (-1)) hx hb hown (hts _ wq_974) dX10_howOld_39 ?_
    exact W.lret (v := (-1)) hx hb hr (fun t ht hW => ⟨⟨(-1), (z, y), rfl, J0, by rw [ht]; exact hP, va_K.moved hW.alike hK⟩, hS.F ht⟩) hS.2.2 dX10_howOld_42
  · have t1 : a0.toInt ≥ (1 : Int) := gl_nlt c1
    refine lv_iload_n hx hb dX10_howOld_5 rfl (lv_at hl 1 rfl) ?_
    refine lv_bipush (v := 6) hx hb dX10_howOld_6 (by decide) ?_
    refine lv_icmp_gt (tgt := 39) hx hb dX10_howOld_8 (by decide) (fun c2 => ?_) (fun c2 => ?_)
    · have t2 : a0.toInt > (6 : Int) := gl_lt c2
      refine lv_ldc2 (v := (-1)) hx hb hown (hts _ wq_974) dX10_howOld_39 ?_
      exact W.lret (v := (-1)) hx hb hr (fun t ht hW => ⟨⟨(-1), (z, y), rfl, J0, by rw [ht]; exact hP, va_K.moved hW.alike hK⟩, hS.F ht⟩) hS.2.2 dX10_howOld_42
    · have t2 : a0.toInt ≤ (6 : Int) := gl_nlt c2
      refine lv_iload_n hx hb dX10_howOld_11 rfl (lv_at hl 2 rfl) ?_
      refine lv_if_lt (tgt := 39) hx hb dX10_howOld_12 (by decide) (fun c3 => ?_) (fun c3 => ?_)
      · have t3 : a1.toInt < (0 : Int) := gl_lt c3
        refine lv_ldc2 (v := (-1)) hx hb hown (hts _ wq_974) dX10_howOld_39 ?_
        exact W.lret (v := (-1)) hx hb hr (fun t ht hW => ⟨⟨(-1), (z, y), rfl, J0, by rw [ht]; exact hP, va_K.moved hW.alike hK⟩, hS.F ht⟩) hS.2.2 dX10_howOld_42
      · have t3 : a1.toInt ≥ (0 : Int) := gl_nlt c3
        refine lv_iload_n hx hb dX10_howOld_15 rfl (lv_at hl 2 rfl) ?_
        refine lv_sipush (v := 400) hx hb dX10_howOld_16 (by decide) ?_
        refine lv_icmp_gt (tgt := 39) hx hb dX10_howOld_19 (by decide) (fun c4 => ?_) (fun c4 => ?_)
        · have t4 : a1.toInt > (400 : Int) := gl_lt c4
          refine lv_ldc2 (v := (-1)) hx hb hown (hts _ wq_974) dX10_howOld_39 ?_
          exact W.lret (v := (-1)) hx hb hr (fun t ht hW => ⟨⟨(-1), (z, y), rfl, J0, by rw [ht]; exact hP, va_K.moved hW.alike hK⟩, hS.F ht⟩) hS.2.2 dX10_howOld_42
        · have t4 : a1.toInt ≤ (400 : Int) := gl_nlt c4
          refine lv_iload_n hx hb dX10_howOld_22 rfl (lv_at hl 3 rfl) ?_
          refine lv_if_lt (tgt := 39) hx hb dX10_howOld_23 (by decide) (fun c5 => ?_) (fun c5 => ?_)
          · have t5 : a2.toInt < (0 : Int) := gl_lt c5
            refine lv_ldc2 (v := (-1)) hx hb hown (hts _ wq_974) dX10_howOld_39 ?_
            exact W.lret (v := (-1)) hx hb hr (fun t ht hW => ⟨⟨(-1), (z, y), rfl, J0, by rw [ht]; exact hP, va_K.moved hW.alike hK⟩, hS.F ht⟩) hS.2.2 dX10_howOld_42
          · have t5 : a2.toInt ≥ (0 : Int) := gl_nlt c5
            refine lv_iload hx hb dX10_howOld_26 (lv_at hl 4 rfl) ?_
            refine lv_bipush (v := 99) hx hb dX10_howOld_28 (by decide) ?_
            refine lv_icmp_gt (tgt := 39) hx hb dX10_howOld_30 (by decide) (fun c6 => ?_) (fun c6 => ?_)
            · have t6 : a3.toInt > (99 : Int) := gl_lt c6
              refine lv_ldc2 (v := (-1)) hx hb hown (hts _ wq_974) dX10_howOld_39 ?_
              exact W.lret (v := (-1)) hx hb hr (fun t ht hW => ⟨⟨(-1), (z, y), rfl, J0, by rw [ht]; exact hP, va_K.moved hW.alike hK⟩, hS.F ht⟩) hS.2.2 dX10_howOld_42
            · have t6 : a3.toInt ≤ (99 : Int) := gl_nlt c6
              refine lv_iload_n hx hb dX10_howOld_33 rfl (lv_at hl 3 rfl) ?_
              refine lv_iload hx hb dX10_howOld_34 (lv_at hl 4 rfl) ?_
              refine lv_icmp_le (tgt := 43) hx hb dX10_howOld_36 (by decide) (fun c7 => ?_) (fun c7 => ?_)
              · have t7 : a2.toInt ≤ a3.toInt := gl_le c7
                refine lv_sipush (v := 401) hx hb dX10_howOld_43 (by decide) ?_
                refine lv_istore (lv' := [(5, .int 401), (0, .ref (o + 0)), (1, .int a0), (2, .int a1), (3, .int a2), (4, .int a3)]) hx hb dX10_howOld_46 hl (by decide) rfl (fun ls hl => ?_)
                refine lv_aload_n hx hb dX10_howOld_48 rfl (lv_at hl 1 rfl) ?_
                refine qf_get hx hb hts inX10 hown hK hP (q0 := 0) (by decide) (hgU_0 ca o) rfl 14 (by decide) wq_367 (v := .ref (o + 131)) rfl dX10_howOld_49 ?_
                refine lv_lconst (v := 0) hx hb dX10_howOld_52 (by decide) ?_
                refine qc_Sv2 (As := [.ref (o + 131), .long 0]) (rest := []) (k0 := 2) (u_Arrays_fill_v24 l D ca o b z y J0) kc_yJ7_fill_d0a16 ⟨hx, hb, hml, hown, hts⟩ wq_975 rfl rfl ⟨Nat.le_of_ble_eq_true rfl, Nat.le_of_ble_eq_true rfl⟩ wq_all hP hK hS qw_Ai rfl hl.1 rfl (Nat.le_of_ble_eq_true rfl) dX10_howOld_53 ⟨Nat.zero_le _, Nat.zero_le _⟩ (fun z8 y8 H locs h8 hP hS _ _ => ?_)
                have J8 : qJU b z8 := h8
                refine lv_aload_n hx hb dX10_howOld_56 rfl (lv_at hl 1 rfl) ?_
                refine qf_get hx hb hts inX10 hown hK hP (q0 := 0) (by decide) (hgU_0 ca o) rfl 14 (by decide) wq_367 (v := .ref (o + 131)) rfl dX10_howOld_57 ?_
                refine lv_iconst (v := 0) hx hb dX10_howOld_60 (by decide) ?_
                refine lv_lconst (v := 1) hx hb dX10_howOld_61 (by decide) ?_
                refine qa_last2 hx hb hK hP hS qw_Ai (q0 := 131) (by decide) 1 (N := 2807) (hgU_131 ca o) rfl (i := 0) (x := 1) (gi_in (by decide) (by decide)) dX10_howOld_62 (fun y9 H locs hy9 hP hS => ?_)
                refine lv_iload_n hx hb dX10_howOld_63 rfl (lv_at hl 4 rfl) ?_
                refine lv_istore (lv' := [(6, .int a2), (5, .int 401), (0, .ref (o + 0)), (1, .int a0), (2, .int a1), (3, .int a2), (4, .int a3)]) hx hb dX10_howOld_64 hl (by decide) rfl (fun ls hl => ?_)
                have loop10 : ∀ (n : Nat) (w10_6 : Int32) (z10 : Nat → Nat → Int32) (y10 : Nat → Nat → Int64), ((100 - w10_6.toInt : Int) < (n : Int)) → ((0 : Int) ≤ w10_6.toInt ∧ w10_6.toInt ≤ 100) → (qJU b z10) → ∀ (H : Heap) (locs : List Loc), qw_P D vwCl o 132 (qG (GU ca o) z10 y10) H → va_S (qw_A o 132) s.heap H locs → ∀ (ls : Array Slot), lv_has ls 9 [(6, .int w10_6), (5, .int 401), (0, .ref (o + 0)), (1, .int a0), (2, .int a1), (3, .int a2), (4, .int a3)] → W p l e (headSpec (Cond.code yX10_howOld cX10_howOld 9 (some .long) :: qtbl) ({ frames := 2, cells := 0, slots := 0, locals := 84 })).room s m (([.ref (o + 0), .int a0, .int a1, .int a2, .int a3] : List Value).toArray) below meth c H locs 0 0 (MQ below (va_Ql (fun r u => qJU b u.1) (qB D vwCl (qT6 ca) o 132 (fun u : qZ => qG (GU ca o) u.1 u.2)) (qw_A o 132)) (([.ref (o + 0), .int a0, .int a1, .int a2, .int a3] : List Value).toArray) s 0 0 (qw_A o 132)) (F0 m 66 ls []) := by
                  intro n
                  induction n with
                  | zero => intro w10_6 z10 y10 hb10 hv10_6 J10; exfalso; omega
                  | succ n10 ih10 =>
                    intro w10_6 z10 y10 hb10 hv10_6 J10 H locs hP hS ls hl
                    refine lv_iload hx hb dX10_howOld_66 (lv_at hl 0 rfl) ?_
                    refine lv_iload hx hb dX10_howOld_68 (lv_at hl 6 rfl) ?_
                    refine lv_icmp_gt (tgt := 144) hx hb dX10_howOld_70 (by decide) (fun c11 => ?_) (fun c11 => ?_)
                    · have t11 : w10_6.toInt > a3.toInt := gl_lt c11
                      refine lv_aload_n hx hb dX10_howOld_144 rfl (lv_at hl 2 rfl) ?_
                      refine qf_get hx hb hts inX10 hown hK hP (q0 := 0) (by decide) (hgU_0 ca o) rfl 14 (by decide) wq_367 (v := .ref (o + 131)) rfl dX10_howOld_145 ?_
                      refine lv_iload_n hx hb dX10_howOld_148 rfl (lv_at hl 3 rfl) ?_
                      refine lv_iload hx hb dX10_howOld_149 (lv_at hl 1 rfl) ?_
                      refine lv_imul hx hb dX10_howOld_151 ?_
                      refine lv_topi (fun x12 e12 => ?_)
                      have t12 : x12.toInt = a0.toInt * (401 : Int) := ga_mul e12 rfl rfl (by omega) (by omega)
                      refine lv_iload_n hx hb dX10_howOld_152 rfl (lv_at hl 4 rfl) ?_
                      refine lv_iadd hx hb dX10_howOld_153 ?_
                      refine lv_topi (fun x13 e13 => ?_)
                      have t13 : x13.toInt = x12.toInt + a1.toInt := ga_add e13 rfl rfl (by omega) (by omega)
                      refine qa_lald hx hb hK hP (q0 := 131) (by decide) 1 (N := 2807) (hgU_131 ca o) rfl (gi_in (by omega) (by omega)) dX10_howOld_154 ?_
                      refine lv_topl (fun j14 e14 => ?_)
                      exact W.lret (v := j14) hx hb hr (fun t ht hW => ⟨⟨j14, (z10, y10), rfl, J10, by rw [ht]; exact hP, va_K.moved hW.alike hK⟩, hS.F ht⟩) hS.2.2 dX10_howOld_155
                    · have t11 : w10_6.toInt ≤ a3.toInt := gl_nlt c11
                      refine lv_iconst (v := 1) hx hb dX10_howOld_73 (by decide) ?_
                      refine lv_istore (lv' := [(7, .int 1), (6, .int w10_6), (5, .int 401), (0, .ref (o + 0)), (1, .int a0), (2, .int a1), (3, .int a2), (4, .int a3)]) hx hb dX10_howOld_74 hl (by decide) rfl (fun ls hl => ?_)
                      have loop15 : ∀ (n : Nat) (w15_7 : Int32) (z15 : Nat → Nat → Int32) (y15 : Nat → Nat → Int64), ((7 - w15_7.toInt : Int) < (n : Int)) → ((1 : Int) ≤ w15_7.toInt ∧ w15_7.toInt ≤ 7) → (qJU b z15) → ∀ (H : Heap) (locs : List Loc), qw_P D vwCl o 132 (qG (GU ca o) z15 y15) H → va_S (qw_A o 132) s.heap H locs → ∀ (ls : Array Slot), lv_has ls 9 [(7, .int w15_7), (6, .int w10_6), (5, .int 401), (0, .ref (o + 0)), (1, .int a0), (2, .int a1), (3, .int a2), (4, .int a3)] → W p l e (headSpec (Cond.code yX10_howOld cX10_howOld 9 (some .long) :: qtbl) ({ frames := 2, cells := 0, slots := 0, locals := 84 })).room s m (([.ref (o + 0), .int a0, .int a1, .int a2, .int a3] : List Value).toArray) below meth c H locs 0 0 (MQ below (va_Ql (fun r u => qJU b u.1) (qB D vwCl (qT6 ca) o 132 (fun u : qZ => qG (GU ca o) u.1 u.2)) (qw_A o 132)) (([.ref (o + 0), .int a0, .int a1, .int a2, .int a3] : List Value).toArray) s 0 0 (qw_A o 132)) (F0 m 76 ls []) := by
                        intro n
                        induction n with
                        | zero => intro w15_7 z15 y15 hb15 hv15_7 J15; exfalso; omega
                        | succ n15 ih15 =>
                          intro w15_7 z15 y15 hb15 hv15_7 J15 H locs hP hS ls hl
                          refine lv_iload hx hb dX10_howOld_76 (lv_at hl 0 rfl) ?_
                          refine lv_iload_n hx hb dX10_howOld_78 rfl (lv_at hl 4 rfl) ?_
                          refine lv_icmp_gt (tgt := 138) hx hb dX10_howOld_79 (by decide) (fun c16 => ?_) (fun c16 => ?_)
                          · have t16 : w15_7.toInt > a0.toInt := gl_lt c16
                            obtain ⟨x17, e17⟩ : ∃ t : Int32, t = w10_6 + 1 := ⟨_, rfl⟩
                            refine lv_iinc (v := x17) (lv' := [(6, .int x17), (7, .int w15_7), (5, .int 401), (0, .ref (o + 0)), (1, .int a0), (2, .int a1), (3, .int a2), (4, .int a3)]) hx hb dX10_howOld_138 hl (k := 1) rfl (by rw [e17]; rfl) (by decide) rfl (fun ls hl => ?_)
                            have t17 : x17.toInt = w10_6.toInt + (1 : Int) := ga_add e17 rfl rfl (by omega) (by omega)
                            refine lv_goto (tgt := 66) hx hb dX10_howOld_141 (by decide) ?_
                            exact ih10 x17 z15 y15 (show (100 - x17.toInt : Int) < (n10 : Int) from by omega) ⟨by omega, by omega⟩ J15 _ _ hP hS _ (lv_sub hl [0, 2, 3, 4, 5, 6, 7] rfl)
                          · have t16 : w15_7.toInt ≤ a0.toInt := gl_nlt c16
                            refine lv_iload hx hb dX10_howOld_82 (lv_at hl 1 rfl) ?_
                            refine lv_istore (lv' := [(8, .int w10_6), (7, .int w15_7), (6, .int w10_6), (5, .int 401), (0, .ref (o + 0)), (1, .int a0), (2, .int a1), (3, .int a2), (4, .int a3)]) hx hb dX10_howOld_84 hl (by decide) rfl (fun ls hl => ?_)
                            have loop18 : ∀ (n : Nat) (w18_8 : Int32) (z18 : Nat → Nat → Int32) (y18 : Nat → Nat → Int64), ((401 - w18_8.toInt : Int) < (n : Int)) → ((0 : Int) ≤ w18_8.toInt ∧ w18_8.toInt ≤ 401) → (qJU b z18) → (w10_6.toInt ≤ w18_8.toInt) → ∀ (H : Heap) (locs : List Loc), qw_P D vwCl o 132 (qG (GU ca o) z18 y18) H → va_S (qw_A o 132) s.heap H locs → ∀ (ls : Array Slot), lv_has ls 9 [(8, .int w18_8), (7, .int w15_7), (6, .int w10_6), (5, .int 401), (0, .ref (o + 0)), (1, .int a0), (2, .int a1), (3, .int a2), (4, .int a3)] → W p l e (headSpec (Cond.code yX10_howOld cX10_howOld 9 (some .long) :: qtbl) ({ frames := 2, cells := 0, slots := 0, locals := 84 })).room s m (([.ref (o + 0), .int a0, .int a1, .int a2, .int a3] : List Value).toArray) below meth c H locs 0 0 (MQ below (va_Ql (fun r u => qJU b u.1) (qB D vwCl (qT6 ca) o 132 (fun u : qZ => qG (GU ca o) u.1 u.2)) (qw_A o 132)) (([.ref (o + 0), .int a0, .int a1, .int a2, .int a3] : List Value).toArray) s 0 0 (qw_A o 132)) (F0 m 86 ls []) := by
                              intro n
                              induction n with
                              | zero => intro w18_8 z18 y18 hb18 hv18_8 J18 v18_0; exfalso; omega
                              | succ n18 ih18 =>
                                intro w18_8 z18 y18 hb18 hv18_8 J18 v18_0 H locs hP hS ls hl
                                refine lv_iload hx hb dX10_howOld_86 (lv_at hl 0 rfl) ?_
                                refine lv_iload_n hx hb dX10_howOld_88 rfl (lv_at hl 6 rfl) ?_
                                refine lv_icmp_gt (tgt := 132) hx hb dX10_howOld_89 (by decide) (fun c19 => ?_) (fun c19 => ?_)
                                · have t19 : w18_8.toInt > a1.toInt := gl_lt c19
                                  obtain ⟨x20, e20⟩ : ∃ t : Int32, t = w15_7 + 1 := ⟨_, rfl⟩
                                  refine lv_iinc (v := x20) (lv' := [(7, .int x20), (8, .int w18_8), (6, .int w10_6), (5, .int 401), (0, .ref (o + 0)), (1, .int a0), (2, .int a1), (3, .int a2), (4, .int a3)]) hx hb dX10_howOld_132 hl (k := 1) rfl (by rw [e20]; rfl) (by decide) rfl (fun ls hl => ?_)
                                  have t20 : x20.toInt = w15_7.toInt + (1 : Int) := ga_add e20 rfl rfl (by omega) (by omega)
                                  refine lv_goto (tgt := 76) hx hb dX10_howOld_135 (by decide) ?_
                                  exact ih15 x20 z18 y18 (show (7 - x20.toInt : Int) < (n15 : Int) from by omega) ⟨by omega, by omega⟩ J18 _ _ hP hS _ (lv_sub hl [0, 2, 3, 4, 5, 6, 7, 8] rfl)
                                · have t19 : w18_8.toInt ≤ a1.toInt := gl_nlt c19
                                  refine lv_aload_n hx hb dX10_howOld_92 rfl (lv_at hl 4 rfl) ?_
                                  refine qf_get hx hb hts inX10 hown hK hP (q0 := 0) (by decide) (hgU_0 ca o) rfl 14 (by decide) wq_367 (v := .ref (o + 131)) rfl dX10_howOld_93 ?_
                                  refine lv_iload hx hb dX10_howOld_96 (lv_at hl 1 rfl) ?_
                                  refine lv_iload hx hb dX10_howOld_98 (lv_at hl 3 rfl) ?_
                                  refine lv_imul hx hb dX10_howOld_100 ?_
                                  refine lv_topi (fun x21 e21 => ?_)
                                  have t21 : x21.toInt = w15_7.toInt * (401 : Int) := ga_mul e21 rfl rfl (by omega) (by omega)
                                  refine lv_iload hx hb dX10_howOld_101 (lv_at hl 0 rfl) ?_
                                  refine lv_iadd hx hb dX10_howOld_103 ?_
                                  refine lv_topi (fun x22 e22 => ?_)
                                  have t22 : x22.toInt = x21.toInt + w18_8.toInt := ga_add e22 rfl rfl (by omega) (by omega)
                                  refine lv_dup2_11 hx hb dX10_howOld_104 rfl rfl ?_
                                  refine qa_lald hx hb hK hP (q0 := 131) (by decide) 1 (N := 2807) (hgU_131 ca o) rfl (gi_in (by omega) (by omega)) dX10_howOld_105 ?_
                                  refine lv_topl (fun j23 e23 => ?_)
                                  refine lv_aload_n hx hb dX10_howOld_106 rfl (lv_at hl 4 rfl) ?_
                                  refine qf_get hx hb hts inX10 hown hK hP (q0 := 0) (by decide) (hgU_0 ca o) rfl 14 (by decide) wq_367 (v := .ref (o + 131)) rfl dX10_howOld_107 ?_
                                  refine lv_iload hx hb dX10_howOld_110 (lv_at hl 1 rfl) ?_
                                  refine lv_iconst (v := 1) hx hb dX10_howOld_112 (by decide) ?_
                                  refine lv_isub hx hb dX10_howOld_113 ?_
                                  refine lv_topi (fun x24 e24 => ?_)
                                  have t24 : x24.toInt = w15_7.toInt - (1 : Int) := ga_sub e24 rfl rfl (by omega) (by omega)
                                  refine lv_iload hx hb dX10_howOld_114 (lv_at hl 3 rfl) ?_
                                  refine lv_imul hx hb dX10_howOld_116 ?_
                                  refine lv_topi (fun x25 e25 => ?_)
                                  have t25 : x25.toInt = x24.toInt * (401 : Int) := ga_mul e25 rfl rfl (by omega) (by omega)
                                  refine lv_iload hx hb dX10_howOld_117 (lv_at hl 0 rfl) ?_
                                  refine lv_iadd hx hb dX10_howOld_119 ?_
                                  refine lv_topi (fun x26 e26 => ?_)
                                  have t26 : x26.toInt = x25.toInt + w18_8.toInt := ga_add e26 rfl rfl (by omega) (by omega)
                                  refine lv_iload hx hb dX10_howOld_120 (lv_at hl 2 rfl) ?_
                                  refine lv_isub hx hb dX10_howOld_122 ?_
                                  refine lv_topi (fun x27 e27 => ?_)
                                  have t27 : x27.toInt = x26.toInt - w10_6.toInt := ga_sub e27 rfl rfl (by omega) (by omega)
                                  refine qa_lald hx hb hK hP (q0 := 131) (by decide) 1 (N := 2807) (hgU_131 ca o) rfl (gi_in (by omega) (by omega)) dX10_howOld_123 ?_
                                  refine lv_topl (fun j28 e28 => ?_)
                                  refine lv_ladd hx hb dX10_howOld_124 ?_
                                  refine lv_topl (fun j29 e29 => ?_)
                                  refine qa_last2 hx hb hK hP hS qw_Ai (q0 := 131) (by decide) 1 (N := 2807) (hgU_131 ca o) rfl (i := x22) (x := j29) (gi_in (by omega) (by omega)) dX10_howOld_125 (fun y30 H locs hy30 hP hS => ?_)
                                  obtain ⟨x31, e31⟩ : ∃ t : Int32, t = w18_8 + 1 := ⟨_, rfl⟩
                                  refine lv_iinc (v := x31) (lv' := [(8, .int x31), (7, .int w15_7), (6, .int w10_6), (5, .int 401), (0, .ref (o + 0)), (1, .int a0), (2, .int a1), (3, .int a2), (4, .int a3)]) hx hb dX10_howOld_126 hl (k := 0) rfl (by rw [e31]; rfl) (by decide) rfl (fun ls hl => ?_)
                                  have t31 : x31.toInt = w18_8.toInt + (1 : Int) := ga_add e31 rfl rfl (by omega) (by omega)
                                  refine lv_goto (tgt := 86) hx hb dX10_howOld_129 (by decide) ?_
                                  exact ih18 x31 z18 y30 (show (401 - x31.toInt : Int) < (n18 : Int) from by omega) ⟨by omega, by omega⟩ J18 (show w10_6.toInt ≤ x31.toInt from by omega) _ _ hP hS _ (lv_sub hl [0, 1, 2, 3, 4, 5, 6, 7, 8] rfl)
                            exact loop18 402 w10_6 z15 y15 (show (401 - w10_6.toInt : Int) < ((402 : Nat) : Int) from by omega) ⟨by omega, by omega⟩ J15 (show w10_6.toInt ≤ w10_6.toInt from by omega) _ _ hP hS _ (lv_sub hl [0, 1, 2, 3, 4, 5, 6, 7, 8] rfl)
                      exact loop15 7 1 z10 y10 (show (7 - (1 : Int) : Int) < ((7 : Nat) : Int) from by omega) ⟨by decide, by decide⟩ J10 _ _ hP hS _ (lv_sub hl [0, 1, 2, 3, 4, 5, 6, 7] rfl)
                exact loop10 101 a2 z8 y9 (show (100 - a2.toInt : Int) < ((101 : Nat) : Int) from by omega) ⟨by omega, by omega⟩ J8 _ _ hP hS _ (lv_sub hl [0, 1, 2, 3, 4, 5, 6] rfl)
              · have t7 : a2.toInt > a3.toInt := gl_nle c7
                refine lv_ldc2 (v := (-1)) hx hb hown (hts _ wq_974) dX10_howOld_39 ?_
                exact W.lret (v := (-1)) hx hb hr (fun t ht hW => ⟨⟨(-1), (z, y), rfl, J0, by rw [ht]; exact hP, va_K.moved hW.alike hK⟩, hS.F ht⟩) hS.2.2 dX10_howOld_42
