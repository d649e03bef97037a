set_option maxRecDepth 100000 in
set_option maxHeartbeats 8000000 in
theorem u_Few_ageOf (l : Launch) (D : va_G) (ca : Nat → ClassId) (o : Nat) (b z : Nat → Nat → Int32) (y : Nat → Nat → Int64) (J0 : qJU b z) (a0 : Int32) (a1 : Int32) (ha0 : (0 : Int) ≤ a0.toInt ∧ a0.toInt ≤ 1999) (ha1 : (0 : Int) ≤ a1.toInt ∧ a1.toInt ≤ 5) : qM l yX2_ageOf cX2_ageOf 3 (some .int) 1 60 (qPre D vwCl (qT6 ca) o 132 (qG (GU ca o) z y) [.ref (o + 110), .int a0, .int a1]) (va_Qi (fun r (_ : Unit) => True) (qB D vwCl (qT6 ca) o 132 (fun _ : Unit => qG (GU ca o) z y)) (qw_A o 132)) (qw_A o 132) := by
  refine Met.ofW (cc := cX2_ageOf) (maxL := 3) (ret := (some .int)) (by decide) rfl ?_
  intro p e s m args below meth c s₁ B hml hv
  obtain ⟨rfl, hP, hK⟩ := hv
  have hx := B.exec
  have hb := B.bytes
  have hr := B.returns
  have hts0 := atoms_spec (ws := Cond.code yX2_ageOf cX2_ageOf 3 (some .int) :: qtbl) B.pre
  have hts : ∀ w ∈ qtbl, w.before _ s = true := fun w h => hts0 w (List.mem_cons_of_mem _ h)
  have hown : s.vm.findClass RX2 = some m.cls := findClass_of_methodNamed B.named
  have hlocks := B.notSynchronized
  have hS : va_S (qw_A o 132) s.heap s.heap [] := va_S.rf
  have hl := lv_entry ([.ref (o + 110), .int a0, .int a1]) (n := 3) (Nat.le_of_ble_eq_true rfl)
  rw [lg_entry_eq]
  generalize (lg_sl ([.ref (o + 110), .int a0, .int a1]) ++ List.replicate (3 - (lg_sl ([.ref (o + 110), .int a0, .int a1])).length) Slot.unset).toArray = ls at hl ⊢
  have hl : lv_has ls 3 [(0, .ref (o + 110)), (1, .int a0), (2, .int a1)] := hl
  refine lv_aload_n hx hb dX2_ageOf_0 rfl (lv_at hl 0 rfl) ?_
  refine qf_get hx hb hts inX2 hown hK hP (q0 := 110) (by decide) (hgU_110 ca o) rfl 0 (by decide) wq_229 (v := .ref (o + 111)) rfl dX2_ageOf_1 ?_
  refine lv_iload_n hx hb dX2_ageOf_4 rfl (lv_at hl 1 rfl) ?_
  refine lv_bipush (v := 6) hx hb dX2_ageOf_5 (by decide) ?_
  refine lv_imul hx hb dX2_ageOf_7 ?_
  refine lv_topi (fun x1 e1 => ?_)
  have t1 : x1.toInt = a0.toInt * (6 : Int) := ga_mul e1 rfl rfl (by omega) (by omega)
  refine lv_iload_n hx hb dX2_ageOf_8 rfl (lv_at hl 2 rfl) ?_
  refine lv_iadd hx hb dX2_ageOf_9 ?_
  refine lv_topi (fun x2 e2 => ?_)
  have t2 : x2.toInt = x1.toInt + a1.toInt := ga_add e2 rfl rfl (by omega) (by omega)
  refine qa_iald hx hb hK hP (q0 := 111) (by decide) 0 (N := 12000) (hgU_111 ca o) rfl (gi_in (by omega) (by omega)) dX2_ageOf_10 ?_
  refine lv_topi (fun x3 e3 => ?_)
  exact W.iret (v := x3) hx hb hr (fun t ht hW => ⟨⟨x3, (), rfl, trivial, by rw [ht]; exact hP, va_K.moved hW.alike hK⟩, hS.F ht⟩) hS.2.2 dX2_ageOf_11
set_option maxRecDepth 100000 in
set_option maxHeartbeats 8000000 in
theorem u_Few_hear (l : Launch) (D : va_G) (ca : Nat → ClassId) (o : Nat) (b z : Nat → Nat → Int32) (y : Nat → Nat → Int64) (J0 : qJU b z) {i1_ : Nat} (hi1_ : i1_ < 16)  : qM l yX2_hear cX2_hear 5 none 2 85 (qPre D vwCl (qT6 ca) o 132 (qG (GU ca o) z y) [.ref (o + 110), .ref (o + (7 + 2 * i1_))]) (va_Qv (fun u => qJU b u.1) (qB D vwCl (qT6 ca) o 132 (fun u : qZ => qG (GU ca o) u.1 u.2)) (qw_A o 132)) (qw_A o 132) := by
  refine Met.ofW (cc := cX2_hear) (maxL := 5) (ret := none) (by decide) rfl ?_
  intro p e s m args below meth c s₁ B hml hv
  obtain ⟨rfl, hP, hK⟩ := hv
  have hx := B.exec
  have hb := B.bytes
  have hr := B.returns
  have hts0 := atoms_spec (ws := Cond.code yX2_hear cX2_hear 5 none :: qtbl) B.pre
  have hts : ∀ w ∈ qtbl, w.before _ s = true := fun w h => hts0 w (List.mem_cons_of_mem _ h)
  have hown : s.vm.findClass RX2 = some m.cls := findClass_of_methodNamed B.named
  have hlocks := B.notSynchronized
  have hS : va_S (qw_A o 132) s.heap s.heap [] := va_S.rf
  have hl := lv_entry ([.ref (o + 110), .ref (o + (7 + 2 * i1_))]) (n := 5) (Nat.le_of_ble_eq_true rfl)
  rw [lg_entry_eq]
  generalize (lg_sl ([.ref (o + 110), .ref (o + (7 + 2 * i1_))]) ++ List.replicate (5 - (lg_sl ([.ref (o + 110), .ref (o + (7 + 2 * i1_))])).length) Slot.unset).toArray = ls at hl ⊢
  have hl : lv_has ls 5 [(0, .ref (o + 110)), (1, .ref (o + (7 + 2 * i1_)))] := hl
  refine lv_iconst (v := 0) hx hb dX2_hear_0 (by decide) ?_
  refine lv_istore_n (lv' := [(2, .int 0), (0, .ref (o + 110)), (1, .ref (o + (7 + 2 * i1_)))]) hx hb dX2_hear_1 rfl hl (by decide) rfl (fun ls hl => ?_)
  have loop1 : ∀ (n : Nat) (w1_2 : Int32) (z1 : Nat → Nat → Int32) (y1 : Nat → Nat → Int64), ((2000 - w1_2.toInt : Int) < (n : Int)) → ((0 : Int) ≤ w1_2.toInt ∧ w1_2.toInt ≤ 2000) → (qJU b z1) → ∀ (H : Heap) (locs : List Loc), qw_P D vwCl o 132 (qG (GU ca o) z1 y1) H → va_S (qw_A o 132) s.heap H locs → ∀ (ls : Array Slot), lv_has ls 5 [(2, .int w1_2), (0, .ref (o + 110)), (1, .ref (o + (7 + 2 * i1_)))] → W p l e (headSpec (Cond.code yX2_hear cX2_hear 5 none :: qtbl) ({ frames := 2, cells := 0, slots := 0, locals := 85 })).room s m (([.ref (o + 110), .ref (o + (7 + 2 * i1_))] : List Value).toArray) below meth c H locs 0 0 (MQ below (va_Qv (fun u => qJU b u.1) (qB D vwCl (qT6 ca) o 132 (fun u : qZ => qG (GU ca o) u.1 u.2)) (qw_A o 132)) (([.ref (o + 110), .ref (o + (7 + 2 * i1_))] : List Value).toArray) s 0 0 (qw_A o 132)) (F0 m 2 ls []) := by
    intro n
    induction n with
    | zero => intro w1_2 z1 y1 hb1 hv1_2 J1; exfalso; omega
    | succ n1 ih1 =>
      intro w1_2 z1 y1 hb1 hv1_2 J1 H locs hP hS ls hl
      refine lv_iload_n hx hb dX2_hear_2 rfl (lv_at hl 0 rfl) ?_
      refine lv_aload_n hx hb dX2_hear_3 rfl (lv_at hl 1 rfl) ?_
      refine qf_get hx hb hts inX2 hown hK hP (q0 := 110) (by decide) (hgU_110 ca o) rfl 3 (by decide) wq_233 (v := .int (z1 110 3)) rfl dX2_hear_4 ?_
      refine lv_topi (fun x2 e2 => ?_)
      have b2 := iU_110_3 J1 e2
      refine lv_icmp_ge (tgt := 69) hx hb dX2_hear_7 (by decide) (fun c3 => ?_) (fun c3 => ?_)
      · have t3 : w1_2.toInt ≥ x2.toInt := gl_le c3
        refine lv_aload_n hx hb dX2_hear_69 rfl (lv_at hl 1 rfl) ?_
        refine qc_Vv2 (As := []) (rest := []) (k0 := 0) (u_Few_sortHeard l D ca o b z1 y1 J1) kc_yX2_sortHeard ⟨hx, hb, hml, hown, hts⟩ wq_763 rfl rfl ⟨Nat.le_of_ble_eq_true rfl, Nat.le_of_ble_eq_true rfl⟩ wq_all hP hK hS qw_Ai (q0 := 110) (by decide) (hgU_110 ca o _ _) rfl rfl hl.1 rfl (Nat.le_of_ble_eq_true rfl) dX2_hear_70 ⟨Nat.zero_le _, Nat.zero_le _⟩ (fun z4 y4 H locs h4 hP hS _ _ => ?_)
        have J4 : qJU b z4 := h4
        refine lv_iconst (v := 0) hx hb dX2_hear_73 (by decide) ?_
        refine lv_istore_n (lv' := [(2, .int 0), (0, .ref (o + 110)), (1, .ref (o + (7 + 2 * i1_)))]) hx hb dX2_hear_74 rfl hl (by decide) rfl (fun ls hl => ?_)
        have loop5 : ∀ (n : Nat) (w5_2 : Int32) (z5 : Nat → Nat → Int32) (y5 : Nat → Nat → Int64), ((2000 - w5_2.toInt : Int) < (n : Int)) → ((0 : Int) ≤ w5_2.toInt ∧ w5_2.toInt ≤ 2000) → (qJU b z5) → ∀ (H : Heap) (locs : List Loc), qw_P D vwCl o 132 (qG (GU ca o) z5 y5) H → va_S (qw_A o 132) s.heap H locs → ∀ (ls : Array Slot), lv_has ls 5 [(2, .int w5_2), (0, .ref (o + 110)), (1, .ref (o + (7 + 2 * i1_)))] → W p l e (headSpec (Cond.code yX2_hear cX2_hear 5 none :: qtbl) ({ frames := 2, cells := 0, slots := 0, locals := 85 })).room s m (([.ref (o + 110), .ref (o + (7 + 2 * i1_))] : List Value).toArray) below meth c H locs 0 0 (MQ below (va_Qv (fun u => qJU b u.1) (qB D vwCl (qT6 ca) o 132 (fun u : qZ => qG (GU ca o) u.1 u.2)) (qw_A o 132)) (([.ref (o + 110), .ref (o + (7 + 2 * i1_))] : List Value).toArray) s 0 0 (qw_A o 132)) (F0 m 75 ls []) := by
          intro n
          induction n with
          | zero => intro w5_2 z5 y5 hb5 hv5_2 J5; exfalso; omega
          | succ n5 ih5 =>
            intro w5_2 z5 y5 hb5 hv5_2 J5 H locs hP hS ls hl
            refine lv_iload_n hx hb dX2_hear_75 rfl (lv_at hl 0 rfl) ?_
            refine lv_aload_n hx hb dX2_hear_76 rfl (lv_at hl 1 rfl) ?_
            refine qf_get hx hb hts inX2 hown hK hP (q0 := 110) (by decide) (hgU_110 ca o) rfl 3 (by decide) wq_233 (v := .int (z5 110 3)) rfl dX2_hear_77 ?_
            refine lv_topi (fun x6 e6 => ?_)
            have b6 := iU_110_3 J5 e6
            refine lv_icmp_ge (tgt := 170) hx hb dX2_hear_80 (by decide) (fun c7 => ?_) (fun c7 => ?_)
            · have t7 : w5_2.toInt ≥ x6.toInt := gl_le c7
              exact W.vret hx hb hr (fun t ht hW => ⟨⟨(z5, y5), rfl, J5, by rw [ht]; exact hP, va_K.moved hW.alike hK⟩, hS.F ht⟩) hS.2.2 dX2_hear_170
            · have t7 : w5_2.toInt < x6.toInt := gl_nle c7
              refine lv_iload_n hx hb dX2_hear_83 rfl (lv_at hl 0 rfl) ?_
              refine lv_if_le (tgt := 106) hx hb dX2_hear_84 (by decide) (fun c8 => ?_) (fun c8 => ?_)
              · have t8 : w5_2.toInt ≤ (0 : Int) := gl_le c8
                refine lv_iconst (v := 0) hx hb dX2_hear_106 (by decide) ?_
                refine lv_istore_n (lv' := [(3, .int 0), (2, .int w5_2), (0, .ref (o + 110)), (1, .ref (o + (7 + 2 * i1_)))]) hx hb dX2_hear_107 rfl hl (by decide) rfl (fun ls hl => ?_)
                refine lv_iload_n hx hb dX2_hear_108 rfl (lv_at hl 1 rfl) ?_
                refine lv_iconst (v := 1) hx hb dX2_hear_109 (by decide) ?_
                refine lv_iadd hx hb dX2_hear_110 ?_
                refine lv_topi (fun x9 e9 => ?_)
                have t9 : x9.toInt = w5_2.toInt + (1 : Int) := ga_add e9 rfl rfl (by omega) (by omega)
                refine lv_aload_n hx hb dX2_hear_111 rfl (lv_at hl 2 rfl) ?_
                refine qf_get hx hb hts inX2 hown hK hP (q0 := 110) (by decide) (hgU_110 ca o) rfl 3 (by decide) wq_233 (v := .int (z5 110 3)) rfl dX2_hear_112 ?_
                refine lv_topi (fun x10 e10 => ?_)
                have b10 := iU_110_3 J5 e10
                have ag10 : x10.toInt = x6.toInt := congrArg Int32.toInt (e10.trans e6.symm)
                refine lv_icmp_ge (tgt := 137) hx hb dX2_hear_115 (by decide) (fun c11 => ?_) (fun c11 => ?_)
                · have t11 : x9.toInt ≥ x10.toInt := gl_le c11
                  refine lv_iconst (v := 0) hx hb dX2_hear_137 (by decide) ?_
                  refine lv_istore (lv' := [(4, .int 0), (3, .int 0), (2, .int w5_2), (0, .ref (o + 110)), (1, .ref (o + (7 + 2 * i1_)))]) hx hb dX2_hear_138 hl (by decide) rfl (fun ls hl => ?_)
                  refine lv_aload_n hx hb dX2_hear_140 rfl (lv_at hl 3 rfl) ?_
                  refine qf_get hx hb hts inX2 hown hK hP (q0 := 110) (by decide) (hgU_110 ca o) rfl 2 (by decide) wq_232 (v := .ref (o + 113)) rfl dX2_hear_141 ?_
                  refine lv_aload_n hx hb dX2_hear_144 rfl (lv_at hl 3 rfl) ?_
                  refine lv_iload_n hx hb dX2_hear_145 rfl (lv_at hl 2 rfl) ?_
                  refine qc_Vip (As := [.int w5_2]) (rest := [.ref (o + 113)]) (k0 := 1) (u_Few_rowAt l D ca o b z5 y5 J5 w5_2 ⟨by omega, by omega⟩) kc_yX2_rowAt ⟨hx, hb, hml, hown, hts⟩ wq_771 rfl rfl ⟨Nat.le_of_ble_eq_true rfl, Nat.le_of_ble_eq_true rfl⟩ wq_all hP hK hS qw_Ai (q0 := 110) (by decide) (hgU_110 ca o _ _) rfl rfl hl.1 rfl (Nat.le_of_ble_eq_true rfl) dX2_hear_146 ⟨Nat.zero_le _, Nat.zero_le _⟩ (fun r12 H locs h12 hP hS _ _ => ?_)
                  have b12 : (0 : Int) ≤ r12.toInt ∧ r12.toInt ≤ 1999 := h12
                  refine lv_iload_n hx hb dX2_hear_149 rfl (lv_at hl 1 rfl) ?_
                  refine lv_if_ne (tgt := 162) hx hb dX2_hear_150 (by decide) (fun q => absurd q (by decide)) (fun _ => ?_)
                  refine lv_iload hx hb dX2_hear_153 (lv_at hl 0 rfl) ?_
                  refine lv_if_ne (tgt := 162) hx hb dX2_hear_155 (by decide) (fun q => absurd q (by decide)) (fun _ => ?_)
                  refine lv_iconst (v := 1) hx hb dX2_hear_158 (by decide) ?_
                  refine lv_goto (tgt := 163) hx hb dX2_hear_159 (by decide) ?_
                  refine qa_zast2 hx hb hK hP hS qw_Ai (q0 := 113) (by decide) 2 (N := 2000) (hgU_113 ca o) rfl (i := r12) (x := 1) (gi_in (by omega) (by omega)) dX2_hear_163 (fun z13 H locs hz13 hP hS => ?_)
                  have J13 := jU_113 J5 hz13
                  obtain ⟨x14, e14⟩ : ∃ t : Int32, t = w5_2 + 1 := ⟨_, rfl⟩
                  refine lv_iinc (v := x14) (lv' := [(2, .int x14), (4, .int 0), (3, .int 0), (0, .ref (o + 110)), (1, .ref (o + (7 + 2 * i1_)))]) hx hb dX2_hear_164 hl (k := 2) rfl (by rw [e14]; rfl) (by decide) rfl (fun ls hl => ?_)
                  have t14 : x14.toInt = w5_2.toInt + (1 : Int) := ga_add e14 rfl rfl (by omega) (by omega)
                  refine lv_goto (tgt := 75) hx hb dX2_hear_167 (by decide) ?_
                  exact ih5 x14 z13 y5 (show (2000 - x14.toInt : Int) < (n5 : Int) from by omega) ⟨by omega, by omega⟩ J13 _ _ hP hS _ (lv_sub hl [0, 3, 4] rfl)
                · have t11 : x9.toInt < x10.toInt := gl_nle c11
                  refine lv_aload_n hx hb dX2_hear_118 rfl (lv_at hl 2 rfl) ?_
                  refine lv_iload_n hx hb dX2_hear_119 rfl (lv_at hl 1 rfl) ?_
                  refine lv_iconst (v := 1) hx hb dX2_hear_120 (by decide) ?_
                  refine lv_iadd hx hb dX2_hear_121 ?_
                  refine lv_topi (fun x15 e15 => ?_)
                  have t15 : x15.toInt = x9.toInt := congrArg Int32.toInt (e15.trans e9.symm)
                  refine qc_Vip (As := [.int x15]) (rest := []) (k0 := 1) (u_Few_toldAt l D ca o b z5 y5 J5 x15 ⟨by omega, by omega⟩) kc_yX2_toldAt ⟨hx, hb, hml, hown, hts⟩ wq_767 rfl rfl ⟨Nat.le_of_ble_eq_true rfl, Nat.le_of_ble_eq_true rfl⟩ wq_all hP hK hS qw_Ai (q0 := 110) (by decide) (hgU_110 ca o _ _) rfl rfl hl.1 rfl (Nat.le_of_ble_eq_true rfl) dX2_hear_122 ⟨Nat.zero_le _, Nat.zero_le _⟩ (fun r16 H locs h16 hP hS _ _ => ?_)
                  refine lv_aload_n hx hb dX2_hear_125 rfl (lv_at hl 2 rfl) ?_
                  refine lv_iload_n hx hb dX2_hear_126 rfl (lv_at hl 1 rfl) ?_
                  refine qc_Vip (As := [.int w5_2]) (rest := [.int r16]) (k0 := 1) (u_Few_toldAt l D ca o b z5 y5 J5 w5_2 ⟨by omega, by omega⟩) kc_yX2_toldAt ⟨hx, hb, hml, hown, hts⟩ wq_767 rfl rfl ⟨Nat.le_of_ble_eq_true rfl, Nat.le_of_ble_eq_true rfl⟩ wq_all hP hK hS qw_Ai (q0 := 110) (by decide) (hgU_110 ca o _ _) rfl rfl hl.1 rfl (Nat.le_of_ble_eq_true rfl) dX2_hear_127 ⟨Nat.zero_le _, Nat.zero_le _⟩ (fun r17 H locs h17 hP hS _ _ => ?_)
                  refine lv_icmp_ne (tgt := 137) hx hb dX2_hear_130 (by decide) (fun c18 => ?_) (fun c18 => ?_)
                  · have t18 : r16.toInt ≠ r17.toInt := gl_ne c18
                    refine lv_iconst (v := 0) hx hb dX2_hear_137 (by decide) ?_
                    refine lv_istore (lv' := [(4, .int 0), (3, .int 0), (2, .int w5_2), (0, .ref (o + 110)), (1, .ref (o + (7 + 2 * i1_)))]) hx hb dX2_hear_138 hl (by decide) rfl (fun ls hl => ?_)
                    refine lv_aload_n hx hb dX2_hear_140 rfl (lv_at hl 3 rfl) ?_
                    refine qf_get hx hb hts inX2 hown hK hP (q0 := 110) (by decide) (hgU_110 ca o) rfl 2 (by decide) wq_232 (v := .ref (o + 113)) rfl dX2_hear_141 ?_
                    refine lv_aload_n hx hb dX2_hear_144 rfl (lv_at hl 3 rfl) ?_
                    refine lv_iload_n hx hb dX2_hear_145 rfl (lv_at hl 2 rfl) ?_
                    refine qc_Vip (As := [.int w5_2]) (rest := [.ref (o + 113)]) (k0 := 1) (u_Few_rowAt l D ca o b z5 y5 J5 w5_2 ⟨by omega, by omega⟩) kc_yX2_rowAt ⟨hx, hb, hml, hown, hts⟩ wq_771 rfl rfl ⟨Nat.le_of_ble_eq_true rfl, Nat.le_of_ble_eq_true rfl⟩ wq_all hP hK hS qw_Ai (q0 := 110) (by decide) (hgU_110 ca o _ _) rfl rfl hl.1 rfl (Nat.le_of_ble_eq_true rfl) dX2_hear_146 ⟨Nat.zero_le _, Nat.zero_le _⟩ (fun r19 H locs h19 hP hS _ _ => ?_)
                    have b19 : (0 : Int) ≤ r19.toInt ∧ r19.toInt ≤ 1999 := h19
                    refine lv_iload_n hx hb dX2_hear_149 rfl (lv_at hl 1 rfl) ?_
                    refine lv_if_ne (tgt := 162) hx hb dX2_hear_150 (by decide) (fun q => absurd q (by decide)) (fun _ => ?_)
                    refine lv_iload hx hb dX2_hear_153 (lv_at hl 0 rfl) ?_
                    refine lv_if_ne (tgt := 162) hx hb dX2_hear_155 (by decide) (fun q => absurd q (by decide)) (fun _ => ?_)
                    refine lv_iconst (v := 1) hx hb dX2_hear_158 (by decide) ?_
                    refine lv_goto (tgt := 163) hx hb dX2_hear_159 (by decide) ?_
                    refine qa_zast2 hx hb hK hP hS qw_Ai (q0 := 113) (by decide) 2 (N := 2000) (hgU_113 ca o) rfl (i := r19) (x := 1) (gi_in (by omega) (by omega)) dX2_hear_163 (fun z20 H locs hz20 hP hS => ?_)
                    have J20 := jU_113 J5 hz20
                    obtain ⟨x21, e21⟩ : ∃ t : Int32, t = w5_2 + 1 := ⟨_, rfl⟩
                    refine lv_iinc (v := x21) (lv' := [(2, .int x21), (4, .int 0), (3, .int 0), (0, .ref (o + 110)), (1, .ref (o + (7 + 2 * i1_)))]) hx hb dX2_hear_164 hl (k := 2) rfl (by rw [e21]; rfl) (by decide) rfl (fun ls hl => ?_)
                    have t21 : x21.toInt = w5_2.toInt + (1 : Int) := ga_add e21 rfl rfl (by omega) (by omega)
                    refine lv_goto (tgt := 75) hx hb dX2_hear_167 (by decide) ?_
                    exact ih5 x21 z20 y5 (show (2000 - x21.toInt : Int) < (n5 : Int) from by omega) ⟨by omega, by omega⟩ J20 _ _ hP hS _ (lv_sub hl [0, 3, 4] rfl)
                  · have t18 : r16.toInt = r17.toInt := gl_eq c18
                    refine lv_iconst (v := 1) hx hb dX2_hear_133 (by decide) ?_
                    refine lv_goto (tgt := 138) hx hb dX2_hear_134 (by decide) ?_
                    refine lv_istore (lv' := [(4, .int 1), (3, .int 0), (2, .int w5_2), (0, .ref (o + 110)), (1, .ref (o + (7 + 2 * i1_)))]) hx hb dX2_hear_138 hl (by decide) rfl (fun ls hl => ?_)
                    refine lv_aload_n hx hb dX2_hear_140 rfl (lv_at hl 3 rfl) ?_
                    refine qf_get hx hb hts inX2 hown hK hP (q0 := 110) (by decide) (hgU_110 ca o) rfl 2 (by decide) wq_232 (v := .ref (o + 113)) rfl dX2_hear_141 ?_
                    refine lv_aload_n hx hb dX2_hear_144 rfl (lv_at hl 3 rfl) ?_
                    refine lv_iload_n hx hb dX2_hear_145 rfl (lv_at hl 2 rfl) ?_
                    refine qc_Vip (As := [.int w5_2]) (rest := [.ref (o + 113)]) (k0 := 1) (u_Few_rowAt l D ca o b z5 y5 J5 w5_2 ⟨by omega, by omega⟩) kc_yX2_rowAt ⟨hx, hb, hml, hown, hts⟩ wq_771 rfl rfl ⟨Nat.le_of_ble_eq_true rfl, Nat.le_of_ble_eq_true rfl⟩ wq_all hP hK hS qw_Ai (q0 := 110) (by decide) (hgU_110 ca o _ _) rfl rfl hl.1 rfl (Nat.le_of_ble_eq_true rfl) dX2_hear_146 ⟨Nat.zero_le _, Nat.zero_le _⟩ (fun r22 H locs h22 hP hS _ _ => ?_)
                    have b22 : (0 : Int) ≤ r22.toInt ∧ r22.toInt ≤ 1999 := h22
                    refine lv_iload_n hx hb dX2_hear_149 rfl (lv_at hl 1 rfl) ?_
                    refine lv_if_ne (tgt := 162) hx hb dX2_hear_150 (by decide) (fun q => absurd q (by decide)) (fun _ => ?_)
                    refine lv_iload hx hb dX2_hear_153 (lv_at hl 0 rfl) ?_
                    refine lv_if_ne (tgt := 162) hx hb dX2_hear_155 (by decide) (fun _ => ?_) (fun q => absurd q (by decide))
                    refine lv_iconst (v := 0) hx hb dX2_hear_162 (by decide) ?_
                    refine qa_zast2 hx hb hK hP hS qw_Ai (q0 := 113) (by decide) 2 (N := 2000) (hgU_113 ca o) rfl (i := r22) (x := 0) (gi_in (by omega) (by omega)) dX2_hear_163 (fun z23 H locs hz23 hP hS => ?_)
                    have J23 := jU_113 J5 hz23
                    obtain ⟨x24, e24⟩ : ∃ t : Int32, t = w5_2 + 1 := ⟨_, rfl⟩
                    refine lv_iinc (v := x24) (lv' := [(2, .int x24), (4, .int 1), (3, .int 0), (0, .ref (o + 110)), (1, .ref (o + (7 + 2 * i1_)))]) hx hb dX2_hear_164 hl (k := 2) rfl (by rw [e24]; rfl) (by decide) rfl (fun ls hl => ?_)
                    have t24 : x24.toInt = w5_2.toInt + (1 : Int) := ga_add e24 rfl rfl (by omega) (by omega)
                    refine lv_goto (tgt := 75) hx hb dX2_hear_167 (by decide) ?_
                    exact ih5 x24 z23 y5 (show (2000 - x24.toInt : Int) < (n5 : Int) from by omega) ⟨by omega, by omega⟩ J23 _ _ hP hS _ (lv_sub hl [0, 3, 4] rfl)
              · have t8 : w5_2.toInt > (0 : Int) := gl_nle c8
                refine lv_aload_n hx hb dX2_hear_87 rfl (lv_at hl 1 rfl) ?_
                refine lv_iload_n hx hb dX2_hear_88 rfl (lv_at hl 0 rfl) ?_
                refine lv_iconst (v := 1) hx hb dX2_hear_89 (by decide) ?_
                refine lv_isub hx hb dX2_hear_90 ?_
                refine lv_topi (fun x25 e25 => ?_)
                have t25 : x25.toInt = w5_2.toInt - (1 : Int) := ga_sub e25 rfl rfl (by omega) (by omega)
                refine qc_Vip (As := [.int x25]) (rest := []) (k0 := 1) (u_Few_toldAt l D ca o b z5 y5 J5 x25 ⟨by omega, by omega⟩) kc_yX2_toldAt ⟨hx, hb, hml, hown, hts⟩ wq_767 rfl rfl ⟨Nat.le_of_ble_eq_true rfl, Nat.le_of_ble_eq_true rfl⟩ wq_all hP hK hS qw_Ai (q0 := 110) (by decide) (hgU_110 ca o _ _) rfl rfl hl.1 rfl (Nat.le_of_ble_eq_true rfl) dX2_hear_91 ⟨Nat.zero_le _, Nat.zero_le _⟩ (fun r26 H locs h26 hP hS _ _ => ?_)
                refine lv_aload_n hx hb dX2_hear_94 rfl (lv_at hl 1 rfl) ?_
                refine lv_iload_n hx hb dX2_hear_95 rfl (lv_at hl 0 rfl) ?_
                refine qc_Vip (As := [.int w5_2]) (rest := [.int r26]) (k0 := 1) (u_Few_toldAt l D ca o b z5 y5 J5 w5_2 ⟨by omega, by omega⟩) kc_yX2_toldAt ⟨hx, hb, hml, hown, hts⟩ wq_767 rfl rfl ⟨Nat.le_of_ble_eq_true rfl, Nat.le_of_ble_eq_true rfl⟩ wq_all hP hK hS qw_Ai (q0 := 110) (by decide) (hgU_110 ca o _ _) rfl rfl hl.1 rfl (Nat.le_of_ble_eq_true rfl) dX2_hear_96 ⟨Nat.zero_le _, Nat.zero_le _⟩ (fun r27 H locs h27 hP hS _ _ => ?_)
                refine lv_icmp_ne (tgt := 106) hx hb dX2_hear_99 (by decide) (fun c28 => ?_) (fun c28 => ?_)
                · have t28 : r26.toInt ≠ r27.toInt := gl_ne c28
                  refine lv_iconst (v := 0) hx hb dX2_hear_106 (by decide) ?_
                  refine lv_istore_n (lv' := [(3, .int 0), (2, .int w5_2), (0, .ref (o + 110)), (1, .ref (o + (7 + 2 * i1_)))]) hx hb dX2_hear_107 rfl hl (by decide) rfl (fun ls hl => ?_)
                  refine lv_iload_n hx hb dX2_hear_108 rfl (lv_at hl 1 rfl) ?_
                  refine lv_iconst (v := 1) hx hb dX2_hear_109 (by decide) ?_
                  refine lv_iadd hx hb dX2_hear_110 ?_
                  refine lv_topi (fun x29 e29 => ?_)
                  have t29 : x29.toInt = w5_2.toInt + (1 : Int) := ga_add e29 rfl rfl (by omega) (by omega)
                  refine lv_aload_n hx hb dX2_hear_111 rfl (lv_at hl 2 rfl) ?_
                  refine qf_get hx hb hts inX2 hown hK hP (q0 := 110) (by decide) (hgU_110 ca o) rfl 3 (by decide) wq_233 (v := .int (z5 110 3)) rfl dX2_hear_112 ?_
                  refine lv_topi (fun x30 e30 => ?_)
                  have b30 := iU_110_3 J5 e30
                  have ag30 : x30.toInt = x6.toInt := congrArg Int32.toInt (e30.trans e6.symm)
                  refine lv_icmp_ge (tgt := 137) hx hb dX2_hear_115 (by decide) (fun c31 => ?_) (fun c31 => ?_)
                  · have t31 : x29.toInt ≥ x30.toInt := gl_le c31
                    refine lv_iconst (v := 0) hx hb dX2_hear_137 (by decide) ?_
                    refine lv_istore (lv' := [(4, .int 0), (3, .int 0), (2, .int w5_2), (0, .ref (o + 110)), (1, .ref (o + (7 + 2 * i1_)))]) hx hb dX2_hear_138 hl (by decide) rfl (fun ls hl => ?_)
                    refine lv_aload_n hx hb dX2_hear_140 rfl (lv_at hl 3 rfl) ?_
                    refine qf_get hx hb hts inX2 hown hK hP (q0 := 110) (by decide) (hgU_110 ca o) rfl 2 (by decide) wq_232 (v := .ref (o + 113)) rfl dX2_hear_141 ?_
                    refine lv_aload_n hx hb dX2_hear_144 rfl (lv_at hl 3 rfl) ?_
                    refine lv_iload_n hx hb dX2_hear_145 rfl (lv_at hl 2 rfl) ?_
                    refine qc_Vip (As := [.int w5_2]) (rest := [.ref (o + 113)]) (k0 := 1) (u_Few_rowAt l D ca o b z5 y5 J5 w5_2 ⟨by omega, by omega⟩) kc_yX2_rowAt ⟨hx, hb, hml, hown, hts⟩ wq_771 rfl rfl ⟨Nat.le_of_ble_eq_true rfl, Nat.le_of_ble_eq_true rfl⟩ wq_all hP hK hS qw_Ai (q0 := 110) (by decide) (hgU_110 ca o _ _) rfl rfl hl.1 rfl (Nat.le_of_ble_eq_true rfl) dX2_hear_146 ⟨Nat.zero_le _, Nat.zero_le _⟩ (fun r32 H locs h32 hP hS _ _ => ?_)
                    have b32 : (0 : Int) ≤ r32.toInt ∧ r32.toInt ≤ 1999 := h32
                    refine lv_iload_n hx hb dX2_hear_149 rfl (lv_at hl 1 rfl) ?_
                    refine lv_if_ne (tgt := 162) hx hb dX2_hear_150 (by decide) (fun q => absurd q (by decide)) (fun _ => ?_)
                    refine lv_iload hx hb dX2_hear_153 (lv_at hl 0 rfl) ?_
                    refine lv_if_ne (tgt := 162) hx hb dX2_hear_155 (by decide) (fun q => absurd q (by decide)) (fun _ => ?_)
                    refine lv_iconst (v := 1) hx hb dX2_hear_158 (by decide) ?_
                    refine lv_goto (tgt := 163) hx hb dX2_hear_159 (by decide) ?_
                    refine qa_zast2 hx hb hK hP hS qw_Ai (q0 := 113) (by decide) 2 (N := 2000) (hgU_113 ca o) rfl (i := r32) (x := 1) (gi_in (by omega) (by omega)) dX2_hear_163 (fun z33 H locs hz33 hP hS => ?_)
                    have J33 := jU_113 J5 hz33
                    obtain ⟨x34, e34⟩ : ∃ t : Int32, t = w5_2 + 1 := ⟨_, rfl⟩
                    refine lv_iinc (v := x34) (lv' := [(2, .int x34), (4, .int 0), (3, .int 0), (0, .ref (o + 110)), (1, .ref (o + (7 + 2 * i1_)))]) hx hb dX2_hear_164 hl (k := 2) rfl (by rw [e34]; rfl) (by decide) rfl (fun ls hl => ?_)
                    have t34 : x34.toInt = w5_2.toInt + (1 : Int) := ga_add e34 rfl rfl (by omega) (by omega)
                    refine lv_goto (tgt := 75) hx hb dX2_hear_167 (by decide) ?_
                    exact ih5 x34 z33 y5 (show (2000 - x34.toInt : Int) < (n5 : Int) from by omega) ⟨by omega, by omega⟩ J33 _ _ hP hS _ (lv_sub hl [0, 3, 4] rfl)
                  · have t31 : x29.toInt < x30.toInt := gl_nle c31
                    refine lv_aload_n hx hb dX2_hear_118 rfl (lv_at hl 2 rfl) ?_
                    refine lv_iload_n hx hb dX2_hear_119 rfl (lv_at hl 1 rfl) ?_
                    refine lv_iconst (v := 1) hx hb dX2_hear_120 (by decide) ?_
                    refine lv_iadd hx hb dX2_hear_121 ?_
                    refine lv_topi (fun x35 e35 => ?_)
                    have t35 : x35.toInt = x29.toInt := congrArg Int32.toInt (e35.trans e29.symm)
                    refine qc_Vip (As := [.int x35]) (rest := []) (k0 := 1) (u_Few_toldAt l D ca o b z5 y5 J5 x35 ⟨by omega, by omega⟩) kc_yX2_toldAt ⟨hx, hb, hml, hown, hts⟩ wq_767 rfl rfl ⟨Nat.le_of_ble_eq_true rfl, Nat.le_of_ble_eq_true rfl⟩ wq_all hP hK hS qw_Ai (q0 := 110) (by decide) (hgU_110 ca o _ _) rfl rfl hl.1 rfl (Nat.le_of_ble_eq_true rfl) dX2_hear_122 ⟨Nat.zero_le _, Nat.zero_le _⟩ (fun r36 H locs h36 hP hS _ _ => ?_)
                    refine lv_aload_n hx hb dX2_hear_125 rfl (lv_at hl 2 rfl) ?_
                    refine lv_iload_n hx hb dX2_hear_126 rfl (lv_at hl 1 rfl) ?_
                    refine qc_Vip (As := [.int w5_2]) (rest := [.int r36]) (k0 := 1) (u_Few_toldAt l D ca o b z5 y5 J5 w5_2 ⟨by omega, by omega⟩) kc_yX2_toldAt ⟨hx, hb, hml, hown, hts⟩ wq_767 rfl rfl ⟨Nat.le_of_ble_eq_true rfl, Nat.le_of_ble_eq_true rfl⟩ wq_all hP hK hS qw_Ai (q0 := 110) (by decide) (hgU_110 ca o _ _) rfl rfl hl.1 rfl (Nat.le_of_ble_eq_true rfl) dX2_hear_127 ⟨Nat.zero_le _, Nat.zero_le _⟩ (fun r37 H locs h37 hP hS _ _ => ?_)
                    refine lv_icmp_ne (tgt := 137) hx hb dX2_hear_130 (by decide) (fun c38 => ?_) (fun c38 => ?_)
                    · have t38 : r36.toInt ≠ r37.toInt := gl_ne c38
                      refine lv_iconst (v := 0) hx hb dX2_hear_137 (by decide) ?_
                      refine lv_istore (lv' := [(4, .int 0), (3, .int 0), (2, .int w5_2), (0, .ref (o + 110)), (1, .ref (o + (7 + 2 * i1_)))]) hx hb dX2_hear_138 hl (by decide) rfl (fun ls hl => ?_)
                      refine lv_aload_n hx hb dX2_hear_140 rfl (lv_at hl 3 rfl) ?_
                      refine qf_get hx hb hts inX2 hown hK hP (q0 := 110) (by decide) (hgU_110 ca o) rfl 2 (by decide) wq_232 (v := .ref (o + 113)) rfl dX2_hear_141 ?_
                      refine lv_aload_n hx hb dX2_hear_144 rfl (lv_at hl 3 rfl) ?_
                      refine lv_iload_n hx hb dX2_hear_145 rfl (lv_at hl 2 rfl) ?_
                      refine qc_Vip (As := [.int w5_2]) (rest := [.ref (o + 113)]) (k0 := 1) (u_Few_rowAt l D ca o b z5 y5 J5 w5_2 ⟨by omega, by omega⟩) kc_yX2_rowAt ⟨hx, hb, hml, hown, hts⟩ wq_771 rfl rfl ⟨Nat.le_of_ble_eq_true rfl, Nat.le_of_ble_eq_true rfl⟩ wq_all hP hK hS qw_Ai (q0 := 110) (by decide) (hgU_110 ca o _ _) rfl rfl hl.1 rfl (Nat.le_of_ble_eq_true rfl) dX2_hear_146 ⟨Nat.zero_le _, Nat.zero_le _⟩ (fun r39 H locs h39 hP hS _ _ => ?_)
                      have b39 : (0 : Int) ≤ r39.toInt ∧ r39.toInt ≤ 1999 := h39
                      refine lv_iload_n hx hb dX2_hear_149 rfl (lv_at hl 1 rfl) ?_
                      refine lv_if_ne (tgt := 162) hx hb dX2_hear_150 (by decide) (fun q => absurd q (by decide)) (fun _ => ?_)
                      refine lv_iload hx hb dX2_hear_153 (lv_at hl 0 rfl) ?_
                      refine lv_if_ne (tgt := 162) hx hb dX2_hear_155 (by decide) (fun q => absurd q (by decide)) (fun _ => ?_)
                      refine lv_iconst (v := 1) hx hb dX2_hear_158 (by decide) ?_
                      refine lv_goto (tgt := 163) hx hb dX2_hear_159 (by decide) ?_
                      refine qa_zast2 hx hb hK hP hS qw_Ai (q0 := 113) (by decide) 2 (N := 2000) (hgU_113 ca o) rfl (i := r39) (x := 1) (gi_in (by omega) (by omega)) dX2_hear_163 (fun z40 H locs hz40 hP hS => ?_)
                      have J40 := jU_113 J5 hz40
                      obtain ⟨x41, e41⟩ : ∃ t : Int32, t = w5_2 + 1 := ⟨_, rfl⟩
                      refine lv_iinc (v := x41) (lv' := [(2, .int x41), (4, .int 0), (3, .int 0), (0, .ref (o + 110)), (1, .ref (o + (7 + 2 * i1_)))]) hx hb dX2_hear_164 hl (k := 2) rfl (by rw [e41]; rfl) (by decide) rfl (fun ls hl => ?_)
                      have t41 : x41.toInt = w5_2.toInt + (1 : Int) := ga_add e41 rfl rfl (by omega) (by omega)
                      refine lv_goto (tgt := 75) hx hb dX2_hear_167 (by decide) ?_
                      exact ih5 x41 z40 y5 (show (2000 - x41.toInt : Int) < (n5 : Int) from by omega) ⟨by omega, by omega⟩ J40 _ _ hP hS _ (lv_sub hl [0, 3, 4] rfl)
                    · have t38 : r36.toInt = r37.toInt := gl_eq c38
                      refine lv_iconst (v := 1) hx hb dX2_hear_133 (by decide) ?_
                      refine lv_goto (tgt := 138) hx hb dX2_hear_134 (by decide) ?_
                      refine lv_istore (lv' := [(4, .int 1), (3, .int 0), (2, .int w5_2), (0, .ref (o + 110)), (1, .ref (o + (7 + 2 * i1_)))]) hx hb dX2_hear_138 hl (by decide) rfl (fun ls hl => ?_)
                      refine lv_aload_n hx hb dX2_hear_140 rfl (lv_at hl 3 rfl) ?_
                      refine qf_get hx hb hts inX2 hown hK hP (q0 := 110) (by decide) (hgU_110 ca o) rfl 2 (by decide) wq_232 (v := .ref (o + 113)) rfl dX2_hear_141 ?_
                      refine lv_aload_n hx hb dX2_hear_144 rfl (lv_at hl 3 rfl) ?_
                      refine lv_iload_n hx hb dX2_hear_145 rfl (lv_at hl 2 rfl) ?_
                      refine qc_Vip (As := [.int w5_2]) (rest := [.ref (o + 113)]) (k0 := 1) (u_Few_rowAt l D ca o b z5 y5 J5 w5_2 ⟨by omega, by omega⟩) kc_yX2_rowAt ⟨hx, hb, hml, hown, hts⟩ wq_771 rfl rfl ⟨Nat.le_of_ble_eq_true rfl, Nat.le_of_ble_eq_true rfl⟩ wq_all hP hK hS qw_Ai (q0 := 110) (by decide) (hgU_110 ca o _ _) rfl rfl hl.1 rfl (Nat.le_of_ble_eq_true rfl) dX2_hear_146 ⟨Nat.zero_le _, Nat.zero_le _⟩ (fun r42 H locs h42 hP hS _ _ => ?_)
                      have b42 : (0 : Int) ≤ r42.toInt ∧ r42.toInt ≤ 1999 := h42
                      refine lv_iload_n hx hb dX2_hear_149 rfl (lv_at hl 1 rfl) ?_
                      refine lv_if_ne (tgt := 162) hx hb dX2_hear_150 (by decide) (fun q => absurd q (by decide)) (fun _ => ?_)
                      refine lv_iload hx hb dX2_hear_153 (lv_at hl 0 rfl) ?_
                      refine lv_if_ne (tgt := 162) hx hb dX2_hear_155 (by decide) (fun _ => ?_) (fun q => absurd q (by decide))
                      refine lv_iconst (v := 0) hx hb dX2_hear_162 (by decide) ?_
                      refine qa_zast2 hx hb hK hP hS qw_Ai (q0 := 113) (by decide) 2 (N := 2000) (hgU_113 ca o) rfl (i := r42) (x := 0) (gi_in (by omega) (by omega)) dX2_hear_163 (fun z43 H locs hz43 hP hS => ?_)
                      have J43 := jU_113 J5 hz43
                      obtain ⟨x44, e44⟩ : ∃ t : Int32, t = w5_2 + 1 := ⟨_, rfl⟩
                      refine lv_iinc (v := x44) (lv' := [(2, .int x44), (4, .int 1), (3, .int 0), (0, .ref (o + 110)), (1, .ref (o + (7 + 2 * i1_)))]) hx hb dX2_hear_164 hl (k := 2) rfl (by rw [e44]; rfl) (by decide) rfl (fun ls hl => ?_)
                      have t44 : x44.toInt = w5_2.toInt + (1 : Int) := ga_add e44 rfl rfl (by omega) (by omega)
                      refine lv_goto (tgt := 75) hx hb dX2_hear_167 (by decide) ?_
                      exact ih5 x44 z43 y5 (show (2000 - x44.toInt : Int) < (n5 : Int) from by omega) ⟨by omega, by omega⟩ J43 _ _ hP hS _ (lv_sub hl [0, 3, 4] rfl)
                · have t28 : r26.toInt = r27.toInt := gl_eq c28
                  refine lv_iconst (v := 1) hx hb dX2_hear_102 (by decide) ?_
                  refine lv_goto (tgt := 107) hx hb dX2_hear_103 (by decide) ?_
                  refine lv_istore_n (lv' := [(3, .int 1), (2, .int w5_2), (0, .ref (o + 110)), (1, .ref (o + (7 + 2 * i1_)))]) hx hb dX2_hear_107 rfl hl (by decide) rfl (fun ls hl => ?_)
                  refine lv_iload_n hx hb dX2_hear_108 rfl (lv_at hl 1 rfl) ?_
                  refine lv_iconst (v := 1) hx hb dX2_hear_109 (by decide) ?_
                  refine lv_iadd hx hb dX2_hear_110 ?_
                  refine lv_topi (fun x45 e45 => ?_)
                  have t45 : x45.toInt = w5_2.toInt + (1 : Int) := ga_add e45 rfl rfl (by omega) (by omega)
                  refine lv_aload_n hx hb dX2_hear_111 rfl (lv_at hl 2 rfl) ?_
                  refine qf_get hx hb hts inX2 hown hK hP (q0 := 110) (by decide) (hgU_110 ca o) rfl 3 (by decide) wq_233 (v := .int (z5 110 3)) rfl dX2_hear_112 ?_
                  refine lv_topi (fun x46 e46 => ?_)
                  have b46 := iU_110_3 J5 e46
                  have ag46 : x46.toInt = x6.toInt := congrArg Int32.toInt (e46.trans e6.symm)
                  refine lv_icmp_ge (tgt := 137) hx hb dX2_hear_115 (by decide) (fun c47 => ?_) (fun c47 => ?_)
                  · have t47 : x45.toInt ≥ x46.toInt := gl_le c47
                    refine lv_iconst (v := 0) hx hb dX2_hear_137 (by decide) ?_
                    refine lv_istore (lv' := [(4, .int 0), (3, .int 1), (2, .int w5_2), (0, .ref (o + 110)), (1, .ref (o + (7 + 2 * i1_)))]) hx hb dX2_hear_138 hl (by decide) rfl (fun ls hl => ?_)
                    refine lv_aload_n hx hb dX2_hear_140 rfl (lv_at hl 3 rfl) ?_
                    refine qf_get hx hb hts inX2 hown hK hP (q0 := 110) (by decide) (hgU_110 ca o) rfl 2 (by decide) wq_232 (v := .ref (o + 113)) rfl dX2_hear_141 ?_
                    refine lv_aload_n hx hb dX2_hear_144 rfl (lv_at hl 3 rfl) ?_
                    refine lv_iload_n hx hb dX2_hear_145 rfl (lv_at hl 2 rfl) ?_
                    refine qc_Vip (As := [.int w5_2]) (rest := [.ref (o + 113)]) (k0 := 1) (u_Few_rowAt l D ca o b z5 y5 J5 w5_2 ⟨by omega, by omega⟩) kc_yX2_rowAt ⟨hx, hb, hml, hown, hts⟩ wq_771 rfl rfl ⟨Nat.le_of_ble_eq_true rfl, Nat.le_of_ble_eq_true rfl⟩ wq_all hP hK hS qw_Ai (q0 := 110) (by decide) (hgU_110 ca o _ _) rfl rfl hl.1 rfl (Nat.le_of_ble_eq_true rfl) dX2_hear_146 ⟨Nat.zero_le _, Nat.zero_le _⟩ (fun r48 H locs h48 hP hS _ _ => ?_)
                    have b48 : (0 : Int) ≤ r48.toInt ∧ r48.toInt ≤ 1999 := h48
                    refine lv_iload_n hx hb dX2_hear_149 rfl (lv_at hl 1 rfl) ?_
                    refine lv_if_ne (tgt := 162) hx hb dX2_hear_150 (by decide) (fun _ => ?_) (fun q => absurd q (by decide))
                    refine lv_iconst (v := 0) hx hb dX2_hear_162 (by decide) ?_
                    refine qa_zast2 hx hb hK hP hS qw_Ai (q0 := 113) (by decide) 2 (N := 2000) (hgU_113 ca o) rfl (i := r48) (x := 0) (gi_in (by omega) (by omega)) dX2_hear_163 (fun z49 H locs hz49 hP hS => ?_)
                    have J49 := jU_113 J5 hz49
                    obtain ⟨x50, e50⟩ : ∃ t : Int32, t = w5_2 + 1 := ⟨_, rfl⟩
                    refine lv_iinc (v := x50) (lv' := [(2, .int x50), (4, .int 0), (3, .int 1), (0, .ref (o + 110)), (1, .ref (o + (7 + 2 * i1_)))]) hx hb dX2_hear_164 hl (k := 2) rfl (by rw [e50]; rfl) (by decide) rfl (fun ls hl => ?_)
                    have t50 : x50.toInt = w5_2.toInt + (1 : Int) := ga_add e50 rfl rfl (by omega) (by omega)
                    refine lv_goto (tgt := 75) hx hb dX2_hear_167 (by decide) ?_
                    exact ih5 x50 z49 y5 (show (2000 - x50.toInt : Int) < (n5 : Int) from by omega) ⟨by omega, by omega⟩ J49 _ _ hP hS _ (lv_sub hl [0, 3, 4] rfl)
                  · have t47 : x45.toInt < x46.toInt := gl_nle c47
                    refine lv_aload_n hx hb dX2_hear_118 rfl (lv_at hl 2 rfl) ?_
                    refine lv_iload_n hx hb dX2_hear_119 rfl (lv_at hl 1 rfl) ?_
                    refine lv_iconst (v := 1) hx hb dX2_hear_120 (by decide) ?_
                    refine lv_iadd hx hb dX2_hear_121 ?_
                    refine lv_topi (fun x51 e51 => ?_)
                    have t51 : x51.toInt = x45.toInt := congrArg Int32.toInt (e51.trans e45.symm)
                    refine qc_Vip (As := [.int x51]) (rest := []) (k0 := 1) (u_Few_toldAt l D ca o b z5 y5 J5 x51 ⟨by omega, by omega⟩) kc_yX2_toldAt ⟨hx, hb, hml, hown, hts⟩ wq_767 rfl rfl ⟨Nat.le_of_ble_eq_true rfl, Nat.le_of_ble_eq_true rfl⟩ wq_all hP hK hS qw_Ai (q0 := 110) (by decide) (hgU_110 ca o _ _) rfl rfl hl.1 rfl (Nat.le_of_ble_eq_true rfl) dX2_hear_122 ⟨Nat.zero_le _, Nat.zero_le _⟩ (fun r52 H locs h52 hP hS _ _ => ?_)
                    refine lv_aload_n hx hb dX2_hear_125 rfl (lv_at hl 2 rfl) ?_
                    refine lv_iload_n hx hb dX2_hear_126 rfl (lv_at hl 1 rfl) ?_
                    refine qc_Vip (As := [.int w5_2]) (rest := [.int r52]) (k0 := 1) (u_Few_toldAt l D ca o b z5 y5 J5 w5_2 ⟨by omega, by omega⟩) kc_yX2_toldAt ⟨hx, hb, hml, hown, hts⟩ wq_767 rfl rfl ⟨Nat.le_of_ble_eq_true rfl, Nat.le_of_ble_eq_true rfl⟩ wq_all hP hK hS qw_Ai (q0 := 110) (by decide) (hgU_110 ca o _ _) rfl rfl hl.1 rfl (Nat.le_of_ble_eq_true rfl) dX2_hear_127 ⟨Nat.zero_le _, Nat.zero_le _⟩ (fun r53 H locs h53 hP hS _ _ => ?_)
                    refine lv_icmp_ne (tgt := 137) hx hb dX2_hear_130 (by decide) (fun c54 => ?_) (fun c54 => ?_)
                    · have t54 : r52.toInt ≠ r53.toInt := gl_ne c54
                      refine lv_iconst (v := 0) hx hb dX2_hear_137 (by decide) ?_
                      refine lv_istore (lv' := [(4, .int 0), (3, .int 1), (2, .int w5_2), (0, .ref (o + 110)), (1, .ref (o + (7 + 2 * i1_)))]) hx hb dX2_hear_138 hl (by decide) rfl (fun ls hl => ?_)
                      refine lv_aload_n hx hb dX2_hear_140 rfl (lv_at hl 3 rfl) ?_
                      refine qf_get hx hb hts inX2 hown hK hP (q0 := 110) (by decide) (hgU_110 ca o) rfl 2 (by decide) wq_232 (v := .ref (o + 113)) rfl dX2_hear_141 ?_
                      refine lv_aload_n hx hb dX2_hear_144 rfl (lv_at hl 3 rfl) ?_
                      refine lv_iload_n hx hb dX2_hear_145 rfl (lv_at hl 2 rfl) ?_
                      refine qc_Vip (As := [.int w5_2]) (rest := [.ref (o + 113)]) (k0 := 1) (u_Few_rowAt l D ca o b z5 y5 J5 w5_2 ⟨by omega, by omega⟩) kc_yX2_rowAt ⟨hx, hb, hml, hown, hts⟩ wq_771 rfl rfl ⟨Nat.le_of_ble_eq_true rfl, Nat.le_of_ble_eq_true rfl⟩ wq_all hP hK hS qw_Ai (q0 := 110) (by decide) (hgU_110 ca o _ _) rfl rfl hl.1 rfl (Nat.le_of_ble_eq_true rfl) dX2_hear_146 ⟨Nat.zero_le _, Nat.zero_le _⟩ (fun r55 H locs h55 hP hS _ _ => ?_)
                      have b55 : (0 : Int) ≤ r55.toInt ∧ r55.toInt ≤ 1999 := h55
                      refine lv_iload_n hx hb dX2_hear_149 rfl (lv_at hl 1 rfl) ?_
                      refine lv_if_ne (tgt := 162) hx hb dX2_hear_150 (by decide) (fun _ => ?_) (fun q => absurd q (by decide))
                      refine lv_iconst (v := 0) hx hb dX2_hear_162 (by decide) ?_
                      refine qa_zast2 hx hb hK hP hS qw_Ai (q0 := 113) (by decide) 2 (N := 2000) (hgU_113 ca o) rfl (i := r55) (x := 0) (gi_in (by omega) (by omega)) dX2_hear_163 (fun z56 H locs hz56 hP hS => ?_)
                      have J56 := jU_113 J5 hz56
                      obtain ⟨x57, e57⟩ : ∃ t : Int32, t = w5_2 + 1 := ⟨_, rfl⟩
                      refine lv_iinc (v := x57) (lv' := [(2, .int x57), (4, .int 0), (3, .int 1), (0, .ref (o + 110)), (1, .ref (o + (7 + 2 * i1_)))]) hx hb dX2_hear_164 hl (k := 2) rfl (by rw [e57]; rfl) (by decide) rfl (fun ls hl => ?_)
                      have t57 : x57.toInt = w5_2.toInt + (1 : Int) := ga_add e57 rfl rfl (by omega) (by omega)
                      refine lv_goto (tgt := 75) hx hb dX2_hear_167 (by decide) ?_
                      exact ih5 x57 z56 y5 (show (2000 - x57.toInt : Int) < (n5 : Int) from by omega) ⟨by omega, by omega⟩ J56 _ _ hP hS _ (lv_sub hl [0, 3, 4] rfl)
                    · have t54 : r52.toInt = r53.toInt := gl_eq c54
                      refine lv_iconst (v := 1) hx hb dX2_hear_133 (by decide) ?_
                      refine lv_goto (tgt := 138) hx hb dX2_hear_134 (by decide) ?_
                      refine lv_istore (lv' := [(4, .int 1), (3, .int 1), (2, .int w5_2), (0, .ref (o + 110)), (1, .ref (o + (7 + 2 * i1_)))]) hx hb dX2_hear_138 hl (by decide) rfl (fun ls hl => ?_)
                      refine lv_aload_n hx hb dX2_hear_140 rfl (lv_at hl 3 rfl) ?_
                      refine qf_get hx hb hts inX2 hown hK hP (q0 := 110) (by decide) (hgU_110 ca o) rfl 2 (by decide) wq_232 (v := .ref (o + 113)) rfl dX2_hear_141 ?_
                      refine lv_aload_n hx hb dX2_hear_144 rfl (lv_at hl 3 rfl) ?_
                      refine lv_iload_n hx hb dX2_hear_145 rfl (lv_at hl 2 rfl) ?_
                      refine qc_Vip (As := [.int w5_2]) (rest := [.ref (o + 113)]) (k0 := 1) (u_Few_rowAt l D ca o b z5 y5 J5 w5_2 ⟨by omega, by omega⟩) kc_yX2_rowAt ⟨hx, hb, hml, hown, hts⟩ wq_771 rfl rfl ⟨Nat.le_of_ble_eq_true rfl, Nat.le_of_ble_eq_true rfl⟩ wq_all hP hK hS qw_Ai (q0 := 110) (by decide) (hgU_110 ca o _ _) rfl rfl hl.1 rfl (Nat.le_of_ble_eq_true rfl) dX2_hear_146 ⟨Nat.zero_le _, Nat.zero_le _⟩ (fun r58 H locs h58 hP hS _ _ => ?_)
                      have b58 : (0 : Int) ≤ r58.toInt ∧ r58.toInt ≤ 1999 := h58
                      refine lv_iload_n hx hb dX2_hear_149 rfl (lv_at hl 1 rfl) ?_
                      refine lv_if_ne (tgt := 162) hx hb dX2_hear_150 (by decide) (fun _ => ?_) (fun q => absurd q (by decide))
                      refine lv_iconst (v := 0) hx hb dX2_hear_162 (by decide) ?_
                      refine qa_zast2 hx hb hK hP hS qw_Ai (q0 := 113) (by decide) 2 (N := 2000) (hgU_113 ca o) rfl (i := r58) (x := 0) (gi_in (by omega) (by omega)) dX2_hear_163 (fun z59 H locs hz59 hP hS => ?_)
                      have J59 := jU_113 J5 hz59
                      obtain ⟨x60, e60⟩ : ∃ t : Int32, t = w5_2 + 1 := ⟨_, rfl⟩
                      refine lv_iinc (v := x60) (lv' := [(2, .int x60), (4, .int 1), (3, .int 1), (0, .ref (o + 110)), (1, .ref (o + (7 + 2 * i1_)))]) hx hb dX2_hear_164 hl (k := 2) rfl (by rw [e60]; rfl) (by decide) rfl (fun ls hl => ?_)
                      have t60 : x60.toInt = w5_2.toInt + (1 : Int) := ga_add e60 rfl rfl (by omega) (by omega)
                      refine lv_goto (tgt := 75) hx hb dX2_hear_167 (by decide) ?_
                      exact ih5 x60 z59 y5 (show (2000 - x60.toInt : Int) < (n5 : Int) from by omega) ⟨by omega, by omega⟩ J59 _ _ hP hS _ (lv_sub hl [0, 3, 4] rfl)
        exact loop5 2001 0 z4 y4 (show (2000 - (0 : Int) : Int) < ((2001 : Nat) : Int) from by omega) ⟨by decide, by decide⟩ J4 _ _ hP hS _ (lv_sub hl [0, 1, 2] rfl)
      · have t3 : w1_2.toInt < x2.toInt := gl_nle c3
        refine lv_aload_n hx hb dX2_hear_10 rfl (lv_at hl 2 rfl) ?_
        refine qf_get hx hb hts inX5 hown hK hP (q0 := 7 + 2 * i1_) (show _ < _ from by have := hi1_; omega) (hgU_LT ca o hi1_) rfl 2 (by decide) wq_50 (v := .int (z1 (7 + 2 * i1_) 2)) rfl dX2_hear_11 ?_
        refine lv_topi (fun x61 e61 => ?_)
        refine lv_istore_n (lv' := [(3, .int x61), (2, .int w1_2), (0, .ref (o + 110)), (1, .ref (o + (7 + 2 * i1_)))]) hx hb dX2_hear_14 rfl hl (by decide) rfl (fun ls hl => ?_)
        refine lv_iconst (v := 0) hx hb dX2_hear_15 (by decide) ?_
        refine lv_istore (lv' := [(4, .int 0), (3, .int x61), (2, .int w1_2), (0, .ref (o + 110)), (1, .ref (o + (7 + 2 * i1_)))]) hx hb dX2_hear_16 hl (by decide) rfl (fun ls hl => ?_)
        have loop62 : ∀ (n : Nat) (w62_4 : Int32) (w62_3 : Int32), ((6 - w62_4.toInt : Int) < (n : Int)) → ((0 : Int) ≤ w62_4.toInt ∧ w62_4.toInt ≤ 6) → ∀ (H : Heap) (locs : List Loc), qw_P D vwCl o 132 (qG (GU ca o) z1 y1) H → va_S (qw_A o 132) s.heap H locs → ∀ (ls : Array Slot), lv_has ls 5 [(4, .int w62_4), (3, .int w62_3), (2, .int w1_2), (0, .ref (o + 110)), (1, .ref (o + (7 + 2 * i1_)))] → W p l e (headSpec (Cond.code yX2_hear cX2_hear 5 none :: qtbl) ({ frames := 2, cells := 0, slots := 0, locals := 85 })).room s m (([.ref (o + 110), .ref (o + (7 + 2 * i1_))] : List Value).toArray) below meth c H locs 0 0 (MQ below (va_Qv (fun u => qJU b u.1) (qB D vwCl (qT6 ca) o 132 (fun u : qZ => qG (GU ca o) u.1 u.2)) (qw_A o 132)) (([.ref (o + 110), .ref (o + (7 + 2 * i1_))] : List Value).toArray) s 0 0 (qw_A o 132)) (F0 m 18 ls []) := by
          intro n
          induction n with
          | zero => intro w62_4 w62_3 hb62 hv62_4; exfalso; omega
          | succ n62 ih62 =>
            intro w62_4 w62_3 hb62 hv62_4 H locs hP hS ls hl
            refine lv_iload hx hb dX2_hear_18 (lv_at hl 0 rfl) ?_
            refine lv_bipush (v := 6) hx hb dX2_hear_20 (by decide) ?_
            refine lv_icmp_ge (tgt := 49) hx hb dX2_hear_22 (by decide) (fun c63 => ?_) (fun c63 => ?_)
            · have t63 : w62_4.toInt ≥ (6 : Int) := gl_le c63
              refine lv_aload_n hx hb dX2_hear_49 rfl (lv_at hl 3 rfl) ?_
              refine qf_get hx hb hts inX2 hown hK hP (q0 := 110) (by decide) (hgU_110 ca o) rfl 1 (by decide) wq_231 (v := .ref (o + 112)) rfl dX2_hear_50 ?_
              refine lv_iload_n hx hb dX2_hear_53 rfl (lv_at hl 2 rfl) ?_
              refine lv_iload_n hx hb dX2_hear_54 rfl (lv_at hl 1 rfl) ?_
              refine lv_i2l hx hb dX2_hear_55 rfl ?_
              refine lv_topl (fun j64 e64 => ?_)
              have t64 : j64.toInt = w62_3.toInt := ga_i2l e64
              refine lv_bipush (v := 32) hx hb dX2_hear_56 (by decide) ?_
              refine lv_lshl hx hb dX2_hear_58 rfl ?_
              refine lv_topl (fun j65 e65 => ?_)
              refine lv_iload_n hx hb dX2_hear_59 rfl (lv_at hl 2 rfl) ?_
              refine lv_i2l hx hb dX2_hear_60 rfl ?_
              refine lv_topl (fun j66 e66 => ?_)
              have t66 : j66.toInt = w1_2.toInt := ga_i2l e66
              refine lv_lor hx hb dX2_hear_61 ?_
              refine lv_topl (fun j67 e67 => ?_)
              refine qa_last2 hx hb hK hP hS qw_Ai (q0 := 112) (by decide) 1 (N := 2000) (hgU_112 ca o) rfl (i := w1_2) (x := j67) (gi_in (by omega) (by omega)) dX2_hear_62 (fun y68 H locs hy68 hP hS => ?_)
              obtain ⟨x69, e69⟩ : ∃ t : Int32, t = w1_2 + 1 := ⟨_, rfl⟩
              refine lv_iinc (v := x69) (lv' := [(2, .int x69), (4, .int w62_4), (3, .int w62_3), (0, .ref (o + 110)), (1, .ref (o + (7 + 2 * i1_)))]) hx hb dX2_hear_63 hl (k := 2) rfl (by rw [e69]; rfl) (by decide) rfl (fun ls hl => ?_)
              have t69 : x69.toInt = w1_2.toInt + (1 : Int) := ga_add e69 rfl rfl (by omega) (by omega)
              refine lv_goto (tgt := 2) hx hb dX2_hear_66 (by decide) ?_
              exact ih1 x69 z1 y68 (show (2000 - x69.toInt : Int) < (n1 : Int) from by omega) ⟨by omega, by omega⟩ J1 _ _ hP hS _ (lv_sub hl [0, 3, 4] rfl)
            · have t63 : w62_4.toInt < (6 : Int) := gl_nle c63
              refine lv_iload_n hx hb dX2_hear_25 rfl (lv_at hl 1 rfl) ?_
              refine lv_aload_n hx hb dX2_hear_26 rfl (lv_at hl 4 rfl) ?_
              refine qf_get hx hb hts inX5 hown hK hP (q0 := 7 + 2 * i1_) (show _ < _ from by have := hi1_; omega) (hgU_LT ca o hi1_) rfl 0 (by decide) wq_43 (v := .ref (o + (7 + 2 * i1_ + 1))) rfl dX2_hear_27 ?_
              refine lv_iload hx hb dX2_hear_30 (lv_at hl 0 rfl) ?_
              refine qa_iald hx hb hK hP (q0 := 7 + 2 * i1_ + 1) (show _ < _ from by have := hi1_; omega) 0 (N := 6) (hgU_AT ca o hi1_) rfl (gi_in (by omega) (by omega)) dX2_hear_32 ?_
              refine lv_topi (fun x70 e70 => ?_)
              refine lv_aload_n hx hb dX2_hear_33 rfl (lv_at hl 3 rfl) ?_
              refine lv_iload_n hx hb dX2_hear_34 rfl (lv_at hl 2 rfl) ?_
              refine lv_iload hx hb dX2_hear_35 (lv_at hl 0 rfl) ?_
              refine qc_Vip (As := [.int w1_2, .int w62_4]) (rest := [.int x70, .int w62_3]) (k0 := 2) (u_Few_ageOf l D ca o b z1 y1 J1 w1_2 w62_4 ⟨by omega, by omega⟩ ⟨by omega, by omega⟩) kc_yX2_ageOf ⟨hx, hb, hml, hown, hts⟩ wq_759 rfl rfl ⟨Nat.le_of_ble_eq_true rfl, Nat.le_of_ble_eq_true rfl⟩ wq_all hP hK hS qw_Ai (q0 := 110) (by decide) (hgU_110 ca o _ _) rfl rfl hl.1 rfl (Nat.le_of_ble_eq_true rfl) dX2_hear_37 ⟨Nat.zero_le _, Nat.zero_le _⟩ (fun r71 H locs h71 hP hS _ _ => ?_)
              refine lv_imul hx hb dX2_hear_40 ?_
              refine lv_topi (fun x72 e72 => ?_)
              refine lv_iadd hx hb dX2_hear_41 ?_
              refine lv_topi (fun x73 e73 => ?_)
              refine lv_istore_n (lv' := [(3, .int x73), (4, .int w62_4), (2, .int w1_2), (0, .ref (o + 110)), (1, .ref (o + (7 + 2 * i1_)))]) hx hb dX2_hear_42 rfl hl (by decide) rfl (fun ls hl => ?_)
              obtain ⟨x74, e74⟩ : ∃ t : Int32, t = w62_4 + 1 := ⟨_, rfl⟩
              refine lv_iinc (v := x74) (lv' := [(4, .int x74), (3, .int x73), (2, .int w1_2), (0, .ref (o + 110)), (1, .ref (o + (7 + 2 * i1_)))]) hx hb dX2_hear_43 hl (k := 1) rfl (by rw [e74]; rfl) (by decide) rfl (fun ls hl => ?_)
              have t74 : x74.toInt = w62_4.toInt + (1 : Int) := ga_add e74 rfl rfl (by omega) (by omega)
              refine lv_goto (tgt := 18) hx hb dX2_hear_46 (by decide) ?_
              exact ih62 x74 x73 (show (6 - x74.toInt : Int) < (n62 : Int) from by omega) ⟨by omega, by omega⟩ _ _ hP hS _ (lv_sub hl [0, 1, 2, 3, 4] rfl)
        exact loop62 7 0 x61 (show (6 - (0 : Int) : Int) < ((7 : Nat) : Int) from by omega) ⟨by decide, by decide⟩ _ _ hP hS _ (lv_sub hl [0, 1, 2, 3, 4] rfl)
  exact loop1 2001 0 z y (show (2000 - (0 : Int) : Int) < ((2001 : Nat) : Int) from by omega) ⟨by decide, by decide⟩ J0 _ _ hP hS _ (lv_sub hl [0, 1, 2] rfl)
set_option maxRecDepth 100000 in
set_option maxHeartbeats 8000000 in
theorem u_Few_alone (l : Launch) (D : va_G) (ca : Nat → ClassId) (o : Nat) (b z : Nat → Nat → Int32) (y : Nat → Nat → Int64) (J0 : qJU b z)   : qM l yX2_alone cX2_alone 3 (some .int) 1 60 (qPre D vwCl (qT6 ca) o 132 (qG (GU ca o) z y) [.ref (o + 110)]) (va_Qi (fun r (_ : Unit) => True) (qB D vwCl (qT6 ca) o 132 (fun _ : Unit => qG (GU ca o) z y)) (qw_A o 132)) (qw_A o 132) := by
  refine Met.ofW (cc := cX2_alone) (maxL := 3) (ret := (some .int)) (by decide) rfl ?_
  intro p e s m args below meth c s₁ B hml hv
  obtain ⟨rfl, hP, hK⟩ := hv
  have hx := B.exec
  have hb := B.bytes
  have hr := B.returns
  have hts0 := atoms_spec (ws := Cond.code yX2_alone cX2_alone 3 (some .int) :: qtbl) B.pre
  have hts : ∀ w ∈ qtbl, w.before _ s = true := fun w h => hts0 w (List.mem_cons_of_mem _ h)
  have hown : s.vm.findClass RX2 = some m.cls := findClass_of_methodNamed B.named
  have hlocks := B.notSynchronized
  have hS : va_S (qw_A o 132) s.heap s.heap [] := va_S.rf
  have hl := lv_entry ([.ref (o + 110)]) (n := 3) (Nat.le_of_ble_eq_true rfl)
  rw [lg_entry_eq]
  generalize (lg_sl ([.ref (o + 110)]) ++ List.replicate (3 - (lg_sl ([.ref (o + 110)])).length) Slot.unset).toArray = ls at hl ⊢
  have hl : lv_has ls 3 [(0, .ref (o + 110))] := hl
  refine lv_iconst (v := 0) hx hb dX2_alone_0 (by decide) ?_
  refine lv_istore_n (lv' := [(1, .int 0), (0, .ref (o + 110))]) hx hb dX2_alone_1 rfl hl (by decide) rfl (fun ls hl => ?_)
  refine lv_iconst (v := 0) hx hb dX2_alone_2 (by decide) ?_
  refine lv_istore_n (lv' := [(2, .int 0), (1, .int 0), (0, .ref (o + 110))]) hx hb dX2_alone_3 rfl hl (by decide) rfl (fun ls hl => ?_)
  have loop1 : ∀ (n : Nat) (w1_2 : Int32) (w1_1 : Int32), ((2000 - w1_2.toInt : Int) < (n : Int)) → ((0 : Int) ≤ w1_2.toInt ∧ w1_2.toInt ≤ 2000) → ∀ (H : Heap) (locs : List Loc), qw_P D vwCl o 132 (qG (GU ca o) z y) H → va_S (qw_A o 132) s.heap H locs → ∀ (ls : Array Slot), lv_has ls 3 [(2, .int w1_2), (1, .int w1_1), (0, .ref (o + 110))] → W p l e (headSpec (Cond.code yX2_alone cX2_alone 3 (some .int) :: qtbl) ({ frames := 1, cells := 0, slots := 0, locals := 60 })).room s m (([.ref (o + 110)] : List Value).toArray) below meth c H locs 0 0 (MQ below (va_Qi (fun r (_ : Unit) => True) (qB D vwCl (qT6 ca) o 132 (fun _ : Unit => qG (GU ca o) z y)) (qw_A o 132)) (([.ref (o + 110)] : List Value).toArray) s 0 0 (qw_A o 132)) (F0 m 4 ls []) := by
    intro n
    induction n with
    | zero => intro w1_2 w1_1 hb1 hv1_2; exfalso; omega
    | succ n1 ih1 =>
      intro w1_2 w1_1 hb1 hv1_2 H locs hP hS ls hl
      refine lv_iload_n hx hb dX2_alone_4 rfl (lv_at hl 0 rfl) ?_
      refine lv_aload_n hx hb dX2_alone_5 rfl (lv_at hl 2 rfl) ?_
      refine qf_get hx hb hts inX2 hown hK hP (q0 := 110) (by decide) (hgU_110 ca o) rfl 3 (by decide) wq_233 (v := .int (z 110 3)) rfl dX2_alone_6 ?_
      refine lv_topi (fun x2 e2 => ?_)
      have b2 := iU_110_3 J0 e2
      refine lv_icmp_ge (tgt := 35) hx hb dX2_alone_9 (by decide) (fun c3 => ?_) (fun c3 => ?_)
      · have t3 : w1_2.toInt ≥ x2.toInt := gl_le c3
        refine lv_iload_n hx hb dX2_alone_35 rfl (lv_at hl 1 rfl) ?_
        exact W.iret (v := w1_1) hx hb hr (fun t ht hW => ⟨⟨w1_1, (), rfl, trivial, by rw [ht]; exact hP, va_K.moved hW.alike hK⟩, hS.F ht⟩) hS.2.2 dX2_alone_36
      · have t3 : w1_2.toInt < x2.toInt := gl_nle c3
        refine lv_iload_n hx hb dX2_alone_12 rfl (lv_at hl 1 rfl) ?_
        refine lv_aload_n hx hb dX2_alone_13 rfl (lv_at hl 2 rfl) ?_
        refine qf_get hx hb hts inX2 hown hK hP (q0 := 110) (by decide) (hgU_110 ca o) rfl 2 (by decide) wq_232 (v := .ref (o + 113)) rfl dX2_alone_14 ?_
        refine lv_iload_n hx hb dX2_alone_17 rfl (lv_at hl 0 rfl) ?_
        refine qa_zald hx hb hK hP (q0 := 113) (by decide) 2 (N := 2000) (hgU_113 ca o) rfl (gi_in (by omega) (by omega)) dX2_alone_18 ?_
        refine lv_topi (fun x4 e4 => ?_)
        refine lv_if_eq (tgt := 26) hx hb dX2_alone_19 (by decide) (fun c5 => ?_) (fun c5 => ?_)
        · have t5 : x4.toInt = (0 : Int) := gl_eq c5
          refine lv_iconst (v := 0) hx hb dX2_alone_26 (by decide) ?_
          refine lv_iadd hx hb dX2_alone_27 ?_
          refine lv_topi (fun x6 e6 => ?_)
          have gb6_0 := gl_b w1_1
          have gb6_1 := gl_b w1_2
          have gb6_2 := gl_b x2
          have gb6_3 := gl_b x4
          have t6 : x6.toInt = w1_1.toInt + (0 : Int) := ga_add e6 rfl rfl (by omega) (by omega)
          refine lv_istore_n (lv' := [(1, .int x6), (2, .int w1_2), (0, .ref (o + 110))]) hx hb dX2_alone_28 rfl hl (by decide) rfl (fun ls hl => ?_)
          obtain ⟨x7, e7⟩ : ∃ t : Int32, t = w1_2 + 1 := ⟨_, rfl⟩
          refine lv_iinc (v := x7) (lv' := [(2, .int x7), (1, .int x6), (0, .ref (o + 110))]) hx hb dX2_alone_29 hl (k := 1) rfl (by rw [e7]; rfl) (by decide) rfl (fun ls hl => ?_)
          have t7 : x7.toInt = w1_2.toInt + (1 : Int) := ga_add e7 rfl rfl (by omega) (by omega)
          refine lv_goto (tgt := 4) hx hb dX2_alone_32 (by decide) ?_
          exact ih1 x7 x6 (show (2000 - x7.toInt : Int) < (n1 : Int) from by omega) ⟨by omega, by omega⟩ _ _ hP hS _ (lv_sub hl [0, 1, 2] rfl)
        · have t5 : x4.toInt ≠ (0 : Int) := gl_ne c5
          refine lv_iconst (v := 1) hx hb dX2_alone_22 (by decide) ?_
          refine lv_goto (tgt := 27) hx hb dX2_alone_23 (by decide) ?_
          refine lv_iadd hx hb dX2_alone_27 ?_
          refine lv_topi (fun x8 e8 => ?_)
          refine lv_istore_n (lv' := [(1, .int x8), (2, .int w1_2), (0, .ref (o + 110))]) hx hb dX2_alone_28 rfl hl (by decide) rfl (fun ls hl => ?_)
          obtain ⟨x9, e9⟩ : ∃ t : Int32, t = w1_2 + 1 := ⟨_, rfl⟩
          refine lv_iinc (v := x9) (lv' := [(2, .int x9), (1, .int x8), (0, .ref (o + 110))]) hx hb dX2_alone_29 hl (k := 1) rfl (by rw [e9]; rfl) (by decide) rfl (fun ls hl => ?_)
          have t9 : x9.toInt = w1_2.toInt + (1 : Int) := ga_add e9 rfl rfl (by omega) (by omega)
          refine lv_goto (tgt := 4) hx hb dX2_alone_32 (by decide) ?_
          exact ih1 x9 x8 (show (2000 - x9.toInt : Int) < (n1 : Int) from by omega) ⟨by omega, by omega⟩ _ _ hP hS _ (lv_sub hl [0, 1, 2] rfl)
  exact loop1 2001 0 0 (show (2000 - (0 : Int) : Int) < ((2001 : Nat) : Int) from by omega) ⟨by decide, by decide⟩ _ _ hP hS _ (lv_sub hl [0, 1, 2] rfl)
set_option maxRecDepth 100000 in
set_option maxHeartbeats 8000000 in
theorem u_known_q (l : Launch) (D : va_G) (ca : Nat → ClassId) (o : Nat) (b z : Nat → Nat → Int32) (y : Nat → Nat → Int64) (J0 : qJU b z) (a0 : Int32) (a1 : Int32)  : qM l yX10_known cX10_known 3 (some .int) 6 168 (qPre D vwCl (qT6 ca) o 132 (qG (GU ca o) z y) [.ref (o + 0), .int a0, .int a1]) (va_Qi (fun r u => True ∧ qJU b u.1) (qB D vwCl (qT6 ca) o 132 (fun u : qZ => qG (GU ca o) u.1 u.2)) (qw_A o 132)) (qw_A o 132) := by
  refine Met.ofW (cc := cX10_known) (maxL := 3) (ret := (some .int)) (by decide) rfl ?_
  intro p e s m args below meth c s₁ B hml hv
  obtain ⟨rfl, hP, hK⟩ := hv
  have hx := B.exec
  have hb := B.bytes
  have hr := B.returns
  have hts0 := atoms_spec (ws := Cond.code yX10_known cX10_known 3 (some .int) :: qtbl) B.pre
  have hts : ∀ w ∈ qtbl, w.before _ s = true := fun w h => hts0 w (List.mem_cons_of_mem _ h)
  have hown : s.vm.findClass RX10 = some m.cls := findClass_of_methodNamed B.named
  have hlocks := B.notSynchronized
  have hS : va_S (qw_A o 132) s.heap s.heap [] := va_S.rf
  have hl := lv_entry ([.ref (o + 0), .int a0, .int a1]) (n := 3) (Nat.le_of_ble_eq_true rfl)
  rw [lg_entry_eq]
  generalize (lg_sl ([.ref (o + 0), .int a0, .int a1]) ++ List.replicate (3 - (lg_sl ([.ref (o + 0), .int a0, .int a1])).length) Slot.unset).toArray = ls at hl ⊢
  have hl : lv_has ls 3 [(0, .ref (o + 0)), (1, .int a0), (2, .int a1)] := hl
  refine lv_aload_n hx hb dX10_known_0 rfl (lv_at hl 0 rfl) ?_
  refine lv_iload_n hx hb dX10_known_1 rfl (lv_at hl 1 rfl) ?_
  refine qc_Vip (As := [.int a0]) (rest := []) (k0 := 1) (u_areRemarks l D ca o b z y J0 a0) kc_yX10_areRemarks ⟨hx, hb, hml, hown, hts⟩ wq_583 rfl rfl ⟨Nat.le_of_ble_eq_true rfl, Nat.le_of_ble_eq_true rfl⟩ wq_all hP hK hS qw_Ai (q0 := 0) (by decide) (hgU_0 ca o _ _) rfl rfl hl.1 rfl (Nat.le_of_ble_eq_true rfl) dX10_known_2 ⟨Nat.zero_le _, Nat.zero_le _⟩ (fun r1 H locs h1 hP hS _ _ => ?_)
  have b1 : (0 : Int) ≤ r1.toInt ∧ r1.toInt ≤ 1 := h1
  refine lv_if_eq (tgt := 19) hx hb dX10_known_5 (by decide) (fun c2 => ?_) (fun c2 => ?_)
  · have t2 : r1.toInt = (0 : Int) := gl_eq c2
    refine lv_iconst (v := (-1)) hx hb dX10_known_19 (by decide) ?_
    exact W.iret (v := (-1)) hx hb hr (fun t ht hW => ⟨⟨(-1), (z, y), rfl, ⟨trivial, J0⟩, by rw [ht]; exact hP, va_K.moved hW.alike hK⟩, hS.F ht⟩) hS.2.2 dX10_known_20
  · have t2 : r1.toInt ≠ (0 : Int) := gl_ne c2
    refine lv_aload_n hx hb dX10_known_8 rfl (lv_at hl 0 rfl) ?_
    refine qf_get hx hb hts inX10 hown hK hP (q0 := 0) (by decide) (hgU_0 ca o) rfl 0 (by decide) wq_353 (v := .ref (o + 1)) rfl dX10_known_9 ?_
    refine lv_iload_n hx hb dX10_known_12 rfl (lv_at hl 2 rfl) ?_
    refine qc_Vip (As := [.int a1]) (rest := []) (k0 := 1) (u_Told_hasForm l D ca o b z y J0 a1) kc_yX9_hasForm ⟨hx, hb, hml, hown, hts⟩ wq_743 rfl rfl ⟨Nat.le_of_ble_eq_true rfl, Nat.le_of_ble_eq_true rfl⟩ wq_all hP hK hS qw_Ai (q0 := 1) (by decide) (hgU_1 ca o _ _) rfl rfl hl.1 rfl (Nat.le_of_ble_eq_true rfl) dX10_known_13 ⟨Nat.zero_le _, Nat.zero_le _⟩ (fun r3 H locs h3 hP hS _ _ => ?_)
    rcases h3 with ⟨hr3, hf3_0⟩ | hr3
    · subst hr3
      have hg3_0 : 0 ≤ a1.toInt ∧ a1.toInt ≤ 5 := hf3_0
      refine lv_if_ne (tgt := 21) hx hb dX10_known_16 (by decide) (fun _ => ?_) (fun q => absurd q (by decide))
      refine lv_aload_n hx hb dX10_known_21 rfl (lv_at hl 0 rfl) ?_
      refine qf_get hx hb hts inX10 hown hK hP (q0 := 0) (by decide) (hgU_0 ca o) rfl 8 (by decide) wq_361 (v := .ref (o + 110)) rfl dX10_known_22 ?_
      refine lv_aload_n hx hb dX10_known_25 rfl (lv_at hl 0 rfl) ?_
      refine qf_get hx hb hts inX10 hown hK hP (q0 := 0) (by decide) (hgU_0 ca o) rfl 6 (by decide) wq_359 (v := .ref (o + 104)) rfl dX10_known_26 ?_
      refine lv_iload_n hx hb dX10_known_29 rfl (lv_at hl 1 rfl) ?_
      refine qc_Vi2 (As := [.ref (o + 104), .int a0]) (rest := []) (k0 := 2) (u_Few_gather l D ca o b z y J0 a0) kc_yX2_gather ⟨hx, hb, hml, hown, hts⟩ wq_747 rfl rfl ⟨Nat.le_of_ble_eq_true rfl, Nat.le_of_ble_eq_true rfl⟩ wq_all hP hK hS qw_Ai (q0 := 110) (by decide) (hgU_110 ca o _ _) rfl rfl hl.1 rfl (Nat.le_of_ble_eq_true rfl) dX10_known_30 ⟨Nat.zero_le _, Nat.zero_le _⟩ (fun r4 z4 y4 H locs h4 hP hS _ _ => ?_)
      have J4 : qJU b z4 := h4.2
      have b4 : (0 : Int) ≤ r4.toInt ∧ r4.toInt ≤ 1 := h4.1
      refine lv_if_ne (tgt := 39) hx hb dX10_known_33 (by decide) (fun c5 => ?_) (fun c5 => ?_)
      · have t5 : r4.toInt ≠ (0 : Int) := gl_ne c5
        refine lv_aload_n hx hb dX10_known_39 rfl (lv_at hl 0 rfl) ?_
        refine qf_get hx hb hts inX10 hown hK hP (q0 := 0) (by decide) (hgU_0 ca o) rfl 8 (by decide) wq_361 (v := .ref (o + 110)) rfl dX10_known_40 ?_
        refine lv_aload_n hx hb dX10_known_43 rfl (lv_at hl 0 rfl) ?_
        refine qf_get hx hb hts inX10 hown hK hP (q0 := 0) (by decide) (hgU_0 ca o) rfl 0 (by decide) wq_353 (v := .ref (o + 1)) rfl dX10_known_44 ?_
        refine qf_get hx hb hts inX9 hown hK hP (q0 := 1) (by decide) (hgU_1 ca o) rfl 4 (by decide) wq_97 (v := .ref (o + 6)) rfl dX10_known_47 ?_
        refine lv_bipush (v := 10) hx hb dX10_known_50 (by decide) ?_
        refine lv_iload_n hx hb dX10_known_52 rfl (lv_at hl 2 rfl) ?_
        refine lv_iadd hx hb dX10_known_53 ?_
        refine lv_topi (fun x6 e6 => ?_)
        have t6 : x6.toInt = (10 : Int) + a1.toInt := ga_add e6 rfl rfl (by omega) (by omega)
        have hi_x6 : x6.toNatClampNeg < 16 := ga_nat (by omega) (show _ < (16 : Int) from by omega)
        refine qa_aald hx hb hK hP (q0 := 6) (by decide) 4 rfl (N := 16) (hgU_6 ca o) rfl (gi_in (by omega) (by omega)) dX10_known_54 ?_
        refine qc_Vv2 (As := [.ref (o + (7 + 2 * x6.toNatClampNeg))]) (rest := []) (k0 := 1) (u_Few_hear l D ca o b z4 y4 J4 (i1_ := x6.toNatClampNeg) hi_x6) kc_yX2_hear ⟨hx, hb, hml, hown, hts⟩ wq_755 rfl rfl ⟨Nat.le_of_ble_eq_true rfl, Nat.le_of_ble_eq_true rfl⟩ wq_all hP hK hS qw_Ai (q0 := 110) (by decide) (hgU_110 ca o _ _) rfl rfl hl.1 rfl (Nat.le_of_ble_eq_true rfl) dX10_known_55 ⟨Nat.zero_le _, Nat.zero_le _⟩ (fun z7 y7 H locs h7 hP hS _ _ => ?_)
        have J7 : qJU b z7 := h7
        refine lv_aload_n hx hb dX10_known_58 rfl (lv_at hl 0 rfl) ?_
        refine qf_get hx hb hts inX10 hown hK hP (q0 := 0) (by decide) (hgU_0 ca o) rfl 8 (by decide) wq_361 (v := .ref (o + 110)) rfl dX10_known_59 ?_
        refine qc_Vip (As := []) (rest := []) (k0 := 0) (u_Few_alone l D ca o b z7 y7 J7) kc_yX2_alone ⟨hx, hb, hml, hown, hts⟩ wq_776 rfl rfl ⟨Nat.le_of_ble_eq_true rfl, Nat.le_of_ble_eq_true rfl⟩ wq_all hP hK hS qw_Ai (q0 := 110) (by decide) (hgU_110 ca o _ _) rfl rfl hl.1 rfl (Nat.le_of_ble_eq_true rfl) dX10_known_62 ⟨Nat.zero_le _, Nat.zero_le _⟩ (fun r8 H locs h8 hP hS _ _ => ?_)
        exact W.iret (v := r8) hx hb hr (fun t ht hW => ⟨⟨r8, (z7, y7), rfl, ⟨trivial, J7⟩, by rw [ht]; exact hP, va_K.moved hW.alike hK⟩, hS.F ht⟩) hS.2.2 dX10_known_65
      · have t5 : r4.toInt = (0 : Int) := gl_eq c5
        refine lv_bipush (v := (-3)) hx hb dX10_known_36 (by decide) ?_
        exact W.iret (v := (-3)) hx hb hr (fun t ht hW => ⟨⟨(-3), (z4, y4), rfl, ⟨trivial, J4⟩, by rw [ht]; exact hP, va_K.moved hW.alike hK⟩, hS.F ht⟩) hS.2.2 dX10_known_38
    · subst hr3
      refine lv_if_ne (tgt := 21) hx hb dX10_known_16 (by decide) (fun q => absurd q (by decide)) (fun _ => ?_)
      refine lv_iconst (v := (-1)) hx hb dX10_known_19 (by decide) ?_
      exact W.iret (v := (-1)) hx hb hr (fun t ht hW => ⟨⟨(-1), (z, y), rfl, ⟨trivial, J0⟩, by rw [ht]; exact hP, va_K.moved hW.alike hK⟩, hS.F ht⟩) hS.2.2 dX10_known_20
set_option maxRecDepth 100000 in
set_option maxHeartbeats 8000000 in
theorem u_faultOfSayings (l : Launch) (D : va_G) (ca : Nat → ClassId) (o : Nat) (b z : Nat → Nat → Int32) (y : Nat → Nat → Int64) (J0 : qJU b z) (a0 : Int32)  : qM l yX10_faultOfSayings cX10_faultOfSayings 5 (some .int) 3 102 (qPre D vwCl (qT6 ca) o 132 (qG (GU ca o) z y) [.ref (o + 0), .int a0]) (va_Qi (fun r (_ : Unit) => True) (qB D vwCl (qT6 ca) o 132 (fun _ : Unit => qG (GU ca o) z y)) (qw_A o 132)) (qw_A o 132) := by
  refine Met.ofW (cc := cX10_faultOfSayings) (maxL := 5) (ret := (some .int)) (by decide) rfl ?_
  intro p e s m args below meth c s₁ B hml hv
  obtain ⟨rfl, hP, hK⟩ := hv
  have hx := B.exec
  have hb := B.bytes
  have hr := B.returns
  have hts0 := atoms_spec (ws := Cond.code yX10_faultOfSayings cX10_faultOfSayings 5 (some .int) :: qtbl) B.pre
  have hts : ∀ w ∈ qtbl, w.before _ s = true := fun w h => hts0 w (List.mem_cons_of_mem _ h)
  have hown : s.vm.findClass RX10 = some m.cls := findClass_of_methodNamed B.named
  have hlocks := B.notSynchronized
  have hS : va_S (qw_A o 132) s.heap s.heap [] := va_S.rf
  have hl := lv_entry ([.ref (o + 0), .int a0]) (n := 5) (Nat.le_of_ble_eq_true rfl)
  rw [lg_entry_eq]
  generalize (lg_sl ([.ref (o + 0), .int a0]) ++ List.replicate (5 - (lg_sl ([.ref (o + 0), .int a0])).length) Slot.unset).toArray = ls at hl ⊢
  have hl : lv_has ls 5 [(0, .ref (o + 0)), (1, .int a0)] := hl
  refine lv_iconst (v := 0) hx hb dX10_faultOfSayings_0 (by decide) ?_
  refine lv_istore_n (lv' := [(2, .int 0), (0, .ref (o + 0)), (1, .int a0)]) hx hb dX10_faultOfSayings_1 rfl hl (by decide) rfl (fun ls hl => ?_)
  have loop1 : ∀ (n : Nat) (w1_2 : Int32), ((260 - w1_2.toInt : Int) < (n : Int)) → ((0 : Int) ≤ w1_2.toInt ∧ w1_2.toInt ≤ 260) → ∀ (H : Heap) (locs : List Loc), qw_P D vwCl o 132 (qG (GU ca o) z y) H → va_S (qw_A o 132) s.heap H locs → ∀ (ls : Array Slot), lv_has ls 5 [(2, .int w1_2), (0, .ref (o + 0)), (1, .int a0)] → W p l e (headSpec (Cond.code yX10_faultOfSayings cX10_faultOfSayings 5 (some .int) :: qtbl) ({ frames := 3, cells := 0, slots := 0, locals := 102 })).room s m (([.ref (o + 0), .int a0] : List Value).toArray) below meth c H locs 0 0 (MQ below (va_Qi (fun r (_ : Unit) => True) (qB D vwCl (qT6 ca) o 132 (fun _ : Unit => qG (GU ca o) z y)) (qw_A o 132)) (([.ref (o + 0), .int a0] : List Value).toArray) s 0 0 (qw_A o 132)) (F0 m 2 ls []) := by
    intro n
    induction n with
    | zero => intro w1_2 hb1 hv1_2; exfalso; omega
    | succ n1 ih1 =>
      intro w1_2 hb1 hv1_2 H locs hP hS ls hl
      refine lv_iload_n hx hb dX10_faultOfSayings_2 rfl (lv_at hl 0 rfl) ?_
      refine lv_iload_n hx hb dX10_faultOfSayings_3 rfl (lv_at hl 2 rfl) ?_
      refine lv_icmp_ge (tgt := 109) hx hb dX10_faultOfSayings_4 (by decide) (fun c2 => ?_) (fun c2 => ?_)
      · have t2 : w1_2.toInt ≥ a0.toInt := gl_le c2
        refine lv_iload_n hx hb dX10_faultOfSayings_109 rfl (lv_at hl 2 rfl) ?_
        refine lv_iconst (v := 2) hx hb dX10_faultOfSayings_110 (by decide) ?_
        refine lv_irem hx hb dX10_faultOfSayings_111 (by decide) ?_
        refine lv_topi (fun x3 e3 => ?_)
        refine lv_if_ne (tgt := 119) hx hb dX10_faultOfSayings_112 (by decide) (fun c4 => ?_) (fun c4 => ?_)
        · have t4 : x3.toInt ≠ (0 : Int) := gl_ne c4
          refine lv_sipush (v := (-1000)) hx hb dX10_faultOfSayings_119 (by decide) ?_
          refine lv_iload_n hx hb dX10_faultOfSayings_122 rfl (lv_at hl 2 rfl) ?_
          refine lv_isub hx hb dX10_faultOfSayings_123 ?_
          refine lv_topi (fun x5 e5 => ?_)
          have gb5_0 := gl_b a0
          have gb5_1 := gl_b w1_2
          have gb5_2 := gl_b x3
          have t5 : x5.toInt = (-1000 : Int) - a0.toInt := ga_sub e5 rfl rfl (by omega) (by omega)
          exact W.iret (v := x5) hx hb hr (fun t ht hW => ⟨⟨x5, (), rfl, trivial, by rw [ht]; exact hP, va_K.moved hW.alike hK⟩, hS.F ht⟩) hS.2.2 dX10_faultOfSayings_124
        · have t4 : x3.toInt = (0 : Int) := gl_eq c4
          refine lv_iconst (v := 0) hx hb dX10_faultOfSayings_115 (by decide) ?_
          refine lv_goto (tgt := 124) hx hb dX10_faultOfSayings_116 (by decide) ?_
          exact W.iret (v := 0) hx hb hr (fun t ht hW => ⟨⟨0, (), rfl, trivial, by rw [ht]; exact hP, va_K.moved hW.alike hK⟩, hS.F ht⟩) hS.2.2 dX10_faultOfSayings_124
      · have t2 : w1_2.toInt < a0.toInt := gl_nle c2
        refine lv_iload_n hx hb dX10_faultOfSayings_7 rfl (lv_at hl 0 rfl) ?_
        refine lv_sipush (v := 260) hx hb dX10_faultOfSayings_8 (by decide) ?_
        refine lv_icmp_ge (tgt := 109) hx hb dX10_faultOfSayings_11 (by decide) (fun c6 => ?_) (fun c6 => ?_)
        · have t6 : w1_2.toInt ≥ (260 : Int) := gl_le c6
          refine lv_iload_n hx hb dX10_faultOfSayings_109 rfl (lv_at hl 2 rfl) ?_
          refine lv_iconst (v := 2) hx hb dX10_faultOfSayings_110 (by decide) ?_
          refine lv_irem hx hb dX10_faultOfSayings_111 (by decide) ?_
          refine lv_topi (fun x7 e7 => ?_)
          have t7 : x7.toInt = a0.toInt % 2 := ga_rem e7 rfl (by omega) (by decide)
          refine lv_if_ne (tgt := 119) hx hb dX10_faultOfSayings_112 (by decide) (fun c8 => ?_) (fun c8 => ?_)
          · have t8 : x7.toInt ≠ (0 : Int) := gl_ne c8
            refine lv_sipush (v := (-1000)) hx hb dX10_faultOfSayings_119 (by decide) ?_
            refine lv_iload_n hx hb dX10_faultOfSayings_122 rfl (lv_at hl 2 rfl) ?_
            refine lv_isub hx hb dX10_faultOfSayings_123 ?_
            refine lv_topi (fun x9 e9 => ?_)
            exact W.iret (v := x9) hx hb hr (fun t ht hW => ⟨⟨x9, (), rfl, trivial, by rw [ht]; exact hP, va_K.moved hW.alike hK⟩, hS.F ht⟩) hS.2.2 dX10_faultOfSayings_124
          · have t8 : x7.toInt = (0 : Int) := gl_eq c8
            refine lv_iconst (v := 0) hx hb dX10_faultOfSayings_115 (by decide) ?_
            refine lv_goto (tgt := 124) hx hb dX10_faultOfSayings_116 (by decide) ?_
            exact W.iret (v := 0) hx hb hr (fun t ht hW => ⟨⟨0, (), rfl, trivial, by rw [ht]; exact hP, va_K.moved hW.alike hK⟩, hS.F ht⟩) hS.2.2 dX10_faultOfSayings_124
        · have t6 : w1_2.toInt < (260 : Int) := gl_nle c6
          refine lv_aload_n hx hb dX10_faultOfSayings_14 rfl (lv_at hl 1 rfl) ?_
          refine qf_get hx hb hts inX10 hown hK hP (q0 := 0) (by decide) (hgU_0 ca o) rfl 3 (by decide) wq_356 (v := .ref (o + 77)) rfl dX10_faultOfSayings_15 ?_
          refine lv_iload_n hx hb dX10_faultOfSayings_18 rfl (lv_at hl 0 rfl) ?_
          refine qa_iald hx hb hK hP (q0 := 77) (by decide) 0 (N := 260) (hgU_77 ca o) rfl (gi_in (by omega) (by omega)) dX10_faultOfSayings_19 ?_
          refine lv_topi (fun x10 e10 => ?_)
          refine lv_istore_n (lv' := [(3, .int x10), (2, .int w1_2), (0, .ref (o + 0)), (1, .int a0)]) hx hb dX10_faultOfSayings_20 rfl hl (by decide) rfl (fun ls hl => ?_)
          refine lv_iload_n hx hb dX10_faultOfSayings_21 rfl (lv_at hl 1 rfl) ?_
          refine lv_iconst (v := 2) hx hb dX10_faultOfSayings_22 (by decide) ?_
          refine lv_irem hx hb dX10_faultOfSayings_23 (by decide) ?_
          refine lv_topi (fun x11 e11 => ?_)
          have t11 : x11.toInt = w1_2.toInt % 2 := ga_rem e11 rfl (by omega) (by decide)
          refine lv_if_ne (tgt := 47) hx hb dX10_faultOfSayings_24 (by decide) (fun c12 => ?_) (fun c12 => ?_)
          · have t12 : x11.toInt ≠ (0 : Int) := gl_ne c12
            refine lv_iload_n hx hb dX10_faultOfSayings_47 rfl (lv_at hl 0 rfl) ?_
            refine lv_bipush (v := 43) hx hb dX10_faultOfSayings_48 (by decide) ?_
            refine lv_icmp_eq (tgt := 59) hx hb dX10_faultOfSayings_50 (by decide) (fun c13 => ?_) (fun c13 => ?_)
            · have t13 : x10.toInt = (43 : Int) := gl_eq c13
              refine lv_iconst (v := 1) hx hb dX10_faultOfSayings_59 (by decide) ?_
              refine lv_goto (tgt := 64) hx hb dX10_faultOfSayings_60 (by decide) ?_
              refine lv_istore (lv' := [(4, .int 1), (3, .int x10), (2, .int w1_2), (0, .ref (o + 0)), (1, .int a0)]) hx hb dX10_faultOfSayings_64 hl (by decide) rfl (fun ls hl => ?_)
              refine lv_iload hx hb dX10_faultOfSayings_66 (lv_at hl 0 rfl) ?_
              refine lv_if_ne (tgt := 77) hx hb dX10_faultOfSayings_68 (by decide) (fun _ => ?_) (fun q => absurd q (by decide))
              refine lv_iload_n hx hb dX10_faultOfSayings_77 rfl (lv_at hl 2 rfl) ?_
              refine lv_iconst (v := 2) hx hb dX10_faultOfSayings_78 (by decide) ?_
              refine lv_irem hx hb dX10_faultOfSayings_79 (by decide) ?_
              refine lv_topi (fun x14 e14 => ?_)
              have t14 : x14.toInt = x11.toInt := congrArg Int32.toInt (e14.trans e11.symm)
              refine lv_if_ne (tgt := 103) hx hb dX10_faultOfSayings_80 (by decide) (fun c15 => ?_) (fun c15 => ?_)
              · have t15 : x14.toInt ≠ (0 : Int) := gl_ne c15
                obtain ⟨x16, e16⟩ : ∃ t : Int32, t = w1_2 + 1 := ⟨_, rfl⟩
                refine lv_iinc (v := x16) (lv' := [(2, .int x16), (4, .int 1), (3, .int x10), (0, .ref (o + 0)), (1, .int a0)]) hx hb dX10_faultOfSayings_103 hl (k := 2) rfl (by rw [e16]; rfl) (by decide) rfl (fun ls hl => ?_)
                have t16 : x16.toInt = w1_2.toInt + (1 : Int) := ga_add e16 rfl rfl (by omega) (by omega)
                refine lv_goto (tgt := 2) hx hb dX10_faultOfSayings_106 (by decide) ?_
                exact ih1 x16 (show (260 - x16.toInt : Int) < (n1 : Int) from by omega) ⟨by omega, by omega⟩ _ _ hP hS _ (lv_sub hl [0, 3, 4] rfl)
              · have t15 : x14.toInt = (0 : Int) := gl_eq c15
                exfalso; omega
            · have t13 : x10.toInt ≠ (43 : Int) := gl_ne c13
              refine lv_iload_n hx hb dX10_faultOfSayings_53 rfl (lv_at hl 0 rfl) ?_
              refine lv_bipush (v := 45) hx hb dX10_faultOfSayings_54 (by decide) ?_
              refine lv_icmp_ne (tgt := 63) hx hb dX10_faultOfSayings_56 (by decide) (fun c17 => ?_) (fun c17 => ?_)
              · have t17 : x10.toInt ≠ (45 : Int) := gl_ne c17
                refine lv_iconst (v := 0) hx hb dX10_faultOfSayings_63 (by decide) ?_
                refine lv_istore (lv' := [(4, .int 0), (3, .int x10), (2, .int w1_2), (0, .ref (o + 0)), (1, .int a0)]) hx hb dX10_faultOfSayings_64 hl (by decide) rfl (fun ls hl => ?_)
                refine lv_iload hx hb dX10_faultOfSayings_66 (lv_at hl 0 rfl) ?_
                refine lv_if_ne (tgt := 77) hx hb dX10_faultOfSayings_68 (by decide) (fun q => absurd q (by decide)) (fun _ => ?_)
                refine lv_sipush (v := (-1000)) hx hb dX10_faultOfSayings_71 (by decide) ?_
                refine lv_iload_n hx hb dX10_faultOfSayings_74 rfl (lv_at hl 2 rfl) ?_
                refine lv_isub hx hb dX10_faultOfSayings_75 ?_
                refine lv_topi (fun x18 e18 => ?_)
                have t18 : x18.toInt = (-1000 : Int) - w1_2.toInt := ga_sub e18 rfl rfl (by omega) (by omega)
                exact W.iret (v := x18) hx hb hr (fun t ht hW => ⟨⟨x18, (), rfl, trivial, by rw [ht]; exact hP, va_K.moved hW.alike hK⟩, hS.F ht⟩) hS.2.2 dX10_faultOfSayings_76
              · have t17 : x10.toInt = (45 : Int) := gl_eq c17
                refine lv_iconst (v := 1) hx hb dX10_faultOfSayings_59 (by decide) ?_
                refine lv_goto (tgt := 64) hx hb dX10_faultOfSayings_60 (by decide) ?_
                refine lv_istore (lv' := [(4, .int 1), (3, .int x10), (2, .int w1_2), (0, .ref (o + 0)), (1, .int a0)]) hx hb dX10_faultOfSayings_64 hl (by decide) rfl (fun ls hl => ?_)
                refine lv_iload hx hb dX10_faultOfSayings_66 (lv_at hl 0 rfl) ?_
                refine lv_if_ne (tgt := 77) hx hb dX10_faultOfSayings_68 (by decide) (fun _ => ?_) (fun q => absurd q (by decide))
                refine lv_iload_n hx hb dX10_faultOfSayings_77 rfl (lv_at hl 2 rfl) ?_
                refine lv_iconst (v := 2) hx hb dX10_faultOfSayings_78 (by decide) ?_
                refine lv_irem hx hb dX10_faultOfSayings_79 (by decide) ?_
                refine lv_topi (fun x19 e19 => ?_)
                have t19 : x19.toInt = x11.toInt := congrArg Int32.toInt (e19.trans e11.symm)
                refine lv_if_ne (tgt := 103) hx hb dX10_faultOfSayings_80 (by decide) (fun c20 => ?_) (fun c20 => ?_)
                · have t20 : x19.toInt ≠ (0 : Int) := gl_ne c20
                  obtain ⟨x21, e21⟩ : ∃ t : Int32, t = w1_2 + 1 := ⟨_, rfl⟩
                  refine lv_iinc (v := x21) (lv' := [(2, .int x21), (4, .int 1), (3, .int x10), (0, .ref (o + 0)), (1, .int a0)]) hx hb dX10_faultOfSayings_103 hl (k := 2) rfl (by rw [e21]; rfl) (by decide) rfl (fun ls hl => ?_)
                  have t21 : x21.toInt = w1_2.toInt + (1 : Int) := ga_add e21 rfl rfl (by omega) (by omega)
                  refine lv_goto (tgt := 2) hx hb dX10_faultOfSayings_106 (by decide) ?_
                  exact ih1 x21 (show (260 - x21.toInt : Int) < (n1 : Int) from by omega) ⟨by omega, by omega⟩ _ _ hP hS _ (lv_sub hl [0, 3, 4] rfl)
                · have t20 : x19.toInt = (0 : Int) := gl_eq c20
                  exfalso; omega
          · have t12 : x11.toInt = (0 : Int) := gl_eq c12
            refine lv_iload_n hx hb dX10_faultOfSayings_27 rfl (lv_at hl 0 rfl) ?_
            refine lv_bipush (v := 65) hx hb dX10_faultOfSayings_28 (by decide) ?_
            refine lv_icmp_lt (tgt := 43) hx hb dX10_faultOfSayings_30 (by decide) (fun c22 => ?_) (fun c22 => ?_)
            · have t22 : x10.toInt < (65 : Int) := gl_lt c22
              refine lv_iconst (v := 0) hx hb dX10_faultOfSayings_43 (by decide) ?_
              refine lv_goto (tgt := 64) hx hb dX10_faultOfSayings_44 (by decide) ?_
              refine lv_istore (lv' := [(4, .int 0), (3, .int x10), (2, .int w1_2), (0, .ref (o + 0)), (1, .int a0)]) hx hb dX10_faultOfSayings_64 hl (by decide) rfl (fun ls hl => ?_)
              refine lv_iload hx hb dX10_faultOfSayings_66 (lv_at hl 0 rfl) ?_
              refine lv_if_ne (tgt := 77) hx hb dX10_faultOfSayings_68 (by decide) (fun q => absurd q (by decide)) (fun _ => ?_)
              refine lv_sipush (v := (-1000)) hx hb dX10_faultOfSayings_71 (by decide) ?_
              refine lv_iload_n hx hb dX10_faultOfSayings_74 rfl (lv_at hl 2 rfl) ?_
              refine lv_isub hx hb dX10_faultOfSayings_75 ?_
              refine lv_topi (fun x23 e23 => ?_)
              have t23 : x23.toInt = (-1000 : Int) - w1_2.toInt := ga_sub e23 rfl rfl (by omega) (by omega)
              exact W.iret (v := x23) hx hb hr (fun t ht hW => ⟨⟨x23, (), rfl, trivial, by rw [ht]; exact hP, va_K.moved hW.alike hK⟩, hS.F ht⟩) hS.2.2 dX10_faultOfSayings_76
            · have t22 : x10.toInt ≥ (65 : Int) := gl_nlt c22
              refine lv_iload_n hx hb dX10_faultOfSayings_33 rfl (lv_at hl 0 rfl) ?_
              refine lv_bipush (v := 70) hx hb dX10_faultOfSayings_34 (by decide) ?_
              refine lv_icmp_gt (tgt := 43) hx hb dX10_faultOfSayings_36 (by decide) (fun c24 => ?_) (fun c24 => ?_)
              · have t24 : x10.toInt > (70 : Int) := gl_lt c24
                refine lv_iconst (v := 0) hx hb dX10_faultOfSayings_43 (by decide) ?_
                refine lv_goto (tgt := 64) hx hb dX10_faultOfSayings_44 (by decide) ?_
                refine lv_istore (lv' := [(4, .int 0), (3, .int x10), (2, .int w1_2), (0, .ref (o + 0)), (1, .int a0)]) hx hb dX10_faultOfSayings_64 hl (by decide) rfl (fun ls hl => ?_)
                refine lv_iload hx hb dX10_faultOfSayings_66 (lv_at hl 0 rfl) ?_
                refine lv_if_ne (tgt := 77) hx hb dX10_faultOfSayings_68 (by decide) (fun q => absurd q (by decide)) (fun _ => ?_)
                refine lv_sipush (v := (-1000)) hx hb dX10_faultOfSayings_71 (by decide) ?_
                refine lv_iload_n hx hb dX10_faultOfSayings_74 rfl (lv_at hl 2 rfl) ?_
                refine lv_isub hx hb dX10_faultOfSayings_75 ?_
                refine lv_topi (fun x25 e25 => ?_)
                have t25 : x25.toInt = (-1000 : Int) - w1_2.toInt := ga_sub e25 rfl rfl (by omega) (by omega)
                exact W.iret (v := x25) hx hb hr (fun t ht hW => ⟨⟨x25, (), rfl, trivial, by rw [ht]; exact hP, va_K.moved hW.alike hK⟩, hS.F ht⟩) hS.2.2 dX10_faultOfSayings_76
              · have t24 : x10.toInt ≤ (70 : Int) := gl_nlt c24
                refine lv_iconst (v := 1) hx hb dX10_faultOfSayings_39 (by decide) ?_
                refine lv_goto (tgt := 64) hx hb dX10_faultOfSayings_40 (by decide) ?_
                refine lv_istore (lv' := [(4, .int 1), (3, .int x10), (2, .int w1_2), (0, .ref (o + 0)), (1, .int a0)]) hx hb dX10_faultOfSayings_64 hl (by decide) rfl (fun ls hl => ?_)
                refine lv_iload hx hb dX10_faultOfSayings_66 (lv_at hl 0 rfl) ?_
                refine lv_if_ne (tgt := 77) hx hb dX10_faultOfSayings_68 (by decide) (fun _ => ?_) (fun q => absurd q (by decide))
                refine lv_iload_n hx hb dX10_faultOfSayings_77 rfl (lv_at hl 2 rfl) ?_
                refine lv_iconst (v := 2) hx hb dX10_faultOfSayings_78 (by decide) ?_
                refine lv_irem hx hb dX10_faultOfSayings_79 (by decide) ?_
                refine lv_topi (fun x26 e26 => ?_)
                have t26 : x26.toInt = x11.toInt := congrArg Int32.toInt (e26.trans e11.symm)
                refine lv_if_ne (tgt := 103) hx hb dX10_faultOfSayings_80 (by decide) (fun c27 => ?_) (fun c27 => ?_)
                · have t27 : x26.toInt ≠ (0 : Int) := gl_ne c27
                  exfalso; omega
                · have t27 : x26.toInt = (0 : Int) := gl_eq c27
                  refine lv_aload_n hx hb dX10_faultOfSayings_83 rfl (lv_at hl 3 rfl) ?_
                  refine qf_get hx hb hts inX10 hown hK hP (q0 := 0) (by decide) (hgU_0 ca o) rfl 0 (by decide) wq_353 (v := .ref (o + 1)) rfl dX10_faultOfSayings_84 ?_
                  refine lv_iload_n hx hb dX10_faultOfSayings_87 rfl (lv_at hl 1 rfl) ?_
                  refine lv_bipush (v := 65) hx hb dX10_faultOfSayings_88 (by decide) ?_
                  refine lv_isub hx hb dX10_faultOfSayings_90 ?_
                  refine lv_topi (fun x28 e28 => ?_)
                  have t28 : x28.toInt = x10.toInt - (65 : Int) := ga_sub e28 rfl rfl (by omega) (by omega)
                  refine qc_Vip (As := [.int x28]) (rest := []) (k0 := 1) (u_Told_hasForm l D ca o b z y J0 x28) kc_yX9_hasForm ⟨hx, hb, hml, hown, hts⟩ wq_743 rfl rfl ⟨Nat.le_of_ble_eq_true rfl, Nat.le_of_ble_eq_true rfl⟩ wq_all hP hK hS qw_Ai (q0 := 1) (by decide) (hgU_1 ca o _ _) rfl rfl hl.1 rfl (Nat.le_of_ble_eq_true rfl) dX10_faultOfSayings_91 ⟨Nat.zero_le _, Nat.zero_le _⟩ (fun r29 H locs h29 hP hS _ _ => ?_)
                  rcases h29 with ⟨hr29, hf29_0⟩ | hr29
                  · subst hr29
                    have hg29_0 : 0 ≤ x28.toInt ∧ x28.toInt ≤ 5 := hf29_0
                    refine lv_if_ne (tgt := 103) hx hb dX10_faultOfSayings_94 (by decide) (fun _ => ?_) (fun q => absurd q (by decide))
                    obtain ⟨x30, e30⟩ : ∃ t : Int32, t = w1_2 + 1 := ⟨_, rfl⟩
                    refine lv_iinc (v := x30) (lv' := [(2, .int x30), (4, .int 1), (3, .int x10), (0, .ref (o + 0)), (1, .int a0)]) hx hb dX10_faultOfSayings_103 hl (k := 2) rfl (by rw [e30]; rfl) (by decide) rfl (fun ls hl => ?_)
                    have t30 : x30.toInt = w1_2.toInt + (1 : Int) := ga_add e30 rfl rfl (by omega) (by omega)
                    refine lv_goto (tgt := 2) hx hb dX10_faultOfSayings_106 (by decide) ?_
                    exact ih1 x30 (show (260 - x30.toInt : Int) < (n1 : Int) from by omega) ⟨by omega, by omega⟩ _ _ hP hS _ (lv_sub hl [0, 3, 4] rfl)
                  · subst hr29
                    refine lv_if_ne (tgt := 103) hx hb dX10_faultOfSayings_94 (by decide) (fun q => absurd q (by decide)) (fun _ => ?_)
                    refine lv_sipush (v := (-7000)) hx hb dX10_faultOfSayings_97 (by decide) ?_
                    refine lv_iload_n hx hb dX10_faultOfSayings_100 rfl (lv_at hl 2 rfl) ?_
                    refine lv_isub hx hb dX10_faultOfSayings_101 ?_
                    refine lv_topi (fun x31 e31 => ?_)
                    have t31 : x31.toInt = (-7000 : Int) - w1_2.toInt := ga_sub e31 rfl rfl (by omega) (by omega)
                    exact W.iret (v := x31) hx hb hr (fun t ht hW => ⟨⟨x31, (), rfl, trivial, by rw [ht]; exact hP, va_K.moved hW.alike hK⟩, hS.F ht⟩) hS.2.2 dX10_faultOfSayings_102
  exact loop1 261 0 (show (260 - (0 : Int) : Int) < ((261 : Nat) : Int) from by omega) ⟨by decide, by decide⟩ _ _ hP hS _ (lv_sub hl [0, 1, 2] rfl)
set_option maxRecDepth 100000 in
set_option maxHeartbeats 8000000 in
theorem u_Few_leave (l : Launch) (D : va_G) (ca : Nat → ClassId) (o : Nat) (b z : Nat → Nat → Int32) (y : Nat → Nat → Int64) (J0 : qJU b z) (a0 : Int32)  : qM l yX2_leave cX2_leave 4 none 2 80 (qPre D vwCl (qT6 ca) o 132 (qG (GU ca o) z y) [.ref (o + 110), .int a0]) (va_Qv (fun u => qJU b u.1) (qB D vwCl (qT6 ca) o 132 (fun u : qZ => qG (GU ca o) u.1 u.2)) (qw_A o 132)) (qw_A o 132) := by
  refine Met.ofW (cc := cX2_leave) (maxL := 4) (ret := none) (by decide) rfl ?_
  intro p e s m args below meth c s₁ B hml hv
  obtain ⟨rfl, hP, hK⟩ := hv
  have hx := B.exec
  have hb := B.bytes
  have hr := B.returns
  have hts0 := atoms_spec (ws := Cond.code yX2_leave cX2_leave 4 none :: qtbl) B.pre
  have hts : ∀ w ∈ qtbl, w.before _ s = true := fun w h => hts0 w (List.mem_cons_of_mem _ h)
  have hown : s.vm.findClass RX2 = some m.cls := findClass_of_methodNamed B.named
  have hlocks := B.notSynchronized
  have hS : va_S (qw_A o 132) s.heap s.heap [] := va_S.rf
  have hl := lv_entry ([.ref (o + 110), .int a0]) (n := 4) (Nat.le_of_ble_eq_true rfl)
  rw [lg_entry_eq]
  generalize (lg_sl ([.ref (o + 110), .int a0]) ++ List.replicate (4 - (lg_sl ([.ref (o + 110), .int a0])).length) Slot.unset).toArray = ls at hl ⊢
  have hl : lv_has ls 4 [(0, .ref (o + 110)), (1, .int a0)] := hl
  refine lv_iconst (v := 0) hx hb dX2_leave_0 (by decide) ?_
  refine lv_istore_n (lv' := [(2, .int 0), (0, .ref (o + 110)), (1, .int a0)]) hx hb dX2_leave_1 rfl hl (by decide) rfl (fun ls hl => ?_)
  refine lv_iconst (v := 0) hx hb dX2_leave_2 (by decide) ?_
  refine lv_istore_n (lv' := [(3, .int 0), (2, .int 0), (0, .ref (o + 110)), (1, .int a0)]) hx hb dX2_leave_3 rfl hl (by decide) rfl (fun ls hl => ?_)
  have loop1 : ∀ (n : Nat) (w1_3 : Int32) (w1_2 : Int32) (z1 : Nat → Nat → Int32) (y1 : Nat → Nat → Int64), ((2000 - w1_3.toInt : Int) < (n : Int)) → ((0 : Int) ≤ w1_3.toInt ∧ w1_3.toInt ≤ 2000) → ((0 : Int) ≤ w1_2.toInt ∧ w1_2.toInt ≤ 2000) → (qJU b z1) → (w1_2.toInt ≤ w1_3.toInt) → ∀ (H : Heap) (locs : List Loc), qw_P D vwCl o 132 (qG (GU ca o) z1 y1) H → va_S (qw_A o 132) s.heap H locs → ∀ (ls : Array Slot), lv_has ls 4 [(3, .int w1_3), (2, .int w1_2), (0, .ref (o + 110)), (1, .int a0)] → W p l e (headSpec (Cond.code yX2_leave cX2_leave 4 none :: qtbl) ({ frames := 2, cells := 0, slots := 0, locals := 80 })).room s m (([.ref (o + 110), .int a0] : List Value).toArray) below meth c H locs 0 0 (MQ below (va_Qv (fun u => qJU b u.1) (qB D vwCl (qT6 ca) o 132 (fun u : qZ => qG (GU ca o) u.1 u.2)) (qw_A o 132)) (([.ref (o + 110), .int a0] : List Value).toArray) s 0 0 (qw_A o 132)) (F0 m 4 ls []) := by
    intro n
    induction n with
    | zero => intro w1_3 w1_2 z1 y1 hb1 hv1_3 hv1_2 J1 v1_0; exfalso; omega
    | succ n1 ih1 =>
      intro w1_3 w1_2 z1 y1 hb1 hv1_3 hv1_2 J1 v1_0 H locs hP hS ls hl
      refine lv_iload_n hx hb dX2_leave_4 rfl (lv_at hl 0 rfl) ?_
      refine lv_aload_n hx hb dX2_leave_5 rfl (lv_at hl 2 rfl) ?_
      refine qf_get hx hb hts inX2 hown hK hP (q0 := 110) (by decide) (hgU_110 ca o) rfl 3 (by decide) wq_233 (v := .int (z1 110 3)) rfl dX2_leave_6 ?_
      refine lv_topi (fun x2 e2 => ?_)
      have b2 := iU_110_3 J1 e2
      refine lv_icmp_ge (tgt := 52) hx hb dX2_leave_9 (by decide) (fun c3 => ?_) (fun c3 => ?_)
      · have t3 : w1_3.toInt ≥ x2.toInt := gl_le c3
        refine lv_aload_n hx hb dX2_leave_52 rfl (lv_at hl 2 rfl) ?_
        refine lv_iload_n hx hb dX2_leave_53 rfl (lv_at hl 1 rfl) ?_
        refine qf_put2 hx hb hts inX2 tyX2 tyX2_ok nmX2 hown hK hP hS qw_Ai (q0 := 110) (by decide) (hgU_110 ca o) rfl 3 (by decide) wq_233 rfl (x := w1_2) 3 rfl rfl rfl (Nat.le_of_ble_eq_true rfl) dX2_leave_54 (fun z4 H locs hz4 hP hS => ?_)
        have J4 := jU_110_3 J1 hz4 ⟨by omega, by omega⟩
        exact W.vret hx hb hr (fun t ht hW => ⟨⟨(z4, y1), rfl, J4, by rw [ht]; exact hP, va_K.moved hW.alike hK⟩, hS.F ht⟩) hS.2.2 dX2_leave_57
      · have t3 : w1_3.toInt < x2.toInt := gl_nle c3
        refine lv_aload_n hx hb dX2_leave_12 rfl (lv_at hl 2 rfl) ?_
        refine qf_get hx hb hts inX2 hown hK hP (q0 := 110) (by decide) (hgU_110 ca o) rfl 2 (by decide) wq_232 (v := .ref (o + 113)) rfl dX2_leave_13 ?_
        refine lv_iload_n hx hb dX2_leave_16 rfl (lv_at hl 0 rfl) ?_
        refine qa_zald hx hb hK hP (q0 := 113) (by decide) 2 (N := 2000) (hgU_113 ca o) rfl (gi_in (by omega) (by omega)) dX2_leave_17 ?_
        refine lv_topi (fun x5 e5 => ?_)
        refine lv_iload_n hx hb dX2_leave_18 rfl (lv_at hl 3 rfl) ?_
        refine lv_icmp_ne (tgt := 46) hx hb dX2_leave_19 (by decide) (fun c6 => ?_) (fun c6 => ?_)
        · have t6 : x5.toInt ≠ a0.toInt := gl_ne c6
          obtain ⟨x7, e7⟩ : ∃ t : Int32, t = w1_3 + 1 := ⟨_, rfl⟩
          refine lv_iinc (v := x7) (lv' := [(3, .int x7), (2, .int w1_2), (0, .ref (o + 110)), (1, .int a0)]) hx hb dX2_leave_46 hl (k := 0) rfl (by rw [e7]; rfl) (by decide) rfl (fun ls hl => ?_)
          have t7 : x7.toInt = w1_3.toInt + (1 : Int) := ga_add e7 rfl rfl (by omega) (by omega)
          refine lv_goto (tgt := 4) hx hb dX2_leave_49 (by decide) ?_
          exact ih1 x7 w1_2 z1 y1 (show (2000 - x7.toInt : Int) < (n1 : Int) from by omega) ⟨by omega, by omega⟩ ⟨by omega, by omega⟩ J1 (show w1_2.toInt ≤ x7.toInt from by omega) _ _ hP hS _ (lv_sub hl [0, 1, 2, 3] rfl)
        · have t6 : x5.toInt = a0.toInt := gl_eq c6
          refine lv_aload_n hx hb dX2_leave_22 rfl (lv_at hl 2 rfl) ?_
          refine qf_get hx hb hts inX2 hown hK hP (q0 := 110) (by decide) (hgU_110 ca o) rfl 0 (by decide) wq_229 (v := .ref (o + 111)) rfl dX2_leave_23 ?_
          refine lv_iload_n hx hb dX2_leave_26 rfl (lv_at hl 0 rfl) ?_
          refine lv_bipush (v := 6) hx hb dX2_leave_27 (by decide) ?_
          refine lv_imul hx hb dX2_leave_29 ?_
          refine lv_topi (fun x8 e8 => ?_)
          have t8 : x8.toInt = w1_3.toInt * (6 : Int) := ga_mul e8 rfl rfl (by omega) (by omega)
          refine lv_aload_n hx hb dX2_leave_30 rfl (lv_at hl 2 rfl) ?_
          refine qf_get hx hb hts inX2 hown hK hP (q0 := 110) (by decide) (hgU_110 ca o) rfl 0 (by decide) wq_229 (v := .ref (o + 111)) rfl dX2_leave_31 ?_
          refine lv_iload_n hx hb dX2_leave_34 rfl (lv_at hl 1 rfl) ?_
          refine lv_bipush (v := 6) hx hb dX2_leave_35 (by decide) ?_
          refine lv_imul hx hb dX2_leave_37 ?_
          refine lv_topi (fun x9 e9 => ?_)
          have t9 : x9.toInt = w1_2.toInt * (6 : Int) := ga_mul e9 rfl rfl (by omega) (by omega)
          refine lv_bipush (v := 6) hx hb dX2_leave_38 (by decide) ?_
          refine qa_copy2 hx hb (hml.trans hl.1.symm) hown (hts _ wq_754) (hts _ wq_485) (hts _ wq_484) (hts _ wq_15) hK hP hS qw_Ai (q0 := 111) (q1 := 111) (by decide) (by decide) 0 (hgU_111 ca o) (hgU_111 ca o) rfl (sp := x8) (dp := x9) (k := 6) (gr_nlt (show (0 : Int) ≤ x8.toInt from by omega)) (gr_nlt (show (0 : Int) ≤ x9.toInt from by omega)) (by decide) (by show x8.toInt.toNat + Int32.toNatClampNeg 6 ≤ 12000; have : Int32.toNatClampNeg 6 = 6 := (by decide); omega) (by show x9.toInt.toNat + Int32.toNatClampNeg 6 ≤ 12000; have : Int32.toNatClampNeg 6 = 6 := (by decide); omega) (Nat.le_of_ble_eq_true rfl) (Nat.le_of_ble_eq_true rfl) dX2_leave_40 (fun z10 H locs hz10 hP hS => ?_)
          have J10 := jfU_111 J1 hz10
          obtain ⟨x11, e11⟩ : ∃ t : Int32, t = w1_2 + 1 := ⟨_, rfl⟩
          refine lv_iinc (v := x11) (lv' := [(2, .int x11), (3, .int w1_3), (0, .ref (o + 110)), (1, .int a0)]) hx hb dX2_leave_43 hl (k := 1) rfl (by rw [e11]; rfl) (by decide) rfl (fun ls hl => ?_)
          have t11 : x11.toInt = w1_2.toInt + (1 : Int) := ga_add e11 rfl rfl (by omega) (by omega)
          obtain ⟨x12, e12⟩ : ∃ t : Int32, t = w1_3 + 1 := ⟨_, rfl⟩
          refine lv_iinc (v := x12) (lv' := [(3, .int x12), (2, .int x11), (0, .ref (o + 110)), (1, .int a0)]) hx hb dX2_leave_46 hl (k := 1) rfl (by rw [e12]; rfl) (by decide) rfl (fun ls hl => ?_)
          have t12 : x12.toInt = w1_3.toInt + (1 : Int) := ga_add e12 rfl rfl (by omega) (by omega)
          refine lv_goto (tgt := 4) hx hb dX2_leave_49 (by decide) ?_
          exact ih1 x12 x11 z10 y1 (show (2000 - x12.toInt : Int) < (n1 : Int) from by omega) ⟨by omega, by omega⟩ ⟨by omega, by omega⟩ J10 (show x11.toInt ≤ x12.toInt from by omega) _ _ hP hS _ (lv_sub hl [0, 1, 2, 3] rfl)
  exact loop1 2001 0 0 z y (show (2000 - (0 : Int) : Int) < ((2001 : Nat) : Int) from by omega) ⟨by decide, by decide⟩ ⟨by decide, by decide⟩ J0 (show (0 : Int) ≤ (0 : Int) from by omega) _ _ hP hS _ (lv_sub hl [0, 1, 2, 3] rfl)
set_option maxRecDepth 100000 in
set_option maxHeartbeats 8000000 in
theorem u_sayings (l : Launch) (D : va_G) (ca : Nat → ClassId) (o : Nat) (b z : Nat → Nat → Int32) (y : Nat → Nat → Int64) (J0 : qJU b z) (a0 : Int32) (a1 : Int32) (a2 : Int32)  : qM l yX10_sayings cX10_sayings 7 (some .int) 6 168 (qPre D vwCl (qT6 ca) o 132 (qG (GU ca o) z y) [.ref (o + 0), .int a0, .int a1, .int a2]) (va_Qi (fun r u => True ∧ qJU b u.1) (qB D vwCl (qT6 ca) o 132 (fun u : qZ => qG (GU ca o) u.1 u.2)) (qw_A o 132)) (qw_A o 132) := by
  refine Met.ofW (cc := cX10_sayings) (maxL := 7) (ret := (some .int)) (by decide) rfl ?_
  intro p e s m args below meth c s₁ B hml hv
  obtain ⟨rfl, hP, hK⟩ := hv
  have hx := B.exec
  have hb := B.bytes
  have hr := B.returns
  have hts0 := atoms_spec (ws := Cond.code yX10_sayings cX10_sayings 7 (some .int) :: qtbl) B.pre
  have hts : ∀ w ∈ qtbl, w.before _ s = true := fun w h => hts0 w (List.mem_cons_of_mem _ h)
  have hown : s.vm.findClass RX10 = some m.cls := findClass_of_methodNamed B.named
  have hlocks := B.notSynchronized
  have hS : va_S (qw_A o 132) s.heap s.heap [] := va_S.rf
  have hl := lv_entry ([.ref (o + 0), .int a0, .int a1, .int a2]) (n := 7) (Nat.le_of_ble_eq_true rfl)
  rw [lg_entry_eq]
  generalize (lg_sl ([.ref (o + 0), .int a0, .int a1, .int a2]) ++ List.replicate (7 - (lg_sl ([.ref (o + 0), .int a0, .int a1, .int a2])).length) Slot.unset).toArray = ls at hl ⊢
  have hl : lv_has ls 7 [(0, .ref (o + 0)), (1, .int a0), (2, .int a1), (3, .int a2)] := hl
  refine lv_aload_n hx hb dX10_sayings_0 rfl (lv_at hl 0 rfl) ?_
  refine lv_iload_n hx hb dX10_sayings_1 rfl (lv_at hl 1 rfl) ?_
  refine qc_Vip (As := [.int a0]) (rest := []) (k0 := 1) (u_areRemarks l D ca o b z y J0 a0) kc_yX10_areRemarks ⟨hx, hb, hml, hown, hts⟩ wq_583 rfl rfl ⟨Nat.le_of_ble_eq_true rfl, Nat.le_of_ble_eq_true rfl⟩ wq_all hP hK hS qw_Ai (q0 := 0) (by decide) (hgU_0 ca o _ _) rfl rfl hl.1 rfl (Nat.le_of_ble_eq_true rfl) dX10_sayings_2 ⟨Nat.zero_le _, Nat.zero_le _⟩ (fun r1 H locs h1 hP hS _ _ => ?_)
  have b1 : (0 : Int) ≤ r1.toInt ∧ r1.toInt ≤ 1 := h1
  refine lv_if_eq (tgt := 35) hx hb dX10_sayings_5 (by decide) (fun c2 => ?_) (fun c2 => ?_)
  · have t2 : r1.toInt = (0 : Int) := gl_eq c2
    refine lv_iconst (v := (-1)) hx hb dX10_sayings_35 (by decide) ?_
    exact W.iret (v := (-1)) hx hb hr (fun t ht hW => ⟨⟨(-1), (z, y), rfl, ⟨trivial, J0⟩, by rw [ht]; exact hP, va_K.moved hW.alike hK⟩, hS.F ht⟩) hS.2.2 dX10_sayings_36
  · have t2 : r1.toInt ≠ (0 : Int) := gl_ne c2
    refine lv_iload_n hx hb dX10_sayings_8 rfl (lv_at hl 3 rfl) ?_
    refine lv_bipush (v := 100) hx hb dX10_sayings_9 (by decide) ?_
    refine lv_icmp_eq (tgt := 25) hx hb dX10_sayings_11 (by decide) (fun c3 => ?_) (fun c3 => ?_)
    · have t3 : a2.toInt = (100 : Int) := gl_eq c3
      refine lv_aload_n hx hb dX10_sayings_25 rfl (lv_at hl 0 rfl) ?_
      refine lv_iload_n hx hb dX10_sayings_26 rfl (lv_at hl 2 rfl) ?_
      refine lv_bipush (v := 20) hx hb dX10_sayings_27 (by decide) ?_
      refine qc_Vip (As := [.int a1, .int 20]) (rest := []) (k0 := 2) (u_isText l D ca o b z y J0 a1 20) kc_yX10_isText ⟨hx, hb, hml, hown, hts⟩ wq_431 rfl rfl ⟨Nat.le_of_ble_eq_true rfl, Nat.le_of_ble_eq_true rfl⟩ wq_all hP hK hS qw_Ai (q0 := 0) (by decide) (hgU_0 ca o _ _) rfl rfl hl.1 rfl (Nat.le_of_ble_eq_true rfl) dX10_sayings_29 ⟨Nat.zero_le _, Nat.zero_le _⟩ (fun r4 H locs h4 hP hS _ _ => ?_)
      rcases h4 with ⟨hr4, hf4_0⟩ | hr4
      · subst hr4
        have hg4_0 : 1 ≤ a1.toInt ∧ a1.toInt ≤ (20 : Int) := hf4_0
        refine lv_if_ne (tgt := 37) hx hb dX10_sayings_32 (by decide) (fun _ => ?_) (fun q => absurd q (by decide))
        refine lv_aload_n hx hb dX10_sayings_37 rfl (lv_at hl 0 rfl) ?_
        refine lv_iconst (v := 0) hx hb dX10_sayings_38 (by decide) ?_
        refine qf_put2 hx hb hts inX10 tyX10 tyX10_ok nmX10 hown hK hP hS qw_Ai (q0 := 0) (by decide) (hgU_0 ca o) rfl 4 (by decide) wq_357 rfl (x := 0) 4 rfl rfl rfl (Nat.le_of_ble_eq_true rfl) dX10_sayings_39 (fun z5 H locs hz5 hP hS => ?_)
        have J5 := jU_0_4 J0 hz5 ⟨by decide, by decide⟩
        refine lv_aload_n hx hb dX10_sayings_42 rfl (lv_at hl 0 rfl) ?_
        refine lv_iload_n hx hb dX10_sayings_43 rfl (lv_at hl 2 rfl) ?_
        refine qc_Vip (As := [.int a1]) (rest := []) (k0 := 1) (u_faultOfSayings l D ca o b z5 y J5 a1) kc_yX10_faultOfSayings ⟨hx, hb, hml, hown, hts⟩ wq_792 rfl rfl ⟨Nat.le_of_ble_eq_true rfl, Nat.le_of_ble_eq_true rfl⟩ wq_all hP hK hS qw_Ai (q0 := 0) (by decide) (hgU_0 ca o _ _) rfl rfl hl.1 rfl (Nat.le_of_ble_eq_true rfl) dX10_sayings_44 ⟨Nat.zero_le _, Nat.zero_le _⟩ (fun r6 H locs h6 hP hS _ _ => ?_)
        refine lv_istore (lv' := [(4, .int r6), (0, .ref (o + 0)), (1, .int a0), (2, .int a1), (3, .int a2)]) hx hb dX10_sayings_47 hl (by decide) rfl (fun ls hl => ?_)
        refine lv_iload hx hb dX10_sayings_49 (lv_at hl 0 rfl) ?_
        refine lv_if_ge (tgt := 57) hx hb dX10_sayings_51 (by decide) (fun c7 => ?_) (fun c7 => ?_)
        · have t7 : r6.toInt ≥ (0 : Int) := gl_le c7
          refine lv_aload_n hx hb dX10_sayings_57 rfl (lv_at hl 1 rfl) ?_
          refine qf_get hx hb hts inX10 hown hK hP (q0 := 0) (by decide) (hgU_0 ca o) rfl 8 (by decide) wq_361 (v := .ref (o + 110)) rfl dX10_sayings_58 ?_
          refine lv_aload_n hx hb dX10_sayings_61 rfl (lv_at hl 1 rfl) ?_
          refine qf_get hx hb hts inX10 hown hK hP (q0 := 0) (by decide) (hgU_0 ca o) rfl 6 (by decide) wq_359 (v := .ref (o + 104)) rfl dX10_sayings_62 ?_
          refine lv_iload_n hx hb dX10_sayings_65 rfl (lv_at hl 2 rfl) ?_
          refine qc_Vi2 (As := [.ref (o + 104), .int a0]) (rest := []) (k0 := 2) (u_Few_gather l D ca o b z5 y J5 a0) kc_yX2_gather ⟨hx, hb, hml, hown, hts⟩ wq_747 rfl rfl ⟨Nat.le_of_ble_eq_true rfl, Nat.le_of_ble_eq_true rfl⟩ wq_all hP hK hS qw_Ai (q0 := 110) (by decide) (hgU_110 ca o _ _) rfl rfl hl.1 rfl (Nat.le_of_ble_eq_true rfl) dX10_sayings_66 ⟨Nat.zero_le _, Nat.zero_le _⟩ (fun r8 z8 y8 H locs h8 hP hS _ _ => ?_)
          have J8 : qJU b z8 := h8.2
          have b8 : (0 : Int) ≤ r8.toInt ∧ r8.toInt ≤ 1 := h8.1
          refine lv_if_ne (tgt := 75) hx hb dX10_sayings_69 (by decide) (fun c9 => ?_) (fun c9 => ?_)
          · have t9 : r8.toInt ≠ (0 : Int) := gl_ne c9
            refine lv_iconst (v := 0) hx hb dX10_sayings_75 (by decide) ?_
            refine lv_istore (lv' := [(5, .int 0), (4, .int r6), (0, .ref (o + 0)), (1, .int a0), (2, .int a1), (3, .int a2)]) hx hb dX10_sayings_76 hl (by decide) rfl (fun ls hl => ?_)
            have loop10 : ∀ (n : Nat) (w10_5 : Int32) (z10 : Nat → Nat → Int32) (y10 : Nat → Nat → Int64), ((20 - w10_5.toInt : Int) < (n : Int)) → ((0 : Int) ≤ w10_5.toInt ∧ w10_5.toInt ≤ 20) → (qJU b z10) → ∀ (H : Heap) (locs : List Loc), qw_P D vwCl o 132 (qG (GU ca o) z10 y10) H → va_S (qw_A o 132) s.heap H locs → ∀ (ls : Array Slot), lv_has ls 7 [(5, .int w10_5), (4, .int r6), (0, .ref (o + 0)), (1, .int a0), (2, .int a1), (3, .int a2)] → W p l e (headSpec (Cond.code yX10_sayings cX10_sayings 7 (some .int) :: qtbl) ({ frames := 6, cells := 0, slots := 0, locals := 168 })).room s m (([.ref (o + 0), .int a0, .int a1, .int a2] : List Value).toArray) below meth c H locs 0 0 (MQ below (va_Qi (fun r u => True ∧ qJU b u.1) (qB D vwCl (qT6 ca) o 132 (fun u : qZ => qG (GU ca o) u.1 u.2)) (qw_A o 132)) (([.ref (o + 0), .int a0, .int a1, .int a2] : List Value).toArray) s 0 0 (qw_A o 132)) (F0 m 78 ls []) := by
              intro n
              induction n with
              | zero => intro w10_5 z10 y10 hb10 hv10_5 J10; exfalso; omega
              | succ n10 ih10 =>
                intro w10_5 z10 y10 hb10 hv10_5 J10 H locs hP hS ls hl
                refine lv_iload hx hb dX10_sayings_78 (lv_at hl 0 rfl) ?_
                refine lv_iconst (v := 1) hx hb dX10_sayings_80 (by decide) ?_
                refine lv_iadd hx hb dX10_sayings_81 ?_
                refine lv_topi (fun x11 e11 => ?_)
                have t11 : x11.toInt = w10_5.toInt + (1 : Int) := ga_add e11 rfl rfl (by omega) (by omega)
                refine lv_iload_n hx hb dX10_sayings_82 rfl (lv_at hl 4 rfl) ?_
                refine lv_icmp_ge (tgt := 162) hx hb dX10_sayings_83 (by decide) (fun c12 => ?_) (fun c12 => ?_)
                · have t12 : x11.toInt ≥ a1.toInt := gl_le c12
                  refine lv_iload_n hx hb dX10_sayings_162 rfl (lv_at hl 5 rfl) ?_
                  refine lv_bipush (v := 100) hx hb dX10_sayings_163 (by decide) ?_
                  refine lv_icmp_ne (tgt := 176) hx hb dX10_sayings_165 (by decide) (fun c13 => ?_) (fun c13 => ?_)
                  · have t13 : a2.toInt ≠ (100 : Int) := gl_ne c13
                    exfalso; omega
                  · have t13 : a2.toInt = (100 : Int) := gl_eq c13
                    refine lv_aload_n hx hb dX10_sayings_168 rfl (lv_at hl 2 rfl) ?_
                    refine qf_get hx hb hts inX10 hown hK hP (q0 := 0) (by decide) (hgU_0 ca o) rfl 8 (by decide) wq_361 (v := .ref (o + 110)) rfl dX10_sayings_169 ?_
                    refine qf_get hx hb hts inX2 hown hK hP (q0 := 110) (by decide) (hgU_110 ca o) rfl 3 (by decide) wq_235 (v := .int (z10 110 3)) rfl dX10_sayings_172 ?_
                    refine lv_topi (fun x14 e14 => ?_)
                    have b14 := iU_110_3 J10 e14
                    exact W.iret (v := x14) hx hb hr (fun t ht hW => ⟨⟨x14, (z10, y10), rfl, ⟨trivial, J10⟩, by rw [ht]; exact hP, va_K.moved hW.alike hK⟩, hS.F ht⟩) hS.2.2 dX10_sayings_175
                · have t12 : x11.toInt < a1.toInt := gl_nle c12
                  refine lv_aload_n hx hb dX10_sayings_86 rfl (lv_at hl 2 rfl) ?_
                  refine qf_get hx hb hts inX10 hown hK hP (q0 := 0) (by decide) (hgU_0 ca o) rfl 3 (by decide) wq_356 (v := .ref (o + 77)) rfl dX10_sayings_87 ?_
                  refine lv_iload hx hb dX10_sayings_90 (lv_at hl 0 rfl) ?_
                  refine qa_iald hx hb hK hP (q0 := 77) (by decide) 0 (N := 260) (hgU_77 ca o) rfl (gi_in (by omega) (by omega)) dX10_sayings_92 ?_
                  refine lv_topi (fun x15 e15 => ?_)
                  refine lv_bipush (v := 65) hx hb dX10_sayings_93 (by decide) ?_
                  refine lv_isub hx hb dX10_sayings_95 ?_
                  refine lv_topi (fun x16 e16 => ?_)
                  refine lv_istore (lv' := [(6, .int x16), (5, .int w10_5), (4, .int r6), (0, .ref (o + 0)), (1, .int a0), (2, .int a1), (3, .int a2)]) hx hb dX10_sayings_96 hl (by decide) rfl (fun ls hl => ?_)
                  refine lv_aload_n hx hb dX10_sayings_98 rfl (lv_at hl 3 rfl) ?_
                  refine qf_get hx hb hts inX10 hown hK hP (q0 := 0) (by decide) (hgU_0 ca o) rfl 0 (by decide) wq_353 (v := .ref (o + 1)) rfl dX10_sayings_99 ?_
                  refine lv_iload hx hb dX10_sayings_102 (lv_at hl 0 rfl) ?_
                  refine qc_Vip (As := [.int x16]) (rest := []) (k0 := 1) (u_Told_hasForm l D ca o b z10 y10 J10 x16) kc_yX9_hasForm ⟨hx, hb, hml, hown, hts⟩ wq_743 rfl rfl ⟨Nat.le_of_ble_eq_true rfl, Nat.le_of_ble_eq_true rfl⟩ wq_all hP hK hS qw_Ai (q0 := 1) (by decide) (hgU_1 ca o _ _) rfl rfl hl.1 rfl (Nat.le_of_ble_eq_true rfl) dX10_sayings_104 ⟨Nat.zero_le _, Nat.zero_le _⟩ (fun r17 H locs h17 hP hS _ _ => ?_)
                  rcases h17 with ⟨hr17, hf17_0⟩ | hr17
                  · subst hr17
                    have hg17_0 : 0 ≤ x16.toInt ∧ x16.toInt ≤ 5 := hf17_0
                    refine lv_if_eq (tgt := 156) hx hb dX10_sayings_107 (by decide) (fun q => absurd q (by decide)) (fun _ => ?_)
                    refine lv_aload_n hx hb dX10_sayings_110 rfl (lv_at hl 3 rfl) ?_
                    refine qf_get hx hb hts inX10 hown hK hP (q0 := 0) (by decide) (hgU_0 ca o) rfl 8 (by decide) wq_361 (v := .ref (o + 110)) rfl dX10_sayings_111 ?_
                    refine lv_aload_n hx hb dX10_sayings_114 rfl (lv_at hl 3 rfl) ?_
                    refine qf_get hx hb hts inX10 hown hK hP (q0 := 0) (by decide) (hgU_0 ca o) rfl 0 (by decide) wq_353 (v := .ref (o + 1)) rfl dX10_sayings_115 ?_
                    refine qf_get hx hb hts inX9 hown hK hP (q0 := 1) (by decide) (hgU_1 ca o) rfl 4 (by decide) wq_97 (v := .ref (o + 6)) rfl dX10_sayings_118 ?_
                    refine lv_bipush (v := 10) hx hb dX10_sayings_121 (by decide) ?_
                    refine lv_iload hx hb dX10_sayings_123 (lv_at hl 0 rfl) ?_
                    refine lv_iadd hx hb dX10_sayings_125 ?_
                    refine lv_topi (fun x18 e18 => ?_)
                    have t18 : x18.toInt = (10 : Int) + x16.toInt := ga_add e18 rfl rfl (by omega) (by omega)
                    have hi_x18 : x18.toNatClampNeg < 16 := ga_nat (by omega) (show _ < (16 : Int) from by omega)
                    refine qa_aald hx hb hK hP (q0 := 6) (by decide) 4 rfl (N := 16) (hgU_6 ca o) rfl (gi_in (by omega) (by omega)) dX10_sayings_126 ?_
                    refine qc_Vv2 (As := [.ref (o + (7 + 2 * x18.toNatClampNeg))]) (rest := []) (k0 := 1) (u_Few_hear l D ca o b z10 y10 J10 (i1_ := x18.toNatClampNeg) hi_x18) kc_yX2_hear ⟨hx, hb, hml, hown, hts⟩ wq_755 rfl rfl ⟨Nat.le_of_ble_eq_true rfl, Nat.le_of_ble_eq_true rfl⟩ wq_all hP hK hS qw_Ai (q0 := 110) (by decide) (hgU_110 ca o _ _) rfl rfl hl.1 rfl (Nat.le_of_ble_eq_true rfl) dX10_sayings_127 ⟨Nat.zero_le _, Nat.zero_le _⟩ (fun z19 y19 H locs h19 hP hS _ _ => ?_)
                    have J19 : qJU b z19 := h19
                    refine lv_aload_n hx hb dX10_sayings_130 rfl (lv_at hl 3 rfl) ?_
                    refine qf_get hx hb hts inX10 hown hK hP (q0 := 0) (by decide) (hgU_0 ca o) rfl 8 (by decide) wq_361 (v := .ref (o + 110)) rfl dX10_sayings_131 ?_
                    refine lv_aload_n hx hb dX10_sayings_134 rfl (lv_at hl 3 rfl) ?_
                    refine qf_get hx hb hts inX10 hown hK hP (q0 := 0) (by decide) (hgU_0 ca o) rfl 3 (by decide) wq_356 (v := .ref (o + 77)) rfl dX10_sayings_135 ?_
                    refine lv_iload hx hb dX10_sayings_138 (lv_at hl 1 rfl) ?_
                    refine lv_iconst (v := 1) hx hb dX10_sayings_140 (by decide) ?_
                    refine lv_iadd hx hb dX10_sayings_141 ?_
                    refine lv_topi (fun x20 e20 => ?_)
                    have t20 : x20.toInt = x11.toInt := congrArg Int32.toInt (e20.trans e11.symm)
                    refine qa_iald hx hb hK hP (q0 := 77) (by decide) 0 (N := 260) (hgU_77 ca o) rfl (gi_in (by omega) (by omega)) dX10_sayings_142 ?_
                    refine lv_topi (fun x21 e21 => ?_)
                    refine lv_bipush (v := 43) hx hb dX10_sayings_143 (by decide) ?_
                    refine lv_icmp_ne (tgt := 152) hx hb dX10_sayings_145 (by decide) (fun c22 => ?_) (fun c22 => ?_)
                    · have t22 : x21.toInt ≠ (43 : Int) := gl_ne c22
                      refine lv_iconst (v := 0) hx hb dX10_sayings_152 (by decide) ?_
                      refine qc_Vv2 (As := [.int 0]) (rest := []) (k0 := 1) (u_Few_leave l D ca o b z19 y19 J19 0) kc_yX2_leave ⟨hx, hb, hml, hown, hts⟩ wq_796 rfl rfl ⟨Nat.le_of_ble_eq_true rfl, Nat.le_of_ble_eq_true rfl⟩ wq_all hP hK hS qw_Ai (q0 := 110) (by decide) (hgU_110 ca o _ _) rfl rfl hl.1 rfl (Nat.le_of_ble_eq_true rfl) dX10_sayings_153 ⟨Nat.zero_le _, Nat.zero_le _⟩ (fun z23 y23 H locs h23 hP hS _ _ => ?_)
                      have J23 : qJU b z23 := h23
                      obtain ⟨x24, e24⟩ : ∃ t : Int32, t = w10_5 + 2 := ⟨_, rfl⟩
                      refine lv_iinc (v := x24) (lv' := [(5, .int x24), (6, .int x16), (4, .int r6), (0, .ref (o + 0)), (1, .int a0), (2, .int a1), (3, .int a2)]) hx hb dX10_sayings_156 hl (k := 1) rfl (by rw [e24]; rfl) (by decide) rfl (fun ls hl => ?_)
                      have t24 : x24.toInt = w10_5.toInt + (2 : Int) := ga_add e24 rfl rfl (by omega) (by omega)
                      refine lv_goto (tgt := 78) hx hb dX10_sayings_159 (by decide) ?_
                      exact ih10 x24 z23 y23 (show (20 - x24.toInt : Int) < (n10 : Int) from by omega) ⟨by omega, by omega⟩ J23 _ _ hP hS _ (lv_sub hl [0, 2, 3, 4, 5, 6] rfl)
                    · have t22 : x21.toInt = (43 : Int) := gl_eq c22
                      refine lv_iconst (v := 1) hx hb dX10_sayings_148 (by decide) ?_
                      refine lv_goto (tgt := 153) hx hb dX10_sayings_149 (by decide) ?_
                      refine qc_Vv2 (As := [.int 1]) (rest := []) (k0 := 1) (u_Few_leave l D ca o b z19 y19 J19 1) kc_yX2_leave ⟨hx, hb, hml, hown, hts⟩ wq_796 rfl rfl ⟨Nat.le_of_ble_eq_true rfl, Nat.le_of_ble_eq_true rfl⟩ wq_all hP hK hS qw_Ai (q0 := 110) (by decide) (hgU_110 ca o _ _) rfl rfl hl.1 rfl (Nat.le_of_ble_eq_true rfl) dX10_sayings_153 ⟨Nat.zero_le _, Nat.zero_le _⟩ (fun z25 y25 H locs h25 hP hS _ _ => ?_)
                      have J25 : qJU b z25 := h25
                      obtain ⟨x26, e26⟩ : ∃ t : Int32, t = w10_5 + 2 := ⟨_, rfl⟩
                      refine lv_iinc (v := x26) (lv' := [(5, .int x26), (6, .int x16), (4, .int r6), (0, .ref (o + 0)), (1, .int a0), (2, .int a1), (3, .int a2)]) hx hb dX10_sayings_156 hl (k := 1) rfl (by rw [e26]; rfl) (by decide) rfl (fun ls hl => ?_)
                      have t26 : x26.toInt = w10_5.toInt + (2 : Int) := ga_add e26 rfl rfl (by omega) (by omega)
                      refine lv_goto (tgt := 78) hx hb dX10_sayings_159 (by decide) ?_
                      exact ih10 x26 z25 y25 (show (20 - x26.toInt : Int) < (n10 : Int) from by omega) ⟨by omega, by omega⟩ J25 _ _ hP hS _ (lv_sub hl [0, 2, 3, 4, 5, 6] rfl)
                  · subst hr17
                    refine lv_if_eq (tgt := 156) hx hb dX10_sayings_107 (by decide) (fun _ => ?_) (fun q => absurd (by decide) q)
                    obtain ⟨x27, e27⟩ : ∃ t : Int32, t = w10_5 + 2 := ⟨_, rfl⟩
                    refine lv_iinc (v := x27) (lv' := [(5, .int x27), (6, .int x16), (4, .int r6), (0, .ref (o + 0)), (1, .int a0), (2, .int a1), (3, .int a2)]) hx hb dX10_sayings_156 hl (k := 1) rfl (by rw [e27]; rfl) (by decide) rfl (fun ls hl => ?_)
                    have t27 : x27.toInt = w10_5.toInt + (2 : Int) := ga_add e27 rfl rfl (by omega) (by omega)
                    refine lv_goto (tgt := 78) hx hb dX10_sayings_159 (by decide) ?_
                    exact ih10 x27 z10 y10 (show (20 - x27.toInt : Int) < (n10 : Int) from by omega) ⟨by omega, by omega⟩ J10 _ _ hP hS _ (lv_sub hl [0, 2, 3, 4, 5, 6] rfl)
            exact loop10 21 0 z8 y8 (show (20 - (0 : Int) : Int) < ((21 : Nat) : Int) from by omega) ⟨by decide, by decide⟩ J8 _ _ hP hS _ (lv_sub hl [0, 1, 2, 3, 4, 5] rfl)
          · have t9 : r8.toInt = (0 : Int) := gl_eq c9
            refine lv_bipush (v := (-3)) hx hb dX10_sayings_72 (by decide) ?_
            exact W.iret (v := (-3)) hx hb hr (fun t ht hW => ⟨⟨(-3), (z8, y8), rfl, ⟨trivial, J8⟩, by rw [ht]; exact hP, va_K.moved hW.alike hK⟩, hS.F ht⟩) hS.2.2 dX10_sayings_74
        · have t7 : r6.toInt < (0 : Int) := gl_nle c7
          refine lv_iload hx hb dX10_sayings_54 (lv_at hl 0 rfl) ?_
          exact W.iret (v := r6) hx hb hr (fun t ht hW => ⟨⟨r6, (z5, y), rfl, ⟨trivial, J5⟩, by rw [ht]; exact hP, va_K.moved hW.alike hK⟩, hS.F ht⟩) hS.2.2 dX10_sayings_56
      · subst hr4
        refine lv_if_ne (tgt := 37) hx hb dX10_sayings_32 (by decide) (fun q => absurd q (by decide)) (fun _ => ?_)
        refine lv_iconst (v := (-1)) hx hb dX10_sayings_35 (by decide) ?_
        exact W.iret (v := (-1)) hx hb hr (fun t ht hW => ⟨⟨(-1), (z, y), rfl, ⟨trivial, J0⟩, by rw [ht]; exact hP, va_K.moved hW.alike hK⟩, hS.F ht⟩) hS.2.2 dX10_sayings_36
    · have t3 : a2.toInt ≠ (100 : Int) := gl_ne c3
      refine lv_aload_n hx hb dX10_sayings_14 rfl (lv_at hl 0 rfl) ?_
      refine qf_get hx hb hts inX10 hown hK hP (q0 := 0) (by decide) (hgU_0 ca o) rfl 0 (by decide) wq_353 (v := .ref (o + 1)) rfl dX10_sayings_15 ?_
      refine lv_iload_n hx hb dX10_sayings_18 rfl (lv_at hl 3 rfl) ?_
      refine qc_Vip (As := [.int a2]) (rest := []) (k0 := 1) (u_Told_hasPerson l D ca o b z y J0 a2) kc_yX9_hasPerson ⟨hx, hb, hml, hown, hts⟩ wq_411 rfl rfl ⟨Nat.le_of_ble_eq_true rfl, Nat.le_of_ble_eq_true rfl⟩ wq_all hP hK hS qw_Ai (q0 := 1) (by decide) (hgU_1 ca o _ _) rfl rfl hl.1 rfl (Nat.le_of_ble_eq_true rfl) dX10_sayings_19 ⟨Nat.zero_le _, Nat.zero_le _⟩ (fun r28 H locs h28 hP hS _ _ => ?_)
      rcases h28 with ⟨hr28, hf28_0, hf28_1⟩ | ⟨hr28, hf28_0⟩
      · subst hr28
        have hg28_0 : pHas (z 1 5) a2 := hf28_0
        have hg28_1 : 0 ≤ a2.toInt ∧ a2.toInt ≤ 5 := hf28_1
        refine lv_if_eq (tgt := 35) hx hb dX10_sayings_22 (by decide) (fun q => absurd q (by decide)) (fun _ => ?_)
        refine lv_aload_n hx hb dX10_sayings_25 rfl (lv_at hl 0 rfl) ?_
        refine lv_iload_n hx hb dX10_sayings_26 rfl (lv_at hl 2 rfl) ?_
        refine lv_bipush (v := 20) hx hb dX10_sayings_27 (by decide) ?_
        refine qc_Vip (As := [.int a1, .int 20]) (rest := []) (k0 := 2) (u_isText l D ca o b z y J0 a1 20) kc_yX10_isText ⟨hx, hb, hml, hown, hts⟩ wq_431 rfl rfl ⟨Nat.le_of_ble_eq_true rfl, Nat.le_of_ble_eq_true rfl⟩ wq_all hP hK hS qw_Ai (q0 := 0) (by decide) (hgU_0 ca o _ _) rfl rfl hl.1 rfl (Nat.le_of_ble_eq_true rfl) dX10_sayings_29 ⟨Nat.zero_le _, Nat.zero_le _⟩ (fun r29 H locs h29 hP hS _ _ => ?_)
        rcases h29 with ⟨hr29, hf29_0⟩ | hr29
        · subst hr29
          have hg29_0 : 1 ≤ a1.toInt ∧ a1.toInt ≤ (20 : Int) := hf29_0
          refine lv_if_ne (tgt := 37) hx hb dX10_sayings_32 (by decide) (fun _ => ?_) (fun q => absurd q (by decide))
          refine lv_aload_n hx hb dX10_sayings_37 rfl (lv_at hl 0 rfl) ?_
          refine lv_iconst (v := 0) hx hb dX10_sayings_38 (by decide) ?_
          refine qf_put2 hx hb hts inX10 tyX10 tyX10_ok nmX10 hown hK hP hS qw_Ai (q0 := 0) (by decide) (hgU_0 ca o) rfl 4 (by decide) wq_357 rfl (x := 0) 4 rfl rfl rfl (Nat.le_of_ble_eq_true rfl) dX10_sayings_39 (fun z30 H locs hz30 hP hS => ?_)
          have J30 := jU_0_4 J0 hz30 ⟨by decide, by decide⟩
          refine lv_aload_n hx hb dX10_sayings_42 rfl (lv_at hl 0 rfl) ?_
          refine lv_iload_n hx hb dX10_sayings_43 rfl (lv_at hl 2 rfl) ?_
          refine qc_Vip (As := [.int a1]) (rest := []) (k0 := 1) (u_faultOfSayings l D ca o b z30 y J30 a1) kc_yX10_faultOfSayings ⟨hx, hb, hml, hown, hts⟩ wq_792 rfl rfl ⟨Nat.le_of_ble_eq_true rfl, Nat.le_of_ble_eq_true rfl⟩ wq_all hP hK hS qw_Ai (q0 := 0) (by decide) (hgU_0 ca o _ _) rfl rfl hl.1 rfl (Nat.le_of_ble_eq_true rfl) dX10_sayings_44 ⟨Nat.zero_le _, Nat.zero_le _⟩ (fun r31 H locs h31 hP hS _ _ => ?_)
          refine lv_istore (lv' := [(4, .int r31), (0, .ref (o + 0)), (1, .int a0), (2, .int a1), (3, .int a2)]) hx hb dX10_sayings_47 hl (by decide) rfl (fun ls hl => ?_)
          refine lv_iload hx hb dX10_sayings_49 (lv_at hl 0 rfl) ?_
          refine lv_if_ge (tgt := 57) hx hb dX10_sayings_51 (by decide) (fun c32 => ?_) (fun c32 => ?_)
          · have t32 : r31.toInt ≥ (0 : Int) := gl_le c32
            refine lv_aload_n hx hb dX10_sayings_57 rfl (lv_at hl 1 rfl) ?_
            refine qf_get hx hb hts inX10 hown hK hP (q0 := 0) (by decide) (hgU_0 ca o) rfl 8 (by decide) wq_361 (v := .ref (o + 110)) rfl dX10_sayings_58 ?_
            refine lv_aload_n hx hb dX10_sayings_61 rfl (lv_at hl 1 rfl) ?_
            refine qf_get hx hb hts inX10 hown hK hP (q0 := 0) (by decide) (hgU_0 ca o) rfl 6 (by decide) wq_359 (v := .ref (o + 104)) rfl dX10_sayings_62 ?_
            refine lv_iload_n hx hb dX10_sayings_65 rfl (lv_at hl 2 rfl) ?_
            refine qc_Vi2 (As := [.ref (o + 104), .int a0]) (rest := []) (k0 := 2) (u_Few_gather l D ca o b z30 y J30 a0) kc_yX2_gather ⟨hx, hb, hml, hown, hts⟩ wq_747 rfl rfl ⟨Nat.le_of_ble_eq_true rfl, Nat.le_of_ble_eq_true rfl⟩ wq_all hP hK hS qw_Ai (q0 := 110) (by decide) (hgU_110 ca o _ _) rfl rfl hl.1 rfl (Nat.le_of_ble_eq_true rfl) dX10_sayings_66 ⟨Nat.zero_le _, Nat.zero_le _⟩ (fun r33 z33 y33 H locs h33 hP hS _ _ => ?_)
            have J33 : qJU b z33 := h33.2
            have b33 : (0 : Int) ≤ r33.toInt ∧ r33.toInt ≤ 1 := h33.1
            refine lv_if_ne (tgt := 75) hx hb dX10_sayings_69 (by decide) (fun c34 => ?_) (fun c34 => ?_)
            · have t34 : r33.toInt ≠ (0 : Int) := gl_ne c34
              refine lv_iconst (v := 0) hx hb dX10_sayings_75 (by decide) ?_
              refine lv_istore (lv' := [(5, .int 0), (4, .int r31), (0, .ref (o + 0)), (1, .int a0), (2, .int a1), (3, .int a2)]) hx hb dX10_sayings_76 hl (by decide) rfl (fun ls hl => ?_)
              have loop35 : ∀ (n : Nat) (w35_5 : Int32) (z35 : Nat → Nat → Int32) (y35 : Nat → Nat → Int64), ((20 - w35_5.toInt : Int) < (n : Int)) → ((0 : Int) ≤ w35_5.toInt ∧ w35_5.toInt ≤ 20) → (qJU b z35) → ∀ (H : Heap) (locs : List Loc), qw_P D vwCl o 132 (qG (GU ca o) z35 y35) H → va_S (qw_A o 132) s.heap H locs → ∀ (ls : Array Slot), lv_has ls 7 [(5, .int w35_5), (4, .int r31), (0, .ref (o + 0)), (1, .int a0), (2, .int a1), (3, .int a2)] → W p l e (headSpec (Cond.code yX10_sayings cX10_sayings 7 (some .int) :: qtbl) ({ frames := 6, cells := 0, slots := 0, locals := 168 })).room s m (([.ref (o + 0), .int a0, .int a1, .int a2] : List Value).toArray) below meth c H locs 0 0 (MQ below (va_Qi (fun r u => True ∧ qJU b u.1) (qB D vwCl (qT6 ca) o 132 (fun u : qZ => qG (GU ca o) u.1 u.2)) (qw_A o 132)) (([.ref (o + 0), .int a0, .int a1, .int a2] : List Value).toArray) s 0 0 (qw_A o 132)) (F0 m 78 ls []) := by
                intro n
                induction n with
                | zero => intro w35_5 z35 y35 hb35 hv35_5 J35; exfalso; omega
                | succ n35 ih35 =>
                  intro w35_5 z35 y35 hb35 hv35_5 J35 H locs hP hS ls hl
                  refine lv_iload hx hb dX10_sayings_78 (lv_at hl 0 rfl) ?_
                  refine lv_iconst (v := 1) hx hb dX10_sayings_80 (by decide) ?_
                  refine lv_iadd hx hb dX10_sayings_81 ?_
                  refine lv_topi (fun x36 e36 => ?_)
                  have t36 : x36.toInt = w35_5.toInt + (1 : Int) := ga_add e36 rfl rfl (by omega) (by omega)
                  refine lv_iload_n hx hb dX10_sayings_82 rfl (lv_at hl 4 rfl) ?_
                  refine lv_icmp_ge (tgt := 162) hx hb dX10_sayings_83 (by decide) (fun c37 => ?_) (fun c37 => ?_)
                  · have t37 : x36.toInt ≥ a1.toInt := gl_le c37
                    refine lv_iload_n hx hb dX10_sayings_162 rfl (lv_at hl 5 rfl) ?_
                    refine lv_bipush (v := 100) hx hb dX10_sayings_163 (by decide) ?_
                    refine lv_icmp_ne (tgt := 176) hx hb dX10_sayings_165 (by decide) (fun c38 => ?_) (fun c38 => ?_)
                    · have t38 : a2.toInt ≠ (100 : Int) := gl_ne c38
                      refine lv_aload_n hx hb dX10_sayings_176 rfl (lv_at hl 2 rfl) ?_
                      refine qf_get hx hb hts inX10 hown hK hP (q0 := 0) (by decide) (hgU_0 ca o) rfl 8 (by decide) wq_361 (v := .ref (o + 110)) rfl dX10_sayings_177 ?_
                      refine qf_get hx hb hts inX2 hown hK hP (q0 := 110) (by decide) (hgU_110 ca o) rfl 3 (by decide) wq_235 (v := .int (z35 110 3)) rfl dX10_sayings_180 ?_
                      refine lv_topi (fun x39 e39 => ?_)
                      have b39 := iU_110_3 J35 e39
                      refine lv_if_ne (tgt := 191) hx hb dX10_sayings_183 (by decide) (fun c40 => ?_) (fun c40 => ?_)
                      · have t40 : x39.toInt ≠ (0 : Int) := gl_ne c40
                        refine lv_aload_n hx hb dX10_sayings_191 rfl (lv_at hl 2 rfl) ?_
                        refine qf_get hx hb hts inX10 hown hK hP (q0 := 0) (by decide) (hgU_0 ca o) rfl 8 (by decide) wq_361 (v := .ref (o + 110)) rfl dX10_sayings_192 ?_
                        refine qf_get hx hb hts inX2 hown hK hP (q0 := 110) (by decide) (hgU_110 ca o) rfl 0 (by decide) wq_230 (v := .ref (o + 111)) rfl dX10_sayings_195 ?_
                        refine lv_iload_n hx hb dX10_sayings_198 rfl (lv_at hl 5 rfl) ?_
                        refine qa_iald hx hb hK hP (q0 := 111) (by decide) 0 (N := 12000) (hgU_111 ca o) rfl (gi_in (by omega) (by omega)) dX10_sayings_199 ?_
                        refine lv_topi (fun x41 e41 => ?_)
                        exact W.iret (v := x41) hx hb hr (fun t ht hW => ⟨⟨x41, (z35, y35), rfl, ⟨trivial, J35⟩, by rw [ht]; exact hP, va_K.moved hW.alike hK⟩, hS.F ht⟩) hS.2.2 dX10_sayings_200
                      · have t40 : x39.toInt = (0 : Int) := gl_eq c40
                        refine lv_bipush (v := (-2)) hx hb dX10_sayings_186 (by decide) ?_
                        refine lv_goto (tgt := 200) hx hb dX10_sayings_188 (by decide) ?_
                        exact W.iret (v := (-2)) hx hb hr (fun t ht hW => ⟨⟨(-2), (z35, y35), rfl, ⟨trivial, J35⟩, by rw [ht]; exact hP, va_K.moved hW.alike hK⟩, hS.F ht⟩) hS.2.2 dX10_sayings_200
                    · have t38 : a2.toInt = (100 : Int) := gl_eq c38
                      exfalso; omega
                  · have t37 : x36.toInt < a1.toInt := gl_nle c37
                    refine lv_aload_n hx hb dX10_sayings_86 rfl (lv_at hl 2 rfl) ?_
                    refine qf_get hx hb hts inX10 hown hK hP (q0 := 0) (by decide) (hgU_0 ca o) rfl 3 (by decide) wq_356 (v := .ref (o + 77)) rfl dX10_sayings_87 ?_
                    refine lv_iload hx hb dX10_sayings_90 (lv_at hl 0 rfl) ?_
                    refine qa_iald hx hb hK hP (q0 := 77) (by decide) 0 (N := 260) (hgU_77 ca o) rfl (gi_in (by omega) (by omega)) dX10_sayings_92 ?_
                    refine lv_topi (fun x42 e42 => ?_)
                    refine lv_bipush (v := 65) hx hb dX10_sayings_93 (by decide) ?_
                    refine lv_isub hx hb dX10_sayings_95 ?_
                    refine lv_topi (fun x43 e43 => ?_)
                    refine lv_istore (lv' := [(6, .int x43), (5, .int w35_5), (4, .int r31), (0, .ref (o + 0)), (1, .int a0), (2, .int a1), (3, .int a2)]) hx hb dX10_sayings_96 hl (by decide) rfl (fun ls hl => ?_)
                    refine lv_aload_n hx hb dX10_sayings_98 rfl (lv_at hl 3 rfl) ?_
                    refine qf_get hx hb hts inX10 hown hK hP (q0 := 0) (by decide) (hgU_0 ca o) rfl 0 (by decide) wq_353 (v := .ref (o + 1)) rfl dX10_sayings_99 ?_
                    refine lv_iload hx hb dX10_sayings_102 (lv_at hl 0 rfl) ?_
                    refine qc_Vip (As := [.int x43]) (rest := []) (k0 := 1) (u_Told_hasForm l D ca o b z35 y35 J35 x43) kc_yX9_hasForm ⟨hx, hb, hml, hown, hts⟩ wq_743 rfl rfl ⟨Nat.le_of_ble_eq_true rfl, Nat.le_of_ble_eq_true rfl⟩ wq_all hP hK hS qw_Ai (q0 := 1) (by decide) (hgU_1 ca o _ _) rfl rfl hl.1 rfl (Nat.le_of_ble_eq_true rfl) dX10_sayings_104 ⟨Nat.zero_le _, Nat.zero_le _⟩ (fun r44 H locs h44 hP hS _ _ => ?_)
                    rcases h44 with ⟨hr44, hf44_0⟩ | hr44
                    · subst hr44
                      have hg44_0 : 0 ≤ x43.toInt ∧ x43.toInt ≤ 5 := hf44_0
                      refine lv_if_eq (tgt := 156) hx hb dX10_sayings_107 (by decide) (fun q => absurd q (by decide)) (fun _ => ?_)
                      refine lv_aload_n hx hb dX10_sayings_110 rfl (lv_at hl 3 rfl) ?_
                      refine qf_get hx hb hts inX10 hown hK hP (q0 := 0) (by decide) (hgU_0 ca o) rfl 8 (by decide) wq_361 (v := .ref (o + 110)) rfl dX10_sayings_111 ?_
                      refine lv_aload_n hx hb dX10_sayings_114 rfl (lv_at hl 3 rfl) ?_
                      refine qf_get hx hb hts inX10 hown hK hP (q0 := 0) (by decide) (hgU_0 ca o) rfl 0 (by decide) wq_353 (v := .ref (o + 1)) rfl dX10_sayings_115 ?_
                      refine qf_get hx hb hts inX9 hown hK hP (q0 := 1) (by decide) (hgU_1 ca o) rfl 4 (by decide) wq_97 (v := .ref (o + 6)) rfl dX10_sayings_118 ?_
                      refine lv_bipush (v := 10) hx hb dX10_sayings_121 (by decide) ?_
                      refine lv_iload hx hb dX10_sayings_123 (lv_at hl 0 rfl) ?_
                      refine lv_iadd hx hb dX10_sayings_125 ?_
                      refine lv_topi (fun x45 e45 => ?_)
                      have t45 : x45.toInt = (10 : Int) + x43.toInt := ga_add e45 rfl rfl (by omega) (by omega)
                      have hi_x45 : x45.toNatClampNeg < 16 := ga_nat (by omega) (show _ < (16 : Int) from by omega)
                      refine qa_aald hx hb hK hP (q0 := 6) (by decide) 4 rfl (N := 16) (hgU_6 ca o) rfl (gi_in (by omega) (by omega)) dX10_sayings_126 ?_
                      refine qc_Vv2 (As := [.ref (o + (7 + 2 * x45.toNatClampNeg))]) (rest := []) (k0 := 1) (u_Few_hear l D ca o b z35 y35 J35 (i1_ := x45.toNatClampNeg) hi_x45) kc_yX2_hear ⟨hx, hb, hml, hown, hts⟩ wq_755 rfl rfl ⟨Nat.le_of_ble_eq_true rfl, Nat.le_of_ble_eq_true rfl⟩ wq_all hP hK hS qw_Ai (q0 := 110) (by decide) (hgU_110 ca o _ _) rfl rfl hl.1 rfl (Nat.le_of_ble_eq_true rfl) dX10_sayings_127 ⟨Nat.zero_le _, Nat.zero_le _⟩ (fun z46 y46 H locs h46 hP hS _ _ => ?_)
                      have J46 : qJU b z46 := h46
                      refine lv_aload_n hx hb dX10_sayings_130 rfl (lv_at hl 3 rfl) ?_
                      refine qf_get hx hb hts inX10 hown hK hP (q0 := 0) (by decide) (hgU_0 ca o) rfl 8 (by decide) wq_361 (v := .ref (o + 110)) rfl dX10_sayings_131 ?_
                      refine lv_aload_n hx hb dX10_sayings_134 rfl (lv_at hl 3 rfl) ?_
                      refine qf_get hx hb hts inX10 hown hK hP (q0 := 0) (by decide) (hgU_0 ca o) rfl 3 (by decide) wq_356 (v := .ref (o + 77)) rfl dX10_sayings_135 ?_
                      refine lv_iload hx hb dX10_sayings_138 (lv_at hl 1 rfl) ?_
                      refine lv_iconst (v := 1) hx hb dX10_sayings_140 (by decide) ?_
                      refine lv_iadd hx hb dX10_sayings_141 ?_
                      refine lv_topi (fun x47 e47 => ?_)
                      have t47 : x47.toInt = x36.toInt := congrArg Int32.toInt (e47.trans e36.symm)
                      refine qa_iald hx hb hK hP (q0 := 77) (by decide) 0 (N := 260) (hgU_77 ca o) rfl (gi_in (by omega) (by omega)) dX10_sayings_142 ?_
                      refine lv_topi (fun x48 e48 => ?_)
                      refine lv_bipush (v := 43) hx hb dX10_sayings_143 (by decide) ?_
                      refine lv_icmp_ne (tgt := 152) hx hb dX10_sayings_145 (by decide) (fun c49 => ?_) (fun c49 => ?_)
                      · have t49 : x48.toInt ≠ (43 : Int) := gl_ne c49
                        refine lv_iconst (v := 0) hx hb dX10_sayings_152 (by decide) ?_
                        refine qc_Vv2 (As := [.int 0]) (rest := []) (k0 := 1) (u_Few_leave l D ca o b z46 y46 J46 0) kc_yX2_leave ⟨hx, hb, hml, hown, hts⟩ wq_796 rfl rfl ⟨Nat.le_of_ble_eq_true rfl, Nat.le_of_ble_eq_true rfl⟩ wq_all hP hK hS qw_Ai (q0 := 110) (by decide) (hgU_110 ca o _ _) rfl rfl hl.1 rfl (Nat.le_of_ble_eq_true rfl) dX10_sayings_153 ⟨Nat.zero_le _, Nat.zero_le _⟩ (fun z50 y50 H locs h50 hP hS _ _ => ?_)
                        have J50 : qJU b z50 := h50
                        obtain ⟨x51, e51⟩ : ∃ t : Int32, t = w35_5 + 2 := ⟨_, rfl⟩
                        refine lv_iinc (v := x51) (lv' := [(5, .int x51), (6, .int x43), (4, .int r31), (0, .ref (o + 0)), (1, .int a0), (2, .int a1), (3, .int a2)]) hx hb dX10_sayings_156 hl (k := 1) rfl (by rw [e51]; rfl) (by decide) rfl (fun ls hl => ?_)
                        have t51 : x51.toInt = w35_5.toInt + (2 : Int) := ga_add e51 rfl rfl (by omega) (by omega)
                        refine lv_goto (tgt := 78) hx hb dX10_sayings_159 (by decide) ?_
                        exact ih35 x51 z50 y50 (show (20 - x51.toInt : Int) < (n35 : Int) from by omega) ⟨by omega, by omega⟩ J50 _ _ hP hS _ (lv_sub hl [0, 2, 3, 4, 5, 6] rfl)
                      · have t49 : x48.toInt = (43 : Int) := gl_eq c49
                        refine lv_iconst (v := 1) hx hb dX10_sayings_148 (by decide) ?_
                        refine lv_goto (tgt := 153) hx hb dX10_sayings_149 (by decide) ?_
                        refine qc_Vv2 (As := [.int 1]) (rest := []) (k0 := 1) (u_Few_leave l D ca o b z46 y46 J46 1) kc_yX2_leave ⟨hx, hb, hml, hown, hts⟩ wq_796 rfl rfl ⟨Nat.le_of_ble_eq_true rfl, Nat.le_of_ble_eq_true rfl⟩ wq_all hP hK hS qw_Ai (q0 := 110) (by decide) (hgU_110 ca o _ _) rfl rfl hl.1 rfl (Nat.le_of_ble_eq_true rfl) dX10_sayings_153 ⟨Nat.zero_le _, Nat.zero_le _⟩ (fun z52 y52 H locs h52 hP hS _ _ => ?_)
                        have J52 : qJU b z52 := h52
                        obtain ⟨x53, e53⟩ : ∃ t : Int32, t = w35_5 + 2 := ⟨_, rfl⟩
                        refine lv_iinc (v := x53) (lv' := [(5, .int x53), (6, .int x43), (4, .int r31), (0, .ref (o + 0)), (1, .int a0), (2, .int a1), (3, .int a2)]) hx hb dX10_sayings_156 hl (k := 1) rfl (by rw [e53]; rfl) (by decide) rfl (fun ls hl => ?_)
                        have t53 : x53.toInt = w35_5.toInt + (2 : Int) := ga_add e53 rfl rfl (by omega) (by omega)
                        refine lv_goto (tgt := 78) hx hb dX10_sayings_159 (by decide) ?_
                        exact ih35 x53 z52 y52 (show (20 - x53.toInt : Int) < (n35 : Int) from by omega) ⟨by omega, by omega⟩ J52 _ _ hP hS _ (lv_sub hl [0, 2, 3, 4, 5, 6] rfl)
                    · subst hr44
                      refine lv_if_eq (tgt := 156) hx hb dX10_sayings_107 (by decide) (fun _ => ?_) (fun q => absurd (by decide) q)
                      obtain ⟨x54, e54⟩ : ∃ t : Int32, t = w35_5 + 2 := ⟨_, rfl⟩
                      refine lv_iinc (v := x54) (lv' := [(5, .int x54), (6, .int x43), (4, .int r31), (0, .ref (o + 0)), (1, .int a0), (2, .int a1), (3, .int a2)]) hx hb dX10_sayings_156 hl (k := 1) rfl (by rw [e54]; rfl) (by decide) rfl (fun ls hl => ?_)
                      have t54 : x54.toInt = w35_5.toInt + (2 : Int) := ga_add e54 rfl rfl (by omega) (by omega)
                      refine lv_goto (tgt := 78) hx hb dX10_sayings_159 (by decide) ?_
                      exact ih35 x54 z35 y35 (show (20 - x54.toInt : Int) < (n35 : Int) from by omega) ⟨by omega, by omega⟩ J35 _ _ hP hS _ (lv_sub hl [0, 2, 3, 4, 5, 6] rfl)
              exact loop35 21 0 z33 y33 (show (20 - (0 : Int) : Int) < ((21 : Nat) : Int) from by omega) ⟨by decide, by decide⟩ J33 _ _ hP hS _ (lv_sub hl [0, 1, 2, 3, 4, 5] rfl)
            · have t34 : r33.toInt = (0 : Int) := gl_eq c34
              refine lv_bipush (v := (-3)) hx hb dX10_sayings_72 (by decide) ?_
              exact W.iret (v := (-3)) hx hb hr (fun t ht hW => ⟨⟨(-3), (z33, y33), rfl, ⟨trivial, J33⟩, by rw [ht]; exact hP, va_K.moved hW.alike hK⟩, hS.F ht⟩) hS.2.2 dX10_sayings_74
          · have t32 : r31.toInt < (0 : Int) := gl_nle c32
            refine lv_iload hx hb dX10_sayings_54 (lv_at hl 0 rfl) ?_
            exact W.iret (v := r31) hx hb hr (fun t ht hW => ⟨⟨r31, (z30, y), rfl, ⟨trivial, J30⟩, by rw [ht]; exact hP, va_K.moved hW.alike hK⟩, hS.F ht⟩) hS.2.2 dX10_sayings_56
        · subst hr29
          refine lv_if_ne (tgt := 37) hx hb dX10_sayings_32 (by decide) (fun q => absurd q (by decide)) (fun _ => ?_)
          refine lv_iconst (v := (-1)) hx hb dX10_sayings_35 (by decide) ?_
          exact W.iret (v := (-1)) hx hb hr (fun t ht hW => ⟨⟨(-1), (z, y), rfl, ⟨trivial, J0⟩, by rw [ht]; exact hP, va_K.moved hW.alike hK⟩, hS.F ht⟩) hS.2.2 dX10_sayings_36
      · subst hr28
        have hg28_0 : ¬ pHas (z 1 5) a2 := hf28_0
        refine lv_if_eq (tgt := 35) hx hb dX10_sayings_22 (by decide) (fun _ => ?_) (fun q => absurd (by decide) q)
        refine lv_iconst (v := (-1)) hx hb dX10_sayings_35 (by decide) ?_
        exact W.iret (v := (-1)) hx hb hr (fun t ht hW => ⟨⟨(-1), (z, y), rfl, ⟨trivial, J0⟩, by rw [ht]; exact hP, va_K.moved hW.alike hK⟩, hS.F ht⟩) hS.2.2 dX10_sayings_36
set_option maxRecDepth 100000 in
set_option maxHeartbeats 8000000 in
theorem u_Line_tellsIn (l : Launch) (D : va_G) (ca : Nat → ClassId) (o : Nat) (b z : Nat → Nat → Int32) (y : Nat → Nat → Int64) (J0 : qJU b z) {i0_ : Nat} (hi0_ : i0_ < 16) (a1 : Int32)  : qM l yX5_tellsIn cX5_tellsIn 5 (some .int) 1 60 (qPre D vwCl (qT6 ca) o 132 (qG (GU ca o) z y) [.ref (o + (7 + 2 * i0_)), .ref (o + 105), .int a1]) (va_Qi (fun r (_ : Unit) => True) (qB D vwCl (qT6 ca) o 132 (fun _ : Unit => qG (GU ca o) z y)) (qw_A o 132)) (qw_A o 132) := by
  refine Met.ofW (cc := cX5_tellsIn) (maxL := 5) (ret := (some .int)) (by decide) rfl ?_
  intro p e s m args below meth c s₁ B hml hv
  obtain ⟨rfl, hP, hK⟩ := hv
  have hx := B.exec
  have hb := B.bytes
  have hr := B.returns
  have hts0 := atoms_spec (ws := Cond.code yX5_tellsIn cX5_tellsIn 5 (some .int) :: qtbl) B.pre
  have hts : ∀ w ∈ qtbl, w.before _ s = true := fun w h => hts0 w (List.mem_cons_of_mem _ h)
  have hown : s.vm.findClass RX5 = some m.cls := findClass_of_methodNamed B.named
  have hlocks := B.notSynchronized
  have hS : va_S (qw_A o 132) s.heap s.heap [] := va_S.rf
  have hl := lv_entry ([.ref (o + (7 + 2 * i0_)), .ref (o + 105), .int a1]) (n := 5) (Nat.le_of_ble_eq_true rfl)
  rw [lg_entry_eq]
  generalize (lg_sl ([.ref (o + (7 + 2 * i0_)), .ref (o + 105), .int a1]) ++ List.replicate (5 - (lg_sl ([.ref (o + (7 + 2 * i0_)), .ref (o + 105), .int a1])).length) Slot.unset).toArray = ls at hl ⊢
  have hl : lv_has ls 5 [(0, .ref (o + (7 + 2 * i0_))), (1, .ref (o + 105)), (2, .int a1)] := hl
  refine lv_aload_n hx hb dX5_tellsIn_0 rfl (lv_at hl 0 rfl) ?_
  refine qf_get hx hb hts inX5 hown hK hP (q0 := 7 + 2 * i0_) (show _ < _ from by have := hi0_; omega) (hgU_LT ca o hi0_) rfl 1 (by decide) wq_46 (v := .int (z (7 + 2 * i0_) 1)) rfl dX5_tellsIn_1 ?_
  refine lv_topi (fun x1 e1 => ?_)
  refine lv_istore_n (lv' := [(3, .int x1), (0, .ref (o + (7 + 2 * i0_))), (1, .ref (o + 105)), (2, .int a1)]) hx hb dX5_tellsIn_4 rfl hl (by decide) rfl (fun ls hl => ?_)
  refine lv_iconst (v := 0) hx hb dX5_tellsIn_5 (by decide) ?_
  refine lv_istore (lv' := [(4, .int 0), (3, .int x1), (0, .ref (o + (7 + 2 * i0_))), (1, .ref (o + 105)), (2, .int a1)]) hx hb dX5_tellsIn_6 hl (by decide) rfl (fun ls hl => ?_)
  have loop2 : ∀ (n : Nat) (w2_4 : Int32) (w2_3 : Int32), ((6 - w2_4.toInt : Int) < (n : Int)) → ((0 : Int) ≤ w2_4.toInt ∧ w2_4.toInt ≤ 6) → ∀ (H : Heap) (locs : List Loc), qw_P D vwCl o 132 (qG (GU ca o) z y) H → va_S (qw_A o 132) s.heap H locs → ∀ (ls : Array Slot), lv_has ls 5 [(4, .int w2_4), (3, .int w2_3), (0, .ref (o + (7 + 2 * i0_))), (1, .ref (o + 105)), (2, .int a1)] → W p l e (headSpec (Cond.code yX5_tellsIn cX5_tellsIn 5 (some .int) :: qtbl) ({ frames := 1, cells := 0, slots := 0, locals := 60 })).room s m (([.ref (o + (7 + 2 * i0_)), .ref (o + 105), .int a1] : List Value).toArray) below meth c H locs 0 0 (MQ below (va_Qi (fun r (_ : Unit) => True) (qB D vwCl (qT6 ca) o 132 (fun _ : Unit => qG (GU ca o) z y)) (qw_A o 132)) (([.ref (o + (7 + 2 * i0_)), .ref (o + 105), .int a1] : List Value).toArray) s 0 0 (qw_A o 132)) (F0 m 8 ls []) := by
    intro n
    induction n with
    | zero => intro w2_4 w2_3 hb2 hv2_4; exfalso; omega
    | succ n2 ih2 =>
      intro w2_4 w2_3 hb2 hv2_4 H locs hP hS ls hl
      refine lv_iload hx hb dX5_tellsIn_8 (lv_at hl 0 rfl) ?_
      refine lv_bipush (v := 6) hx hb dX5_tellsIn_10 (by decide) ?_
      refine lv_icmp_ge (tgt := 38) hx hb dX5_tellsIn_12 (by decide) (fun c3 => ?_) (fun c3 => ?_)
      · have t3 : w2_4.toInt ≥ (6 : Int) := gl_le c3
        refine lv_iload_n hx hb dX5_tellsIn_38 rfl (lv_at hl 1 rfl) ?_
        exact W.iret (v := w2_3) hx hb hr (fun t ht hW => ⟨⟨w2_3, (), rfl, trivial, by rw [ht]; exact hP, va_K.moved hW.alike hK⟩, hS.F ht⟩) hS.2.2 dX5_tellsIn_39
      · have t3 : w2_4.toInt < (6 : Int) := gl_nle c3
        refine lv_iload_n hx hb dX5_tellsIn_15 rfl (lv_at hl 1 rfl) ?_
        refine lv_aload_n hx hb dX5_tellsIn_16 rfl (lv_at hl 2 rfl) ?_
        refine qf_get hx hb hts inX5 hown hK hP (q0 := 7 + 2 * i0_) (show _ < _ from by have := hi0_; omega) (hgU_LT ca o hi0_) rfl 0 (by decide) wq_41 (v := .ref (o + (7 + 2 * i0_ + 1))) rfl dX5_tellsIn_17 ?_
        refine lv_iload hx hb dX5_tellsIn_20 (lv_at hl 0 rfl) ?_
        refine qa_iald hx hb hK hP (q0 := 7 + 2 * i0_ + 1) (show _ < _ from by have := hi0_; omega) 0 (N := 6) (hgU_AT ca o hi0_) rfl (gi_in (by omega) (by omega)) dX5_tellsIn_22 ?_
        refine lv_topi (fun x4 e4 => ?_)
        refine lv_aload_n hx hb dX5_tellsIn_23 rfl (lv_at hl 3 rfl) ?_
        refine lv_iload hx hb dX5_tellsIn_24 (lv_at hl 0 rfl) ?_
        refine qa_iald hx hb hK hP (q0 := 105) (by decide) 0 (N := 6) (hgU_105 ca o) rfl (gi_in (by omega) (by omega)) dX5_tellsIn_26 ?_
        refine lv_topi (fun x5 e5 => ?_)
        have b5 := iU_105 J0 e5
        refine lv_iload_n hx hb dX5_tellsIn_27 rfl (lv_at hl 4 rfl) ?_
        refine lv_iadd hx hb dX5_tellsIn_28 ?_
        refine lv_topi (fun x6 e6 => ?_)
        refine lv_imul hx hb dX5_tellsIn_29 ?_
        refine lv_topi (fun x7 e7 => ?_)
        refine lv_iadd hx hb dX5_tellsIn_30 ?_
        refine lv_topi (fun x8 e8 => ?_)
        refine lv_istore_n (lv' := [(3, .int x8), (4, .int w2_4), (0, .ref (o + (7 + 2 * i0_))), (1, .ref (o + 105)), (2, .int a1)]) hx hb dX5_tellsIn_31 rfl hl (by decide) rfl (fun ls hl => ?_)
        obtain ⟨x9, e9⟩ : ∃ t : Int32, t = w2_4 + 1 := ⟨_, rfl⟩
        refine lv_iinc (v := x9) (lv' := [(4, .int x9), (3, .int x8), (0, .ref (o + (7 + 2 * i0_))), (1, .ref (o + 105)), (2, .int a1)]) hx hb dX5_tellsIn_32 hl (k := 1) rfl (by rw [e9]; rfl) (by decide) rfl (fun ls hl => ?_)
        have t9 : x9.toInt = w2_4.toInt + (1 : Int) := ga_add e9 rfl rfl (by omega) (by omega)
        refine lv_goto (tgt := 8) hx hb dX5_tellsIn_35 (by decide) ?_
        exact ih2 x9 x8 (show (6 - x9.toInt : Int) < (n2 : Int) from by omega) ⟨by omega, by omega⟩ _ _ hP hS _ (lv_sub hl [0, 1, 2, 3, 4] rfl)
  exact loop2 7 0 x1 (show (6 - (0 : Int) : Int) < ((7 : Nat) : Int) from by omega) ⟨by decide, by decide⟩ _ _ hP hS _ (lv_sub hl [0, 1, 2, 3, 4] rfl)
set_option maxRecDepth 100000 in
set_option maxHeartbeats 8000000 in
theorem u_yearsTrue (l : Launch) (D : va_G) (ca : Nat → ClassId) (o : Nat) (b z : Nat → Nat → Int32) (y : Nat → Nat → Int64) (J0 : qJU b z) {i1_ : Nat} (hi1_ : i1_ < 16)  : qM l yX10_yearsTrue cX10_yearsTrue 4 (some .int) 2 84 (qPre D vwCl (qT6 ca) o 132 (qG (GU ca o) z y) [.ref (o + 0), .ref (o + (7 + 2 * i1_))]) (va_Qi (fun r (_ : Unit) => True) (qB D vwCl (qT6 ca) o 132 (fun _ : Unit => qG (GU ca o) z y)) (qw_A o 132)) (qw_A o 132) := by
  refine Met.ofW (cc := cX10_yearsTrue) (maxL := 4) (ret := (some .int)) (by decide) rfl ?_
  intro p e s m args below meth c s₁ B hml hv
  obtain ⟨rfl, hP, hK⟩ := hv
  have hx := B.exec
  have hb := B.bytes
  have hr := B.returns
  have hts0 := atoms_spec (ws := Cond.code yX10_yearsTrue cX10_yearsTrue 4 (some .int) :: qtbl) B.pre
  have hts : ∀ w ∈ qtbl, w.before _ s = true := fun w h => hts0 w (List.mem_cons_of_mem _ h)
  have hown : s.vm.findClass RX10 = some m.cls := findClass_of_methodNamed B.named
  have hlocks := B.notSynchronized
  have hS : va_S (qw_A o 132) s.heap s.heap [] := va_S.rf
  have hl := lv_entry ([.ref (o + 0), .ref (o + (7 + 2 * i1_))]) (n := 4) (Nat.le_of_ble_eq_true rfl)
  rw [lg_entry_eq]
  generalize (lg_sl ([.ref (o + 0), .ref (o + (7 + 2 * i1_))]) ++ List.replicate (4 - (lg_sl ([.ref (o + 0), .ref (o + (7 + 2 * i1_))])).length) Slot.unset).toArray = ls at hl ⊢
  have hl : lv_has ls 4 [(0, .ref (o + 0)), (1, .ref (o + (7 + 2 * i1_)))] := hl
  refine lv_iconst (v := 0) hx hb dX10_yearsTrue_0 (by decide) ?_
  refine lv_istore_n (lv' := [(2, .int 0), (0, .ref (o + 0)), (1, .ref (o + (7 + 2 * i1_)))]) hx hb dX10_yearsTrue_1 rfl hl (by decide) rfl (fun ls hl => ?_)
  refine lv_bipush (v := (-99)) hx hb dX10_yearsTrue_2 (by decide) ?_
  refine lv_istore_n (lv' := [(3, .int ((-99))), (2, .int 0), (0, .ref (o + 0)), (1, .ref (o + (7 + 2 * i1_)))]) hx hb dX10_yearsTrue_4 rfl hl (by decide) rfl (fun ls hl => ?_)
  have loop1 : ∀ (n : Nat) (w1_3 : Int32) (w1_2 : Int32), ((100 - w1_3.toInt : Int) < (n : Int)) → ((-99 : Int) ≤ w1_3.toInt ∧ w1_3.toInt ≤ 100) → ∀ (H : Heap) (locs : List Loc), qw_P D vwCl o 132 (qG (GU ca o) z y) H → va_S (qw_A o 132) s.heap H locs → ∀ (ls : Array Slot), lv_has ls 4 [(3, .int w1_3), (2, .int w1_2), (0, .ref (o + 0)), (1, .ref (o + (7 + 2 * i1_)))] → W p l e (headSpec (Cond.code yX10_yearsTrue cX10_yearsTrue 4 (some .int) :: qtbl) ({ frames := 2, cells := 0, slots := 0, locals := 84 })).room s m (([.ref (o + 0), .ref (o + (7 + 2 * i1_))] : List Value).toArray) below meth c H locs 0 0 (MQ below (va_Qi (fun r (_ : Unit) => True) (qB D vwCl (qT6 ca) o 132 (fun _ : Unit => qG (GU ca o) z y)) (qw_A o 132)) (([.ref (o + 0), .ref (o + (7 + 2 * i1_))] : List Value).toArray) s 0 0 (qw_A o 132)) (F0 m 5 ls []) := by
    intro n
    induction n with
    | zero => intro w1_3 w1_2 hb1 hv1_3; exfalso; omega
    | succ n1 ih1 =>
      intro w1_3 w1_2 hb1 hv1_3 H locs hP hS ls hl
      refine lv_iload_n hx hb dX10_yearsTrue_5 rfl (lv_at hl 0 rfl) ?_
      refine lv_bipush (v := 99) hx hb dX10_yearsTrue_6 (by decide) ?_
      refine lv_icmp_gt (tgt := 47) hx hb dX10_yearsTrue_8 (by decide) (fun c2 => ?_) (fun c2 => ?_)
      · have t2 : w1_3.toInt > (99 : Int) := gl_lt c2
        refine lv_iload_n hx hb dX10_yearsTrue_47 rfl (lv_at hl 1 rfl) ?_
        exact W.iret (v := w1_2) hx hb hr (fun t ht hW => ⟨⟨w1_2, (), rfl, trivial, by rw [ht]; exact hP, va_K.moved hW.alike hK⟩, hS.F ht⟩) hS.2.2 dX10_yearsTrue_48
      · have t2 : w1_3.toInt ≤ (99 : Int) := gl_nlt c2
        refine lv_aload_n hx hb dX10_yearsTrue_11 rfl (lv_at hl 3 rfl) ?_
        refine lv_aload_n hx hb dX10_yearsTrue_12 rfl (lv_at hl 3 rfl) ?_
        refine lv_aload_n hx hb dX10_yearsTrue_13 rfl (lv_at hl 2 rfl) ?_
        refine qf_get hx hb hts inX10 hown hK hP (q0 := 0) (by decide) (hgU_0 ca o) rfl 6 (by decide) wq_359 (v := .ref (o + 104)) rfl dX10_yearsTrue_14 ?_
        refine qf_get hx hb hts inX7 hown hK hP (q0 := 104) (by decide) (hgU_104 ca o) rfl 1 (by decide) wq_189 (v := .ref (o + 105)) rfl dX10_yearsTrue_17 ?_
        refine lv_aload_n hx hb dX10_yearsTrue_20 rfl (lv_at hl 2 rfl) ?_
        refine qf_get hx hb hts inX10 hown hK hP (q0 := 0) (by decide) (hgU_0 ca o) rfl 0 (by decide) wq_353 (v := .ref (o + 1)) rfl dX10_yearsTrue_21 ?_
        refine qf_get hx hb hts inX9 hown hK hP (q0 := 1) (by decide) (hgU_1 ca o) rfl 7 (by decide) wq_104 (v := .int (z 1 7)) rfl dX10_yearsTrue_24 ?_
        refine lv_topi (fun x3 e3 => ?_)
        refine lv_iload_n hx hb dX10_yearsTrue_27 rfl (lv_at hl 0 rfl) ?_
        refine lv_iadd hx hb dX10_yearsTrue_28 ?_
        refine lv_topi (fun x4 e4 => ?_)
        refine qc_Vip (As := [.ref (o + 105), .int x4]) (rest := [.ref (o + (7 + 2 * i1_))]) (k0 := 2) (u_Line_tellsIn l D ca o b z y J0 (i0_ := i1_) hi1_ x4) kc_yX5_tellsIn ⟨hx, hb, hml, hown, hts⟩ wq_817 rfl rfl ⟨Nat.le_of_ble_eq_true rfl, Nat.le_of_ble_eq_true rfl⟩ wq_all hP hK hS qw_Ai (q0 := 7 + 2 * i1_) (show _ < _ from by have := hi1_; omega) (hgU_LT ca o hi1_ _ _) rfl rfl hl.1 rfl (Nat.le_of_ble_eq_true rfl) dX10_yearsTrue_29 ⟨Nat.zero_le _, Nat.zero_le _⟩ (fun r5 H locs h5 hP hS _ _ => ?_)
        refine qc_Vip (As := [.int r5]) (rest := []) (k0 := 1) (u_Line_holds l D ca o b z y J0 (i0_ := i1_) hi1_ r5) kc_yX5_holds ⟨hx, hb, hml, hown, hts⟩ wq_821 rfl rfl ⟨Nat.le_of_ble_eq_true rfl, Nat.le_of_ble_eq_true rfl⟩ wq_all hP hK hS qw_Ai (q0 := 7 + 2 * i1_) (show _ < _ from by have := hi1_; omega) (hgU_LT ca o hi1_ _ _) rfl rfl hl.1 rfl (Nat.le_of_ble_eq_true rfl) dX10_yearsTrue_32 ⟨Nat.zero_le _, Nat.zero_le _⟩ (fun r6 H locs h6 hP hS _ _ => ?_)
        have b6 : (0 : Int) ≤ r6.toInt ∧ r6.toInt ≤ 1 := h6
        refine lv_if_eq (tgt := 41) hx hb dX10_yearsTrue_35 (by decide) (fun c7 => ?_) (fun c7 => ?_)
        · have t7 : r6.toInt = (0 : Int) := gl_eq c7
          obtain ⟨x8, e8⟩ : ∃ t : Int32, t = w1_3 + 1 := ⟨_, rfl⟩
          refine lv_iinc (v := x8) (lv' := [(3, .int x8), (2, .int w1_2), (0, .ref (o + 0)), (1, .ref (o + (7 + 2 * i1_)))]) hx hb dX10_yearsTrue_41 hl (k := 0) rfl (by rw [e8]; rfl) (by decide) rfl (fun ls hl => ?_)
          have t8 : x8.toInt = w1_3.toInt + (1 : Int) := ga_add e8 rfl rfl (by omega) (by omega)
          refine lv_goto (tgt := 5) hx hb dX10_yearsTrue_44 (by decide) ?_
          exact ih1 x8 w1_2 (show (100 - x8.toInt : Int) < (n1 : Int) from by omega) ⟨by omega, by omega⟩ _ _ hP hS _ (lv_sub hl [0, 1, 2, 3] rfl)
        · have t7 : r6.toInt ≠ (0 : Int) := gl_ne c7
          obtain ⟨x9, e9⟩ : ∃ t : Int32, t = w1_2 + 1 := ⟨_, rfl⟩
          refine lv_iinc (v := x9) (lv' := [(2, .int x9), (3, .int w1_3), (0, .ref (o + 0)), (1, .ref (o + (7 + 2 * i1_)))]) hx hb dX10_yearsTrue_38 hl (k := 1) rfl (by rw [e9]; rfl) (by decide) rfl (fun ls hl => ?_)
          obtain ⟨x10, e10⟩ : ∃ t : Int32, t = w1_3 + 1 := ⟨_, rfl⟩
          refine lv_iinc (v := x10) (lv' := [(3, .int x10), (2, .int x9), (0, .ref (o + 0)), (1, .ref (o + (7 + 2 * i1_)))]) hx hb dX10_yearsTrue_41 hl (k := 1) rfl (by rw [e10]; rfl) (by decide) rfl (fun ls hl => ?_)
          have t10 : x10.toInt = w1_3.toInt + (1 : Int) := ga_add e10 rfl rfl (by omega) (by omega)
          refine lv_goto (tgt := 5) hx hb dX10_yearsTrue_44 (by decide) ?_
          exact ih1 x10 x9 (show (100 - x10.toInt : Int) < (n1 : Int) from by omega) ⟨by omega, by omega⟩ _ _ hP hS _ (lv_sub hl [0, 1, 2, 3] rfl)
  exact loop1 200 (-99) 0 (show (100 - (-99 : Int) : Int) < ((200 : Nat) : Int) from by omega) ⟨by decide, by decide⟩ _ _ hP hS _ (lv_sub hl [0, 1, 2, 3] rfl)
set_option maxRecDepth 100000 in
set_option maxHeartbeats 8000000 in
theorem u_nearestTrue (l : Launch) (D : va_G) (ca : Nat → ClassId) (o : Nat) (b z : Nat → Nat → Int32) (y : Nat → Nat → Int64) (J0 : qJU b z) {i1_ : Nat} (hi1_ : i1_ < 16) (a1 : Int32) (a2 : Int32)  : qM l yX10_nearestTrue cX10_nearestTrue 6 (some .int) 2 84 (qPre D vwCl (qT6 ca) o 132 (qG (GU ca o) z y) [.ref (o + 0), .ref (o + (7 + 2 * i1_)), .int a1, .int a2]) (va_Qi (fun r (_ : Unit) => True) (qB D vwCl (qT6 ca) o 132 (fun _ : Unit => qG (GU ca o) z y)) (qw_A o 132)) (qw_A o 132) := by
  refine Met.ofW (cc := cX10_nearestTrue) (maxL := 6) (ret := (some .int)) (by decide) rfl ?_
  intro p e s m args below meth c s₁ B hml hv
  obtain ⟨rfl, hP, hK⟩ := hv
  have hx := B.exec
  have hb := B.bytes
  have hr := B.returns
  have hts0 := atoms_spec (ws := Cond.code yX10_nearestTrue cX10_nearestTrue 6 (some .int) :: qtbl) B.pre
  have hts : ∀ w ∈ qtbl, w.before _ s = true := fun w h => hts0 w (List.mem_cons_of_mem _ h)
  have hown : s.vm.findClass RX10 = some m.cls := findClass_of_methodNamed B.named
  have hlocks := B.notSynchronized
  have hS : va_S (qw_A o 132) s.heap s.heap [] := va_S.rf
  have hl := lv_entry ([.ref (o + 0), .ref (o + (7 + 2 * i1_)), .int a1, .int a2]) (n := 6) (Nat.le_of_ble_eq_true rfl)
  rw [lg_entry_eq]
  generalize (lg_sl ([.ref (o + 0), .ref (o + (7 + 2 * i1_)), .int a1, .int a2]) ++ List.replicate (6 - (lg_sl ([.ref (o + 0), .ref (o + (7 + 2 * i1_)), .int a1, .int a2])).length) Slot.unset).toArray = ls at hl ⊢
  have hl : lv_has ls 6 [(0, .ref (o + 0)), (1, .ref (o + (7 + 2 * i1_))), (2, .int a1), (3, .int a2)] := hl
  refine lv_iconst (v := 0) hx hb dX10_nearestTrue_0 (by decide) ?_
  refine lv_istore (lv' := [(4, .int 0), (0, .ref (o + 0)), (1, .ref (o + (7 + 2 * i1_))), (2, .int a1), (3, .int a2)]) hx hb dX10_nearestTrue_1 hl (by decide) rfl (fun ls hl => ?_)
  have loop1 : ∀ (n : Nat) (w1_4 : Int32), ((100 - w1_4.toInt : Int) < (n : Int)) → ((0 : Int) ≤ w1_4.toInt ∧ w1_4.toInt ≤ 100) → ∀ (H : Heap) (locs : List Loc), qw_P D vwCl o 132 (qG (GU ca o) z y) H → va_S (qw_A o 132) s.heap H locs → ∀ (ls : Array Slot), lv_has ls 6 [(4, .int w1_4), (0, .ref (o + 0)), (1, .ref (o + (7 + 2 * i1_))), (2, .int a1), (3, .int a2)] → W p l e (headSpec (Cond.code yX10_nearestTrue cX10_nearestTrue 6 (some .int) :: qtbl) ({ frames := 2, cells := 0, slots := 0, locals := 84 })).room s m (([.ref (o + 0), .ref (o + (7 + 2 * i1_)), .int a1, .int a2] : List Value).toArray) below meth c H locs 0 0 (MQ below (va_Qi (fun r (_ : Unit) => True) (qB D vwCl (qT6 ca) o 132 (fun _ : Unit => qG (GU ca o) z y)) (qw_A o 132)) (([.ref (o + 0), .ref (o + (7 + 2 * i1_)), .int a1, .int a2] : List Value).toArray) s 0 0 (qw_A o 132)) (F0 m 3 ls []) := by
    intro n
    induction n with
    | zero => intro w1_4 hb1 hv1_4; exfalso; omega
    | succ n1 ih1 =>
      intro w1_4 hb1 hv1_4 H locs hP hS ls hl
      refine lv_iload hx hb dX10_nearestTrue_3 (lv_at hl 0 rfl) ?_
      refine lv_bipush (v := 100) hx hb dX10_nearestTrue_5 (by decide) ?_
      refine lv_icmp_ge (tgt := 62) hx hb dX10_nearestTrue_7 (by decide) (fun c2 => ?_) (fun c2 => ?_)
      · have t2 : w1_4.toInt ≥ (100 : Int) := gl_le c2
        refine lv_sipush (v := (-200)) hx hb dX10_nearestTrue_62 (by decide) ?_
        exact W.iret (v := (-200)) hx hb hr (fun t ht hW => ⟨⟨(-200), (), rfl, trivial, by rw [ht]; exact hP, va_K.moved hW.alike hK⟩, hS.F ht⟩) hS.2.2 dX10_nearestTrue_65
      · have t2 : w1_4.toInt < (100 : Int) := gl_nle c2
        refine lv_iload_n hx hb dX10_nearestTrue_10 rfl (lv_at hl 3 rfl) ?_
        refine lv_iload hx hb dX10_nearestTrue_11 (lv_at hl 0 rfl) ?_
        refine lv_iload_n hx hb dX10_nearestTrue_13 rfl (lv_at hl 4 rfl) ?_
        refine lv_imul hx hb dX10_nearestTrue_14 ?_
        refine lv_topi (fun x3 e3 => ?_)
        refine lv_iadd hx hb dX10_nearestTrue_15 ?_
        refine lv_topi (fun x4 e4 => ?_)
        refine lv_istore (lv' := [(5, .int x4), (4, .int w1_4), (0, .ref (o + 0)), (1, .ref (o + (7 + 2 * i1_))), (2, .int a1), (3, .int a2)]) hx hb dX10_nearestTrue_16 hl (by decide) rfl (fun ls hl => ?_)
        refine lv_iload hx hb dX10_nearestTrue_18 (lv_at hl 0 rfl) ?_
        refine lv_bipush (v := 99) hx hb dX10_nearestTrue_20 (by decide) ?_
        refine lv_icmp_gt (tgt := 56) hx hb dX10_nearestTrue_22 (by decide) (fun c5 => ?_) (fun c5 => ?_)
        · have t5 : x4.toInt > (99 : Int) := gl_lt c5
          obtain ⟨x6, e6⟩ : ∃ t : Int32, t = w1_4 + 1 := ⟨_, rfl⟩
          refine lv_iinc (v := x6) (lv' := [(4, .int x6), (5, .int x4), (0, .ref (o + 0)), (1, .ref (o + (7 + 2 * i1_))), (2, .int a1), (3, .int a2)]) hx hb dX10_nearestTrue_56 hl (k := 1) rfl (by rw [e6]; rfl) (by decide) rfl (fun ls hl => ?_)
          have t6 : x6.toInt = w1_4.toInt + (1 : Int) := ga_add e6 rfl rfl (by omega) (by omega)
          refine lv_goto (tgt := 3) hx hb dX10_nearestTrue_59 (by decide) ?_
          exact ih1 x6 (show (100 - x6.toInt : Int) < (n1 : Int) from by omega) ⟨by omega, by omega⟩ _ _ hP hS _ (lv_sub hl [0, 2, 3, 4, 5] rfl)
        · have t5 : x4.toInt ≤ (99 : Int) := gl_nlt c5
          refine lv_aload_n hx hb dX10_nearestTrue_25 rfl (lv_at hl 3 rfl) ?_
          refine lv_aload_n hx hb dX10_nearestTrue_26 rfl (lv_at hl 3 rfl) ?_
          refine lv_aload_n hx hb dX10_nearestTrue_27 rfl (lv_at hl 2 rfl) ?_
          refine qf_get hx hb hts inX10 hown hK hP (q0 := 0) (by decide) (hgU_0 ca o) rfl 6 (by decide) wq_359 (v := .ref (o + 104)) rfl dX10_nearestTrue_28 ?_
          refine qf_get hx hb hts inX7 hown hK hP (q0 := 104) (by decide) (hgU_104 ca o) rfl 1 (by decide) wq_189 (v := .ref (o + 105)) rfl dX10_nearestTrue_31 ?_
          refine lv_aload_n hx hb dX10_nearestTrue_34 rfl (lv_at hl 2 rfl) ?_
          refine qf_get hx hb hts inX10 hown hK hP (q0 := 0) (by decide) (hgU_0 ca o) rfl 0 (by decide) wq_353 (v := .ref (o + 1)) rfl dX10_nearestTrue_35 ?_
          refine qf_get hx hb hts inX9 hown hK hP (q0 := 1) (by decide) (hgU_1 ca o) rfl 7 (by decide) wq_104 (v := .int (z 1 7)) rfl dX10_nearestTrue_38 ?_
          refine lv_topi (fun x7 e7 => ?_)
          refine lv_iload hx hb dX10_nearestTrue_41 (lv_at hl 0 rfl) ?_
          refine lv_iadd hx hb dX10_nearestTrue_43 ?_
          refine lv_topi (fun x8 e8 => ?_)
          refine qc_Vip (As := [.ref (o + 105), .int x8]) (rest := [.ref (o + (7 + 2 * i1_))]) (k0 := 2) (u_Line_tellsIn l D ca o b z y J0 (i0_ := i1_) hi1_ x8) kc_yX5_tellsIn ⟨hx, hb, hml, hown, hts⟩ wq_817 rfl rfl ⟨Nat.le_of_ble_eq_true rfl, Nat.le_of_ble_eq_true rfl⟩ wq_all hP hK hS qw_Ai (q0 := 7 + 2 * i1_) (show _ < _ from by have := hi1_; omega) (hgU_LT ca o hi1_ _ _) rfl rfl hl.1 rfl (Nat.le_of_ble_eq_true rfl) dX10_nearestTrue_44 ⟨Nat.zero_le _, Nat.zero_le _⟩ (fun r9 H locs h9 hP hS _ _ => ?_)
          refine qc_Vip (As := [.int r9]) (rest := []) (k0 := 1) (u_Line_holds l D ca o b z y J0 (i0_ := i1_) hi1_ r9) kc_yX5_holds ⟨hx, hb, hml, hown, hts⟩ wq_821 rfl rfl ⟨Nat.le_of_ble_eq_true rfl, Nat.le_of_ble_eq_true rfl⟩ wq_all hP hK hS qw_Ai (q0 := 7 + 2 * i1_) (show _ < _ from by have := hi1_; omega) (hgU_LT ca o hi1_ _ _) rfl rfl hl.1 rfl (Nat.le_of_ble_eq_true rfl) dX10_nearestTrue_47 ⟨Nat.zero_le _, Nat.zero_le _⟩ (fun r10 H locs h10 hP hS _ _ => ?_)
          have b10 : (0 : Int) ≤ r10.toInt ∧ r10.toInt ≤ 1 := h10
          refine lv_if_eq (tgt := 56) hx hb dX10_nearestTrue_50 (by decide) (fun c11 => ?_) (fun c11 => ?_)
          · have t11 : r10.toInt = (0 : Int) := gl_eq c11
            obtain ⟨x12, e12⟩ : ∃ t : Int32, t = w1_4 + 1 := ⟨_, rfl⟩
            refine lv_iinc (v := x12) (lv' := [(4, .int x12), (5, .int x4), (0, .ref (o + 0)), (1, .ref (o + (7 + 2 * i1_))), (2, .int a1), (3, .int a2)]) hx hb dX10_nearestTrue_56 hl (k := 1) rfl (by rw [e12]; rfl) (by decide) rfl (fun ls hl => ?_)
            have t12 : x12.toInt = w1_4.toInt + (1 : Int) := ga_add e12 rfl rfl (by omega) (by omega)
            refine lv_goto (tgt := 3) hx hb dX10_nearestTrue_59 (by decide) ?_
            exact ih1 x12 (show (100 - x12.toInt : Int) < (n1 : Int) from by omega) ⟨by omega, by omega⟩ _ _ hP hS _ (lv_sub hl [0, 2, 3, 4, 5] rfl)
          · have t11 : r10.toInt ≠ (0 : Int) := gl_ne c11
            refine lv_iload hx hb dX10_nearestTrue_53 (lv_at hl 0 rfl) ?_
            exact W.iret (v := x4) hx hb hr (fun t ht hW => ⟨⟨x4, (), rfl, trivial, by rw [ht]; exact hP, va_K.moved hW.alike hK⟩, hS.F ht⟩) hS.2.2 dX10_nearestTrue_55
  exact loop1 101 0 (show (100 - (0 : Int) : Int) < ((101 : Nat) : Int) from by omega) ⟨by decide, by decide⟩ _ _ hP hS _ (lv_sub hl [0, 1, 2, 3, 4] rfl)
set_option maxRecDepth 100000 in
set_option maxHeartbeats 8000000 in
theorem u_isTrue (l : Launch) (D : va_G) (ca : Nat → ClassId) (o : Nat) (b z : Nat → Nat → Int32) (y : Nat → Nat → Int64) (J0 : qJU b z) (a0 : Int32) (a1 : Int32) (a2 : Int32)  : qM l yX10_isTrue cX10_isTrue 6 (some .int) 6 166 (qPre D vwCl (qT6 ca) o 132 (qG (GU ca o) z y) [.ref (o + 0), .int a0, .int a1, .int a2]) (va_Qi (fun r u => True ∧ qJU b u.1) (qB D vwCl (qT6 ca) o 132 (fun u : qZ => qG (GU ca o) u.1 u.2)) (qw_A o 132)) (qw_A o 132) := by
  refine Met.ofW (cc := cX10_isTrue) (maxL := 6) (ret := (some .int)) (by decide) rfl ?_
  intro p e s m args below meth c s₁ B hml hv
  obtain ⟨rfl, hP, hK⟩ := hv
  have hx := B.exec
  have hb := B.bytes
  have hr := B.returns
  have hts0 := atoms_spec (ws := Cond.code yX10_isTrue cX10_isTrue 6 (some .int) :: qtbl) B.pre
  have hts : ∀ w ∈ qtbl, w.before _ s = true := fun w h => hts0 w (List.mem_cons_of_mem _ h)
  have hown : s.vm.findClass RX10 = some m.cls := findClass_of_methodNamed B.named
  have hlocks := B.notSynchronized
  have hS : va_S (qw_A o 132) s.heap s.heap [] := va_S.rf
  have hl := lv_entry ([.ref (o + 0), .int a0, .int a1, .int a2]) (n := 6) (Nat.le_of_ble_eq_true rfl)
  rw [lg_entry_eq]
  generalize (lg_sl ([.ref (o + 0), .int a0, .int a1, .int a2]) ++ List.replicate (6 - (lg_sl ([.ref (o + 0), .int a0, .int a1, .int a2])).length) Slot.unset).toArray = ls at hl ⊢
  have hl : lv_has ls 6 [(0, .ref (o + 0)), (1, .int a0), (2, .int a1), (3, .int a2)] := hl
  refine lv_aload_n hx hb dX10_isTrue_0 rfl (lv_at hl 0 rfl) ?_
  refine lv_iload_n hx hb dX10_isTrue_1 rfl (lv_at hl 1 rfl) ?_
  refine qc_Vip (As := [.int a0]) (rest := []) (k0 := 1) (u_areRemarks l D ca o b z y J0 a0) kc_yX10_areRemarks ⟨hx, hb, hml, hown, hts⟩ wq_583 rfl rfl ⟨Nat.le_of_ble_eq_true rfl, Nat.le_of_ble_eq_true rfl⟩ wq_all hP hK hS qw_Ai (q0 := 0) (by decide) (hgU_0 ca o _ _) rfl rfl hl.1 rfl (Nat.le_of_ble_eq_true rfl) dX10_isTrue_2 ⟨Nat.zero_le _, Nat.zero_le _⟩ (fun r1 H locs h1 hP hS _ _ => ?_)
  have b1 : (0 : Int) ≤ r1.toInt ∧ r1.toInt ≤ 1 := h1
  refine lv_if_eq (tgt := 28) hx hb dX10_isTrue_5 (by decide) (fun c2 => ?_) (fun c2 => ?_)
  · have t2 : r1.toInt = (0 : Int) := gl_eq c2
    refine lv_sipush (v := (-204)) hx hb dX10_isTrue_28 (by decide) ?_
    exact W.iret (v := (-204)) hx hb hr (fun t ht hW => ⟨⟨(-204), (z, y), rfl, ⟨trivial, J0⟩, by rw [ht]; exact hP, va_K.moved hW.alike hK⟩, hS.F ht⟩) hS.2.2 dX10_isTrue_31
  · have t2 : r1.toInt ≠ (0 : Int) := gl_ne c2
    refine lv_aload_n hx hb dX10_isTrue_8 rfl (lv_at hl 0 rfl) ?_
    refine qf_get hx hb hts inX10 hown hK hP (q0 := 0) (by decide) (hgU_0 ca o) rfl 0 (by decide) wq_353 (v := .ref (o + 1)) rfl dX10_isTrue_9 ?_
    refine lv_iload_n hx hb dX10_isTrue_12 rfl (lv_at hl 2 rfl) ?_
    refine qc_Vip (As := [.int a1]) (rest := []) (k0 := 1) (u_Told_hasRemark l D ca o b z y J0 a1) kc_yX9_hasRemark ⟨hx, hb, hml, hown, hts⟩ wq_527 rfl rfl ⟨Nat.le_of_ble_eq_true rfl, Nat.le_of_ble_eq_true rfl⟩ wq_all hP hK hS qw_Ai (q0 := 1) (by decide) (hgU_1 ca o _ _) rfl rfl hl.1 rfl (Nat.le_of_ble_eq_true rfl) dX10_isTrue_13 ⟨Nat.zero_le _, Nat.zero_le _⟩ (fun r3 H locs h3 hP hS _ _ => ?_)
    rcases h3 with ⟨hr3, hf3_0⟩ | hr3
    · subst hr3
      have hg3_0 : 0 ≤ a1.toInt ∧ a1.toInt ≤ 9 := hf3_0
      refine lv_if_eq (tgt := 28) hx hb dX10_isTrue_16 (by decide) (fun q => absurd q (by decide)) (fun _ => ?_)
      refine lv_iload_n hx hb dX10_isTrue_19 rfl (lv_at hl 3 rfl) ?_
      refine lv_if_lt (tgt := 28) hx hb dX10_isTrue_20 (by decide) (fun c4 => ?_) (fun c4 => ?_)
      · have t4 : a2.toInt < (0 : Int) := gl_lt c4
        refine lv_sipush (v := (-204)) hx hb dX10_isTrue_28 (by decide) ?_
        exact W.iret (v := (-204)) hx hb hr (fun t ht hW => ⟨⟨(-204), (z, y), rfl, ⟨trivial, J0⟩, by rw [ht]; exact hP, va_K.moved hW.alike hK⟩, hS.F ht⟩) hS.2.2 dX10_isTrue_31
      · have t4 : a2.toInt ≥ (0 : Int) := gl_nlt c4
        refine lv_iload_n hx hb dX10_isTrue_23 rfl (lv_at hl 3 rfl) ?_
        refine lv_iconst (v := 2) hx hb dX10_isTrue_24 (by decide) ?_
        refine lv_icmp_le (tgt := 32) hx hb dX10_isTrue_25 (by decide) (fun c5 => ?_) (fun c5 => ?_)
        · have t5 : a2.toInt ≤ (2 : Int) := gl_le c5
          refine lv_aload_n hx hb dX10_isTrue_32 rfl (lv_at hl 0 rfl) ?_
          refine qf_get hx hb hts inX10 hown hK hP (q0 := 0) (by decide) (hgU_0 ca o) rfl 6 (by decide) wq_359 (v := .ref (o + 104)) rfl dX10_isTrue_33 ?_
          refine lv_iload_n hx hb dX10_isTrue_36 rfl (lv_at hl 1 rfl) ?_
          refine qc_Vi2 (As := [.int a0]) (rest := []) (k0 := 1) (u_Rows_seek l D ca o b z y J0 a0) kc_yX7_seek ⟨hx, hb, hml, hown, hts⟩ wq_587 rfl rfl ⟨Nat.le_of_ble_eq_true rfl, Nat.le_of_ble_eq_true rfl⟩ wq_all hP hK hS qw_Ai (q0 := 104) (by decide) (hgU_104 ca o _ _) rfl rfl hl.1 rfl (Nat.le_of_ble_eq_true rfl) dX10_isTrue_37 ⟨Nat.zero_le _, Nat.zero_le _⟩ (fun r6 z6 y6 H locs h6 hP hS _ _ => ?_)
          have J6 : qJU b z6 := h6.2
          have b6 : (-3 : Int) ≤ r6.toInt ∧ r6.toInt ≤ 0 := h6.1
          refine lv_istore (lv' := [(4, .int r6), (0, .ref (o + 0)), (1, .int a0), (2, .int a1), (3, .int a2)]) hx hb dX10_isTrue_40 hl (by decide) rfl (fun ls hl => ?_)
          refine lv_iload hx hb dX10_isTrue_42 (lv_at hl 0 rfl) ?_
          refine lv_if_ge (tgt := 64) hx hb dX10_isTrue_44 (by decide) (fun c7 => ?_) (fun c7 => ?_)
          · have t7 : r6.toInt ≥ (0 : Int) := gl_le c7
            refine lv_aload_n hx hb dX10_isTrue_64 rfl (lv_at hl 1 rfl) ?_
            refine qf_get hx hb hts inX10 hown hK hP (q0 := 0) (by decide) (hgU_0 ca o) rfl 0 (by decide) wq_353 (v := .ref (o + 1)) rfl dX10_isTrue_65 ?_
            refine qf_get hx hb hts inX9 hown hK hP (q0 := 1) (by decide) (hgU_1 ca o) rfl 4 (by decide) wq_97 (v := .ref (o + 6)) rfl dX10_isTrue_68 ?_
            refine lv_iload_n hx hb dX10_isTrue_71 rfl (lv_at hl 3 rfl) ?_
            have hi_a1 : a1.toNatClampNeg < 16 := ga_nat (by omega) (show _ < (16 : Int) from by omega)
            refine qa_aald hx hb hK hP (q0 := 6) (by decide) 4 rfl (N := 16) (hgU_6 ca o) rfl (gi_in (by omega) (by omega)) dX10_isTrue_72 ?_
            refine lv_astore (lv' := [(5, .ref (o + (7 + 2 * a1.toNatClampNeg))), (4, .int r6), (0, .ref (o + 0)), (1, .int a0), (2, .int a1), (3, .int a2)]) hx hb dX10_isTrue_73 hl (by decide) rfl (fun ls hl => ?_)
            refine lv_iload_n hx hb dX10_isTrue_75 rfl (lv_at hl 5 rfl) ?_
            refine lv_iconst (v := 1) hx hb dX10_isTrue_76 (by decide) ?_
            refine lv_icmp_ne (tgt := 89) hx hb dX10_isTrue_77 (by decide) (fun c8 => ?_) (fun c8 => ?_)
            · have t8 : a2.toInt ≠ (1 : Int) := gl_ne c8
              refine lv_iload_n hx hb dX10_isTrue_89 rfl (lv_at hl 5 rfl) ?_
              refine lv_iconst (v := 2) hx hb dX10_isTrue_90 (by decide) ?_
              refine lv_icmp_ne (tgt := 105) hx hb dX10_isTrue_91 (by decide) (fun c9 => ?_) (fun c9 => ?_)
              · have t9 : a2.toInt ≠ (2 : Int) := gl_ne c9
                refine lv_aload_n hx hb dX10_isTrue_105 rfl (lv_at hl 2 rfl) ?_
                refine lv_aload hx hb dX10_isTrue_106 (lv_at hl 0 rfl) ?_
                refine qc_Vip (As := [.ref (o + (7 + 2 * a1.toNatClampNeg))]) (rest := []) (k0 := 1) (u_yearsTrue l D ca o b z6 y6 J6 (i1_ := a1.toNatClampNeg) hi_a1) kc_yX10_yearsTrue ⟨hx, hb, hml, hown, hts⟩ wq_822 rfl rfl ⟨Nat.le_of_ble_eq_true rfl, Nat.le_of_ble_eq_true rfl⟩ wq_all hP hK hS qw_Ai (q0 := 0) (by decide) (hgU_0 ca o _ _) rfl rfl hl.1 rfl (Nat.le_of_ble_eq_true rfl) dX10_isTrue_108 ⟨Nat.zero_le _, Nat.zero_le _⟩ (fun r10 H locs h10 hP hS _ _ => ?_)
                exact W.iret (v := r10) hx hb hr (fun t ht hW => ⟨⟨r10, (z6, y6), rfl, ⟨trivial, J6⟩, by rw [ht]; exact hP, va_K.moved hW.alike hK⟩, hS.F ht⟩) hS.2.2 dX10_isTrue_111
              · have t9 : a2.toInt = (2 : Int) := gl_eq c9
                refine lv_aload_n hx hb dX10_isTrue_94 rfl (lv_at hl 2 rfl) ?_
                refine lv_aload hx hb dX10_isTrue_95 (lv_at hl 0 rfl) ?_
                refine lv_iconst (v := 1) hx hb dX10_isTrue_97 (by decide) ?_
                refine lv_iconst (v := 1) hx hb dX10_isTrue_98 (by decide) ?_
                refine qc_Vip (As := [.ref (o + (7 + 2 * a1.toNatClampNeg)), .int 1, .int 1]) (rest := []) (k0 := 3) (u_nearestTrue l D ca o b z6 y6 J6 (i1_ := a1.toNatClampNeg) hi_a1 1 1) kc_yX10_nearestTrue ⟨hx, hb, hml, hown, hts⟩ wq_813 rfl rfl ⟨Nat.le_of_ble_eq_true rfl, Nat.le_of_ble_eq_true rfl⟩ wq_all hP hK hS qw_Ai (q0 := 0) (by decide) (hgU_0 ca o _ _) rfl rfl hl.1 rfl (Nat.le_of_ble_eq_true rfl) dX10_isTrue_99 ⟨Nat.zero_le _, Nat.zero_le _⟩ (fun r11 H locs h11 hP hS _ _ => ?_)
                refine lv_goto (tgt := 111) hx hb dX10_isTrue_102 (by decide) ?_
                exact W.iret (v := r11) hx hb hr (fun t ht hW => ⟨⟨r11, (z6, y6), rfl, ⟨trivial, J6⟩, by rw [ht]; exact hP, va_K.moved hW.alike hK⟩, hS.F ht⟩) hS.2.2 dX10_isTrue_111
            · have t8 : a2.toInt = (1 : Int) := gl_eq c8
              refine lv_aload_n hx hb dX10_isTrue_80 rfl (lv_at hl 2 rfl) ?_
              refine lv_aload hx hb dX10_isTrue_81 (lv_at hl 0 rfl) ?_
              refine lv_iconst (v := 0) hx hb dX10_isTrue_83 (by decide) ?_
              refine lv_iconst (v := (-1)) hx hb dX10_isTrue_84 (by decide) ?_
              refine qc_Vip (As := [.ref (o + (7 + 2 * a1.toNatClampNeg)), .int 0, .int ((-1))]) (rest := []) (k0 := 3) (u_nearestTrue l D ca o b z6 y6 J6 (i1_ := a1.toNatClampNeg) hi_a1 0 (-1)) kc_yX10_nearestTrue ⟨hx, hb, hml, hown, hts⟩ wq_813 rfl rfl ⟨Nat.le_of_ble_eq_true rfl, Nat.le_of_ble_eq_true rfl⟩ wq_all hP hK hS qw_Ai (q0 := 0) (by decide) (hgU_0 ca o _ _) rfl rfl hl.1 rfl (Nat.le_of_ble_eq_true rfl) dX10_isTrue_85 ⟨Nat.zero_le _, Nat.zero_le _⟩ (fun r12 H locs h12 hP hS _ _ => ?_)
              exact W.iret (v := r12) hx hb hr (fun t ht hW => ⟨⟨r12, (z6, y6), rfl, ⟨trivial, J6⟩, by rw [ht]; exact hP, va_K.moved hW.alike hK⟩, hS.F ht⟩) hS.2.2 dX10_isTrue_88
          · have t7 : r6.toInt < (0 : Int) := gl_nle c7
            refine lv_iload hx hb dX10_isTrue_47 (lv_at hl 0 rfl) ?_
            refine lv_bipush (v := (-3)) hx hb dX10_isTrue_49 (by decide) ?_
            refine lv_icmp_ne (tgt := 60) hx hb dX10_isTrue_51 (by decide) (fun c13 => ?_) (fun c13 => ?_)
            · have t13 : r6.toInt ≠ (-3 : Int) := gl_ne c13
              refine lv_sipush (v := (-201)) hx hb dX10_isTrue_60 (by decide) ?_
              exact W.iret (v := (-201)) hx hb hr (fun t ht hW => ⟨⟨(-201), (z6, y6), rfl, ⟨trivial, J6⟩, by rw [ht]; exact hP, va_K.moved hW.alike hK⟩, hS.F ht⟩) hS.2.2 dX10_isTrue_63
            · have t13 : r6.toInt = (-3 : Int) := gl_eq c13
              refine lv_sipush (v := (-203)) hx hb dX10_isTrue_54 (by decide) ?_
              refine lv_goto (tgt := 63) hx hb dX10_isTrue_57 (by decide) ?_
              exact W.iret (v := (-203)) hx hb hr (fun t ht hW => ⟨⟨(-203), (z6, y6), rfl, ⟨trivial, J6⟩, by rw [ht]; exact hP, va_K.moved hW.alike hK⟩, hS.F ht⟩) hS.2.2 dX10_isTrue_63
        · have t5 : a2.toInt > (2 : Int) := gl_nle c5
          refine lv_sipush (v := (-204)) hx hb dX10_isTrue_28 (by decide) ?_
          exact W.iret (v := (-204)) hx hb hr (fun t ht hW => ⟨⟨(-204), (z, y), rfl, ⟨trivial, J0⟩, by rw [ht]; exact hP, va_K.moved hW.alike hK⟩, hS.F ht⟩) hS.2.2 dX10_isTrue_31
    · subst hr3
      refine lv_if_eq (tgt := 28) hx hb dX10_isTrue_16 (by decide) (fun _ => ?_) (fun q => absurd (by decide) q)
      refine lv_sipush (v := (-204)) hx hb dX10_isTrue_28 (by decide) ?_
      exact W.iret (v := (-204)) hx hb hr (fun t ht hW => ⟨⟨(-204), (z, y), rfl, ⟨trivial, J0⟩, by rw [ht]; exact hP, va_K.moved hW.alike hK⟩, hS.F ht⟩) hS.2.2 dX10_isTrue_31
