set_option maxRecDepth 100000 in
set_option maxHeartbeats 8000000 in
theorem m_endsFrame (l : Launch) (D : va_G) (ca : Nat → ClassId) (o : Nat) (b z : Nat → Nat → Int32) (y : Nat → Nat → Int64) (J0 : qJM b z)  (hp0 : 1 ≤ (z 0 29).toInt) : qM l yX11_endsFrame cX11_endsFrame 2 (some .boolean) 4 122 (qPre D vwCl (qT6 ca) o 41 (qG (GM ca o) z y) [.ref (o + 0)]) (va_Qi (fun r u => ((r = 1 ∧ ((u.1 0 16).toInt ≥ (z 0 16).toInt + 1)) ∨ (r = 0)) ∧ qJM b u.1 ∧ ((u.1 0 33).toInt = (z 0 33).toInt) ∧ ((u.1 0 34).toInt = (z 0 34).toInt)) (qB D vwCl (qT6 ca) o 41 (fun u : qZ => qG (GM ca o) u.1 u.2)) (qw_A o 41)) (qw_A o 41) := by
  refine Met.ofW (cc := cX11_endsFrame) (maxL := 2) (ret := (some .boolean)) (by decide) rfl ?_
  intro p e s m args below meth c s₁ B hml hv
  obtain ⟨rfl, hP, hK⟩ := hv
  have hx := B.exec
  have hb := B.bytes
  have hr := B.returns
  have hts0 := atoms_spec (ws := Cond.code yX11_endsFrame cX11_endsFrame 2 (some .boolean) :: qtbl) B.pre
  have hts : ∀ w ∈ qtbl, w.before _ s = true := fun w h => hts0 w (List.mem_cons_of_mem _ h)
  have hown : s.vm.findClass RX11 = some m.cls := findClass_of_methodNamed B.named
  have hlocks := B.notSynchronized
  have hS : va_S (qw_A o 41) s.heap s.heap [] := va_S.rf
  have hl := lv_entry ([.ref (o + 0)]) (n := 2) (Nat.le_of_ble_eq_true rfl)
  rw [lg_entry_eq]
  generalize (lg_sl ([.ref (o + 0)]) ++ List.replicate (2 - (lg_sl ([.ref (o + 0)])).length) Slot.unset).toArray = ls at hl ⊢
  have hl : lv_has ls 2 [(0, .ref (o + 0))] := hl
  refine lv_aload_n hx hb dX11_endsFrame_0 rfl (lv_at hl 0 rfl) ?_
  refine lv_bipush (v := 41) hx hb dX11_endsFrame_1 (by decide) ?_
  refine qc_Vi2 (As := [.int 41]) (rest := []) (k0 := 1) (m_takes l D ca o b z y J0 41 ⟨by decide, by decide⟩) kc_yX11_takes ⟨hx, hb, hml, hown, hts⟩ wq_1257 rfl rfl ⟨Nat.le_of_ble_eq_true rfl, Nat.le_of_ble_eq_true rfl⟩ wq_all hP hK hS qw_Ai (q0 := 0) (by decide) (hgM_0 ca o _ _) rfl rfl hl.1 rfl (Nat.le_of_ble_eq_true rfl) dX11_endsFrame_3 ⟨Nat.zero_le _, Nat.zero_le _⟩ (fun r1 z1 y1 H locs h1 hP hS _ _ => ?_)
  have J1 : qJM b z1 := h1.2.1
  have R20_1 : z1 20 = z 20 := (h1.2.2.1).trans (rfl)
  have R21_1 : z1 21 = z 21 := (h1.2.2.2.1).trans (rfl)
  have p1_4 : (z1 0 29).toInt = (z 0 29).toInt := h1.2.2.2.2.1
  have p1_5 : (z1 0 33).toInt = (z 0 33).toInt := h1.2.2.2.2.2.1
  have p1_6 : (z1 0 34).toInt = (z 0 34).toInt := h1.2.2.2.2.2.2
  rcases h1.1 with ⟨hr1, hf1_0⟩ | hr1
  · subst hr1
    have hg1_0 : (z1 0 16).toInt = (z 0 16).toInt + 1 := hf1_0
    refine lv_if_ne (tgt := 11) hx hb dX11_endsFrame_6 (by decide) (fun _ => ?_) (fun q => absurd q (by decide))
    refine lv_iconst (v := 0) hx hb dX11_endsFrame_11 (by decide) ?_
    refine lv_istore_n (lv' := [(1, .int 0), (0, .ref (o + 0))]) hx hb dX11_endsFrame_12 rfl hl (by decide) rfl (fun ls hl => ?_)
    have loop2 : ∀ (n : Nat) (w2_1 : Int32) (z2 : Nat → Nat → Int32) (y2 : Nat → Nat → Int64), ((7 - w2_1.toInt : Int) < (n : Int)) → ((0 : Int) ≤ w2_1.toInt ∧ w2_1.toInt ≤ 7) → (qJM b z2) → ((z2 0 16).toInt = (z1 0 16).toInt) → ((z2 0 29).toInt = (z1 0 29).toInt) → ((z2 0 33).toInt = (z1 0 33).toInt) → ((z2 0 34).toInt = (z1 0 34).toInt) → (z2 20 = z 20) → (z2 21 = z 21) → ∀ (H : Heap) (locs : List Loc), qw_P D vwCl o 41 (qG (GM ca o) z2 y2) H → va_S (qw_A o 41) s.heap H locs → ∀ (ls : Array Slot), lv_has ls 2 [(1, .int w2_1), (0, .ref (o + 0))] → W p l e (headSpec (Cond.code yX11_endsFrame cX11_endsFrame 2 (some .boolean) :: qtbl) ({ frames := 4, cells := 0, slots := 0, locals := 122 })).room s m (([.ref (o + 0)] : List Value).toArray) below meth c H locs 0 0 (MQ below (va_Qi (fun r u => ((r = 1 ∧ ((u.1 0 16).toInt ≥ (z 0 16).toInt + 1)) ∨ (r = 0)) ∧ qJM b u.1 ∧ ((u.1 0 33).toInt = (z 0 33).toInt) ∧ ((u.1 0 34).toInt = (z 0 34).toInt)) (qB D vwCl (qT6 ca) o 41 (fun u : qZ => qG (GM ca o) u.1 u.2)) (qw_A o 41)) (([.ref (o + 0)] : List Value).toArray) s 0 0 (qw_A o 41)) (F0 m 13 ls []) := by
      intro n
      induction n with
      | zero => intro w2_1 z2 y2 hb2 hv2_1 J2 v2_0 v2_1 v2_2 v2_3 v2_4 v2_5; exfalso; omega
      | succ n2 ih2 =>
        intro w2_1 z2 y2 hb2 hv2_1 J2 v2_0 v2_1 v2_2 v2_3 v2_4 v2_5 H locs hP hS ls hl
        refine lv_iload_n hx hb dX11_endsFrame_13 rfl (lv_at hl 0 rfl) ?_
        refine lv_bipush (v := 7) hx hb dX11_endsFrame_14 (by decide) ?_
        refine lv_icmp_ge (tgt := 45) hx hb dX11_endsFrame_16 (by decide) (fun c3 => ?_) (fun c3 => ?_)
        · have t3 : w2_1.toInt ≥ (7 : Int) := gl_le c3
          refine lv_aload_n hx hb dX11_endsFrame_45 rfl (lv_at hl 1 rfl) ?_
          refine lv_aload_n hx hb dX11_endsFrame_46 rfl (lv_at hl 1 rfl) ?_
          refine qf_get hx hb hts inX11 hown hK hP (q0 := 0) (by decide) (hgM_0 ca o) rfl 23 (by decide) wq_1016 (v := .ref (o + 16)) rfl dX11_endsFrame_47 ?_
          refine lv_aload_n hx hb dX11_endsFrame_50 rfl (lv_at hl 1 rfl) ?_
          refine qf_get hx hb hts inX11 hown hK hP (q0 := 0) (by decide) (hgM_0 ca o) rfl 29 (by decide) wq_1022 (v := .int (z2 0 29)) rfl dX11_endsFrame_51 ?_
          refine lv_topi (fun x4 e4 => ?_)
          have b4 := iM_0_29 J2 e4
          have k4 : x4.toInt = (z2 0 29).toInt := congrArg Int32.toInt e4
          refine qa_iald hx hb hK hP (q0 := 16) (by decide) 0 (N := 7) (hgM_16 ca o) rfl (gi_in (by omega) (by omega)) dX11_endsFrame_54 ?_
          refine lv_topi (fun x5 e5 => ?_)
          refine qf_put2 hx hb hts inX11 tyX11 tyX11_ok nmX11 hown hK hP hS qw_Ai (q0 := 0) (by decide) (hgM_0 ca o) rfl 30 (by decide) wq_1023 rfl (x := x5) 30 rfl rfl rfl (Nat.le_of_ble_eq_true rfl) dX11_endsFrame_55 (fun z6 H locs hz6 hP hS => ?_)
          have J6 := jM_0_30 J2 hz6
          have R20_6 : z6 20 = z 20 := (qt_row hz6 (by decide)).trans (v2_4)
          have R21_6 : z6 21 = z 21 := (qt_row hz6 (by decide)).trans (v2_5)
          have k6_0 : (z6 0 16).toInt = (z2 0 16).toInt := congrArg Int32.toInt (qt_off hz6 (by decide))
          have k6_1 : (z6 0 29).toInt = (z2 0 29).toInt := congrArg Int32.toInt (qt_off hz6 (by decide))
          have k6_2 : (z6 0 33).toInt = (z2 0 33).toInt := congrArg Int32.toInt (qt_off hz6 (by decide))
          have k6_3 : (z6 0 34).toInt = (z2 0 34).toInt := congrArg Int32.toInt (qt_off hz6 (by decide))
          refine lv_aload_n hx hb dX11_endsFrame_58 rfl (lv_at hl 1 rfl) ?_
          refine qf_get hx hb hts inX11 hown hK hP (q0 := 0) (by decide) (hgM_0 ca o) rfl 27 (by decide) wq_1020 (v := .ref (o + 20)) rfl dX11_endsFrame_59 ?_
          refine lv_aload_n hx hb dX11_endsFrame_62 rfl (lv_at hl 1 rfl) ?_
          refine qf_get hx hb hts inX11 hown hK hP (q0 := 0) (by decide) (hgM_0 ca o) rfl 29 (by decide) wq_1022 (v := .int (z6 0 29)) rfl dX11_endsFrame_63 ?_
          refine lv_topi (fun x7 e7 => ?_)
          have b7 := iM_0_29 J6 e7
          have k7 : x7.toInt = (z6 0 29).toInt := congrArg Int32.toInt e7
          refine qa_iald hx hb hK hP (q0 := 20) (by decide) 0 (N := 7) (hgM_20 ca o) rfl (gi_in (by omega) (by omega)) dX11_endsFrame_66 ?_
          refine lv_topi (fun x8 e8 => ?_)
          have b8 := iM_20 J6 e8
          have f8 : x8 = z 20 (z 0 29).toNatClampNeg := by rw [e8, R20_6, gr_eq (show x7.toInt = (z 0 29).toInt from by omega)]
          have fi8 : x8.toInt = (z 20 (z 0 29).toNatClampNeg).toInt := congrArg Int32.toInt f8
          have fx8 := J0.2.2.2.1 (z 0 29).toNatClampNeg
          refine lv_iconst (v := (-1)) hx hb dX11_endsFrame_67 (by decide) ?_
          refine lv_icmp_eq (tgt := 136) hx hb dX11_endsFrame_68 (by decide) (fun c9 => ?_) (fun c9 => ?_)
          · have t9 : x8.toInt = (-1 : Int) := gl_eq c9
            refine lv_aload_n hx hb dX11_endsFrame_136 rfl (lv_at hl 1 rfl) ?_
            refine lv_aload_n hx hb dX11_endsFrame_137 rfl (lv_at hl 1 rfl) ?_
            refine qf_get hx hb hts inX11 hown hK hP (q0 := 0) (by decide) (hgM_0 ca o) rfl 29 (by decide) wq_1022 (v := .int (z6 0 29)) rfl dX11_endsFrame_138 ?_
            refine lv_topi (fun x10 e10 => ?_)
            have b10 := iM_0_29 J6 e10
            have k10 : x10.toInt = (z6 0 29).toInt := congrArg Int32.toInt e10
            have ag10 : x10.toInt = x7.toInt := congrArg Int32.toInt (e10.trans e7.symm)
            refine lv_iconst (v := 1) hx hb dX11_endsFrame_141 (by decide) ?_
            refine lv_isub hx hb dX11_endsFrame_142 ?_
            refine lv_topi (fun x11 e11 => ?_)
            have t11 : x11.toInt = x10.toInt - (1 : Int) := ga_sub e11 rfl rfl (by omega) (by omega)
            refine qf_put2 hx hb hts inX11 tyX11 tyX11_ok nmX11 hown hK hP hS qw_Ai (q0 := 0) (by decide) (hgM_0 ca o) rfl 29 (by decide) wq_1022 rfl (x := x11) 29 rfl rfl rfl (Nat.le_of_ble_eq_true rfl) dX11_endsFrame_143 (fun z12 H locs hz12 hP hS => ?_)
            have J12 := jM_0_29 J6 hz12 ⟨by omega, by omega⟩
            have R20_12 : z12 20 = z 20 := (qt_row hz12 (by decide)).trans (R20_6)
            have R21_12 : z12 21 = z 21 := (qt_row hz12 (by decide)).trans (R21_6)
            have k12_0 : (z12 0 16).toInt = (z6 0 16).toInt := congrArg Int32.toInt (qt_off hz12 (by decide))
            have k12_1 : (z12 0 29).toInt = x11.toInt := congrArg Int32.toInt (qt_at hz12)
            have k12_2 : (z12 0 33).toInt = (z6 0 33).toInt := congrArg Int32.toInt (qt_off hz12 (by decide))
            have k12_3 : (z12 0 34).toInt = (z6 0 34).toInt := congrArg Int32.toInt (qt_off hz12 (by decide))
            refine lv_aload_n hx hb dX11_endsFrame_146 rfl (lv_at hl 1 rfl) ?_
            refine qc_Vi2 (As := []) (rest := []) (k0 := 0) (m_endsPart l D ca o b z12 y2 J12) kc_yX11_endsPart ⟨hx, hb, hml, hown, hts⟩ wq_1269 rfl rfl ⟨Nat.le_of_ble_eq_true rfl, Nat.le_of_ble_eq_true rfl⟩ wq_all hP hK hS qw_Ai (q0 := 0) (by decide) (hgM_0 ca o _ _) rfl rfl hl.1 rfl (Nat.le_of_ble_eq_true rfl) dX11_endsFrame_147 ⟨Nat.zero_le _, Nat.zero_le _⟩ (fun r13 z13 y13 H locs h13 hP hS _ _ => ?_)
            have J13 : qJM b z13 := h13.2.1
            have p13_2 : (z13 0 16).toInt = (z12 0 16).toInt := h13.2.2.1
            have p13_3 : (z13 0 33).toInt = (z12 0 33).toInt := h13.2.2.2.1
            have p13_4 : (z13 0 34).toInt = (z12 0 34).toInt := h13.2.2.2.2
            rcases h13.1 with hr13 | hr13
            · subst hr13
              exact W.zret (v := 1) (ty := .boolean) hx hb hr rfl (fun t ht hW => ⟨⟨1, (z13, y13), rfl, ⟨Or.inl ⟨rfl, (show (z13 0 16).toInt ≥ (z 0 16).toInt + 1 from by omega)⟩, J13, (show (z13 0 33).toInt = (z 0 33).toInt from by omega), (show (z13 0 34).toInt = (z 0 34).toInt from by omega)⟩, by rw [ht]; exact hP, va_K.moved hW.alike hK⟩, hS.F ht⟩) hS.2.2 dX11_endsFrame_150
            · subst hr13
              exact W.zret (v := 0) (ty := .boolean) hx hb hr rfl (fun t ht hW => ⟨⟨0, (z13, y13), rfl, ⟨Or.inr rfl, J13, (show (z13 0 33).toInt = (z 0 33).toInt from by omega), (show (z13 0 34).toInt = (z 0 34).toInt from by omega)⟩, by rw [ht]; exact hP, va_K.moved hW.alike hK⟩, hS.F ht⟩) hS.2.2 dX11_endsFrame_150
          · have t9 : x8.toInt ≠ (-1 : Int) := gl_ne c9
            refine lv_aload_n hx hb dX11_endsFrame_71 rfl (lv_at hl 1 rfl) ?_
            refine qf_get hx hb hts inX11 hown hK hP (q0 := 0) (by decide) (hgM_0 ca o) rfl 22 (by decide) wq_1015 (v := .ref (o + 15)) rfl dX11_endsFrame_72 ?_
            refine lv_aload_n hx hb dX11_endsFrame_75 rfl (lv_at hl 1 rfl) ?_
            refine qf_get hx hb hts inX11 hown hK hP (q0 := 0) (by decide) (hgM_0 ca o) rfl 27 (by decide) wq_1020 (v := .ref (o + 20)) rfl dX11_endsFrame_76 ?_
            refine lv_aload_n hx hb dX11_endsFrame_79 rfl (lv_at hl 1 rfl) ?_
            refine qf_get hx hb hts inX11 hown hK hP (q0 := 0) (by decide) (hgM_0 ca o) rfl 29 (by decide) wq_1022 (v := .int (z6 0 29)) rfl dX11_endsFrame_80 ?_
            refine lv_topi (fun x14 e14 => ?_)
            have b14 := iM_0_29 J6 e14
            have k14 : x14.toInt = (z6 0 29).toInt := congrArg Int32.toInt e14
            have ag14 : x14.toInt = x7.toInt := congrArg Int32.toInt (e14.trans e7.symm)
            refine qa_iald hx hb hK hP (q0 := 20) (by decide) 0 (N := 7) (hgM_20 ca o) rfl (gi_in (by omega) (by omega)) dX11_endsFrame_83 ?_
            refine lv_topi (fun x15 e15 => ?_)
            have b15 := iM_20 J6 e15
            have f15 : x15 = z 20 (z 0 29).toNatClampNeg := by rw [e15, R20_6, gr_eq (show x14.toInt = (z 0 29).toInt from by omega)]
            have fi15 : x15.toInt = (z 20 (z 0 29).toNatClampNeg).toInt := congrArg Int32.toInt f15
            have fx15 := J0.2.2.2.1 (z 0 29).toNatClampNeg
            refine lv_aload_n hx hb dX11_endsFrame_84 rfl (lv_at hl 1 rfl) ?_
            refine qf_get hx hb hts inX11 hown hK hP (q0 := 0) (by decide) (hgM_0 ca o) rfl 22 (by decide) wq_1015 (v := .ref (o + 15)) rfl dX11_endsFrame_85 ?_
            refine lv_aload_n hx hb dX11_endsFrame_88 rfl (lv_at hl 1 rfl) ?_
            refine qf_get hx hb hts inX11 hown hK hP (q0 := 0) (by decide) (hgM_0 ca o) rfl 27 (by decide) wq_1020 (v := .ref (o + 20)) rfl dX11_endsFrame_89 ?_
            refine lv_aload_n hx hb dX11_endsFrame_92 rfl (lv_at hl 1 rfl) ?_
            refine qf_get hx hb hts inX11 hown hK hP (q0 := 0) (by decide) (hgM_0 ca o) rfl 29 (by decide) wq_1022 (v := .int (z6 0 29)) rfl dX11_endsFrame_93 ?_
            refine lv_topi (fun x16 e16 => ?_)
            have b16 := iM_0_29 J6 e16
            have k16 : x16.toInt = (z6 0 29).toInt := congrArg Int32.toInt e16
            have ag16 : x16.toInt = x7.toInt := congrArg Int32.toInt (e16.trans e7.symm)
            refine qa_iald hx hb hK hP (q0 := 20) (by decide) 0 (N := 7) (hgM_20 ca o) rfl (gi_in (by omega) (by omega)) dX11_endsFrame_96 ?_
            refine lv_topi (fun x17 e17 => ?_)
            have b17 := iM_20 J6 e17
            have f17 : x17 = z 20 (z 0 29).toNatClampNeg := by rw [e17, R20_6, gr_eq (show x16.toInt = (z 0 29).toInt from by omega)]
            have fi17 : x17.toInt = (z 20 (z 0 29).toNatClampNeg).toInt := congrArg Int32.toInt f17
            have fx17 := J0.2.2.2.1 (z 0 29).toNatClampNeg
            refine qa_iald hx hb hK hP (q0 := 15) (by decide) 0 (N := 7) (hgM_15 ca o) rfl (gi_in (by omega) (by omega)) dX11_endsFrame_97 ?_
            refine lv_topi (fun x18 e18 => ?_)
            refine lv_iconst (v := 1) hx hb dX11_endsFrame_98 (by decide) ?_
            refine lv_iadd hx hb dX11_endsFrame_99 ?_
            refine lv_topi (fun x19 e19 => ?_)
            refine qa_iast2 hx hb hK hP hS qw_Ai (q0 := 15) (by decide) 0 (N := 7) (hgM_15 ca o) rfl (i := x15) (x := x19) (gi_in (by omega) (by omega)) dX11_endsFrame_100 (fun z20 H locs hz20 hP hS => ?_)
            have J20 := jM_15 J6 hz20
            have R20_20 : z20 20 = z 20 := (qt_row hz20 (by decide)).trans (R20_6)
            have R21_20 : z20 21 = z 21 := (qt_row hz20 (by decide)).trans (R21_6)
            have k20_0 : (z20 0 16).toInt = (z6 0 16).toInt := congrArg Int32.toInt (qt_ne hz20 16 (by decide))
            have k20_1 : (z20 0 29).toInt = (z6 0 29).toInt := congrArg Int32.toInt (qt_ne hz20 29 (by decide))
            have k20_2 : (z20 0 33).toInt = (z6 0 33).toInt := congrArg Int32.toInt (qt_ne hz20 33 (by decide))
            have k20_3 : (z20 0 34).toInt = (z6 0 34).toInt := congrArg Int32.toInt (qt_ne hz20 34 (by decide))
            refine lv_aload_n hx hb dX11_endsFrame_101 rfl (lv_at hl 1 rfl) ?_
            refine qf_get hx hb hts inX11 hown hK hP (q0 := 0) (by decide) (hgM_0 ca o) rfl 22 (by decide) wq_1015 (v := .ref (o + 15)) rfl dX11_endsFrame_102 ?_
            refine lv_aload_n hx hb dX11_endsFrame_105 rfl (lv_at hl 1 rfl) ?_
            refine qf_get hx hb hts inX11 hown hK hP (q0 := 0) (by decide) (hgM_0 ca o) rfl 28 (by decide) wq_1021 (v := .ref (o + 21)) rfl dX11_endsFrame_106 ?_
            refine lv_aload_n hx hb dX11_endsFrame_109 rfl (lv_at hl 1 rfl) ?_
            refine qf_get hx hb hts inX11 hown hK hP (q0 := 0) (by decide) (hgM_0 ca o) rfl 29 (by decide) wq_1022 (v := .int (z20 0 29)) rfl dX11_endsFrame_110 ?_
            refine lv_topi (fun x21 e21 => ?_)
            have b21 := iM_0_29 J20 e21
            have k21 : x21.toInt = (z20 0 29).toInt := congrArg Int32.toInt e21
            refine qa_iald hx hb hK hP (q0 := 21) (by decide) 0 (N := 7) (hgM_21 ca o) rfl (gi_in (by omega) (by omega)) dX11_endsFrame_113 ?_
            refine lv_topi (fun x22 e22 => ?_)
            have b22 := iM_21 J20 e22
            have f22 : x22 = z 21 (z 0 29).toNatClampNeg := by rw [e22, R21_20, gr_eq (show x21.toInt = (z 0 29).toInt from by omega)]
            have fi22 : x22.toInt = (z 21 (z 0 29).toNatClampNeg).toInt := congrArg Int32.toInt f22
            have fx22 := J0.2.2.2.1 (z 0 29).toNatClampNeg
            refine lv_aload_n hx hb dX11_endsFrame_114 rfl (lv_at hl 1 rfl) ?_
            refine qf_get hx hb hts inX11 hown hK hP (q0 := 0) (by decide) (hgM_0 ca o) rfl 22 (by decide) wq_1015 (v := .ref (o + 15)) rfl dX11_endsFrame_115 ?_
            refine lv_aload_n hx hb dX11_endsFrame_118 rfl (lv_at hl 1 rfl) ?_
            refine qf_get hx hb hts inX11 hown hK hP (q0 := 0) (by decide) (hgM_0 ca o) rfl 28 (by decide) wq_1021 (v := .ref (o + 21)) rfl dX11_endsFrame_119 ?_
            refine lv_aload_n hx hb dX11_endsFrame_122 rfl (lv_at hl 1 rfl) ?_
            refine qf_get hx hb hts inX11 hown hK hP (q0 := 0) (by decide) (hgM_0 ca o) rfl 29 (by decide) wq_1022 (v := .int (z20 0 29)) rfl dX11_endsFrame_123 ?_
            refine lv_topi (fun x23 e23 => ?_)
            have b23 := iM_0_29 J20 e23
            have k23 : x23.toInt = (z20 0 29).toInt := congrArg Int32.toInt e23
            have ag23 : x23.toInt = x21.toInt := congrArg Int32.toInt (e23.trans e21.symm)
            refine qa_iald hx hb hK hP (q0 := 21) (by decide) 0 (N := 7) (hgM_21 ca o) rfl (gi_in (by omega) (by omega)) dX11_endsFrame_126 ?_
            refine lv_topi (fun x24 e24 => ?_)
            have b24 := iM_21 J20 e24
            have f24 : x24 = z 21 (z 0 29).toNatClampNeg := by rw [e24, R21_20, gr_eq (show x23.toInt = (z 0 29).toInt from by omega)]
            have fi24 : x24.toInt = (z 21 (z 0 29).toNatClampNeg).toInt := congrArg Int32.toInt f24
            have fx24 := J0.2.2.2.1 (z 0 29).toNatClampNeg
            refine qa_iald hx hb hK hP (q0 := 15) (by decide) 0 (N := 7) (hgM_15 ca o) rfl (gi_in (by omega) (by omega)) dX11_endsFrame_127 ?_
            refine lv_topi (fun x25 e25 => ?_)
            refine lv_iconst (v := 1) hx hb dX11_endsFrame_128 (by decide) ?_
            refine lv_isub hx hb dX11_endsFrame_129 ?_
            refine lv_topi (fun x26 e26 => ?_)
            refine qa_iast2 hx hb hK hP hS qw_Ai (q0 := 15) (by decide) 0 (N := 7) (hgM_15 ca o) rfl (i := x22) (x := x26) (gi_in (by omega) (by omega)) dX11_endsFrame_130 (fun z27 H locs hz27 hP hS => ?_)
            have J27 := jM_15 J20 hz27
            have R20_27 : z27 20 = z 20 := (qt_row hz27 (by decide)).trans (R20_20)
            have R21_27 : z27 21 = z 21 := (qt_row hz27 (by decide)).trans (R21_20)
            have k27_0 : (z27 0 16).toInt = (z20 0 16).toInt := congrArg Int32.toInt (qt_ne hz27 16 (by decide))
            have k27_1 : (z27 0 29).toInt = (z20 0 29).toInt := congrArg Int32.toInt (qt_ne hz27 29 (by decide))
            have k27_2 : (z27 0 33).toInt = (z20 0 33).toInt := congrArg Int32.toInt (qt_ne hz27 33 (by decide))
            have k27_3 : (z27 0 34).toInt = (z20 0 34).toInt := congrArg Int32.toInt (qt_ne hz27 34 (by decide))
            refine lv_aload_n hx hb dX11_endsFrame_131 rfl (lv_at hl 1 rfl) ?_
            refine lv_iconst (v := 1) hx hb dX11_endsFrame_132 (by decide) ?_
            refine qf_put2 hx hb hts inX11 tyX11 tyX11_ok nmX11 hown hK hP hS qw_Ai (q0 := 0) (by decide) (hgM_0 ca o) rfl 30 (by decide) wq_1023 rfl (x := 1) 30 rfl rfl rfl (Nat.le_of_ble_eq_true rfl) dX11_endsFrame_133 (fun z28 H locs hz28 hP hS => ?_)
            have J28 := jM_0_30 J27 hz28
            have R20_28 : z28 20 = z 20 := (qt_row hz28 (by decide)).trans (R20_27)
            have R21_28 : z28 21 = z 21 := (qt_row hz28 (by decide)).trans (R21_27)
            have k28_0 : (z28 0 16).toInt = (z27 0 16).toInt := congrArg Int32.toInt (qt_off hz28 (by decide))
            have k28_1 : (z28 0 29).toInt = (z27 0 29).toInt := congrArg Int32.toInt (qt_off hz28 (by decide))
            have k28_2 : (z28 0 33).toInt = (z27 0 33).toInt := congrArg Int32.toInt (qt_off hz28 (by decide))
            have k28_3 : (z28 0 34).toInt = (z27 0 34).toInt := congrArg Int32.toInt (qt_off hz28 (by decide))
            refine lv_aload_n hx hb dX11_endsFrame_136 rfl (lv_at hl 1 rfl) ?_
            refine lv_aload_n hx hb dX11_endsFrame_137 rfl (lv_at hl 1 rfl) ?_
            refine qf_get hx hb hts inX11 hown hK hP (q0 := 0) (by decide) (hgM_0 ca o) rfl 29 (by decide) wq_1022 (v := .int (z28 0 29)) rfl dX11_endsFrame_138 ?_
            refine lv_topi (fun x29 e29 => ?_)
            have b29 := iM_0_29 J28 e29
            have k29 : x29.toInt = (z28 0 29).toInt := congrArg Int32.toInt e29
            refine lv_iconst (v := 1) hx hb dX11_endsFrame_141 (by decide) ?_
            refine lv_isub hx hb dX11_endsFrame_142 ?_
            refine lv_topi (fun x30 e30 => ?_)
            have t30 : x30.toInt = x29.toInt - (1 : Int) := ga_sub e30 rfl rfl (by omega) (by omega)
            refine qf_put2 hx hb hts inX11 tyX11 tyX11_ok nmX11 hown hK hP hS qw_Ai (q0 := 0) (by decide) (hgM_0 ca o) rfl 29 (by decide) wq_1022 rfl (x := x30) 29 rfl rfl rfl (Nat.le_of_ble_eq_true rfl) dX11_endsFrame_143 (fun z31 H locs hz31 hP hS => ?_)
            have J31 := jM_0_29 J28 hz31 ⟨by omega, by omega⟩
            have R20_31 : z31 20 = z 20 := (qt_row hz31 (by decide)).trans (R20_28)
            have R21_31 : z31 21 = z 21 := (qt_row hz31 (by decide)).trans (R21_28)
            have k31_0 : (z31 0 16).toInt = (z28 0 16).toInt := congrArg Int32.toInt (qt_off hz31 (by decide))
            have k31_1 : (z31 0 29).toInt = x30.toInt := congrArg Int32.toInt (qt_at hz31)
            have k31_2 : (z31 0 33).toInt = (z28 0 33).toInt := congrArg Int32.toInt (qt_off hz31 (by decide))
            have k31_3 : (z31 0 34).toInt = (z28 0 34).toInt := congrArg Int32.toInt (qt_off hz31 (by decide))
            refine lv_aload_n hx hb dX11_endsFrame_146 rfl (lv_at hl 1 rfl) ?_
            refine qc_Vi2 (As := []) (rest := []) (k0 := 0) (m_endsPart l D ca o b z31 y2 J31) kc_yX11_endsPart ⟨hx, hb, hml, hown, hts⟩ wq_1269 rfl rfl ⟨Nat.le_of_ble_eq_true rfl, Nat.le_of_ble_eq_true rfl⟩ wq_all hP hK hS qw_Ai (q0 := 0) (by decide) (hgM_0 ca o _ _) rfl rfl hl.1 rfl (Nat.le_of_ble_eq_true rfl) dX11_endsFrame_147 ⟨Nat.zero_le _, Nat.zero_le _⟩ (fun r32 z32 y32 H locs h32 hP hS _ _ => ?_)
            have J32 : qJM b z32 := h32.2.1
            have p32_2 : (z32 0 16).toInt = (z31 0 16).toInt := h32.2.2.1
            have p32_3 : (z32 0 33).toInt = (z31 0 33).toInt := h32.2.2.2.1
            have p32_4 : (z32 0 34).toInt = (z31 0 34).toInt := h32.2.2.2.2
            rcases h32.1 with hr32 | hr32
            · subst hr32
              exact W.zret (v := 1) (ty := .boolean) hx hb hr rfl (fun t ht hW => ⟨⟨1, (z32, y32), rfl, ⟨Or.inl ⟨rfl, (show (z32 0 16).toInt ≥ (z 0 16).toInt + 1 from by omega)⟩, J32, (show (z32 0 33).toInt = (z 0 33).toInt from by omega), (show (z32 0 34).toInt = (z 0 34).toInt from by omega)⟩, by rw [ht]; exact hP, va_K.moved hW.alike hK⟩, hS.F ht⟩) hS.2.2 dX11_endsFrame_150
            · subst hr32
              exact W.zret (v := 0) (ty := .boolean) hx hb hr rfl (fun t ht hW => ⟨⟨0, (z32, y32), rfl, ⟨Or.inr rfl, J32, (show (z32 0 33).toInt = (z 0 33).toInt from by omega), (show (z32 0 34).toInt = (z 0 34).toInt from by omega)⟩, by rw [ht]; exact hP, va_K.moved hW.alike hK⟩, hS.F ht⟩) hS.2.2 dX11_endsFrame_150
        · have t3 : w2_1.toInt < (7 : Int) := gl_nle c3
          refine lv_aload_n hx hb dX11_endsFrame_19 rfl (lv_at hl 1 rfl) ?_
          refine qf_get hx hb hts inX11 hown hK hP (q0 := 0) (by decide) (hgM_0 ca o) rfl 22 (by decide) wq_1015 (v := .ref (o + 15)) rfl dX11_endsFrame_20 ?_
          refine lv_iload_n hx hb dX11_endsFrame_23 rfl (lv_at hl 0 rfl) ?_
          refine lv_aload_n hx hb dX11_endsFrame_24 rfl (lv_at hl 1 rfl) ?_
          refine qf_get hx hb hts inX11 hown hK hP (q0 := 0) (by decide) (hgM_0 ca o) rfl 20 (by decide) wq_1013 (v := .ref (o + 13)) rfl dX11_endsFrame_25 ?_
          refine lv_bipush (v := 7) hx hb dX11_endsFrame_28 (by decide) ?_
          refine lv_aload_n hx hb dX11_endsFrame_30 rfl (lv_at hl 1 rfl) ?_
          refine qf_get hx hb hts inX11 hown hK hP (q0 := 0) (by decide) (hgM_0 ca o) rfl 29 (by decide) wq_1022 (v := .int (z2 0 29)) rfl dX11_endsFrame_31 ?_
          refine lv_topi (fun x33 e33 => ?_)
          have b33 := iM_0_29 J2 e33
          have k33 : x33.toInt = (z2 0 29).toInt := congrArg Int32.toInt e33
          refine lv_imul hx hb dX11_endsFrame_34 ?_
          refine lv_topi (fun x34 e34 => ?_)
          have t34 : x34.toInt = (7 : Int) * x33.toInt := ga_mul e34 rfl rfl (by omega) (by omega)
          refine lv_iload_n hx hb dX11_endsFrame_35 rfl (lv_at hl 0 rfl) ?_
          refine lv_iadd hx hb dX11_endsFrame_36 ?_
          refine lv_topi (fun x35 e35 => ?_)
          have t35 : x35.toInt = x34.toInt + w2_1.toInt := ga_add e35 rfl rfl (by omega) (by omega)
          refine qa_iald hx hb hK hP (q0 := 13) (by decide) 0 (N := 49) (hgM_13 ca o) rfl (gi_in (by omega) (by omega)) dX11_endsFrame_37 ?_
          refine lv_topi (fun x36 e36 => ?_)
          refine qa_iast2 hx hb hK hP hS qw_Ai (q0 := 15) (by decide) 0 (N := 7) (hgM_15 ca o) rfl (i := w2_1) (x := x36) (gi_in (by omega) (by omega)) dX11_endsFrame_38 (fun z37 H locs hz37 hP hS => ?_)
          have J37 := jM_15 J2 hz37
          have R20_37 : z37 20 = z 20 := (qt_row hz37 (by decide)).trans (v2_4)
          have R21_37 : z37 21 = z 21 := (qt_row hz37 (by decide)).trans (v2_5)
          have k37_0 : (z37 0 16).toInt = (z2 0 16).toInt := congrArg Int32.toInt (qt_ne hz37 16 (by decide))
          have k37_1 : (z37 0 29).toInt = (z2 0 29).toInt := congrArg Int32.toInt (qt_ne hz37 29 (by decide))
          have k37_2 : (z37 0 33).toInt = (z2 0 33).toInt := congrArg Int32.toInt (qt_ne hz37 33 (by decide))
          have k37_3 : (z37 0 34).toInt = (z2 0 34).toInt := congrArg Int32.toInt (qt_ne hz37 34 (by decide))
          obtain ⟨x38, e38⟩ : ∃ t : Int32, t = w2_1 + 1 := ⟨_, rfl⟩
          refine lv_iinc (v := x38) (lv' := [(1, .int x38), (0, .ref (o + 0))]) hx hb dX11_endsFrame_39 hl (k := 0) rfl (by rw [e38]; rfl) (by decide) rfl (fun ls hl => ?_)
          have t38 : x38.toInt = w2_1.toInt + (1 : Int) := ga_add e38 rfl rfl (by omega) (by omega)
          refine lv_goto (tgt := 13) hx hb dX11_endsFrame_42 (by decide) ?_
          exact ih2 x38 z37 y2 (show (7 - x38.toInt : Int) < (n2 : Int) from by omega) ⟨by omega, by omega⟩ J37 (show (z37 0 16).toInt = (z1 0 16).toInt from by omega) (show (z37 0 29).toInt = (z1 0 29).toInt from by omega) (show (z37 0 33).toInt = (z1 0 33).toInt from by omega) (show (z37 0 34).toInt = (z1 0 34).toInt from by omega) (R20_37) (R21_37) _ _ hP hS _ (lv_sub hl [0, 1] rfl)
    exact loop2 8 0 z1 y1 (show (7 - (0 : Int) : Int) < ((8 : Nat) : Int) from by omega) ⟨by decide, by decide⟩ J1 (show (z1 0 16).toInt = (z1 0 16).toInt from by omega) (show (z1 0 29).toInt = (z1 0 29).toInt from by omega) (show (z1 0 33).toInt = (z1 0 33).toInt from by omega) (show (z1 0 34).toInt = (z1 0 34).toInt from by omega) (R20_1) (R21_1) _ _ hP hS _ (lv_sub hl [0, 1] rfl)
  · subst hr1
    refine lv_if_ne (tgt := 11) hx hb dX11_endsFrame_6 (by decide) (fun q => absurd q (by decide)) (fun _ => ?_)
    refine lv_iconst (v := 0) hx hb dX11_endsFrame_9 (by decide) ?_
    exact W.zret (v := 0) (ty := .boolean) hx hb hr rfl (fun t ht hW => ⟨⟨0, (z1, y1), rfl, ⟨Or.inr rfl, J1, (show (z1 0 33).toInt = (z 0 33).toInt from by omega), (show (z1 0 34).toInt = (z 0 34).toInt from by omega)⟩, by rw [ht]; exact hP, va_K.moved hW.alike hK⟩, hS.F ht⟩) hS.2.2 dX11_endsFrame_10
set_option maxRecDepth 100000 in
set_option maxHeartbeats 8000000 in
theorem m_clearsPart (l : Launch) (D : va_G) (ca : Nat → ClassId) (o : Nat) (b z : Nat → Nat → Int32) (y : Nat → Nat → Int64) (J0 : qJM b z)   : qM l yX11_clearsPart cX11_clearsPart 2 none 1 60 (qPre D vwCl (qT6 ca) o 41 (qG (GM ca o) z y) [.ref (o + 0)]) (va_Qv (fun u => qJM b u.1 ∧ ((u.1 0 16).toInt = (z 0 16).toInt) ∧ ((u.1 0 29).toInt = (z 0 29).toInt) ∧ ((u.1 0 19).toInt = (z 0 19).toInt) ∧ ((u.1 0 33).toInt = (z 0 33).toInt) ∧ ((u.1 0 34).toInt = (z 0 34).toInt)) (qB D vwCl (qT6 ca) o 41 (fun u : qZ => qG (GM ca o) u.1 u.2)) (qw_A o 41)) (qw_A o 41) := by
  refine Met.ofW (cc := cX11_clearsPart) (maxL := 2) (ret := none) (by decide) rfl ?_
  intro p e s m args below meth c s₁ B hml hv
  obtain ⟨rfl, hP, hK⟩ := hv
  have hx := B.exec
  have hb := B.bytes
  have hr := B.returns
  have hts0 := atoms_spec (ws := Cond.code yX11_clearsPart cX11_clearsPart 2 none :: qtbl) B.pre
  have hts : ∀ w ∈ qtbl, w.before _ s = true := fun w h => hts0 w (List.mem_cons_of_mem _ h)
  have hown : s.vm.findClass RX11 = some m.cls := findClass_of_methodNamed B.named
  have hlocks := B.notSynchronized
  have hS : va_S (qw_A o 41) s.heap s.heap [] := va_S.rf
  have hl := lv_entry ([.ref (o + 0)]) (n := 2) (Nat.le_of_ble_eq_true rfl)
  rw [lg_entry_eq]
  generalize (lg_sl ([.ref (o + 0)]) ++ List.replicate (2 - (lg_sl ([.ref (o + 0)])).length) Slot.unset).toArray = ls at hl ⊢
  have hl : lv_has ls 2 [(0, .ref (o + 0))] := hl
  refine lv_iconst (v := 0) hx hb dX11_clearsPart_0 (by decide) ?_
  refine lv_istore_n (lv' := [(1, .int 0), (0, .ref (o + 0))]) hx hb dX11_clearsPart_1 rfl hl (by decide) rfl (fun ls hl => ?_)
  have loop1 : ∀ (n : Nat) (w1_1 : Int32) (z1 : Nat → Nat → Int32) (y1 : Nat → Nat → Int64), ((7 - w1_1.toInt : Int) < (n : Int)) → ((0 : Int) ≤ w1_1.toInt ∧ w1_1.toInt ≤ 7) → (qJM b z1) → ((z1 0 16).toInt = (z 0 16).toInt) → ((z1 0 29).toInt = (z 0 29).toInt) → ((z1 0 19).toInt = (z 0 19).toInt) → ((z1 0 33).toInt = (z 0 33).toInt) → ((z1 0 34).toInt = (z 0 34).toInt) → ∀ (H : Heap) (locs : List Loc), qw_P D vwCl o 41 (qG (GM ca o) z1 y1) H → va_S (qw_A o 41) s.heap H locs → ∀ (ls : Array Slot), lv_has ls 2 [(1, .int w1_1), (0, .ref (o + 0))] → W p l e (headSpec (Cond.code yX11_clearsPart cX11_clearsPart 2 none :: qtbl) ({ frames := 1, cells := 0, slots := 0, locals := 60 })).room s m (([.ref (o + 0)] : List Value).toArray) below meth c H locs 0 0 (MQ below (va_Qv (fun u => qJM b u.1 ∧ ((u.1 0 16).toInt = (z 0 16).toInt) ∧ ((u.1 0 29).toInt = (z 0 29).toInt) ∧ ((u.1 0 19).toInt = (z 0 19).toInt) ∧ ((u.1 0 33).toInt = (z 0 33).toInt) ∧ ((u.1 0 34).toInt = (z 0 34).toInt)) (qB D vwCl (qT6 ca) o 41 (fun u : qZ => qG (GM ca o) u.1 u.2)) (qw_A o 41)) (([.ref (o + 0)] : List Value).toArray) s 0 0 (qw_A o 41)) (F0 m 2 ls []) := by
    intro n
    induction n with
    | zero => intro w1_1 z1 y1 hb1 hv1_1 J1 v1_0 v1_1 v1_2 v1_3 v1_4; exfalso; omega
    | succ n1 ih1 =>
      intro w1_1 z1 y1 hb1 hv1_1 J1 v1_0 v1_1 v1_2 v1_3 v1_4 H locs hP hS ls hl
      refine lv_iload_n hx hb dX11_clearsPart_2 rfl (lv_at hl 0 rfl) ?_
      refine lv_bipush (v := 7) hx hb dX11_clearsPart_3 (by decide) ?_
      refine lv_icmp_ge (tgt := 21) hx hb dX11_clearsPart_5 (by decide) (fun c2 => ?_) (fun c2 => ?_)
      · have t2 : w1_1.toInt ≥ (7 : Int) := gl_le c2
        refine lv_aload_n hx hb dX11_clearsPart_21 rfl (lv_at hl 1 rfl) ?_
        refine lv_iconst (v := 0) hx hb dX11_clearsPart_22 (by decide) ?_
        refine qf_put2 hx hb hts inX11 tyX11 tyX11_ok nmX11 hown hK hP hS qw_Ai (q0 := 0) (by decide) (hgM_0 ca o) rfl 30 (by decide) wq_1023 rfl (x := 0) 30 rfl rfl rfl (Nat.le_of_ble_eq_true rfl) dX11_clearsPart_23 (fun z3 H locs hz3 hP hS => ?_)
        have J3 := jM_0_30 J1 hz3
        have k3_0 : (z3 0 16).toInt = (z1 0 16).toInt := congrArg Int32.toInt (qt_off hz3 (by decide))
        have k3_1 : (z3 0 29).toInt = (z1 0 29).toInt := congrArg Int32.toInt (qt_off hz3 (by decide))
        have k3_2 : (z3 0 19).toInt = (z1 0 19).toInt := congrArg Int32.toInt (qt_off hz3 (by decide))
        have k3_3 : (z3 0 33).toInt = (z1 0 33).toInt := congrArg Int32.toInt (qt_off hz3 (by decide))
        have k3_4 : (z3 0 34).toInt = (z1 0 34).toInt := congrArg Int32.toInt (qt_off hz3 (by decide))
        exact W.vret hx hb hr (fun t ht hW => ⟨⟨(z3, y1), rfl, ⟨J3, (show (z3 0 16).toInt = (z 0 16).toInt from by omega), (show (z3 0 29).toInt = (z 0 29).toInt from by omega), (show (z3 0 19).toInt = (z 0 19).toInt from by omega), (show (z3 0 33).toInt = (z 0 33).toInt from by omega), (show (z3 0 34).toInt = (z 0 34).toInt from by omega)⟩, by rw [ht]; exact hP, va_K.moved hW.alike hK⟩, hS.F ht⟩) hS.2.2 dX11_clearsPart_26
      · have t2 : w1_1.toInt < (7 : Int) := gl_nle c2
        refine lv_aload_n hx hb dX11_clearsPart_8 rfl (lv_at hl 1 rfl) ?_
        refine qf_get hx hb hts inX11 hown hK hP (q0 := 0) (by decide) (hgM_0 ca o) rfl 22 (by decide) wq_1015 (v := .ref (o + 15)) rfl dX11_clearsPart_9 ?_
        refine lv_iload_n hx hb dX11_clearsPart_12 rfl (lv_at hl 0 rfl) ?_
        refine lv_iconst (v := 0) hx hb dX11_clearsPart_13 (by decide) ?_
        refine qa_iast2 hx hb hK hP hS qw_Ai (q0 := 15) (by decide) 0 (N := 7) (hgM_15 ca o) rfl (i := w1_1) (x := 0) (gi_in (by omega) (by omega)) dX11_clearsPart_14 (fun z4 H locs hz4 hP hS => ?_)
        have J4 := jM_15 J1 hz4
        have k4_0 : (z4 0 16).toInt = (z1 0 16).toInt := congrArg Int32.toInt (qt_ne hz4 16 (by decide))
        have k4_1 : (z4 0 29).toInt = (z1 0 29).toInt := congrArg Int32.toInt (qt_ne hz4 29 (by decide))
        have k4_2 : (z4 0 19).toInt = (z1 0 19).toInt := congrArg Int32.toInt (qt_ne hz4 19 (by decide))
        have k4_3 : (z4 0 33).toInt = (z1 0 33).toInt := congrArg Int32.toInt (qt_ne hz4 33 (by decide))
        have k4_4 : (z4 0 34).toInt = (z1 0 34).toInt := congrArg Int32.toInt (qt_ne hz4 34 (by decide))
        obtain ⟨x5, e5⟩ : ∃ t : Int32, t = w1_1 + 1 := ⟨_, rfl⟩
        refine lv_iinc (v := x5) (lv' := [(1, .int x5), (0, .ref (o + 0))]) hx hb dX11_clearsPart_15 hl (k := 0) rfl (by rw [e5]; rfl) (by decide) rfl (fun ls hl => ?_)
        have t5 : x5.toInt = w1_1.toInt + (1 : Int) := ga_add e5 rfl rfl (by omega) (by omega)
        refine lv_goto (tgt := 2) hx hb dX11_clearsPart_18 (by decide) ?_
        exact ih1 x5 z4 y1 (show (7 - x5.toInt : Int) < (n1 : Int) from by omega) ⟨by omega, by omega⟩ J4 (show (z4 0 16).toInt = (z 0 16).toInt from by omega) (show (z4 0 29).toInt = (z 0 29).toInt from by omega) (show (z4 0 19).toInt = (z 0 19).toInt from by omega) (show (z4 0 33).toInt = (z 0 33).toInt from by omega) (show (z4 0 34).toInt = (z 0 34).toInt from by omega) _ _ hP hS _ (lv_sub hl [0, 1] rfl)
  exact loop1 8 0 z y (show (7 - (0 : Int) : Int) < ((8 : Nat) : Int) from by omega) ⟨by decide, by decide⟩ J0 (show (z 0 16).toInt = (z 0 16).toInt from by omega) (show (z 0 29).toInt = (z 0 29).toInt from by omega) (show (z 0 19).toInt = (z 0 19).toInt from by omega) (show (z 0 33).toInt = (z 0 33).toInt from by omega) (show (z 0 34).toInt = (z 0 34).toInt from by omega) _ _ hP hS _ (lv_sub hl [0, 1] rfl)
set_option maxRecDepth 100000 in
set_option maxHeartbeats 8000000 in
theorem m_readsNumber (l : Launch) (D : va_G) (ca : Nat → ClassId) (o : Nat) (b z : Nat → Nat → Int32) (y : Nat → Nat → Int64) (J0 : qJM b z)   : qM l yX11_readsNumber cX11_readsNumber 2 (some .boolean) 3 101 (qPre D vwCl (qT6 ca) o 41 (qG (GM ca o) z y) [.ref (o + 0)]) (va_Qi (fun r u => ((r = 1 ∧ ((u.1 0 16).toInt ≥ (z 0 16).toInt + 1)) ∨ (r = 0)) ∧ qJM b u.1 ∧ ((u.1 0 29).toInt = (z 0 29).toInt) ∧ ((u.1 0 33).toInt = (z 0 33).toInt) ∧ ((u.1 0 34).toInt = (z 0 34).toInt)) (qB D vwCl (qT6 ca) o 41 (fun u : qZ => qG (GM ca o) u.1 u.2)) (qw_A o 41)) (qw_A o 41) := by
  refine Met.ofW (cc := cX11_readsNumber) (maxL := 2) (ret := (some .boolean)) (by decide) rfl ?_
  intro p e s m args below meth c s₁ B hml hv
  obtain ⟨rfl, hP, hK⟩ := hv
  have hx := B.exec
  have hb := B.bytes
  have hr := B.returns
  have hts0 := atoms_spec (ws := Cond.code yX11_readsNumber cX11_readsNumber 2 (some .boolean) :: qtbl) B.pre
  have hts : ∀ w ∈ qtbl, w.before _ s = true := fun w h => hts0 w (List.mem_cons_of_mem _ h)
  have hown : s.vm.findClass RX11 = some m.cls := findClass_of_methodNamed B.named
  have hlocks := B.notSynchronized
  have hS : va_S (qw_A o 41) s.heap s.heap [] := va_S.rf
  have hl := lv_entry ([.ref (o + 0)]) (n := 2) (Nat.le_of_ble_eq_true rfl)
  rw [lg_entry_eq]
  generalize (lg_sl ([.ref (o + 0)]) ++ List.replicate (2 - (lg_sl ([.ref (o + 0)])).length) Slot.unset).toArray = ls at hl ⊢
  have hl : lv_has ls 2 [(0, .ref (o + 0))] := hl
  refine lv_aload_n hx hb dX11_readsNumber_0 rfl (lv_at hl 0 rfl) ?_
  refine qf_get hx hb hts inX11 hown hK hP (q0 := 0) (by decide) (hgM_0 ca o) rfl 16 (by decide) wq_1009 (v := .int (z 0 16)) rfl dX11_readsNumber_1 ?_
  refine lv_topi (fun x1 e1 => ?_)
  have b1 := iM_0_16 J0 e1
  have k1 : x1.toInt = (z 0 16).toInt := congrArg Int32.toInt e1
  refine lv_istore_n (lv' := [(1, .int x1), (0, .ref (o + 0))]) hx hb dX11_readsNumber_4 rfl hl (by decide) rfl (fun ls hl => ?_)
  refine lv_aload_n hx hb dX11_readsNumber_5 rfl (lv_at hl 1 rfl) ?_
  refine lv_iconst (v := 0) hx hb dX11_readsNumber_6 (by decide) ?_
  refine qf_put2 hx hb hts inX11 tyX11 tyX11_ok nmX11 hown hK hP hS qw_Ai (q0 := 0) (by decide) (hgM_0 ca o) rfl 19 (by decide) wq_1012 rfl (x := 0) 19 rfl rfl rfl (Nat.le_of_ble_eq_true rfl) dX11_readsNumber_7 (fun z2 H locs hz2 hP hS => ?_)
  have J2 := jM_0_19 J0 hz2
  have k2_0 : (z2 0 16).toInt = (z 0 16).toInt := congrArg Int32.toInt (qt_off hz2 (by decide))
  have k2_1 : (z2 0 29).toInt = (z 0 29).toInt := congrArg Int32.toInt (qt_off hz2 (by decide))
  have k2_2 : (z2 0 33).toInt = (z 0 33).toInt := congrArg Int32.toInt (qt_off hz2 (by decide))
  have k2_3 : (z2 0 34).toInt = (z 0 34).toInt := congrArg Int32.toInt (qt_off hz2 (by decide))
  refine lv_aload_n hx hb dX11_readsNumber_10 rfl (lv_at hl 1 rfl) ?_
  refine qc_Vip (As := []) (rest := []) (k0 := 0) (m_here l D ca o b z2 y J2) kc_yX11_here ⟨hx, hb, hml, hown, hts⟩ wq_1233 rfl rfl ⟨Nat.le_of_ble_eq_true rfl, Nat.le_of_ble_eq_true rfl⟩ wq_all hP hK hS qw_Ai (q0 := 0) (by decide) (hgM_0 ca o _ _) rfl rfl hl.1 rfl (Nat.le_of_ble_eq_true rfl) dX11_readsNumber_11 ⟨Nat.zero_le _, Nat.zero_le _⟩ (fun r3 H locs h3 hP hS _ _ => ?_)
  have p3_1 : r3.toInt = (hereV z2).toInt := h3.2.1
  have p3_2 : (r3.toInt = -1 ∨ (0 ≤ r3.toInt ∧ (z2 0 16).toInt ≤ 259)) := h3.2.2
  have b3 : (-1 : Int) ≤ r3.toInt ∧ r3.toInt ≤ 255 := h3.1
  refine lv_bipush (v := 48) hx hb dX11_readsNumber_14 (by decide) ?_
  refine lv_bipush (v := 57) hx hb dX11_readsNumber_16 (by decide) ?_
  refine qc_Sip (As := [.int r3, .int 48, .int 57]) (rest := []) (k0 := 3) (m_in l D ca o b z2 y J2 r3 48 57) kc_yX11_in ⟨hx, hb, hml, hown, hts⟩ wq_1187 rfl rfl ⟨Nat.le_of_ble_eq_true rfl, Nat.le_of_ble_eq_true rfl⟩ wq_all hP hK hS qw_Ai rfl hl.1 rfl (Nat.le_of_ble_eq_true rfl) dX11_readsNumber_18 ⟨Nat.zero_le _, Nat.zero_le _⟩ (fun r4 H locs h4 hP hS _ _ => ?_)
  rcases h4 with ⟨hr4, hf4_0⟩ | ⟨hr4, hf4_0⟩
  · subst hr4
    have hg4_0 : (48 : Int) ≤ r3.toInt ∧ r3.toInt ≤ (57 : Int) := hf4_0
    refine lv_if_ne (tgt := 34) hx hb dX11_readsNumber_21 (by decide) (fun _ => ?_) (fun q => absurd q (by decide))
    have loop5 : ∀ (n : Nat) (z5 : Nat → Nat → Int32) (y5 : Nat → Nat → Int64), ((x1.toInt + 3 - (z5 0 16).toInt : Int) < (n : Int)) → (qJM b z5) → (x1.toInt ≤ (z5 0 16).toInt ∧ (z5 0 16).toInt ≤ x1.toInt + 3) → ((z5 0 29).toInt = (z 0 29).toInt ∧ (z5 0 33).toInt = (z 0 33).toInt ∧ (z5 0 34).toInt = (z 0 34).toInt) → (x1.toInt < (z5 0 16).toInt ∨ (48 ≤ (hereV z5).toInt ∧ (hereV z5).toInt ≤ 57)) → ∀ (H : Heap) (locs : List Loc), qw_P D vwCl o 41 (qG (GM ca o) z5 y5) H → va_S (qw_A o 41) s.heap H locs → ∀ (ls : Array Slot), lv_has ls 2 [(1, .int x1), (0, .ref (o + 0))] → W p l e (headSpec (Cond.code yX11_readsNumber cX11_readsNumber 2 (some .boolean) :: qtbl) ({ frames := 3, cells := 0, slots := 0, locals := 101 })).room s m (([.ref (o + 0)] : List Value).toArray) below meth c H locs 0 0 (MQ below (va_Qi (fun r u => ((r = 1 ∧ ((u.1 0 16).toInt ≥ (z 0 16).toInt + 1)) ∨ (r = 0)) ∧ qJM b u.1 ∧ ((u.1 0 29).toInt = (z 0 29).toInt) ∧ ((u.1 0 33).toInt = (z 0 33).toInt) ∧ ((u.1 0 34).toInt = (z 0 34).toInt)) (qB D vwCl (qT6 ca) o 41 (fun u : qZ => qG (GM ca o) u.1 u.2)) (qw_A o 41)) (([.ref (o + 0)] : List Value).toArray) s 0 0 (qw_A o 41)) (F0 m 34 ls []) := by
      intro n
      induction n with
      | zero => intro z5 y5 hb5 J5 v5_0 v5_1 v5_2; exfalso; omega
      | succ n5 ih5 =>
        intro z5 y5 hb5 J5 v5_0 v5_1 v5_2 H locs hP hS ls hl
        refine lv_aload_n hx hb dX11_readsNumber_34 rfl (lv_at hl 1 rfl) ?_
        refine qc_Vip (As := []) (rest := []) (k0 := 0) (m_here l D ca o b z5 y5 J5) kc_yX11_here ⟨hx, hb, hml, hown, hts⟩ wq_1233 rfl rfl ⟨Nat.le_of_ble_eq_true rfl, Nat.le_of_ble_eq_true rfl⟩ wq_all hP hK hS qw_Ai (q0 := 0) (by decide) (hgM_0 ca o _ _) rfl rfl hl.1 rfl (Nat.le_of_ble_eq_true rfl) dX11_readsNumber_35 ⟨Nat.zero_le _, Nat.zero_le _⟩ (fun r6 H locs h6 hP hS _ _ => ?_)
        have p6_1 : r6.toInt = (hereV z5).toInt := h6.2.1
        have p6_2 : (r6.toInt = -1 ∨ (0 ≤ r6.toInt ∧ (z5 0 16).toInt ≤ 259)) := h6.2.2
        have b6 : (-1 : Int) ≤ r6.toInt ∧ r6.toInt ≤ 255 := h6.1
        refine lv_bipush (v := 48) hx hb dX11_readsNumber_38 (by decide) ?_
        refine lv_bipush (v := 57) hx hb dX11_readsNumber_40 (by decide) ?_
        refine qc_Sip (As := [.int r6, .int 48, .int 57]) (rest := []) (k0 := 3) (m_in l D ca o b z5 y5 J5 r6 48 57) kc_yX11_in ⟨hx, hb, hml, hown, hts⟩ wq_1187 rfl rfl ⟨Nat.le_of_ble_eq_true rfl, Nat.le_of_ble_eq_true rfl⟩ wq_all hP hK hS qw_Ai rfl hl.1 rfl (Nat.le_of_ble_eq_true rfl) dX11_readsNumber_42 ⟨Nat.zero_le _, Nat.zero_le _⟩ (fun r7 H locs h7 hP hS _ _ => ?_)
        rcases h7 with ⟨hr7, hf7_0⟩ | ⟨hr7, hf7_0⟩
        · subst hr7
          have hg7_0 : (48 : Int) ≤ r6.toInt ∧ r6.toInt ≤ (57 : Int) := hf7_0
          refine lv_if_eq (tgt := 100) hx hb dX11_readsNumber_45 (by decide) (fun q => absurd q (by decide)) (fun _ => ?_)
          refine lv_aload_n hx hb dX11_readsNumber_48 rfl (lv_at hl 1 rfl) ?_
          refine qf_get hx hb hts inX11 hown hK hP (q0 := 0) (by decide) (hgM_0 ca o) rfl 16 (by decide) wq_1009 (v := .int (z5 0 16)) rfl dX11_readsNumber_49 ?_
          refine lv_topi (fun x8 e8 => ?_)
          have b8 := iM_0_16 J5 e8
          have k8 : x8.toInt = (z5 0 16).toInt := congrArg Int32.toInt e8
          refine lv_iload_n hx hb dX11_readsNumber_52 rfl (lv_at hl 0 rfl) ?_
          refine lv_iconst (v := 3) hx hb dX11_readsNumber_53 (by decide) ?_
          refine lv_iadd hx hb dX11_readsNumber_54 ?_
          refine lv_topi (fun x9 e9 => ?_)
          have t9 : x9.toInt = x1.toInt + (3 : Int) := ga_add e9 rfl rfl (by omega) (by omega)
          refine lv_icmp_ne (tgt := 68) hx hb dX11_readsNumber_55 (by decide) (fun c10 => ?_) (fun c10 => ?_)
          · have t10 : x8.toInt ≠ x9.toInt := gl_ne c10
            refine lv_aload_n hx hb dX11_readsNumber_68 rfl (lv_at hl 1 rfl) ?_
            refine lv_bipush (v := 10) hx hb dX11_readsNumber_69 (by decide) ?_
            refine lv_aload_n hx hb dX11_readsNumber_71 rfl (lv_at hl 1 rfl) ?_
            refine qf_get hx hb hts inX11 hown hK hP (q0 := 0) (by decide) (hgM_0 ca o) rfl 19 (by decide) wq_1012 (v := .int (z5 0 19)) rfl dX11_readsNumber_72 ?_
            refine lv_topi (fun x11 e11 => ?_)
            refine lv_imul hx hb dX11_readsNumber_75 ?_
            refine lv_topi (fun x12 e12 => ?_)
            refine lv_aload_n hx hb dX11_readsNumber_76 rfl (lv_at hl 1 rfl) ?_
            refine qc_Vip (As := []) (rest := [.int x12, .ref (o + 0)]) (k0 := 0) (m_here l D ca o b z5 y5 J5) kc_yX11_here ⟨hx, hb, hml, hown, hts⟩ wq_1233 rfl rfl ⟨Nat.le_of_ble_eq_true rfl, Nat.le_of_ble_eq_true rfl⟩ wq_all hP hK hS qw_Ai (q0 := 0) (by decide) (hgM_0 ca o _ _) rfl rfl hl.1 rfl (Nat.le_of_ble_eq_true rfl) dX11_readsNumber_77 ⟨Nat.zero_le _, Nat.zero_le _⟩ (fun r13 H locs h13 hP hS _ _ => ?_)
            have p13_1 : r13.toInt = (hereV z5).toInt := h13.2.1
            have p13_2 : (r13.toInt = -1 ∨ (0 ≤ r13.toInt ∧ (z5 0 16).toInt ≤ 259)) := h13.2.2
            have b13 : (-1 : Int) ≤ r13.toInt ∧ r13.toInt ≤ 255 := h13.1
            refine lv_iadd hx hb dX11_readsNumber_80 ?_
            refine lv_topi (fun x14 e14 => ?_)
            refine lv_bipush (v := 48) hx hb dX11_readsNumber_81 (by decide) ?_
            refine lv_isub hx hb dX11_readsNumber_83 ?_
            refine lv_topi (fun x15 e15 => ?_)
            refine qf_put2 hx hb hts inX11 tyX11 tyX11_ok nmX11 hown hK hP hS qw_Ai (q0 := 0) (by decide) (hgM_0 ca o) rfl 19 (by decide) wq_1012 rfl (x := x15) 19 rfl rfl rfl (Nat.le_of_ble_eq_true rfl) dX11_readsNumber_84 (fun z16 H locs hz16 hP hS => ?_)
            have J16 := jM_0_19 J5 hz16
            have k16_0 : (z16 0 16).toInt = (z5 0 16).toInt := congrArg Int32.toInt (qt_off hz16 (by decide))
            have k16_1 : (z16 0 29).toInt = (z5 0 29).toInt := congrArg Int32.toInt (qt_off hz16 (by decide))
            have k16_2 : (z16 0 33).toInt = (z5 0 33).toInt := congrArg Int32.toInt (qt_off hz16 (by decide))
            have k16_3 : (z16 0 34).toInt = (z5 0 34).toInt := congrArg Int32.toInt (qt_off hz16 (by decide))
            refine lv_aload_n hx hb dX11_readsNumber_87 rfl (lv_at hl 1 rfl) ?_
            refine lv_aload_n hx hb dX11_readsNumber_88 rfl (lv_at hl 1 rfl) ?_
            refine qf_get hx hb hts inX11 hown hK hP (q0 := 0) (by decide) (hgM_0 ca o) rfl 16 (by decide) wq_1009 (v := .int (z16 0 16)) rfl dX11_readsNumber_89 ?_
            refine lv_topi (fun x17 e17 => ?_)
            have b17 := iM_0_16 J16 e17
            have k17 : x17.toInt = (z16 0 16).toInt := congrArg Int32.toInt e17
            refine lv_iconst (v := 1) hx hb dX11_readsNumber_92 (by decide) ?_
            refine lv_iadd hx hb dX11_readsNumber_93 ?_
            refine lv_topi (fun x18 e18 => ?_)
            have t18 : x18.toInt = x17.toInt + (1 : Int) := ga_add e18 rfl rfl (by omega) (by omega)
            refine qf_put2 hx hb hts inX11 tyX11 tyX11_ok nmX11 hown hK hP hS qw_Ai (q0 := 0) (by decide) (hgM_0 ca o) rfl 16 (by decide) wq_1009 rfl (x := x18) 16 rfl rfl rfl (Nat.le_of_ble_eq_true rfl) dX11_readsNumber_94 (fun z19 H locs hz19 hP hS => ?_)
            have J19 := jM_0_16 J16 hz19 ⟨by omega, by omega⟩
            have k19_0 : (z19 0 16).toInt = x18.toInt := congrArg Int32.toInt (qt_at hz19)
            have k19_1 : (z19 0 29).toInt = (z16 0 29).toInt := congrArg Int32.toInt (qt_off hz19 (by decide))
            have k19_2 : (z19 0 33).toInt = (z16 0 33).toInt := congrArg Int32.toInt (qt_off hz19 (by decide))
            have k19_3 : (z19 0 34).toInt = (z16 0 34).toInt := congrArg Int32.toInt (qt_off hz19 (by decide))
            refine lv_goto (tgt := 34) hx hb dX11_readsNumber_97 (by decide) ?_
            exact ih5 z19 y5 (show (x1.toInt + 3 - (z19 0 16).toInt : Int) < (n5 : Int) from by omega) J19 (show x1.toInt ≤ (z19 0 16).toInt ∧ (z19 0 16).toInt ≤ x1.toInt + 3 from by omega) (show (z19 0 29).toInt = (z 0 29).toInt ∧ (z19 0 33).toInt = (z 0 33).toInt ∧ (z19 0 34).toInt = (z 0 34).toInt from by omega) (show x1.toInt < (z19 0 16).toInt ∨ (48 ≤ (hereV z19).toInt ∧ (hereV z19).toInt ≤ 57) from by omega) _ _ hP hS _ (lv_sub hl [0, 1] rfl)
          · have t10 : x8.toInt = x9.toInt := gl_eq c10
            refine lv_aload_n hx hb dX11_readsNumber_58 rfl (lv_at hl 1 rfl) ?_
            refine lv_iconst (v := 2) hx hb dX11_readsNumber_59 (by decide) ?_
            refine lv_aload_n hx hb dX11_readsNumber_60 rfl (lv_at hl 1 rfl) ?_
            refine qf_get hx hb hts inX11 hown hK hP (q0 := 0) (by decide) (hgM_0 ca o) rfl 16 (by decide) wq_1009 (v := .int (z5 0 16)) rfl dX11_readsNumber_61 ?_
            refine lv_topi (fun x20 e20 => ?_)
            have b20 := iM_0_16 J5 e20
            have k20 : x20.toInt = (z5 0 16).toInt := congrArg Int32.toInt e20
            have ag20 : x20.toInt = x8.toInt := congrArg Int32.toInt (e20.trans e8.symm)
            refine qc_Vi2 (As := [.int 2, .int x20]) (rest := []) (k0 := 2) (m_wrongAt l D ca o b z5 y5 J5 2 x20) kc_yX11_wrongAt ⟨hx, hb, hml, hown, hts⟩ wq_1249 rfl rfl ⟨Nat.le_of_ble_eq_true rfl, Nat.le_of_ble_eq_true rfl⟩ wq_all hP hK hS qw_Ai (q0 := 0) (by decide) (hgM_0 ca o _ _) rfl rfl hl.1 rfl (Nat.le_of_ble_eq_true rfl) dX11_readsNumber_64 ⟨Nat.zero_le _, Nat.zero_le _⟩ (fun r21 z21 y21 H locs h21 hP hS _ _ => ?_)
            have J21 : qJM b z21 := h21.2.1
            have p21_5 : (z21 0 16).toInt = (z5 0 16).toInt := h21.2.2.2.2.2.1
            have p21_6 : (z21 0 29).toInt = (z5 0 29).toInt := h21.2.2.2.2.2.2.1
            have p21_7 : (z21 0 19).toInt = (z5 0 19).toInt := h21.2.2.2.2.2.2.2.1
            have p21_8 : (z21 0 33).toInt = (z5 0 33).toInt := h21.2.2.2.2.2.2.2.2.1
            have p21_9 : (z21 0 34).toInt = (z5 0 34).toInt := h21.2.2.2.2.2.2.2.2.2
            have b21 : (0 : Int) ≤ r21.toInt ∧ r21.toInt ≤ 0 := h21.1
            obtain rfl : r21 = 0 := lit_eq (k := 0) (K := 0) rfl (by omega) (by omega)
            exact W.zret (v := 0) (ty := .boolean) hx hb hr rfl (fun t ht hW => ⟨⟨0, (z21, y21), rfl, ⟨Or.inr rfl, J21, (show (z21 0 29).toInt = (z 0 29).toInt from by omega), (show (z21 0 33).toInt = (z 0 33).toInt from by omega), (show (z21 0 34).toInt = (z 0 34).toInt from by omega)⟩, by rw [ht]; exact hP, va_K.moved hW.alike hK⟩, hS.F ht⟩) hS.2.2 dX11_readsNumber_67
        · subst hr7
          have hg7_0 : ¬ ((48 : Int) ≤ r6.toInt ∧ r6.toInt ≤ (57 : Int)) := hf7_0
          refine lv_if_eq (tgt := 100) hx hb dX11_readsNumber_45 (by decide) (fun _ => ?_) (fun q => absurd (by decide) q)
          refine lv_iconst (v := 1) hx hb dX11_readsNumber_100 (by decide) ?_
          exact W.zret (v := 1) (ty := .boolean) hx hb hr rfl (fun t ht hW => ⟨⟨1, (z5, y5), rfl, ⟨Or.inl ⟨rfl, (show (z5 0 16).toInt ≥ (z 0 16).toInt + 1 from by omega)⟩, J5, (show (z5 0 29).toInt = (z 0 29).toInt from by omega), (show (z5 0 33).toInt = (z 0 33).toInt from by omega), (show (z5 0 34).toInt = (z 0 34).toInt from by omega)⟩, by rw [ht]; exact hP, va_K.moved hW.alike hK⟩, hS.F ht⟩) hS.2.2 dX11_readsNumber_101
    exact loop5 5 z2 y (show (x1.toInt + 3 - (z2 0 16).toInt : Int) < ((5 : Nat) : Int) from by omega) J2 (show x1.toInt ≤ (z2 0 16).toInt ∧ (z2 0 16).toInt ≤ x1.toInt + 3 from by omega) (show (z2 0 29).toInt = (z 0 29).toInt ∧ (z2 0 33).toInt = (z 0 33).toInt ∧ (z2 0 34).toInt = (z 0 34).toInt from by omega) (show x1.toInt < (z2 0 16).toInt ∨ (48 ≤ (hereV z2).toInt ∧ (hereV z2).toInt ≤ 57) from by omega) _ _ hP hS _ (lv_sub hl [0, 1] rfl)
  · subst hr4
    have hg4_0 : ¬ ((48 : Int) ≤ r3.toInt ∧ r3.toInt ≤ (57 : Int)) := hf4_0
    refine lv_if_ne (tgt := 34) hx hb dX11_readsNumber_21 (by decide) (fun q => absurd q (by decide)) (fun _ => ?_)
    refine lv_aload_n hx hb dX11_readsNumber_24 rfl (lv_at hl 1 rfl) ?_
    refine lv_iconst (v := 1) hx hb dX11_readsNumber_25 (by decide) ?_
    refine lv_aload_n hx hb dX11_readsNumber_26 rfl (lv_at hl 1 rfl) ?_
    refine qf_get hx hb hts inX11 hown hK hP (q0 := 0) (by decide) (hgM_0 ca o) rfl 16 (by decide) wq_1009 (v := .int (z2 0 16)) rfl dX11_readsNumber_27 ?_
    refine lv_topi (fun x22 e22 => ?_)
    have b22 := iM_0_16 J2 e22
    have k22 : x22.toInt = (z2 0 16).toInt := congrArg Int32.toInt e22
    refine qc_Vi2 (As := [.int 1, .int x22]) (rest := []) (k0 := 2) (m_wrongAt l D ca o b z2 y J2 1 x22) kc_yX11_wrongAt ⟨hx, hb, hml, hown, hts⟩ wq_1249 rfl rfl ⟨Nat.le_of_ble_eq_true rfl, Nat.le_of_ble_eq_true rfl⟩ wq_all hP hK hS qw_Ai (q0 := 0) (by decide) (hgM_0 ca o _ _) rfl rfl hl.1 rfl (Nat.le_of_ble_eq_true rfl) dX11_readsNumber_30 ⟨Nat.zero_le _, Nat.zero_le _⟩ (fun r23 z23 y23 H locs h23 hP hS _ _ => ?_)
    have J23 : qJM b z23 := h23.2.1
    have p23_5 : (z23 0 16).toInt = (z2 0 16).toInt := h23.2.2.2.2.2.1
    have p23_6 : (z23 0 29).toInt = (z2 0 29).toInt := h23.2.2.2.2.2.2.1
    have p23_7 : (z23 0 19).toInt = (z2 0 19).toInt := h23.2.2.2.2.2.2.2.1
    have p23_8 : (z23 0 33).toInt = (z2 0 33).toInt := h23.2.2.2.2.2.2.2.2.1
    have p23_9 : (z23 0 34).toInt = (z2 0 34).toInt := h23.2.2.2.2.2.2.2.2.2
    have b23 : (0 : Int) ≤ r23.toInt ∧ r23.toInt ≤ 0 := h23.1
    obtain rfl : r23 = 0 := lit_eq (k := 0) (K := 0) rfl (by omega) (by omega)
    exact W.zret (v := 0) (ty := .boolean) hx hb hr rfl (fun t ht hW => ⟨⟨0, (z23, y23), rfl, ⟨Or.inr rfl, J23, (show (z23 0 29).toInt = (z 0 29).toInt from by omega), (show (z23 0 33).toInt = (z 0 33).toInt from by omega), (show (z23 0 34).toInt = (z 0 34).toInt from by omega)⟩, by rw [ht]; exact hP, va_K.moved hW.alike hK⟩, hS.F ht⟩) hS.2.2 dX11_readsNumber_33
set_option maxRecDepth 100000 in
set_option maxHeartbeats 8000000 in
theorem m_readsPerson (l : Launch) (D : va_G) (ca : Nat → ClassId) (o : Nat) (b z : Nat → Nat → Int32) (y : Nat → Nat → Int64) (J0 : qJM b z)   : qM l yX11_readsPerson cX11_readsPerson 2 (some .boolean) 3 103 (qPre D vwCl (qT6 ca) o 41 (qG (GM ca o) z y) [.ref (o + 0)]) (va_Qi (fun r u => ((r = 1 ∧ ((u.1 0 16).toInt = (z 0 16).toInt + 1) ∧ (0 ≤ (u.1 0 19).toInt ∧ (u.1 0 19).toInt ≤ 5)) ∨ (r = 0)) ∧ qJM b u.1 ∧ ((u.1 0 29).toInt = (z 0 29).toInt) ∧ ((u.1 0 33).toInt = (z 0 33).toInt) ∧ ((u.1 0 34).toInt = (z 0 34).toInt)) (qB D vwCl (qT6 ca) o 41 (fun u : qZ => qG (GM ca o) u.1 u.2)) (qw_A o 41)) (qw_A o 41) := by
  refine Met.ofW (cc := cX11_readsPerson) (maxL := 2) (ret := (some .boolean)) (by decide) rfl ?_
  intro p e s m args below meth c s₁ B hml hv
  obtain ⟨rfl, hP, hK⟩ := hv
  have hx := B.exec
  have hb := B.bytes
  have hr := B.returns
  have hts0 := atoms_spec (ws := Cond.code yX11_readsPerson cX11_readsPerson 2 (some .boolean) :: qtbl) B.pre
  have hts : ∀ w ∈ qtbl, w.before _ s = true := fun w h => hts0 w (List.mem_cons_of_mem _ h)
  have hown : s.vm.findClass RX11 = some m.cls := findClass_of_methodNamed B.named
  have hlocks := B.notSynchronized
  have hS : va_S (qw_A o 41) s.heap s.heap [] := va_S.rf
  have hl := lv_entry ([.ref (o + 0)]) (n := 2) (Nat.le_of_ble_eq_true rfl)
  rw [lg_entry_eq]
  generalize (lg_sl ([.ref (o + 0)]) ++ List.replicate (2 - (lg_sl ([.ref (o + 0)])).length) Slot.unset).toArray = ls at hl ⊢
  have hl : lv_has ls 2 [(0, .ref (o + 0))] := hl
  refine lv_aload_n hx hb dX11_readsPerson_0 rfl (lv_at hl 0 rfl) ?_
  refine qc_Vip (As := []) (rest := []) (k0 := 0) (m_here l D ca o b z y J0) kc_yX11_here ⟨hx, hb, hml, hown, hts⟩ wq_1233 rfl rfl ⟨Nat.le_of_ble_eq_true rfl, Nat.le_of_ble_eq_true rfl⟩ wq_all hP hK hS qw_Ai (q0 := 0) (by decide) (hgM_0 ca o _ _) rfl rfl hl.1 rfl (Nat.le_of_ble_eq_true rfl) dX11_readsPerson_1 ⟨Nat.zero_le _, Nat.zero_le _⟩ (fun r1 H locs h1 hP hS _ _ => ?_)
  have p1_1 : r1.toInt = (hereV z).toInt := h1.2.1
  have p1_2 : (r1.toInt = -1 ∨ (0 ≤ r1.toInt ∧ (z 0 16).toInt ≤ 259)) := h1.2.2
  have b1 : (-1 : Int) ≤ r1.toInt ∧ r1.toInt ≤ 255 := h1.1
  refine lv_bipush (v := 97) hx hb dX11_readsPerson_4 (by decide) ?_
  refine lv_isub hx hb dX11_readsPerson_6 ?_
  refine lv_topi (fun x2 e2 => ?_)
  have t2 : x2.toInt = r1.toInt - (97 : Int) := ga_sub e2 rfl rfl (by omega) (by omega)
  refine lv_istore_n (lv' := [(1, .int x2), (0, .ref (o + 0))]) hx hb dX11_readsPerson_7 rfl hl (by decide) rfl (fun ls hl => ?_)
  refine lv_iload_n hx hb dX11_readsPerson_8 rfl (lv_at hl 0 rfl) ?_
  refine lv_iconst (v := 0) hx hb dX11_readsPerson_9 (by decide) ?_
  refine lv_iconst (v := 5) hx hb dX11_readsPerson_10 (by decide) ?_
  refine qc_Sip (As := [.int x2, .int 0, .int 5]) (rest := []) (k0 := 3) (m_in l D ca o b z y J0 x2 0 5) kc_yX11_in ⟨hx, hb, hml, hown, hts⟩ wq_1187 rfl rfl ⟨Nat.le_of_ble_eq_true rfl, Nat.le_of_ble_eq_true rfl⟩ wq_all hP hK hS qw_Ai rfl hl.1 rfl (Nat.le_of_ble_eq_true rfl) dX11_readsPerson_11 ⟨Nat.zero_le _, Nat.zero_le _⟩ (fun r3 H locs h3 hP hS _ _ => ?_)
  rcases h3 with ⟨hr3, hf3_0⟩ | ⟨hr3, hf3_0⟩
  · subst hr3
    have hg3_0 : (0 : Int) ≤ x2.toInt ∧ x2.toInt ≤ (5 : Int) := hf3_0
    refine lv_if_ne (tgt := 27) hx hb dX11_readsPerson_14 (by decide) (fun _ => ?_) (fun q => absurd q (by decide))
    refine lv_aload_n hx hb dX11_readsPerson_27 rfl (lv_at hl 1 rfl) ?_
    refine lv_iload_n hx hb dX11_readsPerson_28 rfl (lv_at hl 0 rfl) ?_
    refine qc_Vip (As := [.int x2]) (rest := []) (k0 := 1) (m_isPerson l D ca o b z y J0 x2) kc_yX11_isPerson ⟨hx, hb, hml, hown, hts⟩ wq_1194 rfl rfl ⟨Nat.le_of_ble_eq_true rfl, Nat.le_of_ble_eq_true rfl⟩ wq_all hP hK hS qw_Ai (q0 := 0) (by decide) (hgM_0 ca o _ _) rfl rfl hl.1 rfl (Nat.le_of_ble_eq_true rfl) dX11_readsPerson_29 ⟨Nat.zero_le _, Nat.zero_le _⟩ (fun r4 H locs h4 hP hS _ _ => ?_)
    rcases h4 with ⟨hr4, hf4_0, hf4_1⟩ | ⟨hr4, hf4_0⟩
    · subst hr4
      have hg4_0 : pHas (z 0 4) x2 := hf4_0
      have hg4_1 : 0 ≤ x2.toInt ∧ x2.toInt ≤ 5 := hf4_1
      refine lv_if_ne (tgt := 46) hx hb dX11_readsPerson_32 (by decide) (fun _ => ?_) (fun q => absurd q (by decide))
      refine lv_aload_n hx hb dX11_readsPerson_46 rfl (lv_at hl 1 rfl) ?_
      refine lv_iload_n hx hb dX11_readsPerson_47 rfl (lv_at hl 0 rfl) ?_
      refine qf_put2 hx hb hts inX11 tyX11 tyX11_ok nmX11 hown hK hP hS qw_Ai (q0 := 0) (by decide) (hgM_0 ca o) rfl 19 (by decide) wq_1012 rfl (x := x2) 19 rfl rfl rfl (Nat.le_of_ble_eq_true rfl) dX11_readsPerson_48 (fun z5 H locs hz5 hP hS => ?_)
      have J5 := jM_0_19 J0 hz5
      have k5_0 : (z5 0 16).toInt = (z 0 16).toInt := congrArg Int32.toInt (qt_off hz5 (by decide))
      have k5_1 : (z5 0 19).toInt = x2.toInt := congrArg Int32.toInt (qt_at hz5)
      have k5_2 : (z5 0 29).toInt = (z 0 29).toInt := congrArg Int32.toInt (qt_off hz5 (by decide))
      have k5_3 : (z5 0 33).toInt = (z 0 33).toInt := congrArg Int32.toInt (qt_off hz5 (by decide))
      have k5_4 : (z5 0 34).toInt = (z 0 34).toInt := congrArg Int32.toInt (qt_off hz5 (by decide))
      refine lv_aload_n hx hb dX11_readsPerson_51 rfl (lv_at hl 1 rfl) ?_
      refine lv_aload_n hx hb dX11_readsPerson_52 rfl (lv_at hl 1 rfl) ?_
      refine qf_get hx hb hts inX11 hown hK hP (q0 := 0) (by decide) (hgM_0 ca o) rfl 16 (by decide) wq_1009 (v := .int (z5 0 16)) rfl dX11_readsPerson_53 ?_
      refine lv_topi (fun x6 e6 => ?_)
      have b6 := iM_0_16 J5 e6
      have k6 : x6.toInt = (z5 0 16).toInt := congrArg Int32.toInt e6
      refine lv_iconst (v := 1) hx hb dX11_readsPerson_56 (by decide) ?_
      refine lv_iadd hx hb dX11_readsPerson_57 ?_
      refine lv_topi (fun x7 e7 => ?_)
      have t7 : x7.toInt = x6.toInt + (1 : Int) := ga_add e7 rfl rfl (by omega) (by omega)
      refine qf_put2 hx hb hts inX11 tyX11 tyX11_ok nmX11 hown hK hP hS qw_Ai (q0 := 0) (by decide) (hgM_0 ca o) rfl 16 (by decide) wq_1009 rfl (x := x7) 16 rfl rfl rfl (Nat.le_of_ble_eq_true rfl) dX11_readsPerson_58 (fun z8 H locs hz8 hP hS => ?_)
      have J8 := jM_0_16 J5 hz8 ⟨by omega, by omega⟩
      have k8_0 : (z8 0 16).toInt = x7.toInt := congrArg Int32.toInt (qt_at hz8)
      have k8_1 : (z8 0 19).toInt = (z5 0 19).toInt := congrArg Int32.toInt (qt_off hz8 (by decide))
      have k8_2 : (z8 0 29).toInt = (z5 0 29).toInt := congrArg Int32.toInt (qt_off hz8 (by decide))
      have k8_3 : (z8 0 33).toInt = (z5 0 33).toInt := congrArg Int32.toInt (qt_off hz8 (by decide))
      have k8_4 : (z8 0 34).toInt = (z5 0 34).toInt := congrArg Int32.toInt (qt_off hz8 (by decide))
      refine lv_iconst (v := 1) hx hb dX11_readsPerson_61 (by decide) ?_
      exact W.zret (v := 1) (ty := .boolean) hx hb hr rfl (fun t ht hW => ⟨⟨1, (z8, y), rfl, ⟨Or.inl ⟨rfl, (show (z8 0 16).toInt = (z 0 16).toInt + 1 from by omega), (show 0 ≤ (z8 0 19).toInt ∧ (z8 0 19).toInt ≤ 5 from by omega)⟩, J8, (show (z8 0 29).toInt = (z 0 29).toInt from by omega), (show (z8 0 33).toInt = (z 0 33).toInt from by omega), (show (z8 0 34).toInt = (z 0 34).toInt from by omega)⟩, by rw [ht]; exact hP, va_K.moved hW.alike hK⟩, hS.F ht⟩) hS.2.2 dX11_readsPerson_62
    · subst hr4
      have hg4_0 : ¬ pHas (z 0 4) x2 := hf4_0
      refine lv_if_ne (tgt := 46) hx hb dX11_readsPerson_32 (by decide) (fun q => absurd q (by decide)) (fun _ => ?_)
      refine lv_aload_n hx hb dX11_readsPerson_35 rfl (lv_at hl 1 rfl) ?_
      refine lv_bipush (v := 7) hx hb dX11_readsPerson_36 (by decide) ?_
      refine lv_aload_n hx hb dX11_readsPerson_38 rfl (lv_at hl 1 rfl) ?_
      refine qf_get hx hb hts inX11 hown hK hP (q0 := 0) (by decide) (hgM_0 ca o) rfl 16 (by decide) wq_1009 (v := .int (z 0 16)) rfl dX11_readsPerson_39 ?_
      refine lv_topi (fun x9 e9 => ?_)
      have b9 := iM_0_16 J0 e9
      have k9 : x9.toInt = (z 0 16).toInt := congrArg Int32.toInt e9
      refine qc_Vi2 (As := [.int 7, .int x9]) (rest := []) (k0 := 2) (m_wrongAt l D ca o b z y J0 7 x9) kc_yX11_wrongAt ⟨hx, hb, hml, hown, hts⟩ wq_1249 rfl rfl ⟨Nat.le_of_ble_eq_true rfl, Nat.le_of_ble_eq_true rfl⟩ wq_all hP hK hS qw_Ai (q0 := 0) (by decide) (hgM_0 ca o _ _) rfl rfl hl.1 rfl (Nat.le_of_ble_eq_true rfl) dX11_readsPerson_42 ⟨Nat.zero_le _, Nat.zero_le _⟩ (fun r10 z10 y10 H locs h10 hP hS _ _ => ?_)
      have J10 : qJM b z10 := h10.2.1
      have p10_5 : (z10 0 16).toInt = (z 0 16).toInt := h10.2.2.2.2.2.1
      have p10_6 : (z10 0 29).toInt = (z 0 29).toInt := h10.2.2.2.2.2.2.1
      have p10_7 : (z10 0 19).toInt = (z 0 19).toInt := h10.2.2.2.2.2.2.2.1
      have p10_8 : (z10 0 33).toInt = (z 0 33).toInt := h10.2.2.2.2.2.2.2.2.1
      have p10_9 : (z10 0 34).toInt = (z 0 34).toInt := h10.2.2.2.2.2.2.2.2.2
      have b10 : (0 : Int) ≤ r10.toInt ∧ r10.toInt ≤ 0 := h10.1
      obtain rfl : r10 = 0 := lit_eq (k := 0) (K := 0) rfl (by omega) (by omega)
      exact W.zret (v := 0) (ty := .boolean) hx hb hr rfl (fun t ht hW => ⟨⟨0, (z10, y10), rfl, ⟨Or.inr rfl, J10, (show (z10 0 29).toInt = (z 0 29).toInt from by omega), (show (z10 0 33).toInt = (z 0 33).toInt from by omega), (show (z10 0 34).toInt = (z 0 34).toInt from by omega)⟩, by rw [ht]; exact hP, va_K.moved hW.alike hK⟩, hS.F ht⟩) hS.2.2 dX11_readsPerson_45
  · subst hr3
    have hg3_0 : ¬ ((0 : Int) ≤ x2.toInt ∧ x2.toInt ≤ (5 : Int)) := hf3_0
    refine lv_if_ne (tgt := 27) hx hb dX11_readsPerson_14 (by decide) (fun q => absurd q (by decide)) (fun _ => ?_)
    refine lv_aload_n hx hb dX11_readsPerson_17 rfl (lv_at hl 1 rfl) ?_
    refine lv_iconst (v := 1) hx hb dX11_readsPerson_18 (by decide) ?_
    refine lv_aload_n hx hb dX11_readsPerson_19 rfl (lv_at hl 1 rfl) ?_
    refine qf_get hx hb hts inX11 hown hK hP (q0 := 0) (by decide) (hgM_0 ca o) rfl 16 (by decide) wq_1009 (v := .int (z 0 16)) rfl dX11_readsPerson_20 ?_
    refine lv_topi (fun x11 e11 => ?_)
    have b11 := iM_0_16 J0 e11
    have k11 : x11.toInt = (z 0 16).toInt := congrArg Int32.toInt e11
    refine qc_Vi2 (As := [.int 1, .int x11]) (rest := []) (k0 := 2) (m_wrongAt l D ca o b z y J0 1 x11) kc_yX11_wrongAt ⟨hx, hb, hml, hown, hts⟩ wq_1249 rfl rfl ⟨Nat.le_of_ble_eq_true rfl, Nat.le_of_ble_eq_true rfl⟩ wq_all hP hK hS qw_Ai (q0 := 0) (by decide) (hgM_0 ca o _ _) rfl rfl hl.1 rfl (Nat.le_of_ble_eq_true rfl) dX11_readsPerson_23 ⟨Nat.zero_le _, Nat.zero_le _⟩ (fun r12 z12 y12 H locs h12 hP hS _ _ => ?_)
    have J12 : qJM b z12 := h12.2.1
    have p12_5 : (z12 0 16).toInt = (z 0 16).toInt := h12.2.2.2.2.2.1
    have p12_6 : (z12 0 29).toInt = (z 0 29).toInt := h12.2.2.2.2.2.2.1
    have p12_7 : (z12 0 19).toInt = (z 0 19).toInt := h12.2.2.2.2.2.2.2.1
    have p12_8 : (z12 0 33).toInt = (z 0 33).toInt := h12.2.2.2.2.2.2.2.2.1
    have p12_9 : (z12 0 34).toInt = (z 0 34).toInt := h12.2.2.2.2.2.2.2.2.2
    have b12 : (0 : Int) ≤ r12.toInt ∧ r12.toInt ≤ 0 := h12.1
    obtain rfl : r12 = 0 := lit_eq (k := 0) (K := 0) rfl (by omega) (by omega)
    exact W.zret (v := 0) (ty := .boolean) hx hb hr rfl (fun t ht hW => ⟨⟨0, (z12, y12), rfl, ⟨Or.inr rfl, J12, (show (z12 0 29).toInt = (z 0 29).toInt from by omega), (show (z12 0 33).toInt = (z 0 33).toInt from by omega), (show (z12 0 34).toInt = (z 0 34).toInt from by omega)⟩, by rw [ht]; exact hP, va_K.moved hW.alike hK⟩, hS.F ht⟩) hS.2.2 dX11_readsPerson_26
set_option maxRecDepth 100000 in
set_option maxHeartbeats 8000000 in
theorem m_opensAnother (l : Launch) (D : va_G) (ca : Nat → ClassId) (o : Nat) (b z : Nat → Nat → Int32) (y : Nat → Nat → Int64) (J0 : qJM b z) (a0 : Int32) (a1 : Int32) (ha0 : (-1 : Int) ≤ a0.toInt ∧ a0.toInt ≤ 5) (ha1 : (-1 : Int) ≤ a1.toInt ∧ a1.toInt ≤ 5) : qM l yX11_opensAnother cX11_opensAnother 4 (some .boolean) 4 124 (qPre D vwCl (qT6 ca) o 41 (qG (GM ca o) z y) [.ref (o + 0), .int a0, .int a1]) (va_Qi (fun r u => ((r = 1 ∧ ((u.1 0 16).toInt ≥ (z 0 16).toInt + 1)) ∨ (r = 0)) ∧ qJM b u.1 ∧ ((u.1 0 33).toInt = (z 0 33).toInt) ∧ ((u.1 0 34).toInt = (z 0 34).toInt)) (qB D vwCl (qT6 ca) o 41 (fun u : qZ => qG (GM ca o) u.1 u.2)) (qw_A o 41)) (qw_A o 41) := by
  refine Met.ofW (cc := cX11_opensAnother) (maxL := 4) (ret := (some .boolean)) (by decide) rfl ?_
  intro p e s m args below meth c s₁ B hml hv
  obtain ⟨rfl, hP, hK⟩ := hv
  have hx := B.exec
  have hb := B.bytes
  have hr := B.returns
  have hts0 := atoms_spec (ws := Cond.code yX11_opensAnother cX11_opensAnother 4 (some .boolean) :: qtbl) B.pre
  have hts : ∀ w ∈ qtbl, w.before _ s = true := fun w h => hts0 w (List.mem_cons_of_mem _ h)
  have hown : s.vm.findClass RX11 = some m.cls := findClass_of_methodNamed B.named
  have hlocks := B.notSynchronized
  have hS : va_S (qw_A o 41) s.heap s.heap [] := va_S.rf
  have hl := lv_entry ([.ref (o + 0), .int a0, .int a1]) (n := 4) (Nat.le_of_ble_eq_true rfl)
  rw [lg_entry_eq]
  generalize (lg_sl ([.ref (o + 0), .int a0, .int a1]) ++ List.replicate (4 - (lg_sl ([.ref (o + 0), .int a0, .int a1])).length) Slot.unset).toArray = ls at hl ⊢
  have hl : lv_has ls 4 [(0, .ref (o + 0)), (1, .int a0), (2, .int a1)] := hl
  refine lv_aload_n hx hb dX11_opensAnother_0 rfl (lv_at hl 0 rfl) ?_
  refine qc_Vip (As := []) (rest := []) (k0 := 0) (m_here l D ca o b z y J0) kc_yX11_here ⟨hx, hb, hml, hown, hts⟩ wq_1233 rfl rfl ⟨Nat.le_of_ble_eq_true rfl, Nat.le_of_ble_eq_true rfl⟩ wq_all hP hK hS qw_Ai (q0 := 0) (by decide) (hgM_0 ca o _ _) rfl rfl hl.1 rfl (Nat.le_of_ble_eq_true rfl) dX11_opensAnother_1 ⟨Nat.zero_le _, Nat.zero_le _⟩ (fun r1 H locs h1 hP hS _ _ => ?_)
  have p1_1 : r1.toInt = (hereV z).toInt := h1.2.1
  have p1_2 : (r1.toInt = -1 ∨ (0 ≤ r1.toInt ∧ (z 0 16).toInt ≤ 259)) := h1.2.2
  have b1 : (-1 : Int) ≤ r1.toInt ∧ r1.toInt ≤ 255 := h1.1
  refine lv_bipush (v := 40) hx hb dX11_opensAnother_4 (by decide) ?_
  refine lv_icmp_eq (tgt := 19) hx hb dX11_opensAnother_6 (by decide) (fun c2 => ?_) (fun c2 => ?_)
  · have t2 : r1.toInt = (40 : Int) := gl_eq c2
    refine lv_aload_n hx hb dX11_opensAnother_19 rfl (lv_at hl 0 rfl) ?_
    refine qf_get hx hb hts inX11 hown hK hP (q0 := 0) (by decide) (hgM_0 ca o) rfl 29 (by decide) wq_1022 (v := .int (z 0 29)) rfl dX11_opensAnother_20 ?_
    refine lv_topi (fun x3 e3 => ?_)
    have b3 := iM_0_29 J0 e3
    have k3 : x3.toInt = (z 0 29).toInt := congrArg Int32.toInt e3
    refine lv_bipush (v := 6) hx hb dX11_opensAnother_23 (by decide) ?_
    refine lv_icmp_ne (tgt := 38) hx hb dX11_opensAnother_25 (by decide) (fun c4 => ?_) (fun c4 => ?_)
    · have t4 : x3.toInt ≠ (6 : Int) := gl_ne c4
      refine lv_aload_n hx hb dX11_opensAnother_38 rfl (lv_at hl 0 rfl) ?_
      refine lv_aload_n hx hb dX11_opensAnother_39 rfl (lv_at hl 0 rfl) ?_
      refine qf_get hx hb hts inX11 hown hK hP (q0 := 0) (by decide) (hgM_0 ca o) rfl 16 (by decide) wq_1009 (v := .int (z 0 16)) rfl dX11_opensAnother_40 ?_
      refine lv_topi (fun x5 e5 => ?_)
      have b5 := iM_0_16 J0 e5
      have k5 : x5.toInt = (z 0 16).toInt := congrArg Int32.toInt e5
      refine lv_iconst (v := 1) hx hb dX11_opensAnother_43 (by decide) ?_
      refine lv_iadd hx hb dX11_opensAnother_44 ?_
      refine lv_topi (fun x6 e6 => ?_)
      have t6 : x6.toInt = x5.toInt + (1 : Int) := ga_add e6 rfl rfl (by omega) (by omega)
      refine qf_put2 hx hb hts inX11 tyX11 tyX11_ok nmX11 hown hK hP hS qw_Ai (q0 := 0) (by decide) (hgM_0 ca o) rfl 16 (by decide) wq_1009 rfl (x := x6) 16 rfl rfl rfl (Nat.le_of_ble_eq_true rfl) dX11_opensAnother_45 (fun z7 H locs hz7 hP hS => ?_)
      have J7 := jM_0_16 J0 hz7 ⟨by omega, by omega⟩
      have k7_0 : (z7 0 16).toInt = x6.toInt := congrArg Int32.toInt (qt_at hz7)
      have k7_1 : (z7 0 29).toInt = (z 0 29).toInt := congrArg Int32.toInt (qt_off hz7 (by decide))
      have k7_2 : (z7 0 19).toInt = (z 0 19).toInt := congrArg Int32.toInt (qt_off hz7 (by decide))
      have k7_3 : (z7 0 33).toInt = (z 0 33).toInt := congrArg Int32.toInt (qt_off hz7 (by decide))
      have k7_4 : (z7 0 34).toInt = (z 0 34).toInt := congrArg Int32.toInt (qt_off hz7 (by decide))
      refine lv_iload_n hx hb dX11_opensAnother_48 rfl (lv_at hl 1 rfl) ?_
      refine lv_iconst (v := (-1)) hx hb dX11_opensAnother_49 (by decide) ?_
      refine lv_icmp_eq (tgt := 96) hx hb dX11_opensAnother_50 (by decide) (fun c8 => ?_) (fun c8 => ?_)
      · have t8 : a0.toInt = (-1 : Int) := gl_eq c8
        refine lv_aload_n hx hb dX11_opensAnother_96 rfl (lv_at hl 0 rfl) ?_
        refine lv_aload_n hx hb dX11_opensAnother_97 rfl (lv_at hl 0 rfl) ?_
        refine qf_get hx hb hts inX11 hown hK hP (q0 := 0) (by decide) (hgM_0 ca o) rfl 29 (by decide) wq_1022 (v := .int (z7 0 29)) rfl dX11_opensAnother_98 ?_
        refine lv_topi (fun x9 e9 => ?_)
        have b9 := iM_0_29 J7 e9
        have k9 : x9.toInt = (z7 0 29).toInt := congrArg Int32.toInt e9
        refine lv_iconst (v := 1) hx hb dX11_opensAnother_101 (by decide) ?_
        refine lv_iadd hx hb dX11_opensAnother_102 ?_
        refine lv_topi (fun x10 e10 => ?_)
        have t10 : x10.toInt = x9.toInt + (1 : Int) := ga_add e10 rfl rfl (by omega) (by omega)
        refine qf_put2 hx hb hts inX11 tyX11 tyX11_ok nmX11 hown hK hP hS qw_Ai (q0 := 0) (by decide) (hgM_0 ca o) rfl 29 (by decide) wq_1022 rfl (x := x10) 29 rfl rfl rfl (Nat.le_of_ble_eq_true rfl) dX11_opensAnother_103 (fun z11 H locs hz11 hP hS => ?_)
        have J11 := jM_0_29 J7 hz11 ⟨by omega, by omega⟩
        have k11_0 : (z11 0 16).toInt = (z7 0 16).toInt := congrArg Int32.toInt (qt_off hz11 (by decide))
        have k11_1 : (z11 0 29).toInt = x10.toInt := congrArg Int32.toInt (qt_at hz11)
        have k11_2 : (z11 0 19).toInt = (z7 0 19).toInt := congrArg Int32.toInt (qt_off hz11 (by decide))
        have k11_3 : (z11 0 33).toInt = (z7 0 33).toInt := congrArg Int32.toInt (qt_off hz11 (by decide))
        have k11_4 : (z11 0 34).toInt = (z7 0 34).toInt := congrArg Int32.toInt (qt_off hz11 (by decide))
        refine lv_aload_n hx hb dX11_opensAnother_106 rfl (lv_at hl 0 rfl) ?_
        refine lv_iconst (v := (-1)) hx hb dX11_opensAnother_107 (by decide) ?_
        refine lv_iload_n hx hb dX11_opensAnother_108 rfl (lv_at hl 2 rfl) ?_
        refine qc_Vv2 (As := [.int ((-1)), .int a1]) (rest := []) (k0 := 2) (m_opensFrame l D ca o b z11 y J11 (-1) a1 ⟨by decide, by decide⟩ ⟨by omega, by omega⟩ (by have ql0 : Int32.toInt (-1) = -1 := (by decide); omega)) kc_yX11_opensFrame ⟨hx, hb, hml, hown, hts⟩ wq_1229 rfl rfl ⟨Nat.le_of_ble_eq_true rfl, Nat.le_of_ble_eq_true rfl⟩ wq_all hP hK hS qw_Ai (q0 := 0) (by decide) (hgM_0 ca o _ _) rfl rfl hl.1 rfl (Nat.le_of_ble_eq_true rfl) dX11_opensAnother_109 ⟨Nat.zero_le _, Nat.zero_le _⟩ (fun z12 y12 H locs h12 hP hS _ _ => ?_)
        have J12 : qJM b z12 := h12.1
        have p12_1 : (z12 0 16).toInt = (z11 0 16).toInt := h12.2.1
        have p12_2 : (z12 0 29).toInt = (z11 0 29).toInt := h12.2.2.1
        have p12_3 : (z12 0 33).toInt = (z11 0 33).toInt := h12.2.2.2.1
        have p12_4 : (z12 0 34).toInt = (z11 0 34).toInt := h12.2.2.2.2
        refine lv_iconst (v := 1) hx hb dX11_opensAnother_112 (by decide) ?_
        exact W.zret (v := 1) (ty := .boolean) hx hb hr rfl (fun t ht hW => ⟨⟨1, (z12, y12), rfl, ⟨Or.inl ⟨rfl, (show (z12 0 16).toInt ≥ (z 0 16).toInt + 1 from by omega)⟩, J12, (show (z12 0 33).toInt = (z 0 33).toInt from by omega), (show (z12 0 34).toInt = (z 0 34).toInt from by omega)⟩, by rw [ht]; exact hP, va_K.moved hW.alike hK⟩, hS.F ht⟩) hS.2.2 dX11_opensAnother_113
      · have t8 : a0.toInt ≠ (-1 : Int) := gl_ne c8
        refine lv_aload_n hx hb dX11_opensAnother_53 rfl (lv_at hl 0 rfl) ?_
        refine qc_Vi2 (As := []) (rest := []) (k0 := 0) (m_readsPerson l D ca o b z7 y J7) kc_yX11_readsPerson ⟨hx, hb, hml, hown, hts⟩ wq_1253 rfl rfl ⟨Nat.le_of_ble_eq_true rfl, Nat.le_of_ble_eq_true rfl⟩ wq_all hP hK hS qw_Ai (q0 := 0) (by decide) (hgM_0 ca o _ _) rfl rfl hl.1 rfl (Nat.le_of_ble_eq_true rfl) dX11_opensAnother_54 ⟨Nat.zero_le _, Nat.zero_le _⟩ (fun r13 z13 y13 H locs h13 hP hS _ _ => ?_)
        have J13 : qJM b z13 := h13.2.1
        have p13_2 : (z13 0 29).toInt = (z7 0 29).toInt := h13.2.2.1
        have p13_3 : (z13 0 33).toInt = (z7 0 33).toInt := h13.2.2.2.1
        have p13_4 : (z13 0 34).toInt = (z7 0 34).toInt := h13.2.2.2.2
        rcases h13.1 with ⟨hr13, hf13_0, hf13_1⟩ | hr13
        · subst hr13
          have hg13_0 : (z13 0 16).toInt = (z7 0 16).toInt + 1 := hf13_0
          have hg13_1 : 0 ≤ (z13 0 19).toInt ∧ (z13 0 19).toInt ≤ 5 := hf13_1
          refine lv_if_ne (tgt := 62) hx hb dX11_opensAnother_57 (by decide) (fun _ => ?_) (fun q => absurd q (by decide))
          refine lv_aload_n hx hb dX11_opensAnother_62 rfl (lv_at hl 0 rfl) ?_
          refine qf_get hx hb hts inX11 hown hK hP (q0 := 0) (by decide) (hgM_0 ca o) rfl 19 (by decide) wq_1012 (v := .int (z13 0 19)) rfl dX11_opensAnother_63 ?_
          refine lv_topi (fun x14 e14 => ?_)
          have k14 : x14.toInt = (z13 0 19).toInt := congrArg Int32.toInt e14
          refine lv_istore_n (lv' := [(3, .int x14), (0, .ref (o + 0)), (1, .int a0), (2, .int a1)]) hx hb dX11_opensAnother_66 rfl hl (by decide) rfl (fun ls hl => ?_)
          refine lv_aload_n hx hb dX11_opensAnother_67 rfl (lv_at hl 1 rfl) ?_
          refine lv_bipush (v := 58) hx hb dX11_opensAnother_68 (by decide) ?_
          refine qc_Vi2 (As := [.int 58]) (rest := []) (k0 := 1) (m_takes l D ca o b z13 y13 J13 58 ⟨by decide, by decide⟩) kc_yX11_takes ⟨hx, hb, hml, hown, hts⟩ wq_1257 rfl rfl ⟨Nat.le_of_ble_eq_true rfl, Nat.le_of_ble_eq_true rfl⟩ wq_all hP hK hS qw_Ai (q0 := 0) (by decide) (hgM_0 ca o _ _) rfl rfl hl.1 rfl (Nat.le_of_ble_eq_true rfl) dX11_opensAnother_70 ⟨Nat.zero_le _, Nat.zero_le _⟩ (fun r15 z15 y15 H locs h15 hP hS _ _ => ?_)
          have J15 : qJM b z15 := h15.2.1
          have p15_4 : (z15 0 29).toInt = (z13 0 29).toInt := h15.2.2.2.2.1
          have p15_5 : (z15 0 33).toInt = (z13 0 33).toInt := h15.2.2.2.2.2.1
          have p15_6 : (z15 0 34).toInt = (z13 0 34).toInt := h15.2.2.2.2.2.2
          rcases h15.1 with ⟨hr15, hf15_0⟩ | hr15
          · subst hr15
            have hg15_0 : (z15 0 16).toInt = (z13 0 16).toInt + 1 := hf15_0
            refine lv_if_ne (tgt := 78) hx hb dX11_opensAnother_73 (by decide) (fun _ => ?_) (fun q => absurd q (by decide))
            refine lv_aload_n hx hb dX11_opensAnother_78 rfl (lv_at hl 1 rfl) ?_
            refine lv_aload_n hx hb dX11_opensAnother_79 rfl (lv_at hl 1 rfl) ?_
            refine qf_get hx hb hts inX11 hown hK hP (q0 := 0) (by decide) (hgM_0 ca o) rfl 29 (by decide) wq_1022 (v := .int (z15 0 29)) rfl dX11_opensAnother_80 ?_
            refine lv_topi (fun x16 e16 => ?_)
            have b16 := iM_0_29 J15 e16
            have k16 : x16.toInt = (z15 0 29).toInt := congrArg Int32.toInt e16
            refine lv_iconst (v := 1) hx hb dX11_opensAnother_83 (by decide) ?_
            refine lv_iadd hx hb dX11_opensAnother_84 ?_
            refine lv_topi (fun x17 e17 => ?_)
            have t17 : x17.toInt = x16.toInt + (1 : Int) := ga_add e17 rfl rfl (by omega) (by omega)
            refine qf_put2 hx hb hts inX11 tyX11 tyX11_ok nmX11 hown hK hP hS qw_Ai (q0 := 0) (by decide) (hgM_0 ca o) rfl 29 (by decide) wq_1022 rfl (x := x17) 29 rfl rfl rfl (Nat.le_of_ble_eq_true rfl) dX11_opensAnother_85 (fun z18 H locs hz18 hP hS => ?_)
            have J18 := jM_0_29 J15 hz18 ⟨by omega, by omega⟩
            have k18_0 : (z18 0 16).toInt = (z15 0 16).toInt := congrArg Int32.toInt (qt_off hz18 (by decide))
            have k18_1 : (z18 0 29).toInt = x17.toInt := congrArg Int32.toInt (qt_at hz18)
            have k18_2 : (z18 0 19).toInt = (z15 0 19).toInt := congrArg Int32.toInt (qt_off hz18 (by decide))
            have k18_3 : (z18 0 33).toInt = (z15 0 33).toInt := congrArg Int32.toInt (qt_off hz18 (by decide))
            have k18_4 : (z18 0 34).toInt = (z15 0 34).toInt := congrArg Int32.toInt (qt_off hz18 (by decide))
            refine lv_aload_n hx hb dX11_opensAnother_88 rfl (lv_at hl 1 rfl) ?_
            refine lv_iload_n hx hb dX11_opensAnother_89 rfl (lv_at hl 2 rfl) ?_
            refine lv_iload_n hx hb dX11_opensAnother_90 rfl (lv_at hl 0 rfl) ?_
            refine qc_Vv2 (As := [.int a0, .int x14]) (rest := []) (k0 := 2) (m_opensFrame l D ca o b z18 y15 J18 a0 x14 ⟨by omega, by omega⟩ ⟨by omega, by omega⟩ (by omega)) kc_yX11_opensFrame ⟨hx, hb, hml, hown, hts⟩ wq_1229 rfl rfl ⟨Nat.le_of_ble_eq_true rfl, Nat.le_of_ble_eq_true rfl⟩ wq_all hP hK hS qw_Ai (q0 := 0) (by decide) (hgM_0 ca o _ _) rfl rfl hl.1 rfl (Nat.le_of_ble_eq_true rfl) dX11_opensAnother_91 ⟨Nat.zero_le _, Nat.zero_le _⟩ (fun z19 y19 H locs h19 hP hS _ _ => ?_)
            have J19 : qJM b z19 := h19.1
            have p19_1 : (z19 0 16).toInt = (z18 0 16).toInt := h19.2.1
            have p19_2 : (z19 0 29).toInt = (z18 0 29).toInt := h19.2.2.1
            have p19_3 : (z19 0 33).toInt = (z18 0 33).toInt := h19.2.2.2.1
            have p19_4 : (z19 0 34).toInt = (z18 0 34).toInt := h19.2.2.2.2
            refine lv_iconst (v := 1) hx hb dX11_opensAnother_94 (by decide) ?_
            exact W.zret (v := 1) (ty := .boolean) hx hb hr rfl (fun t ht hW => ⟨⟨1, (z19, y19), rfl, ⟨Or.inl ⟨rfl, (show (z19 0 16).toInt ≥ (z 0 16).toInt + 1 from by omega)⟩, J19, (show (z19 0 33).toInt = (z 0 33).toInt from by omega), (show (z19 0 34).toInt = (z 0 34).toInt from by omega)⟩, by rw [ht]; exact hP, va_K.moved hW.alike hK⟩, hS.F ht⟩) hS.2.2 dX11_opensAnother_95
          · subst hr15
            refine lv_if_ne (tgt := 78) hx hb dX11_opensAnother_73 (by decide) (fun q => absurd q (by decide)) (fun _ => ?_)
            refine lv_iconst (v := 0) hx hb dX11_opensAnother_76 (by decide) ?_
            exact W.zret (v := 0) (ty := .boolean) hx hb hr rfl (fun t ht hW => ⟨⟨0, (z15, y15), rfl, ⟨Or.inr rfl, J15, (show (z15 0 33).toInt = (z 0 33).toInt from by omega), (show (z15 0 34).toInt = (z 0 34).toInt from by omega)⟩, by rw [ht]; exact hP, va_K.moved hW.alike hK⟩, hS.F ht⟩) hS.2.2 dX11_opensAnother_77
        · subst hr13
          refine lv_if_ne (tgt := 62) hx hb dX11_opensAnother_57 (by decide) (fun q => absurd q (by decide)) (fun _ => ?_)
          refine lv_iconst (v := 0) hx hb dX11_opensAnother_60 (by decide) ?_
          exact W.zret (v := 0) (ty := .boolean) hx hb hr rfl (fun t ht hW => ⟨⟨0, (z13, y13), rfl, ⟨Or.inr rfl, J13, (show (z13 0 33).toInt = (z 0 33).toInt from by omega), (show (z13 0 34).toInt = (z 0 34).toInt from by omega)⟩, by rw [ht]; exact hP, va_K.moved hW.alike hK⟩, hS.F ht⟩) hS.2.2 dX11_opensAnother_61
    · have t4 : x3.toInt = (6 : Int) := gl_eq c4
      refine lv_aload_n hx hb dX11_opensAnother_28 rfl (lv_at hl 0 rfl) ?_
      refine lv_iconst (v := 5) hx hb dX11_opensAnother_29 (by decide) ?_
      refine lv_aload_n hx hb dX11_opensAnother_30 rfl (lv_at hl 0 rfl) ?_
      refine qf_get hx hb hts inX11 hown hK hP (q0 := 0) (by decide) (hgM_0 ca o) rfl 16 (by decide) wq_1009 (v := .int (z 0 16)) rfl dX11_opensAnother_31 ?_
      refine lv_topi (fun x20 e20 => ?_)
      have b20 := iM_0_16 J0 e20
      have k20 : x20.toInt = (z 0 16).toInt := congrArg Int32.toInt e20
      refine qc_Vi2 (As := [.int 5, .int x20]) (rest := []) (k0 := 2) (m_wrongAt l D ca o b z y J0 5 x20) kc_yX11_wrongAt ⟨hx, hb, hml, hown, hts⟩ wq_1249 rfl rfl ⟨Nat.le_of_ble_eq_true rfl, Nat.le_of_ble_eq_true rfl⟩ wq_all hP hK hS qw_Ai (q0 := 0) (by decide) (hgM_0 ca o _ _) rfl rfl hl.1 rfl (Nat.le_of_ble_eq_true rfl) dX11_opensAnother_34 ⟨Nat.zero_le _, Nat.zero_le _⟩ (fun r21 z21 y21 H locs h21 hP hS _ _ => ?_)
      have J21 : qJM b z21 := h21.2.1
      have p21_5 : (z21 0 16).toInt = (z 0 16).toInt := h21.2.2.2.2.2.1
      have p21_6 : (z21 0 29).toInt = (z 0 29).toInt := h21.2.2.2.2.2.2.1
      have p21_7 : (z21 0 19).toInt = (z 0 19).toInt := h21.2.2.2.2.2.2.2.1
      have p21_8 : (z21 0 33).toInt = (z 0 33).toInt := h21.2.2.2.2.2.2.2.2.1
      have p21_9 : (z21 0 34).toInt = (z 0 34).toInt := h21.2.2.2.2.2.2.2.2.2
      have b21 : (0 : Int) ≤ r21.toInt ∧ r21.toInt ≤ 0 := h21.1
      obtain rfl : r21 = 0 := lit_eq (k := 0) (K := 0) rfl (by omega) (by omega)
      exact W.zret (v := 0) (ty := .boolean) hx hb hr rfl (fun t ht hW => ⟨⟨0, (z21, y21), rfl, ⟨Or.inr rfl, J21, (show (z21 0 33).toInt = (z 0 33).toInt from by omega), (show (z21 0 34).toInt = (z 0 34).toInt from by omega)⟩, by rw [ht]; exact hP, va_K.moved hW.alike hK⟩, hS.F ht⟩) hS.2.2 dX11_opensAnother_37
  · have t2 : r1.toInt ≠ (40 : Int) := gl_ne c2
    refine lv_aload_n hx hb dX11_opensAnother_9 rfl (lv_at hl 0 rfl) ?_
    refine lv_iconst (v := 1) hx hb dX11_opensAnother_10 (by decide) ?_
    refine lv_aload_n hx hb dX11_opensAnother_11 rfl (lv_at hl 0 rfl) ?_
    refine qf_get hx hb hts inX11 hown hK hP (q0 := 0) (by decide) (hgM_0 ca o) rfl 16 (by decide) wq_1009 (v := .int (z 0 16)) rfl dX11_opensAnother_12 ?_
    refine lv_topi (fun x22 e22 => ?_)
    have b22 := iM_0_16 J0 e22
    have k22 : x22.toInt = (z 0 16).toInt := congrArg Int32.toInt e22
    refine qc_Vi2 (As := [.int 1, .int x22]) (rest := []) (k0 := 2) (m_wrongAt l D ca o b z y J0 1 x22) kc_yX11_wrongAt ⟨hx, hb, hml, hown, hts⟩ wq_1249 rfl rfl ⟨Nat.le_of_ble_eq_true rfl, Nat.le_of_ble_eq_true rfl⟩ wq_all hP hK hS qw_Ai (q0 := 0) (by decide) (hgM_0 ca o _ _) rfl rfl hl.1 rfl (Nat.le_of_ble_eq_true rfl) dX11_opensAnother_15 ⟨Nat.zero_le _, Nat.zero_le _⟩ (fun r23 z23 y23 H locs h23 hP hS _ _ => ?_)
    have J23 : qJM b z23 := h23.2.1
    have p23_5 : (z23 0 16).toInt = (z 0 16).toInt := h23.2.2.2.2.2.1
    have p23_6 : (z23 0 29).toInt = (z 0 29).toInt := h23.2.2.2.2.2.2.1
    have p23_7 : (z23 0 19).toInt = (z 0 19).toInt := h23.2.2.2.2.2.2.2.1
    have p23_8 : (z23 0 33).toInt = (z 0 33).toInt := h23.2.2.2.2.2.2.2.2.1
    have p23_9 : (z23 0 34).toInt = (z 0 34).toInt := h23.2.2.2.2.2.2.2.2.2
    have b23 : (0 : Int) ≤ r23.toInt ∧ r23.toInt ≤ 0 := h23.1
    obtain rfl : r23 = 0 := lit_eq (k := 0) (K := 0) rfl (by omega) (by omega)
    exact W.zret (v := 0) (ty := .boolean) hx hb hr rfl (fun t ht hW => ⟨⟨0, (z23, y23), rfl, ⟨Or.inr rfl, J23, (show (z23 0 33).toInt = (z 0 33).toInt from by omega), (show (z23 0 34).toInt = (z 0 34).toInt from by omega)⟩, by rw [ht]; exact hP, va_K.moved hW.alike hK⟩, hS.F ht⟩) hS.2.2 dX11_opensAnother_18
set_option maxRecDepth 100000 in
set_option maxHeartbeats 8000000 in
theorem m_readsPart (l : Launch) (D : va_G) (ca : Nat → ClassId) (o : Nat) (b z : Nat → Nat → Int32) (y : Nat → Nat → Int64) (J0 : qJM b z)   : qM l yX11_readsPart cX11_readsPart 3 (some .boolean) 5 147 (qPre D vwCl (qT6 ca) o 41 (qG (GM ca o) z y) [.ref (o + 0)]) (va_Qi (fun r u => ((r = 1 ∧ ((u.1 0 16).toInt ≥ (z 0 16).toInt + 1)) ∨ (r = 0)) ∧ qJM b u.1 ∧ ((u.1 0 33).toInt = (z 0 33).toInt) ∧ ((u.1 0 34).toInt = (z 0 34).toInt)) (qB D vwCl (qT6 ca) o 41 (fun u : qZ => qG (GM ca o) u.1 u.2)) (qw_A o 41)) (qw_A o 41) := by
  refine Met.ofW (cc := cX11_readsPart) (maxL := 3) (ret := (some .boolean)) (by decide) rfl ?_
  intro p e s m args below meth c s₁ B hml hv
  obtain ⟨rfl, hP, hK⟩ := hv
  have hx := B.exec
  have hb := B.bytes
  have hr := B.returns
  have hts0 := atoms_spec (ws := Cond.code yX11_readsPart cX11_readsPart 3 (some .boolean) :: qtbl) B.pre
  have hts : ∀ w ∈ qtbl, w.before _ s = true := fun w h => hts0 w (List.mem_cons_of_mem _ h)
  have hown : s.vm.findClass RX11 = some m.cls := findClass_of_methodNamed B.named
  have hlocks := B.notSynchronized
  have hS : va_S (qw_A o 41) s.heap s.heap [] := va_S.rf
  have hl := lv_entry ([.ref (o + 0)]) (n := 3) (Nat.le_of_ble_eq_true rfl)
  rw [lg_entry_eq]
  generalize (lg_sl ([.ref (o + 0)]) ++ List.replicate (3 - (lg_sl ([.ref (o + 0)])).length) Slot.unset).toArray = ls at hl ⊢
  have hl : lv_has ls 3 [(0, .ref (o + 0))] := hl
  refine lv_aload_n hx hb dX11_readsPart_0 rfl (lv_at hl 0 rfl) ?_
  refine qc_Vip (As := []) (rest := []) (k0 := 0) (m_here l D ca o b z y J0) kc_yX11_here ⟨hx, hb, hml, hown, hts⟩ wq_1233 rfl rfl ⟨Nat.le_of_ble_eq_true rfl, Nat.le_of_ble_eq_true rfl⟩ wq_all hP hK hS qw_Ai (q0 := 0) (by decide) (hgM_0 ca o _ _) rfl rfl hl.1 rfl (Nat.le_of_ble_eq_true rfl) dX11_readsPart_1 ⟨Nat.zero_le _, Nat.zero_le _⟩ (fun r1 H locs h1 hP hS _ _ => ?_)
  have p1_1 : r1.toInt = (hereV z).toInt := h1.2.1
  have p1_2 : (r1.toInt = -1 ∨ (0 ≤ r1.toInt ∧ (z 0 16).toInt ≤ 259)) := h1.2.2
  have b1 : (-1 : Int) ≤ r1.toInt ∧ r1.toInt ≤ 255 := h1.1
  refine lv_istore_n (lv' := [(1, .int r1), (0, .ref (o + 0))]) hx hb dX11_readsPart_4 rfl hl (by decide) rfl (fun ls hl => ?_)
  refine lv_iload_n hx hb dX11_readsPart_5 rfl (lv_at hl 0 rfl) ?_
  refine lv_bipush (v := 40) hx hb dX11_readsPart_6 (by decide) ?_
  refine lv_icmp_ne (tgt := 18) hx hb dX11_readsPart_8 (by decide) (fun c2 => ?_) (fun c2 => ?_)
  · have t2 : r1.toInt ≠ (40 : Int) := gl_ne c2
    refine lv_aload_n hx hb dX11_readsPart_18 rfl (lv_at hl 1 rfl) ?_
    refine qc_Vv2 (As := []) (rest := []) (k0 := 0) (m_clearsPart l D ca o b z y J0) kc_yX11_clearsPart ⟨hx, hb, hml, hown, hts⟩ wq_1261 rfl rfl ⟨Nat.le_of_ble_eq_true rfl, Nat.le_of_ble_eq_true rfl⟩ wq_all hP hK hS qw_Ai (q0 := 0) (by decide) (hgM_0 ca o _ _) rfl rfl hl.1 rfl (Nat.le_of_ble_eq_true rfl) dX11_readsPart_19 ⟨Nat.zero_le _, Nat.zero_le _⟩ (fun z3 y3 H locs h3 hP hS _ _ => ?_)
    have J3 : qJM b z3 := h3.1
    have p3_1 : (z3 0 16).toInt = (z 0 16).toInt := h3.2.1
    have p3_2 : (z3 0 29).toInt = (z 0 29).toInt := h3.2.2.1
    have p3_3 : (z3 0 19).toInt = (z 0 19).toInt := h3.2.2.2.1
    have p3_4 : (z3 0 33).toInt = (z 0 33).toInt := h3.2.2.2.2.1
    have p3_5 : (z3 0 34).toInt = (z 0 34).toInt := h3.2.2.2.2.2
    refine lv_iload_n hx hb dX11_readsPart_22 rfl (lv_at hl 0 rfl) ?_
    refine lv_bipush (v := 48) hx hb dX11_readsPart_23 (by decide) ?_
    refine lv_bipush (v := 57) hx hb dX11_readsPart_25 (by decide) ?_
    refine qc_Sip (As := [.int r1, .int 48, .int 57]) (rest := []) (k0 := 3) (m_in l D ca o b z3 y3 J3 r1 48 57) kc_yX11_in ⟨hx, hb, hml, hown, hts⟩ wq_1187 rfl rfl ⟨Nat.le_of_ble_eq_true rfl, Nat.le_of_ble_eq_true rfl⟩ wq_all hP hK hS qw_Ai rfl hl.1 rfl (Nat.le_of_ble_eq_true rfl) dX11_readsPart_27 ⟨Nat.zero_le _, Nat.zero_le _⟩ (fun r4 H locs h4 hP hS _ _ => ?_)
    rcases h4 with ⟨hr4, hf4_0⟩ | ⟨hr4, hf4_0⟩
    · subst hr4
      have hg4_0 : (48 : Int) ≤ r1.toInt ∧ r1.toInt ≤ (57 : Int) := hf4_0
      refine lv_if_eq (tgt := 58) hx hb dX11_readsPart_30 (by decide) (fun q => absurd q (by decide)) (fun _ => ?_)
      refine lv_aload_n hx hb dX11_readsPart_33 rfl (lv_at hl 1 rfl) ?_
      refine qc_Vi2 (As := []) (rest := []) (k0 := 0) (m_readsNumber l D ca o b z3 y3 J3) kc_yX11_readsNumber ⟨hx, hb, hml, hown, hts⟩ wq_1265 rfl rfl ⟨Nat.le_of_ble_eq_true rfl, Nat.le_of_ble_eq_true rfl⟩ wq_all hP hK hS qw_Ai (q0 := 0) (by decide) (hgM_0 ca o _ _) rfl rfl hl.1 rfl (Nat.le_of_ble_eq_true rfl) dX11_readsPart_34 ⟨Nat.zero_le _, Nat.zero_le _⟩ (fun r5 z5 y5 H locs h5 hP hS _ _ => ?_)
      have J5 : qJM b z5 := h5.2.1
      have p5_2 : (z5 0 29).toInt = (z3 0 29).toInt := h5.2.2.1
      have p5_3 : (z5 0 33).toInt = (z3 0 33).toInt := h5.2.2.2.1
      have p5_4 : (z5 0 34).toInt = (z3 0 34).toInt := h5.2.2.2.2
      rcases h5.1 with ⟨hr5, hf5_0⟩ | hr5
      · subst hr5
        have hg5_0 : (z5 0 16).toInt ≥ (z3 0 16).toInt + 1 := hf5_0
        refine lv_if_ne (tgt := 42) hx hb dX11_readsPart_37 (by decide) (fun _ => ?_) (fun q => absurd q (by decide))
        refine lv_aload_n hx hb dX11_readsPart_42 rfl (lv_at hl 1 rfl) ?_
        refine qf_get hx hb hts inX11 hown hK hP (q0 := 0) (by decide) (hgM_0 ca o) rfl 22 (by decide) wq_1015 (v := .ref (o + 15)) rfl dX11_readsPart_43 ?_
        refine lv_bipush (v := 6) hx hb dX11_readsPart_46 (by decide) ?_
        refine lv_aload_n hx hb dX11_readsPart_48 rfl (lv_at hl 1 rfl) ?_
        refine qf_get hx hb hts inX11 hown hK hP (q0 := 0) (by decide) (hgM_0 ca o) rfl 19 (by decide) wq_1012 (v := .int (z5 0 19)) rfl dX11_readsPart_49 ?_
        refine lv_topi (fun x6 e6 => ?_)
        have k6 : x6.toInt = (z5 0 19).toInt := congrArg Int32.toInt e6
        refine qa_iast2 hx hb hK hP hS qw_Ai (q0 := 15) (by decide) 0 (N := 7) (hgM_15 ca o) rfl (i := 6) (x := x6) (gi_in (by decide) (by decide)) dX11_readsPart_52 (fun z7 H locs hz7 hP hS => ?_)
        have J7 := jM_15 J5 hz7
        have k7_0 : (z7 0 16).toInt = (z5 0 16).toInt := congrArg Int32.toInt (qt_ne hz7 16 (by decide))
        have k7_1 : (z7 0 29).toInt = (z5 0 29).toInt := congrArg Int32.toInt (qt_ne hz7 29 (by decide))
        have k7_2 : (z7 0 19).toInt = (z5 0 19).toInt := congrArg Int32.toInt (qt_ne hz7 19 (by decide))
        have k7_3 : (z7 0 33).toInt = (z5 0 33).toInt := congrArg Int32.toInt (qt_ne hz7 33 (by decide))
        have k7_4 : (z7 0 34).toInt = (z5 0 34).toInt := congrArg Int32.toInt (qt_ne hz7 34 (by decide))
        refine lv_aload_n hx hb dX11_readsPart_53 rfl (lv_at hl 1 rfl) ?_
        refine qc_Vi2 (As := []) (rest := []) (k0 := 0) (m_endsPart l D ca o b z7 y5 J7) kc_yX11_endsPart ⟨hx, hb, hml, hown, hts⟩ wq_1269 rfl rfl ⟨Nat.le_of_ble_eq_true rfl, Nat.le_of_ble_eq_true rfl⟩ wq_all hP hK hS qw_Ai (q0 := 0) (by decide) (hgM_0 ca o _ _) rfl rfl hl.1 rfl (Nat.le_of_ble_eq_true rfl) dX11_readsPart_54 ⟨Nat.zero_le _, Nat.zero_le _⟩ (fun r8 z8 y8 H locs h8 hP hS _ _ => ?_)
        have J8 : qJM b z8 := h8.2.1
        have p8_2 : (z8 0 16).toInt = (z7 0 16).toInt := h8.2.2.1
        have p8_3 : (z8 0 33).toInt = (z7 0 33).toInt := h8.2.2.2.1
        have p8_4 : (z8 0 34).toInt = (z7 0 34).toInt := h8.2.2.2.2
        rcases h8.1 with hr8 | hr8
        · subst hr8
          exact W.zret (v := 1) (ty := .boolean) hx hb hr rfl (fun t ht hW => ⟨⟨1, (z8, y8), rfl, ⟨Or.inl ⟨rfl, (show (z8 0 16).toInt ≥ (z 0 16).toInt + 1 from by omega)⟩, J8, (show (z8 0 33).toInt = (z 0 33).toInt from by omega), (show (z8 0 34).toInt = (z 0 34).toInt from by omega)⟩, by rw [ht]; exact hP, va_K.moved hW.alike hK⟩, hS.F ht⟩) hS.2.2 dX11_readsPart_57
        · subst hr8
          exact W.zret (v := 0) (ty := .boolean) hx hb hr rfl (fun t ht hW => ⟨⟨0, (z8, y8), rfl, ⟨Or.inr rfl, J8, (show (z8 0 33).toInt = (z 0 33).toInt from by omega), (show (z8 0 34).toInt = (z 0 34).toInt from by omega)⟩, by rw [ht]; exact hP, va_K.moved hW.alike hK⟩, hS.F ht⟩) hS.2.2 dX11_readsPart_57
      · subst hr5
        refine lv_if_ne (tgt := 42) hx hb dX11_readsPart_37 (by decide) (fun q => absurd q (by decide)) (fun _ => ?_)
        refine lv_iconst (v := 0) hx hb dX11_readsPart_40 (by decide) ?_
        exact W.zret (v := 0) (ty := .boolean) hx hb hr rfl (fun t ht hW => ⟨⟨0, (z5, y5), rfl, ⟨Or.inr rfl, J5, (show (z5 0 33).toInt = (z 0 33).toInt from by omega), (show (z5 0 34).toInt = (z 0 34).toInt from by omega)⟩, by rw [ht]; exact hP, va_K.moved hW.alike hK⟩, hS.F ht⟩) hS.2.2 dX11_readsPart_41
    · subst hr4
      have hg4_0 : ¬ ((48 : Int) ≤ r1.toInt ∧ r1.toInt ≤ (57 : Int)) := hf4_0
      refine lv_if_eq (tgt := 58) hx hb dX11_readsPart_30 (by decide) (fun _ => ?_) (fun q => absurd (by decide) q)
      refine lv_aload_n hx hb dX11_readsPart_58 rfl (lv_at hl 1 rfl) ?_
      refine qc_Vi2 (As := []) (rest := []) (k0 := 0) (m_readsPerson l D ca o b z3 y3 J3) kc_yX11_readsPerson ⟨hx, hb, hml, hown, hts⟩ wq_1253 rfl rfl ⟨Nat.le_of_ble_eq_true rfl, Nat.le_of_ble_eq_true rfl⟩ wq_all hP hK hS qw_Ai (q0 := 0) (by decide) (hgM_0 ca o _ _) rfl rfl hl.1 rfl (Nat.le_of_ble_eq_true rfl) dX11_readsPart_59 ⟨Nat.zero_le _, Nat.zero_le _⟩ (fun r9 z9 y9 H locs h9 hP hS _ _ => ?_)
      have J9 : qJM b z9 := h9.2.1
      have p9_2 : (z9 0 29).toInt = (z3 0 29).toInt := h9.2.2.1
      have p9_3 : (z9 0 33).toInt = (z3 0 33).toInt := h9.2.2.2.1
      have p9_4 : (z9 0 34).toInt = (z3 0 34).toInt := h9.2.2.2.2
      rcases h9.1 with ⟨hr9, hf9_0, hf9_1⟩ | hr9
      · subst hr9
        have hg9_0 : (z9 0 16).toInt = (z3 0 16).toInt + 1 := hf9_0
        have hg9_1 : 0 ≤ (z9 0 19).toInt ∧ (z9 0 19).toInt ≤ 5 := hf9_1
        refine lv_if_ne (tgt := 67) hx hb dX11_readsPart_62 (by decide) (fun _ => ?_) (fun q => absurd q (by decide))
        refine lv_aload_n hx hb dX11_readsPart_67 rfl (lv_at hl 1 rfl) ?_
        refine qf_get hx hb hts inX11 hown hK hP (q0 := 0) (by decide) (hgM_0 ca o) rfl 19 (by decide) wq_1012 (v := .int (z9 0 19)) rfl dX11_readsPart_68 ?_
        refine lv_topi (fun x10 e10 => ?_)
        have k10 : x10.toInt = (z9 0 19).toInt := congrArg Int32.toInt e10
        refine lv_istore_n (lv' := [(2, .int x10), (1, .int r1), (0, .ref (o + 0))]) hx hb dX11_readsPart_71 rfl hl (by decide) rfl (fun ls hl => ?_)
        refine lv_aload_n hx hb dX11_readsPart_72 rfl (lv_at hl 2 rfl) ?_
        refine qc_Vip (As := []) (rest := []) (k0 := 0) (m_here l D ca o b z9 y9 J9) kc_yX11_here ⟨hx, hb, hml, hown, hts⟩ wq_1233 rfl rfl ⟨Nat.le_of_ble_eq_true rfl, Nat.le_of_ble_eq_true rfl⟩ wq_all hP hK hS qw_Ai (q0 := 0) (by decide) (hgM_0 ca o _ _) rfl rfl hl.1 rfl (Nat.le_of_ble_eq_true rfl) dX11_readsPart_73 ⟨Nat.zero_le _, Nat.zero_le _⟩ (fun r11 H locs h11 hP hS _ _ => ?_)
        have p11_1 : r11.toInt = (hereV z9).toInt := h11.2.1
        have p11_2 : (r11.toInt = -1 ∨ (0 ≤ r11.toInt ∧ (z9 0 16).toInt ≤ 259)) := h11.2.2
        have b11 : (-1 : Int) ≤ r11.toInt ∧ r11.toInt ≤ 255 := h11.1
        refine lv_bipush (v := 64) hx hb dX11_readsPart_76 (by decide) ?_
        refine lv_icmp_ne (tgt := 98) hx hb dX11_readsPart_78 (by decide) (fun c12 => ?_) (fun c12 => ?_)
        · have t12 : r11.toInt ≠ (64 : Int) := gl_ne c12
          refine lv_aload_n hx hb dX11_readsPart_98 rfl (lv_at hl 2 rfl) ?_
          refine qf_get hx hb hts inX11 hown hK hP (q0 := 0) (by decide) (hgM_0 ca o) rfl 22 (by decide) wq_1015 (v := .ref (o + 15)) rfl dX11_readsPart_99 ?_
          refine lv_iload_n hx hb dX11_readsPart_102 rfl (lv_at hl 0 rfl) ?_
          refine lv_iconst (v := 1) hx hb dX11_readsPart_103 (by decide) ?_
          refine qa_iast2 hx hb hK hP hS qw_Ai (q0 := 15) (by decide) 0 (N := 7) (hgM_15 ca o) rfl (i := x10) (x := 1) (gi_in (by omega) (by omega)) dX11_readsPart_104 (fun z13 H locs hz13 hP hS => ?_)
          have J13 := jM_15 J9 hz13
          have k13_0 : (z13 0 16).toInt = (z9 0 16).toInt := congrArg Int32.toInt (qt_ne hz13 16 (by decide))
          have k13_1 : (z13 0 29).toInt = (z9 0 29).toInt := congrArg Int32.toInt (qt_ne hz13 29 (by decide))
          have k13_2 : (z13 0 19).toInt = (z9 0 19).toInt := congrArg Int32.toInt (qt_ne hz13 19 (by decide))
          have k13_3 : (z13 0 33).toInt = (z9 0 33).toInt := congrArg Int32.toInt (qt_ne hz13 33 (by decide))
          have k13_4 : (z13 0 34).toInt = (z9 0 34).toInt := congrArg Int32.toInt (qt_ne hz13 34 (by decide))
          refine lv_aload_n hx hb dX11_readsPart_105 rfl (lv_at hl 2 rfl) ?_
          refine lv_iconst (v := 1) hx hb dX11_readsPart_106 (by decide) ?_
          refine qf_put2 hx hb hts inX11 tyX11 tyX11_ok nmX11 hown hK hP hS qw_Ai (q0 := 0) (by decide) (hgM_0 ca o) rfl 30 (by decide) wq_1023 rfl (x := 1) 30 rfl rfl rfl (Nat.le_of_ble_eq_true rfl) dX11_readsPart_107 (fun z14 H locs hz14 hP hS => ?_)
          have J14 := jM_0_30 J13 hz14
          have k14_0 : (z14 0 16).toInt = (z13 0 16).toInt := congrArg Int32.toInt (qt_off hz14 (by decide))
          have k14_1 : (z14 0 29).toInt = (z13 0 29).toInt := congrArg Int32.toInt (qt_off hz14 (by decide))
          have k14_2 : (z14 0 19).toInt = (z13 0 19).toInt := congrArg Int32.toInt (qt_off hz14 (by decide))
          have k14_3 : (z14 0 33).toInt = (z13 0 33).toInt := congrArg Int32.toInt (qt_off hz14 (by decide))
          have k14_4 : (z14 0 34).toInt = (z13 0 34).toInt := congrArg Int32.toInt (qt_off hz14 (by decide))
          refine lv_aload_n hx hb dX11_readsPart_110 rfl (lv_at hl 2 rfl) ?_
          refine qc_Vi2 (As := []) (rest := []) (k0 := 0) (m_endsPart l D ca o b z14 y9 J14) kc_yX11_endsPart ⟨hx, hb, hml, hown, hts⟩ wq_1269 rfl rfl ⟨Nat.le_of_ble_eq_true rfl, Nat.le_of_ble_eq_true rfl⟩ wq_all hP hK hS qw_Ai (q0 := 0) (by decide) (hgM_0 ca o _ _) rfl rfl hl.1 rfl (Nat.le_of_ble_eq_true rfl) dX11_readsPart_111 ⟨Nat.zero_le _, Nat.zero_le _⟩ (fun r15 z15 y15 H locs h15 hP hS _ _ => ?_)
          have J15 : qJM b z15 := h15.2.1
          have p15_2 : (z15 0 16).toInt = (z14 0 16).toInt := h15.2.2.1
          have p15_3 : (z15 0 33).toInt = (z14 0 33).toInt := h15.2.2.2.1
          have p15_4 : (z15 0 34).toInt = (z14 0 34).toInt := h15.2.2.2.2
          rcases h15.1 with hr15 | hr15
          · subst hr15
            exact W.zret (v := 1) (ty := .boolean) hx hb hr rfl (fun t ht hW => ⟨⟨1, (z15, y15), rfl, ⟨Or.inl ⟨rfl, (show (z15 0 16).toInt ≥ (z 0 16).toInt + 1 from by omega)⟩, J15, (show (z15 0 33).toInt = (z 0 33).toInt from by omega), (show (z15 0 34).toInt = (z 0 34).toInt from by omega)⟩, by rw [ht]; exact hP, va_K.moved hW.alike hK⟩, hS.F ht⟩) hS.2.2 dX11_readsPart_114
          · subst hr15
            exact W.zret (v := 0) (ty := .boolean) hx hb hr rfl (fun t ht hW => ⟨⟨0, (z15, y15), rfl, ⟨Or.inr rfl, J15, (show (z15 0 33).toInt = (z 0 33).toInt from by omega), (show (z15 0 34).toInt = (z 0 34).toInt from by omega)⟩, by rw [ht]; exact hP, va_K.moved hW.alike hK⟩, hS.F ht⟩) hS.2.2 dX11_readsPart_114
        · have t12 : r11.toInt = (64 : Int) := gl_eq c12
          refine lv_aload_n hx hb dX11_readsPart_81 rfl (lv_at hl 2 rfl) ?_
          refine lv_aload_n hx hb dX11_readsPart_82 rfl (lv_at hl 2 rfl) ?_
          refine qf_get hx hb hts inX11 hown hK hP (q0 := 0) (by decide) (hgM_0 ca o) rfl 16 (by decide) wq_1009 (v := .int (z9 0 16)) rfl dX11_readsPart_83 ?_
          refine lv_topi (fun x16 e16 => ?_)
          have b16 := iM_0_16 J9 e16
          have k16 : x16.toInt = (z9 0 16).toInt := congrArg Int32.toInt e16
          refine lv_iconst (v := 1) hx hb dX11_readsPart_86 (by decide) ?_
          refine lv_iadd hx hb dX11_readsPart_87 ?_
          refine lv_topi (fun x17 e17 => ?_)
          have t17 : x17.toInt = x16.toInt + (1 : Int) := ga_add e17 rfl rfl (by omega) (by omega)
          refine qf_put2 hx hb hts inX11 tyX11 tyX11_ok nmX11 hown hK hP hS qw_Ai (q0 := 0) (by decide) (hgM_0 ca o) rfl 16 (by decide) wq_1009 rfl (x := x17) 16 rfl rfl rfl (Nat.le_of_ble_eq_true rfl) dX11_readsPart_88 (fun z18 H locs hz18 hP hS => ?_)
          have J18 := jM_0_16 J9 hz18 ⟨by omega, by omega⟩
          have k18_0 : (z18 0 16).toInt = x17.toInt := congrArg Int32.toInt (qt_at hz18)
          have k18_1 : (z18 0 29).toInt = (z9 0 29).toInt := congrArg Int32.toInt (qt_off hz18 (by decide))
          have k18_2 : (z18 0 19).toInt = (z9 0 19).toInt := congrArg Int32.toInt (qt_off hz18 (by decide))
          have k18_3 : (z18 0 33).toInt = (z9 0 33).toInt := congrArg Int32.toInt (qt_off hz18 (by decide))
          have k18_4 : (z18 0 34).toInt = (z9 0 34).toInt := congrArg Int32.toInt (qt_off hz18 (by decide))
          refine lv_aload_n hx hb dX11_readsPart_91 rfl (lv_at hl 2 rfl) ?_
          refine lv_iload_n hx hb dX11_readsPart_92 rfl (lv_at hl 0 rfl) ?_
          refine lv_iconst (v := (-1)) hx hb dX11_readsPart_93 (by decide) ?_
          refine qc_Vi2 (As := [.int x10, .int ((-1))]) (rest := []) (k0 := 2) (m_opensAnother l D ca o b z18 y9 J18 x10 (-1) ⟨by omega, by omega⟩ ⟨by decide, by decide⟩) kc_yX11_opensAnother ⟨hx, hb, hml, hown, hts⟩ wq_1245 rfl rfl ⟨Nat.le_of_ble_eq_true rfl, Nat.le_of_ble_eq_true rfl⟩ wq_all hP hK hS qw_Ai (q0 := 0) (by decide) (hgM_0 ca o _ _) rfl rfl hl.1 rfl (Nat.le_of_ble_eq_true rfl) dX11_readsPart_94 ⟨Nat.zero_le _, Nat.zero_le _⟩ (fun r19 z19 y19 H locs h19 hP hS _ _ => ?_)
          have J19 : qJM b z19 := h19.2.1
          have p19_2 : (z19 0 33).toInt = (z18 0 33).toInt := h19.2.2.1
          have p19_3 : (z19 0 34).toInt = (z18 0 34).toInt := h19.2.2.2
          rcases h19.1 with ⟨hr19, hf19_0⟩ | hr19
          · subst hr19
            have hg19_0 : (z19 0 16).toInt ≥ (z18 0 16).toInt + 1 := hf19_0
            exact W.zret (v := 1) (ty := .boolean) hx hb hr rfl (fun t ht hW => ⟨⟨1, (z19, y19), rfl, ⟨Or.inl ⟨rfl, (show (z19 0 16).toInt ≥ (z 0 16).toInt + 1 from by omega)⟩, J19, (show (z19 0 33).toInt = (z 0 33).toInt from by omega), (show (z19 0 34).toInt = (z 0 34).toInt from by omega)⟩, by rw [ht]; exact hP, va_K.moved hW.alike hK⟩, hS.F ht⟩) hS.2.2 dX11_readsPart_97
          · subst hr19
            exact W.zret (v := 0) (ty := .boolean) hx hb hr rfl (fun t ht hW => ⟨⟨0, (z19, y19), rfl, ⟨Or.inr rfl, J19, (show (z19 0 33).toInt = (z 0 33).toInt from by omega), (show (z19 0 34).toInt = (z 0 34).toInt from by omega)⟩, by rw [ht]; exact hP, va_K.moved hW.alike hK⟩, hS.F ht⟩) hS.2.2 dX11_readsPart_97
      · subst hr9
        refine lv_if_ne (tgt := 67) hx hb dX11_readsPart_62 (by decide) (fun q => absurd q (by decide)) (fun _ => ?_)
        refine lv_iconst (v := 0) hx hb dX11_readsPart_65 (by decide) ?_
        exact W.zret (v := 0) (ty := .boolean) hx hb hr rfl (fun t ht hW => ⟨⟨0, (z9, y9), rfl, ⟨Or.inr rfl, J9, (show (z9 0 33).toInt = (z 0 33).toInt from by omega), (show (z9 0 34).toInt = (z 0 34).toInt from by omega)⟩, by rw [ht]; exact hP, va_K.moved hW.alike hK⟩, hS.F ht⟩) hS.2.2 dX11_readsPart_66
  · have t2 : r1.toInt = (40 : Int) := gl_eq c2
    refine lv_aload_n hx hb dX11_readsPart_11 rfl (lv_at hl 1 rfl) ?_
    refine lv_iconst (v := (-1)) hx hb dX11_readsPart_12 (by decide) ?_
    refine lv_iconst (v := (-1)) hx hb dX11_readsPart_13 (by decide) ?_
    refine qc_Vi2 (As := [.int ((-1)), .int ((-1))]) (rest := []) (k0 := 2) (m_opensAnother l D ca o b z y J0 (-1) (-1) ⟨by decide, by decide⟩ ⟨by decide, by decide⟩) kc_yX11_opensAnother ⟨hx, hb, hml, hown, hts⟩ wq_1245 rfl rfl ⟨Nat.le_of_ble_eq_true rfl, Nat.le_of_ble_eq_true rfl⟩ wq_all hP hK hS qw_Ai (q0 := 0) (by decide) (hgM_0 ca o _ _) rfl rfl hl.1 rfl (Nat.le_of_ble_eq_true rfl) dX11_readsPart_14 ⟨Nat.zero_le _, Nat.zero_le _⟩ (fun r20 z20 y20 H locs h20 hP hS _ _ => ?_)
    have J20 : qJM b z20 := h20.2.1
    have p20_2 : (z20 0 33).toInt = (z 0 33).toInt := h20.2.2.1
    have p20_3 : (z20 0 34).toInt = (z 0 34).toInt := h20.2.2.2
    rcases h20.1 with ⟨hr20, hf20_0⟩ | hr20
    · subst hr20
      have hg20_0 : (z20 0 16).toInt ≥ (z 0 16).toInt + 1 := hf20_0
      exact W.zret (v := 1) (ty := .boolean) hx hb hr rfl (fun t ht hW => ⟨⟨1, (z20, y20), rfl, ⟨Or.inl ⟨rfl, (show (z20 0 16).toInt ≥ (z 0 16).toInt + 1 from by omega)⟩, J20, (show (z20 0 33).toInt = (z 0 33).toInt from by omega), (show (z20 0 34).toInt = (z 0 34).toInt from by omega)⟩, by rw [ht]; exact hP, va_K.moved hW.alike hK⟩, hS.F ht⟩) hS.2.2 dX11_readsPart_17
    · subst hr20
      exact W.zret (v := 0) (ty := .boolean) hx hb hr rfl (fun t ht hW => ⟨⟨0, (z20, y20), rfl, ⟨Or.inr rfl, J20, (show (z20 0 33).toInt = (z 0 33).toInt from by omega), (show (z20 0 34).toInt = (z 0 34).toInt from by omega)⟩, by rw [ht]; exact hP, va_K.moved hW.alike hK⟩, hS.F ht⟩) hS.2.2 dX11_readsPart_17
set_option maxRecDepth 100000 in
set_option maxHeartbeats 8000000 in
theorem m_readsSide (l : Launch) (D : va_G) (ca : Nat → ClassId) (o : Nat) (b z : Nat → Nat → Int32) (y : Nat → Nat → Int64) (J0 : qJM b z)   : qM l yX11_readsSide cX11_readsSide 3 (some .boolean) 6 169 (qPre D vwCl (qT6 ca) o 41 (qG (GM ca o) z y) [.ref (o + 0)]) (va_Qi (fun r u => ((0 : Int) ≤ r.toInt ∧ r.toInt ≤ 1) ∧ qJM b u.1 ∧ ((u.1 0 33).toInt = (z 0 33).toInt) ∧ ((u.1 0 34).toInt = (z 0 34).toInt)) (qB D vwCl (qT6 ca) o 41 (fun u : qZ => qG (GM ca o) u.1 u.2)) (qw_A o 41)) (qw_A o 41) := by
  refine Met.ofW (cc := cX11_readsSide) (maxL := 3) (ret := (some .boolean)) (by decide) rfl ?_
  intro p e s m args below meth c s₁ B hml hv
  obtain ⟨rfl, hP, hK⟩ := hv
  have hx := B.exec
  have hb := B.bytes
  have hr := B.returns
  have hts0 := atoms_spec (ws := Cond.code yX11_readsSide cX11_readsSide 3 (some .boolean) :: qtbl) B.pre
  have hts : ∀ w ∈ qtbl, w.before _ s = true := fun w h => hts0 w (List.mem_cons_of_mem _ h)
  have hown : s.vm.findClass RX11 = some m.cls := findClass_of_methodNamed B.named
  have hlocks := B.notSynchronized
  have hS : va_S (qw_A o 41) s.heap s.heap [] := va_S.rf
  have hl := lv_entry ([.ref (o + 0)]) (n := 3) (Nat.le_of_ble_eq_true rfl)
  rw [lg_entry_eq]
  generalize (lg_sl ([.ref (o + 0)]) ++ List.replicate (3 - (lg_sl ([.ref (o + 0)])).length) Slot.unset).toArray = ls at hl ⊢
  have hl : lv_has ls 3 [(0, .ref (o + 0))] := hl
  refine lv_aload_n hx hb dX11_readsSide_0 rfl (lv_at hl 0 rfl) ?_
  refine lv_iconst (v := 0) hx hb dX11_readsSide_1 (by decide) ?_
  refine qf_put2 hx hb hts inX11 tyX11 tyX11_ok nmX11 hown hK hP hS qw_Ai (q0 := 0) (by decide) (hgM_0 ca o) rfl 29 (by decide) wq_1022 rfl (x := 0) 29 rfl rfl rfl (Nat.le_of_ble_eq_true rfl) dX11_readsSide_2 (fun z1 H locs hz1 hP hS => ?_)
  have J1 := jM_0_29 J0 hz1 ⟨by decide, by decide⟩
  have k1_0 : (z1 0 16).toInt = (z 0 16).toInt := congrArg Int32.toInt (qt_off hz1 (by decide))
  have k1_1 : (z1 0 29).toInt = (0 : Int) := congrArg Int32.toInt (qt_at hz1)
  have k1_2 : (z1 0 33).toInt = (z 0 33).toInt := congrArg Int32.toInt (qt_off hz1 (by decide))
  have k1_3 : (z1 0 34).toInt = (z 0 34).toInt := congrArg Int32.toInt (qt_off hz1 (by decide))
  refine lv_aload_n hx hb dX11_readsSide_5 rfl (lv_at hl 0 rfl) ?_
  refine lv_iconst (v := (-1)) hx hb dX11_readsSide_6 (by decide) ?_
  refine lv_iconst (v := (-1)) hx hb dX11_readsSide_7 (by decide) ?_
  refine qc_Vv2 (As := [.int ((-1)), .int ((-1))]) (rest := []) (k0 := 2) (m_opensFrame l D ca o b z1 y J1 (-1) (-1) ⟨by decide, by decide⟩ ⟨by decide, by decide⟩ (by have ql0 : Int32.toInt (-1) = -1 := (by decide); have ql1 : Int32.toInt (-1) = -1 := (by decide); omega)) kc_yX11_opensFrame ⟨hx, hb, hml, hown, hts⟩ wq_1229 rfl rfl ⟨Nat.le_of_ble_eq_true rfl, Nat.le_of_ble_eq_true rfl⟩ wq_all hP hK hS qw_Ai (q0 := 0) (by decide) (hgM_0 ca o _ _) rfl rfl hl.1 rfl (Nat.le_of_ble_eq_true rfl) dX11_readsSide_8 ⟨Nat.zero_le _, Nat.zero_le _⟩ (fun z2 y2 H locs h2 hP hS _ _ => ?_)
  have J2 : qJM b z2 := h2.1
  have p2_1 : (z2 0 16).toInt = (z1 0 16).toInt := h2.2.1
  have p2_2 : (z2 0 29).toInt = (z1 0 29).toInt := h2.2.2.1
  have p2_3 : (z2 0 33).toInt = (z1 0 33).toInt := h2.2.2.2.1
  have p2_4 : (z2 0 34).toInt = (z1 0 34).toInt := h2.2.2.2.2
  refine lv_iconst (v := 1) hx hb dX11_readsSide_11 (by decide) ?_
  refine lv_istore_n (lv' := [(1, .int 1), (0, .ref (o + 0))]) hx hb dX11_readsSide_12 rfl hl (by decide) rfl (fun ls hl => ?_)
  have loop3 : ∀ (n : Nat) (w3_1 : Int32) (z3 : Nat → Nat → Int32) (y3 : Nat → Nat → Int64), ((260 - (z3 0 16).toInt : Int) < (n : Int)) → ((1 : Int) ≤ w3_1.toInt ∧ w3_1.toInt ≤ 1) → (qJM b z3) → (0 ≤ (z3 0 16).toInt ∧ (z3 0 16).toInt ≤ 260) → ((z3 0 33).toInt = (z 0 33).toInt ∧ (z3 0 34).toInt = (z 0 34).toInt) → ∀ (H : Heap) (locs : List Loc), qw_P D vwCl o 41 (qG (GM ca o) z3 y3) H → va_S (qw_A o 41) s.heap H locs → ∀ (ls : Array Slot), lv_has ls 3 [(1, .int w3_1), (0, .ref (o + 0))] → W p l e (headSpec (Cond.code yX11_readsSide cX11_readsSide 3 (some .boolean) :: qtbl) ({ frames := 6, cells := 0, slots := 0, locals := 169 })).room s m (([.ref (o + 0)] : List Value).toArray) below meth c H locs 0 0 (MQ below (va_Qi (fun r u => ((0 : Int) ≤ r.toInt ∧ r.toInt ≤ 1) ∧ qJM b u.1 ∧ ((u.1 0 33).toInt = (z 0 33).toInt) ∧ ((u.1 0 34).toInt = (z 0 34).toInt)) (qB D vwCl (qT6 ca) o 41 (fun u : qZ => qG (GM ca o) u.1 u.2)) (qw_A o 41)) (([.ref (o + 0)] : List Value).toArray) s 0 0 (qw_A o 41)) (F0 m 13 ls []) := by
    intro n
    induction n with
    | zero => intro w3_1 z3 y3 hb3 hv3_1 J3 v3_0 v3_1; exfalso; omega
    | succ n3 ih3 =>
      intro w3_1 z3 y3 hb3 hv3_1 J3 v3_0 v3_1 H locs hP hS ls hl
      refine lv_iload_n hx hb dX11_readsSide_13 rfl (lv_at hl 0 rfl) ?_
      refine lv_if_eq (tgt := 162) hx hb dX11_readsSide_14 (by decide) (fun c4 => ?_) (fun c4 => ?_)
      · have t4 : w3_1.toInt = (0 : Int) := gl_eq c4
        exfalso; omega
      · have t4 : w3_1.toInt ≠ (0 : Int) := gl_ne c4
        refine lv_aload_n hx hb dX11_readsSide_17 rfl (lv_at hl 1 rfl) ?_
        refine qc_Vip (As := []) (rest := []) (k0 := 0) (m_here l D ca o b z3 y3 J3) kc_yX11_here ⟨hx, hb, hml, hown, hts⟩ wq_1233 rfl rfl ⟨Nat.le_of_ble_eq_true rfl, Nat.le_of_ble_eq_true rfl⟩ wq_all hP hK hS qw_Ai (q0 := 0) (by decide) (hgM_0 ca o _ _) rfl rfl hl.1 rfl (Nat.le_of_ble_eq_true rfl) dX11_readsSide_18 ⟨Nat.zero_le _, Nat.zero_le _⟩ (fun r5 H locs h5 hP hS _ _ => ?_)
        have p5_1 : r5.toInt = (hereV z3).toInt := h5.2.1
        have p5_2 : (r5.toInt = -1 ∨ (0 ≤ r5.toInt ∧ (z3 0 16).toInt ≤ 259)) := h5.2.2
        have b5 : (-1 : Int) ≤ r5.toInt ∧ r5.toInt ≤ 255 := h5.1
        refine lv_istore_n (lv' := [(2, .int r5), (1, .int w3_1), (0, .ref (o + 0))]) hx hb dX11_readsSide_21 rfl hl (by decide) rfl (fun ls hl => ?_)
        refine lv_aload_n hx hb dX11_readsSide_22 rfl (lv_at hl 2 rfl) ?_
        refine qf_get hx hb hts inX11 hown hK hP (q0 := 0) (by decide) (hgM_0 ca o) rfl 31 (by decide) wq_1024 (v := .int (z3 0 31)) rfl dX11_readsSide_23 ?_
        refine lv_topi (fun x6 e6 => ?_)
        refine lv_if_eq (tgt := 38) hx hb dX11_readsSide_26 (by decide) (fun c7 => ?_) (fun c7 => ?_)
        · have t7 : x6.toInt = (0 : Int) := gl_eq c7
          refine lv_iload_n hx hb dX11_readsSide_38 rfl (lv_at hl 0 rfl) ?_
          refine lv_bipush (v := 42) hx hb dX11_readsSide_39 (by decide) ?_
          refine lv_icmp_ne (tgt := 75) hx hb dX11_readsSide_41 (by decide) (fun c8 => ?_) (fun c8 => ?_)
          · have t8 : r5.toInt ≠ (42 : Int) := gl_ne c8
            refine lv_iload_n hx hb dX11_readsSide_75 rfl (lv_at hl 0 rfl) ?_
            refine lv_bipush (v := 43) hx hb dX11_readsSide_76 (by decide) ?_
            refine lv_icmp_eq (tgt := 87) hx hb dX11_readsSide_78 (by decide) (fun c9 => ?_) (fun c9 => ?_)
            · have t9 : r5.toInt = (43 : Int) := gl_eq c9
              refine lv_aload_n hx hb dX11_readsSide_87 rfl (lv_at hl 2 rfl) ?_
              refine qc_Vv2 (As := []) (rest := []) (k0 := 0) (m_endsTerm l D ca o b z3 y3 J3) kc_yX11_endsTerm ⟨hx, hb, hml, hown, hts⟩ wq_1276 rfl rfl ⟨Nat.le_of_ble_eq_true rfl, Nat.le_of_ble_eq_true rfl⟩ wq_all hP hK hS qw_Ai (q0 := 0) (by decide) (hgM_0 ca o _ _) rfl rfl hl.1 rfl (Nat.le_of_ble_eq_true rfl) dX11_readsSide_88 ⟨Nat.zero_le _, Nat.zero_le _⟩ (fun z10 y10 H locs h10 hP hS _ _ => ?_)
              have J10 : qJM b z10 := h10.1
              have p10_1 : (z10 0 16).toInt = (z3 0 16).toInt := h10.2.1
              have p10_2 : (z10 0 29).toInt = (z3 0 29).toInt := h10.2.2.1
              have p10_3 : (z10 0 33).toInt = (z3 0 33).toInt := h10.2.2.2.1
              have p10_4 : (z10 0 34).toInt = (z3 0 34).toInt := h10.2.2.2.2
              refine lv_aload_n hx hb dX11_readsSide_91 rfl (lv_at hl 2 rfl) ?_
              refine qf_get hx hb hts inX11 hown hK hP (q0 := 0) (by decide) (hgM_0 ca o) rfl 25 (by decide) wq_1018 (v := .ref (o + 18)) rfl dX11_readsSide_92 ?_
              refine lv_aload_n hx hb dX11_readsSide_95 rfl (lv_at hl 2 rfl) ?_
              refine qf_get hx hb hts inX11 hown hK hP (q0 := 0) (by decide) (hgM_0 ca o) rfl 29 (by decide) wq_1022 (v := .int (z10 0 29)) rfl dX11_readsSide_96 ?_
              refine lv_topi (fun x11 e11 => ?_)
              have b11 := iM_0_29 J10 e11
              have k11 : x11.toInt = (z10 0 29).toInt := congrArg Int32.toInt e11
              refine lv_iload_n hx hb dX11_readsSide_99 rfl (lv_at hl 0 rfl) ?_
              refine lv_bipush (v := 43) hx hb dX11_readsSide_100 (by decide) ?_
              refine lv_icmp_ne (tgt := 109) hx hb dX11_readsSide_102 (by decide) (fun c12 => ?_) (fun c12 => ?_)
              · have t12 : r5.toInt ≠ (43 : Int) := gl_ne c12
                exfalso; omega
              · have t12 : r5.toInt = (43 : Int) := gl_eq c12
                refine lv_iconst (v := 1) hx hb dX11_readsSide_105 (by decide) ?_
                refine lv_goto (tgt := 110) hx hb dX11_readsSide_106 (by decide) ?_
                refine qa_iast2 hx hb hK hP hS qw_Ai (q0 := 18) (by decide) 0 (N := 7) (hgM_18 ca o) rfl (i := x11) (x := 1) (gi_in (by omega) (by omega)) dX11_readsSide_110 (fun z13 H locs hz13 hP hS => ?_)
                have J13 := jM_18 J10 hz13
                have k13_0 : (z13 0 16).toInt = (z10 0 16).toInt := congrArg Int32.toInt (qt_ne hz13 16 (by decide))
                have k13_1 : (z13 0 29).toInt = (z10 0 29).toInt := congrArg Int32.toInt (qt_ne hz13 29 (by decide))
                have k13_2 : (z13 0 33).toInt = (z10 0 33).toInt := congrArg Int32.toInt (qt_ne hz13 33 (by decide))
                have k13_3 : (z13 0 34).toInt = (z10 0 34).toInt := congrArg Int32.toInt (qt_ne hz13 34 (by decide))
                refine lv_aload_n hx hb dX11_readsSide_111 rfl (lv_at hl 2 rfl) ?_
                refine lv_aload_n hx hb dX11_readsSide_112 rfl (lv_at hl 2 rfl) ?_
                refine qf_get hx hb hts inX11 hown hK hP (q0 := 0) (by decide) (hgM_0 ca o) rfl 16 (by decide) wq_1009 (v := .int (z13 0 16)) rfl dX11_readsSide_113 ?_
                refine lv_topi (fun x14 e14 => ?_)
                have b14 := iM_0_16 J13 e14
                have k14 : x14.toInt = (z13 0 16).toInt := congrArg Int32.toInt e14
                refine lv_iconst (v := 1) hx hb dX11_readsSide_116 (by decide) ?_
                refine lv_iadd hx hb dX11_readsSide_117 ?_
                refine lv_topi (fun x15 e15 => ?_)
                have t15 : x15.toInt = x14.toInt + (1 : Int) := ga_add e15 rfl rfl (by omega) (by omega)
                refine qf_put2 hx hb hts inX11 tyX11 tyX11_ok nmX11 hown hK hP hS qw_Ai (q0 := 0) (by decide) (hgM_0 ca o) rfl 16 (by decide) wq_1009 rfl (x := x15) 16 rfl rfl rfl (Nat.le_of_ble_eq_true rfl) dX11_readsSide_118 (fun z16 H locs hz16 hP hS => ?_)
                have J16 := jM_0_16 J13 hz16 ⟨by omega, by omega⟩
                have k16_0 : (z16 0 16).toInt = x15.toInt := congrArg Int32.toInt (qt_at hz16)
                have k16_1 : (z16 0 29).toInt = (z13 0 29).toInt := congrArg Int32.toInt (qt_off hz16 (by decide))
                have k16_2 : (z16 0 33).toInt = (z13 0 33).toInt := congrArg Int32.toInt (qt_off hz16 (by decide))
                have k16_3 : (z16 0 34).toInt = (z13 0 34).toInt := congrArg Int32.toInt (qt_off hz16 (by decide))
                refine lv_aload_n hx hb dX11_readsSide_121 rfl (lv_at hl 2 rfl) ?_
                refine lv_iconst (v := 1) hx hb dX11_readsSide_122 (by decide) ?_
                refine qf_put2 hx hb hts inX11 tyX11 tyX11_ok nmX11 hown hK hP hS qw_Ai (q0 := 0) (by decide) (hgM_0 ca o) rfl 31 (by decide) wq_1024 rfl (x := 1) 31 rfl rfl rfl (Nat.le_of_ble_eq_true rfl) dX11_readsSide_123 (fun z17 H locs hz17 hP hS => ?_)
                have J17 := jM_0_31 J16 hz17
                have k17_0 : (z17 0 16).toInt = (z16 0 16).toInt := congrArg Int32.toInt (qt_off hz17 (by decide))
                have k17_1 : (z17 0 29).toInt = (z16 0 29).toInt := congrArg Int32.toInt (qt_off hz17 (by decide))
                have k17_2 : (z17 0 33).toInt = (z16 0 33).toInt := congrArg Int32.toInt (qt_off hz17 (by decide))
                have k17_3 : (z17 0 34).toInt = (z16 0 34).toInt := congrArg Int32.toInt (qt_off hz17 (by decide))
                refine lv_goto (tgt := 159) hx hb dX11_readsSide_126 (by decide) ?_
                refine lv_goto (tgt := 13) hx hb dX11_readsSide_159 (by decide) ?_
                exact ih3 w3_1 z17 y10 (show (260 - (z17 0 16).toInt : Int) < (n3 : Int) from by omega) ⟨by omega, by omega⟩ J17 (iM_0_16 J17 rfl) (show (z17 0 33).toInt = (z 0 33).toInt ∧ (z17 0 34).toInt = (z 0 34).toInt from by omega) _ _ hP hS _ (lv_sub hl [1, 2] rfl)
            · have t9 : r5.toInt ≠ (43 : Int) := gl_ne c9
              refine lv_iload_n hx hb dX11_readsSide_81 rfl (lv_at hl 0 rfl) ?_
              refine lv_bipush (v := 45) hx hb dX11_readsSide_82 (by decide) ?_
              refine lv_icmp_ne (tgt := 129) hx hb dX11_readsSide_84 (by decide) (fun c18 => ?_) (fun c18 => ?_)
              · have t18 : r5.toInt ≠ (45 : Int) := gl_ne c18
                refine lv_aload_n hx hb dX11_readsSide_129 rfl (lv_at hl 2 rfl) ?_
                refine qc_Vv2 (As := []) (rest := []) (k0 := 0) (m_endsTerm l D ca o b z3 y3 J3) kc_yX11_endsTerm ⟨hx, hb, hml, hown, hts⟩ wq_1276 rfl rfl ⟨Nat.le_of_ble_eq_true rfl, Nat.le_of_ble_eq_true rfl⟩ wq_all hP hK hS qw_Ai (q0 := 0) (by decide) (hgM_0 ca o _ _) rfl rfl hl.1 rfl (Nat.le_of_ble_eq_true rfl) dX11_readsSide_130 ⟨Nat.zero_le _, Nat.zero_le _⟩ (fun z19 y19 H locs h19 hP hS _ _ => ?_)
                have J19 : qJM b z19 := h19.1
                have p19_1 : (z19 0 16).toInt = (z3 0 16).toInt := h19.2.1
                have p19_2 : (z19 0 29).toInt = (z3 0 29).toInt := h19.2.2.1
                have p19_3 : (z19 0 33).toInt = (z3 0 33).toInt := h19.2.2.2.1
                have p19_4 : (z19 0 34).toInt = (z3 0 34).toInt := h19.2.2.2.2
                refine lv_aload_n hx hb dX11_readsSide_133 rfl (lv_at hl 2 rfl) ?_
                refine qf_get hx hb hts inX11 hown hK hP (q0 := 0) (by decide) (hgM_0 ca o) rfl 29 (by decide) wq_1022 (v := .int (z19 0 29)) rfl dX11_readsSide_134 ?_
                refine lv_topi (fun x20 e20 => ?_)
                have b20 := iM_0_29 J19 e20
                have k20 : x20.toInt = (z19 0 29).toInt := congrArg Int32.toInt e20
                refine lv_if_le (tgt := 144) hx hb dX11_readsSide_137 (by decide) (fun c21 => ?_) (fun c21 => ?_)
                · have t21 : x20.toInt ≤ (0 : Int) := gl_le c21
                  refine lv_iconst (v := 0) hx hb dX11_readsSide_144 (by decide) ?_
                  refine lv_istore_n (lv' := [(1, .int 0), (2, .int r5), (0, .ref (o + 0))]) hx hb dX11_readsSide_145 rfl hl (by decide) rfl (fun ls hl => ?_)
                  refine lv_iload_n hx hb dX11_readsSide_146 rfl (lv_at hl 0 rfl) ?_
                  refine lv_if_eq (tgt := 159) hx hb dX11_readsSide_147 (by decide) (fun _ => ?_) (fun q => absurd (by decide) q)
                  refine lv_goto (tgt := 13) hx hb dX11_readsSide_159 (by decide) ?_
                  refine lv_iload_n hx hb dX11_readsSide_13 rfl (lv_at hl 0 rfl) ?_
                  refine lv_if_eq (tgt := 162) hx hb dX11_readsSide_14 (by decide) (fun _ => ?_) (fun q => absurd (by decide) q)
                  refine lv_iconst (v := 1) hx hb dX11_readsSide_162 (by decide) ?_
                  exact W.zret (v := 1) (ty := .boolean) hx hb hr rfl (fun t ht hW => ⟨⟨1, (z19, y19), rfl, ⟨⟨by decide, by decide⟩, J19, (show (z19 0 33).toInt = (z 0 33).toInt from by omega), (show (z19 0 34).toInt = (z 0 34).toInt from by omega)⟩, by rw [ht]; exact hP, va_K.moved hW.alike hK⟩, hS.F ht⟩) hS.2.2 dX11_readsSide_163
                · have t21 : x20.toInt > (0 : Int) := gl_nle c21
                  refine lv_iconst (v := 1) hx hb dX11_readsSide_140 (by decide) ?_
                  refine lv_goto (tgt := 145) hx hb dX11_readsSide_141 (by decide) ?_
                  refine lv_istore_n (lv' := [(1, .int 1), (2, .int r5), (0, .ref (o + 0))]) hx hb dX11_readsSide_145 rfl hl (by decide) rfl (fun ls hl => ?_)
                  refine lv_iload_n hx hb dX11_readsSide_146 rfl (lv_at hl 0 rfl) ?_
                  refine lv_if_eq (tgt := 159) hx hb dX11_readsSide_147 (by decide) (fun q => absurd q (by decide)) (fun _ => ?_)
                  refine lv_aload_n hx hb dX11_readsSide_150 rfl (lv_at hl 2 rfl) ?_
                  refine qc_Vi2 (As := []) (rest := []) (k0 := 0) (m_endsFrame l D ca o b z19 y19 J19 (by omega)) kc_yX11_endsFrame ⟨hx, hb, hml, hown, hts⟩ wq_1280 rfl rfl ⟨Nat.le_of_ble_eq_true rfl, Nat.le_of_ble_eq_true rfl⟩ wq_all hP hK hS qw_Ai (q0 := 0) (by decide) (hgM_0 ca o _ _) rfl rfl hl.1 rfl (Nat.le_of_ble_eq_true rfl) dX11_readsSide_151 ⟨Nat.zero_le _, Nat.zero_le _⟩ (fun r22 z22 y22 H locs h22 hP hS _ _ => ?_)
                  have J22 : qJM b z22 := h22.2.1
                  have p22_2 : (z22 0 33).toInt = (z19 0 33).toInt := h22.2.2.1
                  have p22_3 : (z22 0 34).toInt = (z19 0 34).toInt := h22.2.2.2
                  rcases h22.1 with ⟨hr22, hf22_0⟩ | hr22
                  · subst hr22
                    have hg22_0 : (z22 0 16).toInt ≥ (z19 0 16).toInt + 1 := hf22_0
                    refine lv_if_ne (tgt := 159) hx hb dX11_readsSide_154 (by decide) (fun _ => ?_) (fun q => absurd q (by decide))
                    refine lv_goto (tgt := 13) hx hb dX11_readsSide_159 (by decide) ?_
                    exact ih3 1 z22 y22 (show (260 - (z22 0 16).toInt : Int) < (n3 : Int) from by omega) ⟨by decide, by decide⟩ J22 (iM_0_16 J22 rfl) (show (z22 0 33).toInt = (z 0 33).toInt ∧ (z22 0 34).toInt = (z 0 34).toInt from by omega) _ _ hP hS _ (lv_sub hl [0, 2] rfl)
                  · subst hr22
                    refine lv_if_ne (tgt := 159) hx hb dX11_readsSide_154 (by decide) (fun q => absurd q (by decide)) (fun _ => ?_)
                    refine lv_iconst (v := 0) hx hb dX11_readsSide_157 (by decide) ?_
                    exact W.zret (v := 0) (ty := .boolean) hx hb hr rfl (fun t ht hW => ⟨⟨0, (z22, y22), rfl, ⟨⟨by decide, by decide⟩, J22, (show (z22 0 33).toInt = (z 0 33).toInt from by omega), (show (z22 0 34).toInt = (z 0 34).toInt from by omega)⟩, by rw [ht]; exact hP, va_K.moved hW.alike hK⟩, hS.F ht⟩) hS.2.2 dX11_readsSide_158
              · have t18 : r5.toInt = (45 : Int) := gl_eq c18
                refine lv_aload_n hx hb dX11_readsSide_87 rfl (lv_at hl 2 rfl) ?_
                refine qc_Vv2 (As := []) (rest := []) (k0 := 0) (m_endsTerm l D ca o b z3 y3 J3) kc_yX11_endsTerm ⟨hx, hb, hml, hown, hts⟩ wq_1276 rfl rfl ⟨Nat.le_of_ble_eq_true rfl, Nat.le_of_ble_eq_true rfl⟩ wq_all hP hK hS qw_Ai (q0 := 0) (by decide) (hgM_0 ca o _ _) rfl rfl hl.1 rfl (Nat.le_of_ble_eq_true rfl) dX11_readsSide_88 ⟨Nat.zero_le _, Nat.zero_le _⟩ (fun z23 y23 H locs h23 hP hS _ _ => ?_)
                have J23 : qJM b z23 := h23.1
                have p23_1 : (z23 0 16).toInt = (z3 0 16).toInt := h23.2.1
                have p23_2 : (z23 0 29).toInt = (z3 0 29).toInt := h23.2.2.1
                have p23_3 : (z23 0 33).toInt = (z3 0 33).toInt := h23.2.2.2.1
                have p23_4 : (z23 0 34).toInt = (z3 0 34).toInt := h23.2.2.2.2
                refine lv_aload_n hx hb dX11_readsSide_91 rfl (lv_at hl 2 rfl) ?_
                refine qf_get hx hb hts inX11 hown hK hP (q0 := 0) (by decide) (hgM_0 ca o) rfl 25 (by decide) wq_1018 (v := .ref (o + 18)) rfl dX11_readsSide_92 ?_
                refine lv_aload_n hx hb dX11_readsSide_95 rfl (lv_at hl 2 rfl) ?_
                refine qf_get hx hb hts inX11 hown hK hP (q0 := 0) (by decide) (hgM_0 ca o) rfl 29 (by decide) wq_1022 (v := .int (z23 0 29)) rfl dX11_readsSide_96 ?_
                refine lv_topi (fun x24 e24 => ?_)
                have b24 := iM_0_29 J23 e24
                have k24 : x24.toInt = (z23 0 29).toInt := congrArg Int32.toInt e24
                refine lv_iload_n hx hb dX11_readsSide_99 rfl (lv_at hl 0 rfl) ?_
                refine lv_bipush (v := 43) hx hb dX11_readsSide_100 (by decide) ?_
                refine lv_icmp_ne (tgt := 109) hx hb dX11_readsSide_102 (by decide) (fun c25 => ?_) (fun c25 => ?_)
                · have t25 : r5.toInt ≠ (43 : Int) := gl_ne c25
                  refine lv_iconst (v := (-1)) hx hb dX11_readsSide_109 (by decide) ?_
                  refine qa_iast2 hx hb hK hP hS qw_Ai (q0 := 18) (by decide) 0 (N := 7) (hgM_18 ca o) rfl (i := x24) (x := (-1)) (gi_in (by omega) (by omega)) dX11_readsSide_110 (fun z26 H locs hz26 hP hS => ?_)
                  have J26 := jM_18 J23 hz26
                  have k26_0 : (z26 0 16).toInt = (z23 0 16).toInt := congrArg Int32.toInt (qt_ne hz26 16 (by decide))
                  have k26_1 : (z26 0 29).toInt = (z23 0 29).toInt := congrArg Int32.toInt (qt_ne hz26 29 (by decide))
                  have k26_2 : (z26 0 33).toInt = (z23 0 33).toInt := congrArg Int32.toInt (qt_ne hz26 33 (by decide))
                  have k26_3 : (z26 0 34).toInt = (z23 0 34).toInt := congrArg Int32.toInt (qt_ne hz26 34 (by decide))
                  refine lv_aload_n hx hb dX11_readsSide_111 rfl (lv_at hl 2 rfl) ?_
                  refine lv_aload_n hx hb dX11_readsSide_112 rfl (lv_at hl 2 rfl) ?_
                  refine qf_get hx hb hts inX11 hown hK hP (q0 := 0) (by decide) (hgM_0 ca o) rfl 16 (by decide) wq_1009 (v := .int (z26 0 16)) rfl dX11_readsSide_113 ?_
                  refine lv_topi (fun x27 e27 => ?_)
                  have b27 := iM_0_16 J26 e27
                  have k27 : x27.toInt = (z26 0 16).toInt := congrArg Int32.toInt e27
                  refine lv_iconst (v := 1) hx hb dX11_readsSide_116 (by decide) ?_
                  refine lv_iadd hx hb dX11_readsSide_117 ?_
                  refine lv_topi (fun x28 e28 => ?_)
                  have t28 : x28.toInt = x27.toInt + (1 : Int) := ga_add e28 rfl rfl (by omega) (by omega)
                  refine qf_put2 hx hb hts inX11 tyX11 tyX11_ok nmX11 hown hK hP hS qw_Ai (q0 := 0) (by decide) (hgM_0 ca o) rfl 16 (by decide) wq_1009 rfl (x := x28) 16 rfl rfl rfl (Nat.le_of_ble_eq_true rfl) dX11_readsSide_118 (fun z29 H locs hz29 hP hS => ?_)
                  have J29 := jM_0_16 J26 hz29 ⟨by omega, by omega⟩
                  have k29_0 : (z29 0 16).toInt = x28.toInt := congrArg Int32.toInt (qt_at hz29)
                  have k29_1 : (z29 0 29).toInt = (z26 0 29).toInt := congrArg Int32.toInt (qt_off hz29 (by decide))
                  have k29_2 : (z29 0 33).toInt = (z26 0 33).toInt := congrArg Int32.toInt (qt_off hz29 (by decide))
                  have k29_3 : (z29 0 34).toInt = (z26 0 34).toInt := congrArg Int32.toInt (qt_off hz29 (by decide))
                  refine lv_aload_n hx hb dX11_readsSide_121 rfl (lv_at hl 2 rfl) ?_
                  refine lv_iconst (v := 1) hx hb dX11_readsSide_122 (by decide) ?_
                  refine qf_put2 hx hb hts inX11 tyX11 tyX11_ok nmX11 hown hK hP hS qw_Ai (q0 := 0) (by decide) (hgM_0 ca o) rfl 31 (by decide) wq_1024 rfl (x := 1) 31 rfl rfl rfl (Nat.le_of_ble_eq_true rfl) dX11_readsSide_123 (fun z30 H locs hz30 hP hS => ?_)
                  have J30 := jM_0_31 J29 hz30
                  have k30_0 : (z30 0 16).toInt = (z29 0 16).toInt := congrArg Int32.toInt (qt_off hz30 (by decide))
                  have k30_1 : (z30 0 29).toInt = (z29 0 29).toInt := congrArg Int32.toInt (qt_off hz30 (by decide))
                  have k30_2 : (z30 0 33).toInt = (z29 0 33).toInt := congrArg Int32.toInt (qt_off hz30 (by decide))
                  have k30_3 : (z30 0 34).toInt = (z29 0 34).toInt := congrArg Int32.toInt (qt_off hz30 (by decide))
                  refine lv_goto (tgt := 159) hx hb dX11_readsSide_126 (by decide) ?_
                  refine lv_goto (tgt := 13) hx hb dX11_readsSide_159 (by decide) ?_
                  exact ih3 w3_1 z30 y23 (show (260 - (z30 0 16).toInt : Int) < (n3 : Int) from by omega) ⟨by omega, by omega⟩ J30 (iM_0_16 J30 rfl) (show (z30 0 33).toInt = (z 0 33).toInt ∧ (z30 0 34).toInt = (z 0 34).toInt from by omega) _ _ hP hS _ (lv_sub hl [1, 2] rfl)
                · have t25 : r5.toInt = (43 : Int) := gl_eq c25
                  exfalso; omega
          · have t8 : r5.toInt = (42 : Int) := gl_eq c8
            refine lv_aload_n hx hb dX11_readsSide_44 rfl (lv_at hl 2 rfl) ?_
            refine qf_get hx hb hts inX11 hown hK hP (q0 := 0) (by decide) (hgM_0 ca o) rfl 26 (by decide) wq_1019 (v := .ref (o + 19)) rfl dX11_readsSide_45 ?_
            refine lv_aload_n hx hb dX11_readsSide_48 rfl (lv_at hl 2 rfl) ?_
            refine qf_get hx hb hts inX11 hown hK hP (q0 := 0) (by decide) (hgM_0 ca o) rfl 29 (by decide) wq_1022 (v := .int (z3 0 29)) rfl dX11_readsSide_49 ?_
            refine lv_topi (fun x31 e31 => ?_)
            have b31 := iM_0_29 J3 e31
            have k31 : x31.toInt = (z3 0 29).toInt := congrArg Int32.toInt e31
            refine lv_aload_n hx hb dX11_readsSide_52 rfl (lv_at hl 2 rfl) ?_
            refine qf_get hx hb hts inX11 hown hK hP (q0 := 0) (by decide) (hgM_0 ca o) rfl 16 (by decide) wq_1009 (v := .int (z3 0 16)) rfl dX11_readsSide_53 ?_
            refine lv_topi (fun x32 e32 => ?_)
            have b32 := iM_0_16 J3 e32
            have k32 : x32.toInt = (z3 0 16).toInt := congrArg Int32.toInt e32
            refine qa_iast2 hx hb hK hP hS qw_Ai (q0 := 19) (by decide) 0 (N := 7) (hgM_19 ca o) rfl (i := x31) (x := x32) (gi_in (by omega) (by omega)) dX11_readsSide_56 (fun z33 H locs hz33 hP hS => ?_)
            have J33 := jM_19 J3 hz33
            have k33_0 : (z33 0 16).toInt = (z3 0 16).toInt := congrArg Int32.toInt (qt_ne hz33 16 (by decide))
            have k33_1 : (z33 0 29).toInt = (z3 0 29).toInt := congrArg Int32.toInt (qt_ne hz33 29 (by decide))
            have k33_2 : (z33 0 33).toInt = (z3 0 33).toInt := congrArg Int32.toInt (qt_ne hz33 33 (by decide))
            have k33_3 : (z33 0 34).toInt = (z3 0 34).toInt := congrArg Int32.toInt (qt_ne hz33 34 (by decide))
            refine lv_aload_n hx hb dX11_readsSide_57 rfl (lv_at hl 2 rfl) ?_
            refine lv_aload_n hx hb dX11_readsSide_58 rfl (lv_at hl 2 rfl) ?_
            refine qf_get hx hb hts inX11 hown hK hP (q0 := 0) (by decide) (hgM_0 ca o) rfl 16 (by decide) wq_1009 (v := .int (z33 0 16)) rfl dX11_readsSide_59 ?_
            refine lv_topi (fun x34 e34 => ?_)
            have b34 := iM_0_16 J33 e34
            have k34 : x34.toInt = (z33 0 16).toInt := congrArg Int32.toInt e34
            refine lv_iconst (v := 1) hx hb dX11_readsSide_62 (by decide) ?_
            refine lv_iadd hx hb dX11_readsSide_63 ?_
            refine lv_topi (fun x35 e35 => ?_)
            have t35 : x35.toInt = x34.toInt + (1 : Int) := ga_add e35 rfl rfl (by omega) (by omega)
            refine qf_put2 hx hb hts inX11 tyX11 tyX11_ok nmX11 hown hK hP hS qw_Ai (q0 := 0) (by decide) (hgM_0 ca o) rfl 16 (by decide) wq_1009 rfl (x := x35) 16 rfl rfl rfl (Nat.le_of_ble_eq_true rfl) dX11_readsSide_64 (fun z36 H locs hz36 hP hS => ?_)
            have J36 := jM_0_16 J33 hz36 ⟨by omega, by omega⟩
            have k36_0 : (z36 0 16).toInt = x35.toInt := congrArg Int32.toInt (qt_at hz36)
            have k36_1 : (z36 0 29).toInt = (z33 0 29).toInt := congrArg Int32.toInt (qt_off hz36 (by decide))
            have k36_2 : (z36 0 33).toInt = (z33 0 33).toInt := congrArg Int32.toInt (qt_off hz36 (by decide))
            have k36_3 : (z36 0 34).toInt = (z33 0 34).toInt := congrArg Int32.toInt (qt_off hz36 (by decide))
            refine lv_aload_n hx hb dX11_readsSide_67 rfl (lv_at hl 2 rfl) ?_
            refine lv_iconst (v := 1) hx hb dX11_readsSide_68 (by decide) ?_
            refine qf_put2 hx hb hts inX11 tyX11 tyX11_ok nmX11 hown hK hP hS qw_Ai (q0 := 0) (by decide) (hgM_0 ca o) rfl 31 (by decide) wq_1024 rfl (x := 1) 31 rfl rfl rfl (Nat.le_of_ble_eq_true rfl) dX11_readsSide_69 (fun z37 H locs hz37 hP hS => ?_)
            have J37 := jM_0_31 J36 hz37
            have k37_0 : (z37 0 16).toInt = (z36 0 16).toInt := congrArg Int32.toInt (qt_off hz37 (by decide))
            have k37_1 : (z37 0 29).toInt = (z36 0 29).toInt := congrArg Int32.toInt (qt_off hz37 (by decide))
            have k37_2 : (z37 0 33).toInt = (z36 0 33).toInt := congrArg Int32.toInt (qt_off hz37 (by decide))
            have k37_3 : (z37 0 34).toInt = (z36 0 34).toInt := congrArg Int32.toInt (qt_off hz37 (by decide))
            refine lv_goto (tgt := 159) hx hb dX11_readsSide_72 (by decide) ?_
            refine lv_goto (tgt := 13) hx hb dX11_readsSide_159 (by decide) ?_
            exact ih3 w3_1 z37 y3 (show (260 - (z37 0 16).toInt : Int) < (n3 : Int) from by omega) ⟨by omega, by omega⟩ J37 (iM_0_16 J37 rfl) (show (z37 0 33).toInt = (z 0 33).toInt ∧ (z37 0 34).toInt = (z 0 34).toInt from by omega) _ _ hP hS _ (lv_sub hl [1, 2] rfl)
        · have t7 : x6.toInt ≠ (0 : Int) := gl_ne c7
          refine lv_aload_n hx hb dX11_readsSide_29 rfl (lv_at hl 2 rfl) ?_
          refine qc_Vi2 (As := []) (rest := []) (k0 := 0) (m_readsPart l D ca o b z3 y3 J3) kc_yX11_readsPart ⟨hx, hb, hml, hown, hts⟩ wq_1241 rfl rfl ⟨Nat.le_of_ble_eq_true rfl, Nat.le_of_ble_eq_true rfl⟩ wq_all hP hK hS qw_Ai (q0 := 0) (by decide) (hgM_0 ca o _ _) rfl rfl hl.1 rfl (Nat.le_of_ble_eq_true rfl) dX11_readsSide_30 ⟨Nat.zero_le _, Nat.zero_le _⟩ (fun r38 z38 y38 H locs h38 hP hS _ _ => ?_)
          have J38 : qJM b z38 := h38.2.1
          have p38_2 : (z38 0 33).toInt = (z3 0 33).toInt := h38.2.2.1
          have p38_3 : (z38 0 34).toInt = (z3 0 34).toInt := h38.2.2.2
          rcases h38.1 with ⟨hr38, hf38_0⟩ | hr38
          · subst hr38
            have hg38_0 : (z38 0 16).toInt ≥ (z3 0 16).toInt + 1 := hf38_0
            refine lv_if_ne (tgt := 159) hx hb dX11_readsSide_33 (by decide) (fun _ => ?_) (fun q => absurd q (by decide))
            refine lv_goto (tgt := 13) hx hb dX11_readsSide_159 (by decide) ?_
            exact ih3 w3_1 z38 y38 (show (260 - (z38 0 16).toInt : Int) < (n3 : Int) from by omega) ⟨by omega, by omega⟩ J38 (iM_0_16 J38 rfl) (show (z38 0 33).toInt = (z 0 33).toInt ∧ (z38 0 34).toInt = (z 0 34).toInt from by omega) _ _ hP hS _ (lv_sub hl [1, 2] rfl)
          · subst hr38
            refine lv_if_ne (tgt := 159) hx hb dX11_readsSide_33 (by decide) (fun q => absurd q (by decide)) (fun _ => ?_)
            refine lv_iconst (v := 0) hx hb dX11_readsSide_36 (by decide) ?_
            exact W.zret (v := 0) (ty := .boolean) hx hb hr rfl (fun t ht hW => ⟨⟨0, (z38, y38), rfl, ⟨⟨by decide, by decide⟩, J38, (show (z38 0 33).toInt = (z 0 33).toInt from by omega), (show (z38 0 34).toInt = (z 0 34).toInt from by omega)⟩, by rw [ht]; exact hP, va_K.moved hW.alike hK⟩, hS.F ht⟩) hS.2.2 dX11_readsSide_37
  have pl0 := iM_0_16 J2 rfl
  exact loop3 300 1 z2 y2 (show (260 - (z2 0 16).toInt : Int) < ((300 : Nat) : Int) from by omega) ⟨by decide, by decide⟩ J2 (iM_0_16 J2 rfl) (show (z2 0 33).toInt = (z 0 33).toInt ∧ (z2 0 34).toInt = (z 0 34).toInt from by omega) _ _ hP hS _ (lv_sub hl [0, 1] rfl)
set_option maxRecDepth 100000 in
set_option maxHeartbeats 8000000 in
theorem m_readsRight (l : Launch) (D : va_G) (ca : Nat → ClassId) (o : Nat) (b z : Nat → Nat → Int32) (y : Nat → Nat → Int64) (J0 : qJM b z)   : qM l yX11_readsRight cX11_readsRight 3 (some .boolean) 7 191 (qPre D vwCl (qT6 ca) o 41 (qG (GM ca o) z y) [.ref (o + 0)]) (va_Qi (fun r u => ((r = 1 ∧ (0 ≤ (u.1 0 33).toInt ∧ (u.1 0 33).toInt ≤ 3 ∧ ((u.1 0 33).toInt ≠ 3 ∨ (u.1 0 34).toInt ≠ 0))) ∨ (r = 0)) ∧ qJM b u.1) (qB D vwCl (qT6 ca) o 41 (fun u : qZ => qG (GM ca o) u.1 u.2)) (qw_A o 41)) (qw_A o 41) := by
  refine Met.ofW (cc := cX11_readsRight) (maxL := 3) (ret := (some .boolean)) (by decide) rfl ?_
  intro p e s m args below meth c s₁ B hml hv
  obtain ⟨rfl, hP, hK⟩ := hv
  have hx := B.exec
  have hb := B.bytes
  have hr := B.returns
  have hts0 := atoms_spec (ws := Cond.code yX11_readsRight cX11_readsRight 3 (some .boolean) :: qtbl) B.pre
  have hts : ∀ w ∈ qtbl, w.before _ s = true := fun w h => hts0 w (List.mem_cons_of_mem _ h)
  have hown : s.vm.findClass RX11 = some m.cls := findClass_of_methodNamed B.named
  have hlocks := B.notSynchronized
  have hS : va_S (qw_A o 41) s.heap s.heap [] := va_S.rf
  have hl := lv_entry ([.ref (o + 0)]) (n := 3) (Nat.le_of_ble_eq_true rfl)
  rw [lg_entry_eq]
  generalize (lg_sl ([.ref (o + 0)]) ++ List.replicate (3 - (lg_sl ([.ref (o + 0)])).length) Slot.unset).toArray = ls at hl ⊢
  have hl : lv_has ls 3 [(0, .ref (o + 0))] := hl
  refine lv_aload_n hx hb dX11_readsRight_0 rfl (lv_at hl 0 rfl) ?_
  refine qc_Vip (As := []) (rest := []) (k0 := 0) (m_here l D ca o b z y J0) kc_yX11_here ⟨hx, hb, hml, hown, hts⟩ wq_1233 rfl rfl ⟨Nat.le_of_ble_eq_true rfl, Nat.le_of_ble_eq_true rfl⟩ wq_all hP hK hS qw_Ai (q0 := 0) (by decide) (hgM_0 ca o _ _) rfl rfl hl.1 rfl (Nat.le_of_ble_eq_true rfl) dX11_readsRight_1 ⟨Nat.zero_le _, Nat.zero_le _⟩ (fun r1 H locs h1 hP hS _ _ => ?_)
  have p1_1 : r1.toInt = (hereV z).toInt := h1.2.1
  have p1_2 : (r1.toInt = -1 ∨ (0 ≤ r1.toInt ∧ (z 0 16).toInt ≤ 259)) := h1.2.2
  have b1 : (-1 : Int) ≤ r1.toInt ∧ r1.toInt ≤ 255 := h1.1
  refine lv_istore_n (lv' := [(1, .int r1), (0, .ref (o + 0))]) hx hb dX11_readsRight_4 rfl hl (by decide) rfl (fun ls hl => ?_)
  refine lv_aload_n hx hb dX11_readsRight_5 rfl (lv_at hl 1 rfl) ?_
  refine lv_iload_n hx hb dX11_readsRight_6 rfl (lv_at hl 0 rfl) ?_
  refine lv_bipush (v := 61) hx hb dX11_readsRight_7 (by decide) ?_
  refine lv_icmp_ne (tgt := 16) hx hb dX11_readsRight_9 (by decide) (fun c2 => ?_) (fun c2 => ?_)
  · have t2 : r1.toInt ≠ (61 : Int) := gl_ne c2
    refine lv_iload_n hx hb dX11_readsRight_16 rfl (lv_at hl 0 rfl) ?_
    refine lv_bipush (v := 60) hx hb dX11_readsRight_17 (by decide) ?_
    refine lv_icmp_ne (tgt := 26) hx hb dX11_readsRight_19 (by decide) (fun c3 => ?_) (fun c3 => ?_)
    · have t3 : r1.toInt ≠ (60 : Int) := gl_ne c3
      refine lv_iload_n hx hb dX11_readsRight_26 rfl (lv_at hl 0 rfl) ?_
      refine lv_bipush (v := 62) hx hb dX11_readsRight_27 (by decide) ?_
      refine lv_icmp_ne (tgt := 36) hx hb dX11_readsRight_29 (by decide) (fun c4 => ?_) (fun c4 => ?_)
      · have t4 : r1.toInt ≠ (62 : Int) := gl_ne c4
        refine lv_iload_n hx hb dX11_readsRight_36 rfl (lv_at hl 0 rfl) ?_
        refine lv_bipush (v := 126) hx hb dX11_readsRight_37 (by decide) ?_
        refine lv_icmp_ne (tgt := 46) hx hb dX11_readsRight_39 (by decide) (fun c5 => ?_) (fun c5 => ?_)
        · have t5 : r1.toInt ≠ (126 : Int) := gl_ne c5
          refine lv_iconst (v := (-1)) hx hb dX11_readsRight_46 (by decide) ?_
          refine qf_put2 hx hb hts inX11 tyX11 tyX11_ok nmX11 hown hK hP hS qw_Ai (q0 := 0) (by decide) (hgM_0 ca o) rfl 33 (by decide) wq_1026 rfl (x := (-1)) 33 rfl rfl rfl (Nat.le_of_ble_eq_true rfl) dX11_readsRight_47 (fun z6 H locs hz6 hP hS => ?_)
          have J6 := jM_0_33 J0 hz6
          have k6_0 : (z6 0 16).toInt = (z 0 16).toInt := congrArg Int32.toInt (qt_off hz6 (by decide))
          have k6_1 : (z6 0 33).toInt = (-1 : Int) := congrArg Int32.toInt (qt_at hz6)
          have k6_2 : (z6 0 34).toInt = (z 0 34).toInt := congrArg Int32.toInt (qt_off hz6 (by decide))
          have k6_3 : (z6 0 19).toInt = (z 0 19).toInt := congrArg Int32.toInt (qt_off hz6 (by decide))
          refine lv_aload_n hx hb dX11_readsRight_50 rfl (lv_at hl 1 rfl) ?_
          refine lv_iconst (v := 0) hx hb dX11_readsRight_51 (by decide) ?_
          refine qf_put2 hx hb hts inX11 tyX11 tyX11_ok nmX11 hown hK hP hS qw_Ai (q0 := 0) (by decide) (hgM_0 ca o) rfl 34 (by decide) wq_1027 rfl (x := 0) 34 rfl rfl rfl (Nat.le_of_ble_eq_true rfl) dX11_readsRight_52 (fun z7 H locs hz7 hP hS => ?_)
          have J7 := jM_0_34 J6 hz7
          have k7_0 : (z7 0 16).toInt = (z6 0 16).toInt := congrArg Int32.toInt (qt_off hz7 (by decide))
          have k7_1 : (z7 0 33).toInt = (z6 0 33).toInt := congrArg Int32.toInt (qt_off hz7 (by decide))
          have k7_2 : (z7 0 34).toInt = (0 : Int) := congrArg Int32.toInt (qt_at hz7)
          have k7_3 : (z7 0 19).toInt = (z6 0 19).toInt := congrArg Int32.toInt (qt_off hz7 (by decide))
          refine lv_aload_n hx hb dX11_readsRight_55 rfl (lv_at hl 1 rfl) ?_
          refine qf_get hx hb hts inX11 hown hK hP (q0 := 0) (by decide) (hgM_0 ca o) rfl 33 (by decide) wq_1026 (v := .int (z7 0 33)) rfl dX11_readsRight_56 ?_
          refine lv_topi (fun x8 e8 => ?_)
          have k8 : x8.toInt = (z7 0 33).toInt := congrArg Int32.toInt e8
          refine lv_iconst (v := (-1)) hx hb dX11_readsRight_59 (by decide) ?_
          refine lv_icmp_ne (tgt := 73) hx hb dX11_readsRight_60 (by decide) (fun c9 => ?_) (fun c9 => ?_)
          · have t9 : x8.toInt ≠ (-1 : Int) := gl_ne c9
            refine lv_aload_n hx hb dX11_readsRight_73 rfl (lv_at hl 1 rfl) ?_
            refine lv_aload_n hx hb dX11_readsRight_74 rfl (lv_at hl 1 rfl) ?_
            refine qf_get hx hb hts inX11 hown hK hP (q0 := 0) (by decide) (hgM_0 ca o) rfl 16 (by decide) wq_1009 (v := .int (z7 0 16)) rfl dX11_readsRight_75 ?_
            refine lv_topi (fun x10 e10 => ?_)
            have b10 := iM_0_16 J7 e10
            have k10 : x10.toInt = (z7 0 16).toInt := congrArg Int32.toInt e10
            refine lv_iconst (v := 1) hx hb dX11_readsRight_78 (by decide) ?_
            refine lv_iadd hx hb dX11_readsRight_79 ?_
            refine lv_topi (fun x11 e11 => ?_)
            have t11 : x11.toInt = x10.toInt + (1 : Int) := ga_add e11 rfl rfl (by omega) (by omega)
            refine qf_put2 hx hb hts inX11 tyX11 tyX11_ok nmX11 hown hK hP hS qw_Ai (q0 := 0) (by decide) (hgM_0 ca o) rfl 16 (by decide) wq_1009 rfl (x := x11) 16 rfl rfl rfl (Nat.le_of_ble_eq_true rfl) dX11_readsRight_80 (fun z12 H locs hz12 hP hS => ?_)
            have J12 := jM_0_16 J7 hz12 ⟨by omega, by omega⟩
            have k12_0 : (z12 0 16).toInt = x11.toInt := congrArg Int32.toInt (qt_at hz12)
            have k12_1 : (z12 0 33).toInt = (z7 0 33).toInt := congrArg Int32.toInt (qt_off hz12 (by decide))
            have k12_2 : (z12 0 34).toInt = (z7 0 34).toInt := congrArg Int32.toInt (qt_off hz12 (by decide))
            have k12_3 : (z12 0 19).toInt = (z7 0 19).toInt := congrArg Int32.toInt (qt_off hz12 (by decide))
            refine lv_aload_n hx hb dX11_readsRight_83 rfl (lv_at hl 1 rfl) ?_
            refine qf_get hx hb hts inX11 hown hK hP (q0 := 0) (by decide) (hgM_0 ca o) rfl 33 (by decide) wq_1026 (v := .int (z12 0 33)) rfl dX11_readsRight_84 ?_
            refine lv_topi (fun x13 e13 => ?_)
            have k13 : x13.toInt = (z12 0 33).toInt := congrArg Int32.toInt e13
            refine lv_iconst (v := 3) hx hb dX11_readsRight_87 (by decide) ?_
            refine lv_icmp_ne (tgt := 129) hx hb dX11_readsRight_88 (by decide) (fun c14 => ?_) (fun c14 => ?_)
            · have t14 : x13.toInt ≠ (3 : Int) := gl_ne c14
              refine lv_aload_n hx hb dX11_readsRight_129 rfl (lv_at hl 1 rfl) ?_
              refine qc_Vi2 (As := []) (rest := []) (k0 := 0) (m_readsSide l D ca o b z12 y J12) kc_yX11_readsSide ⟨hx, hb, hml, hown, hts⟩ wq_1225 rfl rfl ⟨Nat.le_of_ble_eq_true rfl, Nat.le_of_ble_eq_true rfl⟩ wq_all hP hK hS qw_Ai (q0 := 0) (by decide) (hgM_0 ca o _ _) rfl rfl hl.1 rfl (Nat.le_of_ble_eq_true rfl) dX11_readsRight_130 ⟨Nat.zero_le _, Nat.zero_le _⟩ (fun r15 z15 y15 H locs h15 hP hS _ _ => ?_)
              have J15 : qJM b z15 := h15.2.1
              have p15_2 : (z15 0 33).toInt = (z12 0 33).toInt := h15.2.2.1
              have p15_3 : (z15 0 34).toInt = (z12 0 34).toInt := h15.2.2.2
              have b15 : (0 : Int) ≤ r15.toInt ∧ r15.toInt ≤ 1 := h15.1
              refine lv_if_ne (tgt := 138) hx hb dX11_readsRight_133 (by decide) (fun c16 => ?_) (fun c16 => ?_)
              · have t16 : r15.toInt ≠ (0 : Int) := gl_ne c16
                refine lv_iconst (v := 0) hx hb dX11_readsRight_138 (by decide) ?_
                refine lv_istore_n (lv' := [(2, .int 0), (1, .int r1), (0, .ref (o + 0))]) hx hb dX11_readsRight_139 rfl hl (by decide) rfl (fun ls hl => ?_)
                have loop17 : ∀ (n : Nat) (w17_2 : Int32) (z17 : Nat → Nat → Int32) (y17 : Nat → Nat → Int64), ((7 - w17_2.toInt : Int) < (n : Int)) → ((0 : Int) ≤ w17_2.toInt ∧ w17_2.toInt ≤ 7) → (qJM b z17) → ((z17 0 16).toInt = (z15 0 16).toInt) → ((z17 0 33).toInt = (z15 0 33).toInt) → ((z17 0 34).toInt = (z15 0 34).toInt) → ((z17 0 19).toInt = (z15 0 19).toInt) → ∀ (H : Heap) (locs : List Loc), qw_P D vwCl o 41 (qG (GM ca o) z17 y17) H → va_S (qw_A o 41) s.heap H locs → ∀ (ls : Array Slot), lv_has ls 3 [(2, .int w17_2), (1, .int r1), (0, .ref (o + 0))] → W p l e (headSpec (Cond.code yX11_readsRight cX11_readsRight 3 (some .boolean) :: qtbl) ({ frames := 7, cells := 0, slots := 0, locals := 191 })).room s m (([.ref (o + 0)] : List Value).toArray) below meth c H locs 0 0 (MQ below (va_Qi (fun r u => ((r = 1 ∧ (0 ≤ (u.1 0 33).toInt ∧ (u.1 0 33).toInt ≤ 3 ∧ ((u.1 0 33).toInt ≠ 3 ∨ (u.1 0 34).toInt ≠ 0))) ∨ (r = 0)) ∧ qJM b u.1) (qB D vwCl (qT6 ca) o 41 (fun u : qZ => qG (GM ca o) u.1 u.2)) (qw_A o 41)) (([.ref (o + 0)] : List Value).toArray) s 0 0 (qw_A o 41)) (F0 m 140 ls []) := by
                  intro n
                  induction n with
                  | zero => intro w17_2 z17 y17 hb17 hv17_2 J17 v17_0 v17_1 v17_2 v17_3; exfalso; omega
                  | succ n17 ih17 =>
                    intro w17_2 z17 y17 hb17 hv17_2 J17 v17_0 v17_1 v17_2 v17_3 H locs hP hS ls hl
                    refine lv_iload_n hx hb dX11_readsRight_140 rfl (lv_at hl 0 rfl) ?_
                    refine lv_bipush (v := 7) hx hb dX11_readsRight_141 (by decide) ?_
                    refine lv_icmp_ge (tgt := 171) hx hb dX11_readsRight_143 (by decide) (fun c18 => ?_) (fun c18 => ?_)
                    · have t18 : w17_2.toInt ≥ (7 : Int) := gl_le c18
                      refine lv_iconst (v := 1) hx hb dX11_readsRight_171 (by decide) ?_
                      exact W.zret (v := 1) (ty := .boolean) hx hb hr rfl (fun t ht hW => ⟨⟨1, (z17, y17), rfl, ⟨Or.inl ⟨rfl, (show 0 ≤ (z17 0 33).toInt ∧ (z17 0 33).toInt ≤ 3 ∧ ((z17 0 33).toInt ≠ 3 ∨ (z17 0 34).toInt ≠ 0) from by omega)⟩, J17⟩, by rw [ht]; exact hP, va_K.moved hW.alike hK⟩, hS.F ht⟩) hS.2.2 dX11_readsRight_172
                    · have t18 : w17_2.toInt < (7 : Int) := gl_nle c18
                      refine lv_aload_n hx hb dX11_readsRight_146 rfl (lv_at hl 2 rfl) ?_
                      refine qf_get hx hb hts inX11 hown hK hP (q0 := 0) (by decide) (hgM_0 ca o) rfl 32 (by decide) wq_1025 (v := .ref (o + 22)) rfl dX11_readsRight_147 ?_
                      refine lv_iload_n hx hb dX11_readsRight_150 rfl (lv_at hl 0 rfl) ?_
                      refine lv_aload_n hx hb dX11_readsRight_151 rfl (lv_at hl 2 rfl) ?_
                      refine qf_get hx hb hts inX11 hown hK hP (q0 := 0) (by decide) (hgM_0 ca o) rfl 32 (by decide) wq_1025 (v := .ref (o + 22)) rfl dX11_readsRight_152 ?_
                      refine lv_iload_n hx hb dX11_readsRight_155 rfl (lv_at hl 0 rfl) ?_
                      refine qa_iald hx hb hK hP (q0 := 22) (by decide) 0 (N := 7) (hgM_22 ca o) rfl (gi_in (by omega) (by omega)) dX11_readsRight_156 ?_
                      refine lv_topi (fun x19 e19 => ?_)
                      refine lv_aload_n hx hb dX11_readsRight_157 rfl (lv_at hl 2 rfl) ?_
                      refine qf_get hx hb hts inX11 hown hK hP (q0 := 0) (by decide) (hgM_0 ca o) rfl 20 (by decide) wq_1013 (v := .ref (o + 13)) rfl dX11_readsRight_158 ?_
                      refine lv_iload_n hx hb dX11_readsRight_161 rfl (lv_at hl 0 rfl) ?_
                      refine qa_iald hx hb hK hP (q0 := 13) (by decide) 0 (N := 49) (hgM_13 ca o) rfl (gi_in (by omega) (by omega)) dX11_readsRight_162 ?_
                      refine lv_topi (fun x20 e20 => ?_)
                      refine lv_isub hx hb dX11_readsRight_163 ?_
                      refine lv_topi (fun x21 e21 => ?_)
                      refine qa_iast2 hx hb hK hP hS qw_Ai (q0 := 22) (by decide) 0 (N := 7) (hgM_22 ca o) rfl (i := w17_2) (x := x21) (gi_in (by omega) (by omega)) dX11_readsRight_164 (fun z22 H locs hz22 hP hS => ?_)
                      have J22 := jM_22 J17 hz22
                      have k22_0 : (z22 0 16).toInt = (z17 0 16).toInt := congrArg Int32.toInt (qt_ne hz22 16 (by decide))
                      have k22_1 : (z22 0 33).toInt = (z17 0 33).toInt := congrArg Int32.toInt (qt_ne hz22 33 (by decide))
                      have k22_2 : (z22 0 34).toInt = (z17 0 34).toInt := congrArg Int32.toInt (qt_ne hz22 34 (by decide))
                      have k22_3 : (z22 0 19).toInt = (z17 0 19).toInt := congrArg Int32.toInt (qt_ne hz22 19 (by decide))
                      obtain ⟨x23, e23⟩ : ∃ t : Int32, t = w17_2 + 1 := ⟨_, rfl⟩
                      refine lv_iinc (v := x23) (lv' := [(2, .int x23), (1, .int r1), (0, .ref (o + 0))]) hx hb dX11_readsRight_165 hl (k := 0) rfl (by rw [e23]; rfl) (by decide) rfl (fun ls hl => ?_)
                      have t23 : x23.toInt = w17_2.toInt + (1 : Int) := ga_add e23 rfl rfl (by omega) (by omega)
                      refine lv_goto (tgt := 140) hx hb dX11_readsRight_168 (by decide) ?_
                      exact ih17 x23 z22 y17 (show (7 - x23.toInt : Int) < (n17 : Int) from by omega) ⟨by omega, by omega⟩ J22 (show (z22 0 16).toInt = (z15 0 16).toInt from by omega) (show (z22 0 33).toInt = (z15 0 33).toInt from by omega) (show (z22 0 34).toInt = (z15 0 34).toInt from by omega) (show (z22 0 19).toInt = (z15 0 19).toInt from by omega) _ _ hP hS _ (lv_sub hl [0, 1, 2] rfl)
                exact loop17 8 0 z15 y15 (show (7 - (0 : Int) : Int) < ((8 : Nat) : Int) from by omega) ⟨by decide, by decide⟩ J15 (show (z15 0 16).toInt = (z15 0 16).toInt from by omega) (show (z15 0 33).toInt = (z15 0 33).toInt from by omega) (show (z15 0 34).toInt = (z15 0 34).toInt from by omega) (show (z15 0 19).toInt = (z15 0 19).toInt from by omega) _ _ hP hS _ (lv_sub hl [0, 1, 2] rfl)
              · have t16 : r15.toInt = (0 : Int) := gl_eq c16
                refine lv_iconst (v := 0) hx hb dX11_readsRight_136 (by decide) ?_
                exact W.zret (v := 0) (ty := .boolean) hx hb hr rfl (fun t ht hW => ⟨⟨0, (z15, y15), rfl, ⟨Or.inr rfl, J15⟩, by rw [ht]; exact hP, va_K.moved hW.alike hK⟩, hS.F ht⟩) hS.2.2 dX11_readsRight_137
            · have t14 : x13.toInt = (3 : Int) := gl_eq c14
              refine lv_aload_n hx hb dX11_readsRight_91 rfl (lv_at hl 1 rfl) ?_
              refine qf_get hx hb hts inX11 hown hK hP (q0 := 0) (by decide) (hgM_0 ca o) rfl 16 (by decide) wq_1009 (v := .int (z12 0 16)) rfl dX11_readsRight_92 ?_
              refine lv_topi (fun x24 e24 => ?_)
              have b24 := iM_0_16 J12 e24
              have k24 : x24.toInt = (z12 0 16).toInt := congrArg Int32.toInt e24
              refine lv_istore_n (lv' := [(2, .int x24), (1, .int r1), (0, .ref (o + 0))]) hx hb dX11_readsRight_95 rfl hl (by decide) rfl (fun ls hl => ?_)
              refine lv_aload_n hx hb dX11_readsRight_96 rfl (lv_at hl 2 rfl) ?_
              refine qc_Vi2 (As := []) (rest := []) (k0 := 0) (m_readsNumber l D ca o b z12 y J12) kc_yX11_readsNumber ⟨hx, hb, hml, hown, hts⟩ wq_1265 rfl rfl ⟨Nat.le_of_ble_eq_true rfl, Nat.le_of_ble_eq_true rfl⟩ wq_all hP hK hS qw_Ai (q0 := 0) (by decide) (hgM_0 ca o _ _) rfl rfl hl.1 rfl (Nat.le_of_ble_eq_true rfl) dX11_readsRight_97 ⟨Nat.zero_le _, Nat.zero_le _⟩ (fun r25 z25 y25 H locs h25 hP hS _ _ => ?_)
              have J25 : qJM b z25 := h25.2.1
              have p25_2 : (z25 0 29).toInt = (z12 0 29).toInt := h25.2.2.1
              have p25_3 : (z25 0 33).toInt = (z12 0 33).toInt := h25.2.2.2.1
              have p25_4 : (z25 0 34).toInt = (z12 0 34).toInt := h25.2.2.2.2
              rcases h25.1 with ⟨hr25, hf25_0⟩ | hr25
              · subst hr25
                have hg25_0 : (z25 0 16).toInt ≥ (z12 0 16).toInt + 1 := hf25_0
                refine lv_if_ne (tgt := 105) hx hb dX11_readsRight_100 (by decide) (fun _ => ?_) (fun q => absurd q (by decide))
                refine lv_aload_n hx hb dX11_readsRight_105 rfl (lv_at hl 2 rfl) ?_
                refine qf_get hx hb hts inX11 hown hK hP (q0 := 0) (by decide) (hgM_0 ca o) rfl 19 (by decide) wq_1012 (v := .int (z25 0 19)) rfl dX11_readsRight_106 ?_
                refine lv_topi (fun x26 e26 => ?_)
                have k26 : x26.toInt = (z25 0 19).toInt := congrArg Int32.toInt e26
                refine lv_if_ne (tgt := 119) hx hb dX11_readsRight_109 (by decide) (fun c27 => ?_) (fun c27 => ?_)
                · have t27 : x26.toInt ≠ (0 : Int) := gl_ne c27
                  refine lv_aload_n hx hb dX11_readsRight_119 rfl (lv_at hl 2 rfl) ?_
                  refine lv_aload_n hx hb dX11_readsRight_120 rfl (lv_at hl 2 rfl) ?_
                  refine qf_get hx hb hts inX11 hown hK hP (q0 := 0) (by decide) (hgM_0 ca o) rfl 19 (by decide) wq_1012 (v := .int (z25 0 19)) rfl dX11_readsRight_121 ?_
                  refine lv_topi (fun x28 e28 => ?_)
                  have k28 : x28.toInt = (z25 0 19).toInt := congrArg Int32.toInt e28
                  have ag28 : x28.toInt = x26.toInt := congrArg Int32.toInt (e28.trans e26.symm)
                  refine qf_put2 hx hb hts inX11 tyX11 tyX11_ok nmX11 hown hK hP hS qw_Ai (q0 := 0) (by decide) (hgM_0 ca o) rfl 34 (by decide) wq_1027 rfl (x := x28) 34 rfl rfl rfl (Nat.le_of_ble_eq_true rfl) dX11_readsRight_124 (fun z29 H locs hz29 hP hS => ?_)
                  have J29 := jM_0_34 J25 hz29
                  have k29_0 : (z29 0 16).toInt = (z25 0 16).toInt := congrArg Int32.toInt (qt_off hz29 (by decide))
                  have k29_1 : (z29 0 33).toInt = (z25 0 33).toInt := congrArg Int32.toInt (qt_off hz29 (by decide))
                  have k29_2 : (z29 0 34).toInt = x28.toInt := congrArg Int32.toInt (qt_at hz29)
                  have k29_3 : (z29 0 19).toInt = (z25 0 19).toInt := congrArg Int32.toInt (qt_off hz29 (by decide))
                  refine lv_iconst (v := 1) hx hb dX11_readsRight_127 (by decide) ?_
                  exact W.zret (v := 1) (ty := .boolean) hx hb hr rfl (fun t ht hW => ⟨⟨1, (z29, y25), rfl, ⟨Or.inl ⟨rfl, (show 0 ≤ (z29 0 33).toInt ∧ (z29 0 33).toInt ≤ 3 ∧ ((z29 0 33).toInt ≠ 3 ∨ (z29 0 34).toInt ≠ 0) from by omega)⟩, J29⟩, by rw [ht]; exact hP, va_K.moved hW.alike hK⟩, hS.F ht⟩) hS.2.2 dX11_readsRight_128
                · have t27 : x26.toInt = (0 : Int) := gl_eq c27
                  refine lv_aload_n hx hb dX11_readsRight_112 rfl (lv_at hl 2 rfl) ?_
                  refine lv_iconst (v := 3) hx hb dX11_readsRight_113 (by decide) ?_
                  refine lv_iload_n hx hb dX11_readsRight_114 rfl (lv_at hl 0 rfl) ?_
                  refine qc_Vi2 (As := [.int 3, .int x24]) (rest := []) (k0 := 2) (m_wrongAt l D ca o b z25 y25 J25 3 x24) kc_yX11_wrongAt ⟨hx, hb, hml, hown, hts⟩ wq_1249 rfl rfl ⟨Nat.le_of_ble_eq_true rfl, Nat.le_of_ble_eq_true rfl⟩ wq_all hP hK hS qw_Ai (q0 := 0) (by decide) (hgM_0 ca o _ _) rfl rfl hl.1 rfl (Nat.le_of_ble_eq_true rfl) dX11_readsRight_115 ⟨Nat.zero_le _, Nat.zero_le _⟩ (fun r30 z30 y30 H locs h30 hP hS _ _ => ?_)
                  have J30 : qJM b z30 := h30.2.1
                  have p30_5 : (z30 0 16).toInt = (z25 0 16).toInt := h30.2.2.2.2.2.1
                  have p30_6 : (z30 0 29).toInt = (z25 0 29).toInt := h30.2.2.2.2.2.2.1
                  have p30_7 : (z30 0 19).toInt = (z25 0 19).toInt := h30.2.2.2.2.2.2.2.1
                  have p30_8 : (z30 0 33).toInt = (z25 0 33).toInt := h30.2.2.2.2.2.2.2.2.1
                  have p30_9 : (z30 0 34).toInt = (z25 0 34).toInt := h30.2.2.2.2.2.2.2.2.2
                  have b30 : (0 : Int) ≤ r30.toInt ∧ r30.toInt ≤ 0 := h30.1
                  obtain rfl : r30 = 0 := lit_eq (k := 0) (K := 0) rfl (by omega) (by omega)
                  exact W.zret (v := 0) (ty := .boolean) hx hb hr rfl (fun t ht hW => ⟨⟨0, (z30, y30), rfl, ⟨Or.inr rfl, J30⟩, by rw [ht]; exact hP, va_K.moved hW.alike hK⟩, hS.F ht⟩) hS.2.2 dX11_readsRight_118
              · subst hr25
                refine lv_if_ne (tgt := 105) hx hb dX11_readsRight_100 (by decide) (fun q => absurd q (by decide)) (fun _ => ?_)
                refine lv_iconst (v := 0) hx hb dX11_readsRight_103 (by decide) ?_
                exact W.zret (v := 0) (ty := .boolean) hx hb hr rfl (fun t ht hW => ⟨⟨0, (z25, y25), rfl, ⟨Or.inr rfl, J25⟩, by rw [ht]; exact hP, va_K.moved hW.alike hK⟩, hS.F ht⟩) hS.2.2 dX11_readsRight_104
          · have t9 : x8.toInt = (-1 : Int) := gl_eq c9
            refine lv_aload_n hx hb dX11_readsRight_63 rfl (lv_at hl 1 rfl) ?_
            refine lv_iconst (v := 1) hx hb dX11_readsRight_64 (by decide) ?_
            refine lv_aload_n hx hb dX11_readsRight_65 rfl (lv_at hl 1 rfl) ?_
            refine qf_get hx hb hts inX11 hown hK hP (q0 := 0) (by decide) (hgM_0 ca o) rfl 16 (by decide) wq_1009 (v := .int (z7 0 16)) rfl dX11_readsRight_66 ?_
            refine lv_topi (fun x31 e31 => ?_)
            have b31 := iM_0_16 J7 e31
            have k31 : x31.toInt = (z7 0 16).toInt := congrArg Int32.toInt e31
            refine qc_Vi2 (As := [.int 1, .int x31]) (rest := []) (k0 := 2) (m_wrongAt l D ca o b z7 y J7 1 x31) kc_yX11_wrongAt ⟨hx, hb, hml, hown, hts⟩ wq_1249 rfl rfl ⟨Nat.le_of_ble_eq_true rfl, Nat.le_of_ble_eq_true rfl⟩ wq_all hP hK hS qw_Ai (q0 := 0) (by decide) (hgM_0 ca o _ _) rfl rfl hl.1 rfl (Nat.le_of_ble_eq_true rfl) dX11_readsRight_69 ⟨Nat.zero_le _, Nat.zero_le _⟩ (fun r32 z32 y32 H locs h32 hP hS _ _ => ?_)
            have J32 : qJM b z32 := h32.2.1
            have p32_5 : (z32 0 16).toInt = (z7 0 16).toInt := h32.2.2.2.2.2.1
            have p32_6 : (z32 0 29).toInt = (z7 0 29).toInt := h32.2.2.2.2.2.2.1
            have p32_7 : (z32 0 19).toInt = (z7 0 19).toInt := h32.2.2.2.2.2.2.2.1
            have p32_8 : (z32 0 33).toInt = (z7 0 33).toInt := h32.2.2.2.2.2.2.2.2.1
            have p32_9 : (z32 0 34).toInt = (z7 0 34).toInt := h32.2.2.2.2.2.2.2.2.2
            have b32 : (0 : Int) ≤ r32.toInt ∧ r32.toInt ≤ 0 := h32.1
            obtain rfl : r32 = 0 := lit_eq (k := 0) (K := 0) rfl (by omega) (by omega)
            exact W.zret (v := 0) (ty := .boolean) hx hb hr rfl (fun t ht hW => ⟨⟨0, (z32, y32), rfl, ⟨Or.inr rfl, J32⟩, by rw [ht]; exact hP, va_K.moved hW.alike hK⟩, hS.F ht⟩) hS.2.2 dX11_readsRight_72
        · have t5 : r1.toInt = (126 : Int) := gl_eq c5
          refine lv_iconst (v := 3) hx hb dX11_readsRight_42 (by decide) ?_
          refine lv_goto (tgt := 47) hx hb dX11_readsRight_43 (by decide) ?_
          refine qf_put2 hx hb hts inX11 tyX11 tyX11_ok nmX11 hown hK hP hS qw_Ai (q0 := 0) (by decide) (hgM_0 ca o) rfl 33 (by decide) wq_1026 rfl (x := 3) 33 rfl rfl rfl (Nat.le_of_ble_eq_true rfl) dX11_readsRight_47 (fun z33 H locs hz33 hP hS => ?_)
          have J33 := jM_0_33 J0 hz33
          have k33_0 : (z33 0 16).toInt = (z 0 16).toInt := congrArg Int32.toInt (qt_off hz33 (by decide))
          have k33_1 : (z33 0 33).toInt = (3 : Int) := congrArg Int32.toInt (qt_at hz33)
          have k33_2 : (z33 0 34).toInt = (z 0 34).toInt := congrArg Int32.toInt (qt_off hz33 (by decide))
          have k33_3 : (z33 0 19).toInt = (z 0 19).toInt := congrArg Int32.toInt (qt_off hz33 (by decide))
          refine lv_aload_n hx hb dX11_readsRight_50 rfl (lv_at hl 1 rfl) ?_
          refine lv_iconst (v := 0) hx hb dX11_readsRight_51 (by decide) ?_
          refine qf_put2 hx hb hts inX11 tyX11 tyX11_ok nmX11 hown hK hP hS qw_Ai (q0 := 0) (by decide) (hgM_0 ca o) rfl 34 (by decide) wq_1027 rfl (x := 0) 34 rfl rfl rfl (Nat.le_of_ble_eq_true rfl) dX11_readsRight_52 (fun z34 H locs hz34 hP hS => ?_)
          have J34 := jM_0_34 J33 hz34
          have k34_0 : (z34 0 16).toInt = (z33 0 16).toInt := congrArg Int32.toInt (qt_off hz34 (by decide))
          have k34_1 : (z34 0 33).toInt = (z33 0 33).toInt := congrArg Int32.toInt (qt_off hz34 (by decide))
          have k34_2 : (z34 0 34).toInt = (0 : Int) := congrArg Int32.toInt (qt_at hz34)
          have k34_3 : (z34 0 19).toInt = (z33 0 19).toInt := congrArg Int32.toInt (qt_off hz34 (by decide))
          refine lv_aload_n hx hb dX11_readsRight_55 rfl (lv_at hl 1 rfl) ?_
          refine qf_get hx hb hts inX11 hown hK hP (q0 := 0) (by decide) (hgM_0 ca o) rfl 33 (by decide) wq_1026 (v := .int (z34 0 33)) rfl dX11_readsRight_56 ?_
          refine lv_topi (fun x35 e35 => ?_)
          have k35 : x35.toInt = (z34 0 33).toInt := congrArg Int32.toInt e35
          refine lv_iconst (v := (-1)) hx hb dX11_readsRight_59 (by decide) ?_
          refine lv_icmp_ne (tgt := 73) hx hb dX11_readsRight_60 (by decide) (fun c36 => ?_) (fun c36 => ?_)
          · have t36 : x35.toInt ≠ (-1 : Int) := gl_ne c36
            refine lv_aload_n hx hb dX11_readsRight_73 rfl (lv_at hl 1 rfl) ?_
            refine lv_aload_n hx hb dX11_readsRight_74 rfl (lv_at hl 1 rfl) ?_
            refine qf_get hx hb hts inX11 hown hK hP (q0 := 0) (by decide) (hgM_0 ca o) rfl 16 (by decide) wq_1009 (v := .int (z34 0 16)) rfl dX11_readsRight_75 ?_
            refine lv_topi (fun x37 e37 => ?_)
            have b37 := iM_0_16 J34 e37
            have k37 : x37.toInt = (z34 0 16).toInt := congrArg Int32.toInt e37
            refine lv_iconst (v := 1) hx hb dX11_readsRight_78 (by decide) ?_
            refine lv_iadd hx hb dX11_readsRight_79 ?_
            refine lv_topi (fun x38 e38 => ?_)
            have t38 : x38.toInt = x37.toInt + (1 : Int) := ga_add e38 rfl rfl (by omega) (by omega)
            refine qf_put2 hx hb hts inX11 tyX11 tyX11_ok nmX11 hown hK hP hS qw_Ai (q0 := 0) (by decide) (hgM_0 ca o) rfl 16 (by decide) wq_1009 rfl (x := x38) 16 rfl rfl rfl (Nat.le_of_ble_eq_true rfl) dX11_readsRight_80 (fun z39 H locs hz39 hP hS => ?_)
            have J39 := jM_0_16 J34 hz39 ⟨by omega, by omega⟩
            have k39_0 : (z39 0 16).toInt = x38.toInt := congrArg Int32.toInt (qt_at hz39)
            have k39_1 : (z39 0 33).toInt = (z34 0 33).toInt := congrArg Int32.toInt (qt_off hz39 (by decide))
            have k39_2 : (z39 0 34).toInt = (z34 0 34).toInt := congrArg Int32.toInt (qt_off hz39 (by decide))
            have k39_3 : (z39 0 19).toInt = (z34 0 19).toInt := congrArg Int32.toInt (qt_off hz39 (by decide))
            refine lv_aload_n hx hb dX11_readsRight_83 rfl (lv_at hl 1 rfl) ?_
            refine qf_get hx hb hts inX11 hown hK hP (q0 := 0) (by decide) (hgM_0 ca o) rfl 33 (by decide) wq_1026 (v := .int (z39 0 33)) rfl dX11_readsRight_84 ?_
            refine lv_topi (fun x40 e40 => ?_)
            have k40 : x40.toInt = (z39 0 33).toInt := congrArg Int32.toInt e40
            refine lv_iconst (v := 3) hx hb dX11_readsRight_87 (by decide) ?_
            refine lv_icmp_ne (tgt := 129) hx hb dX11_readsRight_88 (by decide) (fun c41 => ?_) (fun c41 => ?_)
            · have t41 : x40.toInt ≠ (3 : Int) := gl_ne c41
              refine lv_aload_n hx hb dX11_readsRight_129 rfl (lv_at hl 1 rfl) ?_
              refine qc_Vi2 (As := []) (rest := []) (k0 := 0) (m_readsSide l D ca o b z39 y J39) kc_yX11_readsSide ⟨hx, hb, hml, hown, hts⟩ wq_1225 rfl rfl ⟨Nat.le_of_ble_eq_true rfl, Nat.le_of_ble_eq_true rfl⟩ wq_all hP hK hS qw_Ai (q0 := 0) (by decide) (hgM_0 ca o _ _) rfl rfl hl.1 rfl (Nat.le_of_ble_eq_true rfl) dX11_readsRight_130 ⟨Nat.zero_le _, Nat.zero_le _⟩ (fun r42 z42 y42 H locs h42 hP hS _ _ => ?_)
              have J42 : qJM b z42 := h42.2.1
              have p42_2 : (z42 0 33).toInt = (z39 0 33).toInt := h42.2.2.1
              have p42_3 : (z42 0 34).toInt = (z39 0 34).toInt := h42.2.2.2
              have b42 : (0 : Int) ≤ r42.toInt ∧ r42.toInt ≤ 1 := h42.1
              refine lv_if_ne (tgt := 138) hx hb dX11_readsRight_133 (by decide) (fun c43 => ?_) (fun c43 => ?_)
              · have t43 : r42.toInt ≠ (0 : Int) := gl_ne c43
                refine lv_iconst (v := 0) hx hb dX11_readsRight_138 (by decide) ?_
                refine lv_istore_n (lv' := [(2, .int 0), (1, .int r1), (0, .ref (o + 0))]) hx hb dX11_readsRight_139 rfl hl (by decide) rfl (fun ls hl => ?_)
                have loop44 : ∀ (n : Nat) (w44_2 : Int32) (z44 : Nat → Nat → Int32) (y44 : Nat → Nat → Int64), ((7 - w44_2.toInt : Int) < (n : Int)) → ((0 : Int) ≤ w44_2.toInt ∧ w44_2.toInt ≤ 7) → (qJM b z44) → ((z44 0 16).toInt = (z42 0 16).toInt) → ((z44 0 33).toInt = (z42 0 33).toInt) → ((z44 0 34).toInt = (z42 0 34).toInt) → ((z44 0 19).toInt = (z42 0 19).toInt) → ∀ (H : Heap) (locs : List Loc), qw_P D vwCl o 41 (qG (GM ca o) z44 y44) H → va_S (qw_A o 41) s.heap H locs → ∀ (ls : Array Slot), lv_has ls 3 [(2, .int w44_2), (1, .int r1), (0, .ref (o + 0))] → W p l e (headSpec (Cond.code yX11_readsRight cX11_readsRight 3 (some .boolean) :: qtbl) ({ frames := 7, cells := 0, slots := 0, locals := 191 })).room s m (([.ref (o + 0)] : List Value).toArray) below meth c H locs 0 0 (MQ below (va_Qi (fun r u => ((r = 1 ∧ (0 ≤ (u.1 0 33).toInt ∧ (u.1 0 33).toInt ≤ 3 ∧ ((u.1 0 33).toInt ≠ 3 ∨ (u.1 0 34).toInt ≠ 0))) ∨ (r = 0)) ∧ qJM b u.1) (qB D vwCl (qT6 ca) o 41 (fun u : qZ => qG (GM ca o) u.1 u.2)) (qw_A o 41)) (([.ref (o + 0)] : List Value).toArray) s 0 0 (qw_A o 41)) (F0 m 140 ls []) := by
                  intro n
                  induction n with
                  | zero => intro w44_2 z44 y44 hb44 hv44_2 J44 v44_0 v44_1 v44_2 v44_3; exfalso; omega
                  | succ n44 ih44 =>
                    intro w44_2 z44 y44 hb44 hv44_2 J44 v44_0 v44_1 v44_2 v44_3 H locs hP hS ls hl
                    refine lv_iload_n hx hb dX11_readsRight_140 rfl (lv_at hl 0 rfl) ?_
                    refine lv_bipush (v := 7) hx hb dX11_readsRight_141 (by decide) ?_
                    refine lv_icmp_ge (tgt := 171) hx hb dX11_readsRight_143 (by decide) (fun c45 => ?_) (fun c45 => ?_)
                    · have t45 : w44_2.toInt ≥ (7 : Int) := gl_le c45
                      refine lv_iconst (v := 1) hx hb dX11_readsRight_171 (by decide) ?_
                      exact W.zret (v := 1) (ty := .boolean) hx hb hr rfl (fun t ht hW => ⟨⟨1, (z44, y44), rfl, ⟨Or.inl ⟨rfl, (show 0 ≤ (z44 0 33).toInt ∧ (z44 0 33).toInt ≤ 3 ∧ ((z44 0 33).toInt ≠ 3 ∨ (z44 0 34).toInt ≠ 0) from by omega)⟩, J44⟩, by rw [ht]; exact hP, va_K.moved hW.alike hK⟩, hS.F ht⟩) hS.2.2 dX11_readsRight_172
                    · have t45 : w44_2.toInt < (7 : Int) := gl_nle c45
                      refine lv_aload_n hx hb dX11_readsRight_146 rfl (lv_at hl 2 rfl) ?_
                      refine qf_get hx hb hts inX11 hown hK hP (q0 := 0) (by decide) (hgM_0 ca o) rfl 32 (by decide) wq_1025 (v := .ref (o + 22)) rfl dX11_readsRight_147 ?_
                      refine lv_iload_n hx hb dX11_readsRight_150 rfl (lv_at hl 0 rfl) ?_
                      refine lv_aload_n hx hb dX11_readsRight_151 rfl (lv_at hl 2 rfl) ?_
                      refine qf_get hx hb hts inX11 hown hK hP (q0 := 0) (by decide) (hgM_0 ca o) rfl 32 (by decide) wq_1025 (v := .ref (o + 22)) rfl dX11_readsRight_152 ?_
                      refine lv_iload_n hx hb dX11_readsRight_155 rfl (lv_at hl 0 rfl) ?_
                      refine qa_iald hx hb hK hP (q0 := 22) (by decide) 0 (N := 7) (hgM_22 ca o) rfl (gi_in (by omega) (by omega)) dX11_readsRight_156 ?_
                      refine lv_topi (fun x46 e46 => ?_)
                      refine lv_aload_n hx hb dX11_readsRight_157 rfl (lv_at hl 2 rfl) ?_
                      refine qf_get hx hb hts inX11 hown hK hP (q0 := 0) (by decide) (hgM_0 ca o) rfl 20 (by decide) wq_1013 (v := .ref (o + 13)) rfl dX11_readsRight_158 ?_
                      refine lv_iload_n hx hb dX11_readsRight_161 rfl (lv_at hl 0 rfl) ?_
                      refine qa_iald hx hb hK hP (q0 := 13) (by decide) 0 (N := 49) (hgM_13 ca o) rfl (gi_in (by omega) (by omega)) dX11_readsRight_162 ?_
                      refine lv_topi (fun x47 e47 => ?_)
                      refine lv_isub hx hb dX11_readsRight_163 ?_
                      refine lv_topi (fun x48 e48 => ?_)
                      refine qa_iast2 hx hb hK hP hS qw_Ai (q0 := 22) (by decide) 0 (N := 7) (hgM_22 ca o) rfl (i := w44_2) (x := x48) (gi_in (by omega) (by omega)) dX11_readsRight_164 (fun z49 H locs hz49 hP hS => ?_)
                      have J49 := jM_22 J44 hz49
                      have k49_0 : (z49 0 16).toInt = (z44 0 16).toInt := congrArg Int32.toInt (qt_ne hz49 16 (by decide))
                      have k49_1 : (z49 0 33).toInt = (z44 0 33).toInt := congrArg Int32.toInt (qt_ne hz49 33 (by decide))
                      have k49_2 : (z49 0 34).toInt = (z44 0 34).toInt := congrArg Int32.toInt (qt_ne hz49 34 (by decide))
                      have k49_3 : (z49 0 19).toInt = (z44 0 19).toInt := congrArg Int32.toInt (qt_ne hz49 19 (by decide))
                      obtain ⟨x50, e50⟩ : ∃ t : Int32, t = w44_2 + 1 := ⟨_, rfl⟩
                      refine lv_iinc (v := x50) (lv' := [(2, .int x50), (1, .int r1), (0, .ref (o + 0))]) hx hb dX11_readsRight_165 hl (k := 0) rfl (by rw [e50]; rfl) (by decide) rfl (fun ls hl => ?_)
                      have t50 : x50.toInt = w44_2.toInt + (1 : Int) := ga_add e50 rfl rfl (by omega) (by omega)
                      refine lv_goto (tgt := 140) hx hb dX11_readsRight_168 (by decide) ?_
                      exact ih44 x50 z49 y44 (show (7 - x50.toInt : Int) < (n44 : Int) from by omega) ⟨by omega, by omega⟩ J49 (show (z49 0 16).toInt = (z42 0 16).toInt from by omega) (show (z49 0 33).toInt = (z42 0 33).toInt from by omega) (show (z49 0 34).toInt = (z42 0 34).toInt from by omega) (show (z49 0 19).toInt = (z42 0 19).toInt from by omega) _ _ hP hS _ (lv_sub hl [0, 1, 2] rfl)
                exact loop44 8 0 z42 y42 (show (7 - (0 : Int) : Int) < ((8 : Nat) : Int) from by omega) ⟨by decide, by decide⟩ J42 (show (z42 0 16).toInt = (z42 0 16).toInt from by omega) (show (z42 0 33).toInt = (z42 0 33).toInt from by omega) (show (z42 0 34).toInt = (z42 0 34).toInt from by omega) (show (z42 0 19).toInt = (z42 0 19).toInt from by omega) _ _ hP hS _ (lv_sub hl [0, 1, 2] rfl)
              · have t43 : r42.toInt = (0 : Int) := gl_eq c43
                refine lv_iconst (v := 0) hx hb dX11_readsRight_136 (by decide) ?_
                exact W.zret (v := 0) (ty := .boolean) hx hb hr rfl (fun t ht hW => ⟨⟨0, (z42, y42), rfl, ⟨Or.inr rfl, J42⟩, by rw [ht]; exact hP, va_K.moved hW.alike hK⟩, hS.F ht⟩) hS.2.2 dX11_readsRight_137
            · have t41 : x40.toInt = (3 : Int) := gl_eq c41
              refine lv_aload_n hx hb dX11_readsRight_91 rfl (lv_at hl 1 rfl) ?_
              refine qf_get hx hb hts inX11 hown hK hP (q0 := 0) (by decide) (hgM_0 ca o) rfl 16 (by decide) wq_1009 (v := .int (z39 0 16)) rfl dX11_readsRight_92 ?_
              refine lv_topi (fun x51 e51 => ?_)
              have b51 := iM_0_16 J39 e51
              have k51 : x51.toInt = (z39 0 16).toInt := congrArg Int32.toInt e51
              refine lv_istore_n (lv' := [(2, .int x51), (1, .int r1), (0, .ref (o + 0))]) hx hb dX11_readsRight_95 rfl hl (by decide) rfl (fun ls hl => ?_)
              refine lv_aload_n hx hb dX11_readsRight_96 rfl (lv_at hl 2 rfl) ?_
              refine qc_Vi2 (As := []) (rest := []) (k0 := 0) (m_readsNumber l D ca o b z39 y J39) kc_yX11_readsNumber ⟨hx, hb, hml, hown, hts⟩ wq_1265 rfl rfl ⟨Nat.le_of_ble_eq_true rfl, Nat.le_of_ble_eq_true rfl⟩ wq_all hP hK hS qw_Ai (q0 := 0) (by decide) (hgM_0 ca o _ _) rfl rfl hl.1 rfl (Nat.le_of_ble_eq_true rfl) dX11_readsRight_97 ⟨Nat.zero_le _, Nat.zero_le _⟩ (fun r52 z52 y52 H locs h52 hP hS _ _ => ?_)
              have J52 : qJM b z52 := h52.2.1
              have p52_2 : (z52 0 29).toInt = (z39 0 29).toInt := h52.2.2.1
              have p52_3 : (z52 0 33).toInt = (z39 0 33).toInt := h52.2.2.2.1
              have p52_4 : (z52 0 34).toInt = (z39 0 34).toInt := h52.2.2.2.2
              rcases h52.1 with ⟨hr52, hf52_0⟩ | hr52
              · subst hr52
                have hg52_0 : (z52 0 16).toInt ≥ (z39 0 16).toInt + 1 := hf52_0
                refine lv_if_ne (tgt := 105) hx hb dX11_readsRight_100 (by decide) (fun _ => ?_) (fun q => absurd q (by decide))
                refine lv_aload_n hx hb dX11_readsRight_105 rfl (lv_at hl 2 rfl) ?_
                refine qf_get hx hb hts inX11 hown hK hP (q0 := 0) (by decide) (hgM_0 ca o) rfl 19 (by decide) wq_1012 (v := .int (z52 0 19)) rfl dX11_readsRight_106 ?_
                refine lv_topi (fun x53 e53 => ?_)
                have k53 : x53.toInt = (z52 0 19).toInt := congrArg Int32.toInt e53
                refine lv_if_ne (tgt := 119) hx hb dX11_readsRight_109 (by decide) (fun c54 => ?_) (fun c54 => ?_)
                · have t54 : x53.toInt ≠ (0 : Int) := gl_ne c54
                  refine lv_aload_n hx hb dX11_readsRight_119 rfl (lv_at hl 2 rfl) ?_
                  refine lv_aload_n hx hb dX11_readsRight_120 rfl (lv_at hl 2 rfl) ?_
                  refine qf_get hx hb hts inX11 hown hK hP (q0 := 0) (by decide) (hgM_0 ca o) rfl 19 (by decide) wq_1012 (v := .int (z52 0 19)) rfl dX11_readsRight_121 ?_
                  refine lv_topi (fun x55 e55 => ?_)
                  have k55 : x55.toInt = (z52 0 19).toInt := congrArg Int32.toInt e55
                  have ag55 : x55.toInt = x53.toInt := congrArg Int32.toInt (e55.trans e53.symm)
                  refine qf_put2 hx hb hts inX11 tyX11 tyX11_ok nmX11 hown hK hP hS qw_Ai (q0 := 0) (by decide) (hgM_0 ca o) rfl 34 (by decide) wq_1027 rfl (x := x55) 34 rfl rfl rfl (Nat.le_of_ble_eq_true rfl) dX11_readsRight_124 (fun z56 H locs hz56 hP hS => ?_)
                  have J56 := jM_0_34 J52 hz56
                  have k56_0 : (z56 0 16).toInt = (z52 0 16).toInt := congrArg Int32.toInt (qt_off hz56 (by decide))
                  have k56_1 : (z56 0 33).toInt = (z52 0 33).toInt := congrArg Int32.toInt (qt_off hz56 (by decide))
                  have k56_2 : (z56 0 34).toInt = x55.toInt := congrArg Int32.toInt (qt_at hz56)
                  have k56_3 : (z56 0 19).toInt = (z52 0 19).toInt := congrArg Int32.toInt (qt_off hz56 (by decide))
                  refine lv_iconst (v := 1) hx hb dX11_readsRight_127 (by decide) ?_
                  exact W.zret (v := 1) (ty := .boolean) hx hb hr rfl (fun t ht hW => ⟨⟨1, (z56, y52), rfl, ⟨Or.inl ⟨rfl, (show 0 ≤ (z56 0 33).toInt ∧ (z56 0 33).toInt ≤ 3 ∧ ((z56 0 33).toInt ≠ 3 ∨ (z56 0 34).toInt ≠ 0) from by omega)⟩, J56⟩, by rw [ht]; exact hP, va_K.moved hW.alike hK⟩, hS.F ht⟩) hS.2.2 dX11_readsRight_128
                · have t54 : x53.toInt = (0 : Int) := gl_eq c54
                  refine lv_aload_n hx hb dX11_readsRight_112 rfl (lv_at hl 2 rfl) ?_
                  refine lv_iconst (v := 3) hx hb dX11_readsRight_113 (by decide) ?_
                  refine lv_iload_n hx hb dX11_readsRight_114 rfl (lv_at hl 0 rfl) ?_
                  refine qc_Vi2 (As := [.int 3, .int x51]) (rest := []) (k0 := 2) (m_wrongAt l D ca o b z52 y52 J52 3 x51) kc_yX11_wrongAt ⟨hx, hb, hml, hown, hts⟩ wq_1249 rfl rfl ⟨Nat.le_of_ble_eq_true rfl, Nat.le_of_ble_eq_true rfl⟩ wq_all hP hK hS qw_Ai (q0 := 0) (by decide) (hgM_0 ca o _ _) rfl rfl hl.1 rfl (Nat.le_of_ble_eq_true rfl) dX11_readsRight_115 ⟨Nat.zero_le _, Nat.zero_le _⟩ (fun r57 z57 y57 H locs h57 hP hS _ _ => ?_)
                  have J57 : qJM b z57 := h57.2.1
                  have p57_5 : (z57 0 16).toInt = (z52 0 16).toInt := h57.2.2.2.2.2.1
                  have p57_6 : (z57 0 29).toInt = (z52 0 29).toInt := h57.2.2.2.2.2.2.1
                  have p57_7 : (z57 0 19).toInt = (z52 0 19).toInt := h57.2.2.2.2.2.2.2.1
                  have p57_8 : (z57 0 33).toInt = (z52 0 33).toInt := h57.2.2.2.2.2.2.2.2.1
                  have p57_9 : (z57 0 34).toInt = (z52 0 34).toInt := h57.2.2.2.2.2.2.2.2.2
                  have b57 : (0 : Int) ≤ r57.toInt ∧ r57.toInt ≤ 0 := h57.1
                  obtain rfl : r57 = 0 := lit_eq (k := 0) (K := 0) rfl (by omega) (by omega)
                  exact W.zret (v := 0) (ty := .boolean) hx hb hr rfl (fun t ht hW => ⟨⟨0, (z57, y57), rfl, ⟨Or.inr rfl, J57⟩, by rw [ht]; exact hP, va_K.moved hW.alike hK⟩, hS.F ht⟩) hS.2.2 dX11_readsRight_118
              · subst hr52
                refine lv_if_ne (tgt := 105) hx hb dX11_readsRight_100 (by decide) (fun q => absurd q (by decide)) (fun _ => ?_)
                refine lv_iconst (v := 0) hx hb dX11_readsRight_103 (by decide) ?_
                exact W.zret (v := 0) (ty := .boolean) hx hb hr rfl (fun t ht hW => ⟨⟨0, (z52, y52), rfl, ⟨Or.inr rfl, J52⟩, by rw [ht]; exact hP, va_K.moved hW.alike hK⟩, hS.F ht⟩) hS.2.2 dX11_readsRight_104
          · have t36 : x35.toInt = (-1 : Int) := gl_eq c36
            refine lv_aload_n hx hb dX11_readsRight_63 rfl (lv_at hl 1 rfl) ?_
            refine lv_iconst (v := 1) hx hb dX11_readsRight_64 (by decide) ?_
            refine lv_aload_n hx hb dX11_readsRight_65 rfl (lv_at hl 1 rfl) ?_
            refine qf_get hx hb hts inX11 hown hK hP (q0 := 0) (by decide) (hgM_0 ca o) rfl 16 (by decide) wq_1009 (v := .int (z34 0 16)) rfl dX11_readsRight_66 ?_
            refine lv_topi (fun x58 e58 => ?_)
            have b58 := iM_0_16 J34 e58
            have k58 : x58.toInt = (z34 0 16).toInt := congrArg Int32.toInt e58
            refine qc_Vi2 (As := [.int 1, .int x58]) (rest := []) (k0 := 2) (m_wrongAt l D ca o b z34 y J34 1 x58) kc_yX11_wrongAt ⟨hx, hb, hml, hown, hts⟩ wq_1249 rfl rfl ⟨Nat.le_of_ble_eq_true rfl, Nat.le_of_ble_eq_true rfl⟩ wq_all hP hK hS qw_Ai (q0 := 0) (by decide) (hgM_0 ca o _ _) rfl rfl hl.1 rfl (Nat.le_of_ble_eq_true rfl) dX11_readsRight_69 ⟨Nat.zero_le _, Nat.zero_le _⟩ (fun r59 z59 y59 H locs h59 hP hS _ _ => ?_)
            have J59 : qJM b z59 := h59.2.1
            have p59_5 : (z59 0 16).toInt = (z34 0 16).toInt := h59.2.2.2.2.2.1
            have p59_6 : (z59 0 29).toInt = (z34 0 29).toInt := h59.2.2.2.2.2.2.1
            have p59_7 : (z59 0 19).toInt = (z34 0 19).toInt := h59.2.2.2.2.2.2.2.1
            have p59_8 : (z59 0 33).toInt = (z34 0 33).toInt := h59.2.2.2.2.2.2.2.2.1
            have p59_9 : (z59 0 34).toInt = (z34 0 34).toInt := h59.2.2.2.2.2.2.2.2.2
            have b59 : (0 : Int) ≤ r59.toInt ∧ r59.toInt ≤ 0 := h59.1
            obtain rfl : r59 = 0 := lit_eq (k := 0) (K := 0) rfl (by omega) (by omega)
            exact W.zret (v := 0) (ty := .boolean) hx hb hr rfl (fun t ht hW => ⟨⟨0, (z59, y59), rfl, ⟨Or.inr rfl, J59⟩, by rw [ht]; exact hP, va_K.moved hW.alike hK⟩, hS.F ht⟩) hS.2.2 dX11_readsRight_72
      · have t4 : r1.toInt = (62 : Int) := gl_eq c4
        refine lv_iconst (v := 2) hx hb dX11_readsRight_32 (by decide) ?_
        refine lv_goto (tgt := 47) hx hb dX11_readsRight_33 (by decide) ?_
        refine qf_put2 hx hb hts inX11 tyX11 tyX11_ok nmX11 hown hK hP hS qw_Ai (q0 := 0) (by decide) (hgM_0 ca o) rfl 33 (by decide) wq_1026 rfl (x := 2) 33 rfl rfl rfl (Nat.le_of_ble_eq_true rfl) dX11_readsRight_47 (fun z60 H locs hz60 hP hS => ?_)
        have J60 := jM_0_33 J0 hz60
        have k60_0 : (z60 0 16).toInt = (z 0 16).toInt := congrArg Int32.toInt (qt_off hz60 (by decide))
        have k60_1 : (z60 0 33).toInt = (2 : Int) := congrArg Int32.toInt (qt_at hz60)
        have k60_2 : (z60 0 34).toInt = (z 0 34).toInt := congrArg Int32.toInt (qt_off hz60 (by decide))
        have k60_3 : (z60 0 19).toInt = (z 0 19).toInt := congrArg Int32.toInt (qt_off hz60 (by decide))
        refine lv_aload_n hx hb dX11_readsRight_50 rfl (lv_at hl 1 rfl) ?_
        refine lv_iconst (v := 0) hx hb dX11_readsRight_51 (by decide) ?_
        refine qf_put2 hx hb hts inX11 tyX11 tyX11_ok nmX11 hown hK hP hS qw_Ai (q0 := 0) (by decide) (hgM_0 ca o) rfl 34 (by decide) wq_1027 rfl (x := 0) 34 rfl rfl rfl (Nat.le_of_ble_eq_true rfl) dX11_readsRight_52 (fun z61 H locs hz61 hP hS => ?_)
        have J61 := jM_0_34 J60 hz61
        have k61_0 : (z61 0 16).toInt = (z60 0 16).toInt := congrArg Int32.toInt (qt_off hz61 (by decide))
        have k61_1 : (z61 0 33).toInt = (z60 0 33).toInt := congrArg Int32.toInt (qt_off hz61 (by decide))
        have k61_2 : (z61 0 34).toInt = (0 : Int) := congrArg Int32.toInt (qt_at hz61)
        have k61_3 : (z61 0 19).toInt = (z60 0 19).toInt := congrArg Int32.toInt (qt_off hz61 (by decide))
        refine lv_aload_n hx hb dX11_readsRight_55 rfl (lv_at hl 1 rfl) ?_
        refine qf_get hx hb hts inX11 hown hK hP (q0 := 0) (by decide) (hgM_0 ca o) rfl 33 (by decide) wq_1026 (v := .int (z61 0 33)) rfl dX11_readsRight_56 ?_
        refine lv_topi (fun x62 e62 => ?_)
        have k62 : x62.toInt = (z61 0 33).toInt := congrArg Int32.toInt e62
        refine lv_iconst (v := (-1)) hx hb dX11_readsRight_59 (by decide) ?_
        refine lv_icmp_ne (tgt := 73) hx hb dX11_readsRight_60 (by decide) (fun c63 => ?_) (fun c63 => ?_)
        · have t63 : x62.toInt ≠ (-1 : Int) := gl_ne c63
          refine lv_aload_n hx hb dX11_readsRight_73 rfl (lv_at hl 1 rfl) ?_
          refine lv_aload_n hx hb dX11_readsRight_74 rfl (lv_at hl 1 rfl) ?_
          refine qf_get hx hb hts inX11 hown hK hP (q0 := 0) (by decide) (hgM_0 ca o) rfl 16 (by decide) wq_1009 (v := .int (z61 0 16)) rfl dX11_readsRight_75 ?_
          refine lv_topi (fun x64 e64 => ?_)
          have b64 := iM_0_16 J61 e64
          have k64 : x64.toInt = (z61 0 16).toInt := congrArg Int32.toInt e64
          refine lv_iconst (v := 1) hx hb dX11_readsRight_78 (by decide) ?_
          refine lv_iadd hx hb dX11_readsRight_79 ?_
          refine lv_topi (fun x65 e65 => ?_)
          have t65 : x65.toInt = x64.toInt + (1 : Int) := ga_add e65 rfl rfl (by omega) (by omega)
          refine qf_put2 hx hb hts inX11 tyX11 tyX11_ok nmX11 hown hK hP hS qw_Ai (q0 := 0) (by decide) (hgM_0 ca o) rfl 16 (by decide) wq_1009 rfl (x := x65) 16 rfl rfl rfl (Nat.le_of_ble_eq_true rfl) dX11_readsRight_80 (fun z66 H locs hz66 hP hS => ?_)
          have J66 := jM_0_16 J61 hz66 ⟨by omega, by omega⟩
          have k66_0 : (z66 0 16).toInt = x65.toInt := congrArg Int32.toInt (qt_at hz66)
          have k66_1 : (z66 0 33).toInt = (z61 0 33).toInt := congrArg Int32.toInt (qt_off hz66 (by decide))
          have k66_2 : (z66 0 34).toInt = (z61 0 34).toInt := congrArg Int32.toInt (qt_off hz66 (by decide))
          have k66_3 : (z66 0 19).toInt = (z61 0 19).toInt := congrArg Int32.toInt (qt_off hz66 (by decide))
          refine lv_aload_n hx hb dX11_readsRight_83 rfl (lv_at hl 1 rfl) ?_
          refine qf_get hx hb hts inX11 hown hK hP (q0 := 0) (by decide) (hgM_0 ca o) rfl 33 (by decide) wq_1026 (v := .int (z66 0 33)) rfl dX11_readsRight_84 ?_
          refine lv_topi (fun x67 e67 => ?_)
          have k67 : x67.toInt = (z66 0 33).toInt := congrArg Int32.toInt e67
          refine lv_iconst (v := 3) hx hb dX11_readsRight_87 (by decide) ?_
          refine lv_icmp_ne (tgt := 129) hx hb dX11_readsRight_88 (by decide) (fun c68 => ?_) (fun c68 => ?_)
          · have t68 : x67.toInt ≠ (3 : Int) := gl_ne c68
            refine lv_aload_n hx hb dX11_readsRight_129 rfl (lv_at hl 1 rfl) ?_
            refine qc_Vi2 (As := []) (rest := []) (k0 := 0) (m_readsSide l D ca o b z66 y J66) kc_yX11_readsSide ⟨hx, hb, hml, hown, hts⟩ wq_1225 rfl rfl ⟨Nat.le_of_ble_eq_true rfl, Nat.le_of_ble_eq_true rfl⟩ wq_all hP hK hS qw_Ai (q0 := 0) (by decide) (hgM_0 ca o _ _) rfl rfl hl.1 rfl (Nat.le_of_ble_eq_true rfl) dX11_readsRight_130 ⟨Nat.zero_le _, Nat.zero_le _⟩ (fun r69 z69 y69 H locs h69 hP hS _ _ => ?_)
            have J69 : qJM b z69 := h69.2.1
            have p69_2 : (z69 0 33).toInt = (z66 0 33).toInt := h69.2.2.1
            have p69_3 : (z69 0 34).toInt = (z66 0 34).toInt := h69.2.2.2
            have b69 : (0 : Int) ≤ r69.toInt ∧ r69.toInt ≤ 1 := h69.1
            refine lv_if_ne (tgt := 138) hx hb dX11_readsRight_133 (by decide) (fun c70 => ?_) (fun c70 => ?_)
            · have t70 : r69.toInt ≠ (0 : Int) := gl_ne c70
              refine lv_iconst (v := 0) hx hb dX11_readsRight_138 (by decide) ?_
              refine lv_istore_n (lv' := [(2, .int 0), (1, .int r1), (0, .ref (o + 0))]) hx hb dX11_readsRight_139 rfl hl (by decide) rfl (fun ls hl => ?_)
              have loop71 : ∀ (n : Nat) (w71_2 : Int32) (z71 : Nat → Nat → Int32) (y71 : Nat → Nat → Int64), ((7 - w71_2.toInt : Int) < (n : Int)) → ((0 : Int) ≤ w71_2.toInt ∧ w71_2.toInt ≤ 7) → (qJM b z71) → ((z71 0 16).toInt = (z69 0 16).toInt) → ((z71 0 33).toInt = (z69 0 33).toInt) → ((z71 0 34).toInt = (z69 0 34).toInt) → ((z71 0 19).toInt = (z69 0 19).toInt) → ∀ (H : Heap) (locs : List Loc), qw_P D vwCl o 41 (qG (GM ca o) z71 y71) H → va_S (qw_A o 41) s.heap H locs → ∀ (ls : Array Slot), lv_has ls 3 [(2, .int w71_2), (1, .int r1), (0, .ref (o + 0))] → W p l e (headSpec (Cond.code yX11_readsRight cX11_readsRight 3 (some .boolean) :: qtbl) ({ frames := 7, cells := 0, slots := 0, locals := 191 })).room s m (([.ref (o + 0)] : List Value).toArray) below meth c H locs 0 0 (MQ below (va_Qi (fun r u => ((r = 1 ∧ (0 ≤ (u.1 0 33).toInt ∧ (u.1 0 33).toInt ≤ 3 ∧ ((u.1 0 33).toInt ≠ 3 ∨ (u.1 0 34).toInt ≠ 0))) ∨ (r = 0)) ∧ qJM b u.1) (qB D vwCl (qT6 ca) o 41 (fun u : qZ => qG (GM ca o) u.1 u.2)) (qw_A o 41)) (([.ref (o + 0)] : List Value).toArray) s 0 0 (qw_A o 41)) (F0 m 140 ls []) := by
                intro n
                induction n with
                | zero => intro w71_2 z71 y71 hb71 hv71_2 J71 v71_0 v71_1 v71_2 v71_3; exfalso; omega
                | succ n71 ih71 =>
                  intro w71_2 z71 y71 hb71 hv71_2 J71 v71_0 v71_1 v71_2 v71_3 H locs hP hS ls hl
                  refine lv_iload_n hx hb dX11_readsRight_140 rfl (lv_at hl 0 rfl) ?_
                  refine lv_bipush (v := 7) hx hb dX11_readsRight_141 (by decide) ?_
                  refine lv_icmp_ge (tgt := 171) hx hb dX11_readsRight_143 (by decide) (fun c72 => ?_) (fun c72 => ?_)
                  · have t72 : w71_2.toInt ≥ (7 : Int) := gl_le c72
                    refine lv_iconst (v := 1) hx hb dX11_readsRight_171 (by decide) ?_
                    exact W.zret (v := 1) (ty := .boolean) hx hb hr rfl (fun t ht hW => ⟨⟨1, (z71, y71), rfl, ⟨Or.inl ⟨rfl, (show 0 ≤ (z71 0 33).toInt ∧ (z71 0 33).toInt ≤ 3 ∧ ((z71 0 33).toInt ≠ 3 ∨ (z71 0 34).toInt ≠ 0) from by omega)⟩, J71⟩, by rw [ht]; exact hP, va_K.moved hW.alike hK⟩, hS.F ht⟩) hS.2.2 dX11_readsRight_172
                  · have t72 : w71_2.toInt < (7 : Int) := gl_nle c72
                    refine lv_aload_n hx hb dX11_readsRight_146 rfl (lv_at hl 2 rfl) ?_
                    refine qf_get hx hb hts inX11 hown hK hP (q0 := 0) (by decide) (hgM_0 ca o) rfl 32 (by decide) wq_1025 (v := .ref (o + 22)) rfl dX11_readsRight_147 ?_
                    refine lv_iload_n hx hb dX11_readsRight_150 rfl (lv_at hl 0 rfl) ?_
                    refine lv_aload_n hx hb dX11_readsRight_151 rfl (lv_at hl 2 rfl) ?_
                    refine qf_get hx hb hts inX11 hown hK hP (q0 := 0) (by decide) (hgM_0 ca o) rfl 32 (by decide) wq_1025 (v := .ref (o + 22)) rfl dX11_readsRight_152 ?_
                    refine lv_iload_n hx hb dX11_readsRight_155 rfl (lv_at hl 0 rfl) ?_
                    refine qa_iald hx hb hK hP (q0 := 22) (by decide) 0 (N := 7) (hgM_22 ca o) rfl (gi_in (by omega) (by omega)) dX11_readsRight_156 ?_
                    refine lv_topi (fun x73 e73 => ?_)
                    refine lv_aload_n hx hb dX11_readsRight_157 rfl (lv_at hl 2 rfl) ?_
                    refine qf_get hx hb hts inX11 hown hK hP (q0 := 0) (by decide) (hgM_0 ca o) rfl 20 (by decide) wq_1013 (v := .ref (o + 13)) rfl dX11_readsRight_158 ?_
                    refine lv_iload_n hx hb dX11_readsRight_161 rfl (lv_at hl 0 rfl) ?_
                    refine qa_iald hx hb hK hP (q0 := 13) (by decide) 0 (N := 49) (hgM_13 ca o) rfl (gi_in (by omega) (by omega)) dX11_readsRight_162 ?_
                    refine lv_topi (fun x74 e74 => ?_)
                    refine lv_isub hx hb dX11_readsRight_163 ?_
                    refine lv_topi (fun x75 e75 => ?_)
                    refine qa_iast2 hx hb hK hP hS qw_Ai (q0 := 22) (by decide) 0 (N := 7) (hgM_22 ca o) rfl (i := w71_2) (x := x75) (gi_in (by omega) (by omega)) dX11_readsRight_164 (fun z76 H locs hz76 hP hS => ?_)
                    have J76 := jM_22 J71 hz76
                    have k76_0 : (z76 0 16).toInt = (z71 0 16).toInt := congrArg Int32.toInt (qt_ne hz76 16 (by decide))
                    have k76_1 : (z76 0 33).toInt = (z71 0 33).toInt := congrArg Int32.toInt (qt_ne hz76 33 (by decide))
                    have k76_2 : (z76 0 34).toInt = (z71 0 34).toInt := congrArg Int32.toInt (qt_ne hz76 34 (by decide))
                    have k76_3 : (z76 0 19).toInt = (z71 0 19).toInt := congrArg Int32.toInt (qt_ne hz76 19 (by decide))
                    obtain ⟨x77, e77⟩ : ∃ t : Int32, t = w71_2 + 1 := ⟨_, rfl⟩
                    refine lv_iinc (v := x77) (lv' := [(2, .int x77), (1, .int r1), (0, .ref (o + 0))]) hx hb dX11_readsRight_165 hl (k := 0) rfl (by rw [e77]; rfl) (by decide) rfl (fun ls hl => ?_)
                    have t77 : x77.toInt = w71_2.toInt + (1 : Int) := ga_add e77 rfl rfl (by omega) (by omega)
                    refine lv_goto (tgt := 140) hx hb dX11_readsRight_168 (by decide) ?_
                    exact ih71 x77 z76 y71 (show (7 - x77.toInt : Int) < (n71 : Int) from by omega) ⟨by omega, by omega⟩ J76 (show (z76 0 16).toInt = (z69 0 16).toInt from by omega) (show (z76 0 33).toInt = (z69 0 33).toInt from by omega) (show (z76 0 34).toInt = (z69 0 34).toInt from by omega) (show (z76 0 19).toInt = (z69 0 19).toInt from by omega) _ _ hP hS _ (lv_sub hl [0, 1, 2] rfl)
              exact loop71 8 0 z69 y69 (show (7 - (0 : Int) : Int) < ((8 : Nat) : Int) from by omega) ⟨by decide, by decide⟩ J69 (show (z69 0 16).toInt = (z69 0 16).toInt from by omega) (show (z69 0 33).toInt = (z69 0 33).toInt from by omega) (show (z69 0 34).toInt = (z69 0 34).toInt from by omega) (show (z69 0 19).toInt = (z69 0 19).toInt from by omega) _ _ hP hS _ (lv_sub hl [0, 1, 2] rfl)
            · have t70 : r69.toInt = (0 : Int) := gl_eq c70
              refine lv_iconst (v := 0) hx hb dX11_readsRight_136 (by decide) ?_
              exact W.zret (v := 0) (ty := .boolean) hx hb hr rfl (fun t ht hW => ⟨⟨0, (z69, y69), rfl, ⟨Or.inr rfl, J69⟩, by rw [ht]; exact hP, va_K.moved hW.alike hK⟩, hS.F ht⟩) hS.2.2 dX11_readsRight_137
          · have t68 : x67.toInt = (3 : Int) := gl_eq c68
            refine lv_aload_n hx hb dX11_readsRight_91 rfl (lv_at hl 1 rfl) ?_
            refine qf_get hx hb hts inX11 hown hK hP (q0 := 0) (by decide) (hgM_0 ca o) rfl 16 (by decide) wq_1009 (v := .int (z66 0 16)) rfl dX11_readsRight_92 ?_
            refine lv_topi (fun x78 e78 => ?_)
            have b78 := iM_0_16 J66 e78
            have k78 : x78.toInt = (z66 0 16).toInt := congrArg Int32.toInt e78
            refine lv_istore_n (lv' := [(2, .int x78), (1, .int r1), (0, .ref (o + 0))]) hx hb dX11_readsRight_95 rfl hl (by decide) rfl (fun ls hl => ?_)
            refine lv_aload_n hx hb dX11_readsRight_96 rfl (lv_at hl 2 rfl) ?_
            refine qc_Vi2 (As := []) (rest := []) (k0 := 0) (m_readsNumber l D ca o b z66 y J66) kc_yX11_readsNumber ⟨hx, hb, hml, hown, hts⟩ wq_1265 rfl rfl ⟨Nat.le_of_ble_eq_true rfl, Nat.le_of_ble_eq_true rfl⟩ wq_all hP hK hS qw_Ai (q0 := 0) (by decide) (hgM_0 ca o _ _) rfl rfl hl.1 rfl (Nat.le_of_ble_eq_true rfl) dX11_readsRight_97 ⟨Nat.zero_le _, Nat.zero_le _⟩ (fun r79 z79 y79 H locs h79 hP hS _ _ => ?_)
            have J79 : qJM b z79 := h79.2.1
            have p79_2 : (z79 0 29).toInt = (z66 0 29).toInt := h79.2.2.1
            have p79_3 : (z79 0 33).toInt = (z66 0 33).toInt := h79.2.2.2.1
            have p79_4 : (z79 0 34).toInt = (z66 0 34).toInt := h79.2.2.2.2
            rcases h79.1 with ⟨hr79, hf79_0⟩ | hr79
            · subst hr79
              have hg79_0 : (z79 0 16).toInt ≥ (z66 0 16).toInt + 1 := hf79_0
              refine lv_if_ne (tgt := 105) hx hb dX11_readsRight_100 (by decide) (fun _ => ?_) (fun q => absurd q (by decide))
              refine lv_aload_n hx hb dX11_readsRight_105 rfl (lv_at hl 2 rfl) ?_
              refine qf_get hx hb hts inX11 hown hK hP (q0 := 0) (by decide) (hgM_0 ca o) rfl 19 (by decide) wq_1012 (v := .int (z79 0 19)) rfl dX11_readsRight_106 ?_
              refine lv_topi (fun x80 e80 => ?_)
              have k80 : x80.toInt = (z79 0 19).toInt := congrArg Int32.toInt e80
              refine lv_if_ne (tgt := 119) hx hb dX11_readsRight_109 (by decide) (fun c81 => ?_) (fun c81 => ?_)
              · have t81 : x80.toInt ≠ (0 : Int) := gl_ne c81
                refine lv_aload_n hx hb dX11_readsRight_119 rfl (lv_at hl 2 rfl) ?_
                refine lv_aload_n hx hb dX11_readsRight_120 rfl (lv_at hl 2 rfl) ?_
                refine qf_get hx hb hts inX11 hown hK hP (q0 := 0) (by decide) (hgM_0 ca o) rfl 19 (by decide) wq_1012 (v := .int (z79 0 19)) rfl dX11_readsRight_121 ?_
                refine lv_topi (fun x82 e82 => ?_)
                have k82 : x82.toInt = (z79 0 19).toInt := congrArg Int32.toInt e82
                have ag82 : x82.toInt = x80.toInt := congrArg Int32.toInt (e82.trans e80.symm)
                refine qf_put2 hx hb hts inX11 tyX11 tyX11_ok nmX11 hown hK hP hS qw_Ai (q0 := 0) (by decide) (hgM_0 ca o) rfl 34 (by decide) wq_1027 rfl (x := x82) 34 rfl rfl rfl (Nat.le_of_ble_eq_true rfl) dX11_readsRight_124 (fun z83 H locs hz83 hP hS => ?_)
                have J83 := jM_0_34 J79 hz83
                have k83_0 : (z83 0 16).toInt = (z79 0 16).toInt := congrArg Int32.toInt (qt_off hz83 (by decide))
                have k83_1 : (z83 0 33).toInt = (z79 0 33).toInt := congrArg Int32.toInt (qt_off hz83 (by decide))
                have k83_2 : (z83 0 34).toInt = x82.toInt := congrArg Int32.toInt (qt_at hz83)
                have k83_3 : (z83 0 19).toInt = (z79 0 19).toInt := congrArg Int32.toInt (qt_off hz83 (by decide))
                refine lv_iconst (v := 1) hx hb dX11_readsRight_127 (by decide) ?_
                exact W.zret (v := 1) (ty := .boolean) hx hb hr rfl (fun t ht hW => ⟨⟨1, (z83, y79), rfl, ⟨Or.inl ⟨rfl, (show 0 ≤ (z83 0 33).toInt ∧ (z83 0 33).toInt ≤ 3 ∧ ((z83 0 33).toInt ≠ 3 ∨ (z83 0 34).toInt ≠ 0) from by omega)⟩, J83⟩, by rw [ht]; exact hP, va_K.moved hW.alike hK⟩, hS.F ht⟩) hS.2.2 dX11_readsRight_128
              · have t81 : x80.toInt = (0 : Int) := gl_eq c81
                refine lv_aload_n hx hb dX11_readsRight_112 rfl (lv_at hl 2 rfl) ?_
                refine lv_iconst (v := 3) hx hb dX11_readsRight_113 (by decide) ?_
                refine lv_iload_n hx hb dX11_readsRight_114 rfl (lv_at hl 0 rfl) ?_
                refine qc_Vi2 (As := [.int 3, .int x78]) (rest := []) (k0 := 2) (m_wrongAt l D ca o b z79 y79 J79 3 x78) kc_yX11_wrongAt ⟨hx, hb, hml, hown, hts⟩ wq_1249 rfl rfl ⟨Nat.le_of_ble_eq_true rfl, Nat.le_of_ble_eq_true rfl⟩ wq_all hP hK hS qw_Ai (q0 := 0) (by decide) (hgM_0 ca o _ _) rfl rfl hl.1 rfl (Nat.le_of_ble_eq_true rfl) dX11_readsRight_115 ⟨Nat.zero_le _, Nat.zero_le _⟩ (fun r84 z84 y84 H locs h84 hP hS _ _ => ?_)
                have J84 : qJM b z84 := h84.2.1
                have p84_5 : (z84 0 16).toInt = (z79 0 16).toInt := h84.2.2.2.2.2.1
                have p84_6 : (z84 0 29).toInt = (z79 0 29).toInt := h84.2.2.2.2.2.2.1
                have p84_7 : (z84 0 19).toInt = (z79 0 19).toInt := h84.2.2.2.2.2.2.2.1
                have p84_8 : (z84 0 33).toInt = (z79 0 33).toInt := h84.2.2.2.2.2.2.2.2.1
                have p84_9 : (z84 0 34).toInt = (z79 0 34).toInt := h84.2.2.2.2.2.2.2.2.2
                have b84 : (0 : Int) ≤ r84.toInt ∧ r84.toInt ≤ 0 := h84.1
                obtain rfl : r84 = 0 := lit_eq (k := 0) (K := 0) rfl (by omega) (by omega)
                exact W.zret (v := 0) (ty := .boolean) hx hb hr rfl (fun t ht hW => ⟨⟨0, (z84, y84), rfl, ⟨Or.inr rfl, J84⟩, by rw [ht]; exact hP, va_K.moved hW.alike hK⟩, hS.F ht⟩) hS.2.2 dX11_readsRight_118
            · subst hr79
              refine lv_if_ne (tgt := 105) hx hb dX11_readsRight_100 (by decide) (fun q => absurd q (by decide)) (fun _ => ?_)
              refine lv_iconst (v := 0) hx hb dX11_readsRight_103 (by decide) ?_
              exact W.zret (v := 0) (ty := .boolean) hx hb hr rfl (fun t ht hW => ⟨⟨0, (z79, y79), rfl, ⟨Or.inr rfl, J79⟩, by rw [ht]; exact hP, va_K.moved hW.alike hK⟩, hS.F ht⟩) hS.2.2 dX11_readsRight_104
        · have t63 : x62.toInt = (-1 : Int) := gl_eq c63
          refine lv_aload_n hx hb dX11_readsRight_63 rfl (lv_at hl 1 rfl) ?_
          refine lv_iconst (v := 1) hx hb dX11_readsRight_64 (by decide) ?_
          refine lv_aload_n hx hb dX11_readsRight_65 rfl (lv_at hl 1 rfl) ?_
          refine qf_get hx hb hts inX11 hown hK hP (q0 := 0) (by decide) (hgM_0 ca o) rfl 16 (by decide) wq_1009 (v := .int (z61 0 16)) rfl dX11_readsRight_66 ?_
          refine lv_topi (fun x85 e85 => ?_)
          have b85 := iM_0_16 J61 e85
          have k85 : x85.toInt = (z61 0 16).toInt := congrArg Int32.toInt e85
          refine qc_Vi2 (As := [.int 1, .int x85]) (rest := []) (k0 := 2) (m_wrongAt l D ca o b z61 y J61 1 x85) kc_yX11_wrongAt ⟨hx, hb, hml, hown, hts⟩ wq_1249 rfl rfl ⟨Nat.le_of_ble_eq_true rfl, Nat.le_of_ble_eq_true rfl⟩ wq_all hP hK hS qw_Ai (q0 := 0) (by decide) (hgM_0 ca o _ _) rfl rfl hl.1 rfl (Nat.le_of_ble_eq_true rfl) dX11_readsRight_69 ⟨Nat.zero_le _, Nat.zero_le _⟩ (fun r86 z86 y86 H locs h86 hP hS _ _ => ?_)
          have J86 : qJM b z86 := h86.2.1
          have p86_5 : (z86 0 16).toInt = (z61 0 16).toInt := h86.2.2.2.2.2.1
          have p86_6 : (z86 0 29).toInt = (z61 0 29).toInt := h86.2.2.2.2.2.2.1
          have p86_7 : (z86 0 19).toInt = (z61 0 19).toInt := h86.2.2.2.2.2.2.2.1
          have p86_8 : (z86 0 33).toInt = (z61 0 33).toInt := h86.2.2.2.2.2.2.2.2.1
          have p86_9 : (z86 0 34).toInt = (z61 0 34).toInt := h86.2.2.2.2.2.2.2.2.2
          have b86 : (0 : Int) ≤ r86.toInt ∧ r86.toInt ≤ 0 := h86.1
          obtain rfl : r86 = 0 := lit_eq (k := 0) (K := 0) rfl (by omega) (by omega)
          exact W.zret (v := 0) (ty := .boolean) hx hb hr rfl (fun t ht hW => ⟨⟨0, (z86, y86), rfl, ⟨Or.inr rfl, J86⟩, by rw [ht]; exact hP, va_K.moved hW.alike hK⟩, hS.F ht⟩) hS.2.2 dX11_readsRight_72
    · have t3 : r1.toInt = (60 : Int) := gl_eq c3
      refine lv_iconst (v := 1) hx hb dX11_readsRight_22 (by decide) ?_
      refine lv_goto (tgt := 47) hx hb dX11_readsRight_23 (by decide) ?_
      refine qf_put2 hx hb hts inX11 tyX11 tyX11_ok nmX11 hown hK hP hS qw_Ai (q0 := 0) (by decide) (hgM_0 ca o) rfl 33 (by decide) wq_1026 rfl (x := 1) 33 rfl rfl rfl (Nat.le_of_ble_eq_true rfl) dX11_readsRight_47 (fun z87 H locs hz87 hP hS => ?_)
      have J87 := jM_0_33 J0 hz87
      have k87_0 : (z87 0 16).toInt = (z 0 16).toInt := congrArg Int32.toInt (qt_off hz87 (by decide))
      have k87_1 : (z87 0 33).toInt = (1 : Int) := congrArg Int32.toInt (qt_at hz87)
      have k87_2 : (z87 0 34).toInt = (z 0 34).toInt := congrArg Int32.toInt (qt_off hz87 (by decide))
      have k87_3 : (z87 0 19).toInt = (z 0 19).toInt := congrArg Int32.toInt (qt_off hz87 (by decide))
      refine lv_aload_n hx hb dX11_readsRight_50 rfl (lv_at hl 1 rfl) ?_
      refine lv_iconst (v := 0) hx hb dX11_readsRight_51 (by decide) ?_
      refine qf_put2 hx hb hts inX11 tyX11 tyX11_ok nmX11 hown hK hP hS qw_Ai (q0 := 0) (by decide) (hgM_0 ca o) rfl 34 (by decide) wq_1027 rfl (x := 0) 34 rfl rfl rfl (Nat.le_of_ble_eq_true rfl) dX11_readsRight_52 (fun z88 H locs hz88 hP hS => ?_)
      have J88 := jM_0_34 J87 hz88
      have k88_0 : (z88 0 16).toInt = (z87 0 16).toInt := congrArg Int32.toInt (qt_off hz88 (by decide))
      have k88_1 : (z88 0 33).toInt = (z87 0 33).toInt := congrArg Int32.toInt (qt_off hz88 (by decide))
      have k88_2 : (z88 0 34).toInt = (0 : Int) := congrArg Int32.toInt (qt_at hz88)
      have k88_3 : (z88 0 19).toInt = (z87 0 19).toInt := congrArg Int32.toInt (qt_off hz88 (by decide))
      refine lv_aload_n hx hb dX11_readsRight_55 rfl (lv_at hl 1 rfl) ?_
      refine qf_get hx hb hts inX11 hown hK hP (q0 := 0) (by decide) (hgM_0 ca o) rfl 33 (by decide) wq_1026 (v := .int (z88 0 33)) rfl dX11_readsRight_56 ?_
      refine lv_topi (fun x89 e89 => ?_)
      have k89 : x89.toInt = (z88 0 33).toInt := congrArg Int32.toInt e89
      refine lv_iconst (v := (-1)) hx hb dX11_readsRight_59 (by decide) ?_
      refine lv_icmp_ne (tgt := 73) hx hb dX11_readsRight_60 (by decide) (fun c90 => ?_) (fun c90 => ?_)
      · have t90 : x89.toInt ≠ (-1 : Int) := gl_ne c90
        refine lv_aload_n hx hb dX11_readsRight_73 rfl (lv_at hl 1 rfl) ?_
        refine lv_aload_n hx hb dX11_readsRight_74 rfl (lv_at hl 1 rfl) ?_
        refine qf_get hx hb hts inX11 hown hK hP (q0 := 0) (by decide) (hgM_0 ca o) rfl 16 (by decide) wq_1009 (v := .int (z88 0 16)) rfl dX11_readsRight_75 ?_
        refine lv_topi (fun x91 e91 => ?_)
        have b91 := iM_0_16 J88 e91
        have k91 : x91.toInt = (z88 0 16).toInt := congrArg Int32.toInt e91
        refine lv_iconst (v := 1) hx hb dX11_readsRight_78 (by decide) ?_
        refine lv_iadd hx hb dX11_readsRight_79 ?_
        refine lv_topi (fun x92 e92 => ?_)
        have t92 : x92.toInt = x91.toInt + (1 : Int) := ga_add e92 rfl rfl (by omega) (by omega)
        refine qf_put2 hx hb hts inX11 tyX11 tyX11_ok nmX11 hown hK hP hS qw_Ai (q0 := 0) (by decide) (hgM_0 ca o) rfl 16 (by decide) wq_1009 rfl (x := x92) 16 rfl rfl rfl (Nat.le_of_ble_eq_true rfl) dX11_readsRight_80 (fun z93 H locs hz93 hP hS => ?_)
        have J93 := jM_0_16 J88 hz93 ⟨by omega, by omega⟩
        have k93_0 : (z93 0 16).toInt = x92.toInt := congrArg Int32.toInt (qt_at hz93)
        have k93_1 : (z93 0 33).toInt = (z88 0 33).toInt := congrArg Int32.toInt (qt_off hz93 (by decide))
        have k93_2 : (z93 0 34).toInt = (z88 0 34).toInt := congrArg Int32.toInt (qt_off hz93 (by decide))
        have k93_3 : (z93 0 19).toInt = (z88 0 19).toInt := congrArg Int32.toInt (qt_off hz93 (by decide))
        refine lv_aload_n hx hb dX11_readsRight_83 rfl (lv_at hl 1 rfl) ?_
        refine qf_get hx hb hts inX11 hown hK hP (q0 := 0) (by decide) (hgM_0 ca o) rfl 33 (by decide) wq_1026 (v := .int (z93 0 33)) rfl dX11_readsRight_84 ?_
        refine lv_topi (fun x94 e94 => ?_)
        have k94 : x94.toInt = (z93 0 33).toInt := congrArg Int32.toInt e94
        refine lv_iconst (v := 3) hx hb dX11_readsRight_87 (by decide) ?_
        refine lv_icmp_ne (tgt := 129) hx hb dX11_readsRight_88 (by decide) (fun c95 => ?_) (fun c95 => ?_)
        · have t95 : x94.toInt ≠ (3 : Int) := gl_ne c95
          refine lv_aload_n hx hb dX11_readsRight_129 rfl (lv_at hl 1 rfl) ?_
          refine qc_Vi2 (As := []) (rest := []) (k0 := 0) (m_readsSide l D ca o b z93 y J93) kc_yX11_readsSide ⟨hx, hb, hml, hown, hts⟩ wq_1225 rfl rfl ⟨Nat.le_of_ble_eq_true rfl, Nat.le_of_ble_eq_true rfl⟩ wq_all hP hK hS qw_Ai (q0 := 0) (by decide) (hgM_0 ca o _ _) rfl rfl hl.1 rfl (Nat.le_of_ble_eq_true rfl) dX11_readsRight_130 ⟨Nat.zero_le _, Nat.zero_le _⟩ (fun r96 z96 y96 H locs h96 hP hS _ _ => ?_)
          have J96 : qJM b z96 := h96.2.1
          have p96_2 : (z96 0 33).toInt = (z93 0 33).toInt := h96.2.2.1
          have p96_3 : (z96 0 34).toInt = (z93 0 34).toInt := h96.2.2.2
          have b96 : (0 : Int) ≤ r96.toInt ∧ r96.toInt ≤ 1 := h96.1
          refine lv_if_ne (tgt := 138) hx hb dX11_readsRight_133 (by decide) (fun c97 => ?_) (fun c97 => ?_)
          · have t97 : r96.toInt ≠ (0 : Int) := gl_ne c97
            refine lv_iconst (v := 0) hx hb dX11_readsRight_138 (by decide) ?_
            refine lv_istore_n (lv' := [(2, .int 0), (1, .int r1), (0, .ref (o + 0))]) hx hb dX11_readsRight_139 rfl hl (by decide) rfl (fun ls hl => ?_)
            have loop98 : ∀ (n : Nat) (w98_2 : Int32) (z98 : Nat → Nat → Int32) (y98 : Nat → Nat → Int64), ((7 - w98_2.toInt : Int) < (n : Int)) → ((0 : Int) ≤ w98_2.toInt ∧ w98_2.toInt ≤ 7) → (qJM b z98) → ((z98 0 16).toInt = (z96 0 16).toInt) → ((z98 0 33).toInt = (z96 0 33).toInt) → ((z98 0 34).toInt = (z96 0 34).toInt) → ((z98 0 19).toInt = (z96 0 19).toInt) → ∀ (H : Heap) (locs : List Loc), qw_P D vwCl o 41 (qG (GM ca o) z98 y98) H → va_S (qw_A o 41) s.heap H locs → ∀ (ls : Array Slot), lv_has ls 3 [(2, .int w98_2), (1, .int r1), (0, .ref (o + 0))] → W p l e (headSpec (Cond.code yX11_readsRight cX11_readsRight 3 (some .boolean) :: qtbl) ({ frames := 7, cells := 0, slots := 0, locals := 191 })).room s m (([.ref (o + 0)] : List Value).toArray) below meth c H locs 0 0 (MQ below (va_Qi (fun r u => ((r = 1 ∧ (0 ≤ (u.1 0 33).toInt ∧ (u.1 0 33).toInt ≤ 3 ∧ ((u.1 0 33).toInt ≠ 3 ∨ (u.1 0 34).toInt ≠ 0))) ∨ (r = 0)) ∧ qJM b u.1) (qB D vwCl (qT6 ca) o 41 (fun u : qZ => qG (GM ca o) u.1 u.2)) (qw_A o 41)) (([.ref (o + 0)] : List Value).toArray) s 0 0 (qw_A o 41)) (F0 m 140 ls []) := by
              intro n
              induction n with
              | zero => intro w98_2 z98 y98 hb98 hv98_2 J98 v98_0 v98_1 v98_2 v98_3; exfalso; omega
              | succ n98 ih98 =>
                intro w98_2 z98 y98 hb98 hv98_2 J98 v98_0 v98_1 v98_2 v98_3 H locs hP hS ls hl
                refine lv_iload_n hx hb dX11_readsRight_140 rfl (lv_at hl 0 rfl) ?_
                refine lv_bipush (v := 7) hx hb dX11_readsRight_141 (by decide) ?_
                refine lv_icmp_ge (tgt := 171) hx hb dX11_readsRight_143 (by decide) (fun c99 => ?_) (fun c99 => ?_)
                · have t99 : w98_2.toInt ≥ (7 : Int) := gl_le c99
                  refine lv_iconst (v := 1) hx hb dX11_readsRight_171 (by decide) ?_
                  exact W.zret (v := 1) (ty := .boolean) hx hb hr rfl (fun t ht hW => ⟨⟨1, (z98, y98), rfl, ⟨Or.inl ⟨rfl, (show 0 ≤ (z98 0 33).toInt ∧ (z98 0 33).toInt ≤ 3 ∧ ((z98 0 33).toInt ≠ 3 ∨ (z98 0 34).toInt ≠ 0) from by omega)⟩, J98⟩, by rw [ht]; exact hP, va_K.moved hW.alike hK⟩, hS.F ht⟩) hS.2.2 dX11_readsRight_172
                · have t99 : w98_2.toInt < (7 : Int) := gl_nle c99
                  refine lv_aload_n hx hb dX11_readsRight_146 rfl (lv_at hl 2 rfl) ?_
                  refine qf_get hx hb hts inX11 hown hK hP (q0 := 0) (by decide) (hgM_0 ca o) rfl 32 (by decide) wq_1025 (v := .ref (o + 22)) rfl dX11_readsRight_147 ?_
                  refine lv_iload_n hx hb dX11_readsRight_150 rfl (lv_at hl 0 rfl) ?_
                  refine lv_aload_n hx hb dX11_readsRight_151 rfl (lv_at hl 2 rfl) ?_
                  refine qf_get hx hb hts inX11 hown hK hP (q0 := 0) (by decide) (hgM_0 ca o) rfl 32 (by decide) wq_1025 (v := .ref (o + 22)) rfl dX11_readsRight_152 ?_
                  refine lv_iload_n hx hb dX11_readsRight_155 rfl (lv_at hl 0 rfl) ?_
                  refine qa_iald hx hb hK hP (q0 := 22) (by decide) 0 (N := 7) (hgM_22 ca o) rfl (gi_in (by omega) (by omega)) dX11_readsRight_156 ?_
                  refine lv_topi (fun x100 e100 => ?_)
                  refine lv_aload_n hx hb dX11_readsRight_157 rfl (lv_at hl 2 rfl) ?_
                  refine qf_get hx hb hts inX11 hown hK hP (q0 := 0) (by decide) (hgM_0 ca o) rfl 20 (by decide) wq_1013 (v := .ref (o + 13)) rfl dX11_readsRight_158 ?_
                  refine lv_iload_n hx hb dX11_readsRight_161 rfl (lv_at hl 0 rfl) ?_
                  refine qa_iald hx hb hK hP (q0 := 13) (by decide) 0 (N := 49) (hgM_13 ca o) rfl (gi_in (by omega) (by omega)) dX11_readsRight_162 ?_
                  refine lv_topi (fun x101 e101 => ?_)
                  refine lv_isub hx hb dX11_readsRight_163 ?_
                  refine lv_topi (fun x102 e102 => ?_)
                  refine qa_iast2 hx hb hK hP hS qw_Ai (q0 := 22) (by decide) 0 (N := 7) (hgM_22 ca o) rfl (i := w98_2) (x := x102) (gi_in (by omega) (by omega)) dX11_readsRight_164 (fun z103 H locs hz103 hP hS => ?_)
                  have J103 := jM_22 J98 hz103
                  have k103_0 : (z103 0 16).toInt = (z98 0 16).toInt := congrArg Int32.toInt (qt_ne hz103 16 (by decide))
                  have k103_1 : (z103 0 33).toInt = (z98 0 33).toInt := congrArg Int32.toInt (qt_ne hz103 33 (by decide))
                  have k103_2 : (z103 0 34).toInt = (z98 0 34).toInt := congrArg Int32.toInt (qt_ne hz103 34 (by decide))
                  have k103_3 : (z103 0 19).toInt = (z98 0 19).toInt := congrArg Int32.toInt (qt_ne hz103 19 (by decide))
                  obtain ⟨x104, e104⟩ : ∃ t : Int32, t = w98_2 + 1 := ⟨_, rfl⟩
                  refine lv_iinc (v := x104) (lv' := [(2, .int x104), (1, .int r1), (0, .ref (o + 0))]) hx hb dX11_readsRight_165 hl (k := 0) rfl (by rw [e104]; rfl) (by decide) rfl (fun ls hl => ?_)
                  have t104 : x104.toInt = w98_2.toInt + (1 : Int) := ga_add e104 rfl rfl (by omega) (by omega)
                  refine lv_goto (tgt := 140) hx hb dX11_readsRight_168 (by decide) ?_
                  exact ih98 x104 z103 y98 (show (7 - x104.toInt : Int) < (n98 : Int) from by omega) ⟨by omega, by omega⟩ J103 (show (z103 0 16).toInt = (z96 0 16).toInt from by omega) (show (z103 0 33).toInt = (z96 0 33).toInt from by omega) (show (z103 0 34).toInt = (z96 0 34).toInt from by omega) (show (z103 0 19).toInt = (z96 0 19).toInt from by omega) _ _ hP hS _ (lv_sub hl [0, 1, 2] rfl)
            exact loop98 8 0 z96 y96 (show (7 - (0 : Int) : Int) < ((8 : Nat) : Int) from by omega) ⟨by decide, by decide⟩ J96 (show (z96 0 16).toInt = (z96 0 16).toInt from by omega) (show (z96 0 33).toInt = (z96 0 33).toInt from by omega) (show (z96 0 34).toInt = (z96 0 34).toInt from by omega) (show (z96 0 19).toInt = (z96 0 19).toInt from by omega) _ _ hP hS _ (lv_sub hl [0, 1, 2] rfl)
          · have t97 : r96.toInt = (0 : Int) := gl_eq c97
            refine lv_iconst (v := 0) hx hb dX11_readsRight_136 (by decide) ?_
            exact W.zret (v := 0) (ty := .boolean) hx hb hr rfl (fun t ht hW => ⟨⟨0, (z96, y96), rfl, ⟨Or.inr rfl, J96⟩, by rw [ht]; exact hP, va_K.moved hW.alike hK⟩, hS.F ht⟩) hS.2.2 dX11_readsRight_137
        · have t95 : x94.toInt = (3 : Int) := gl_eq c95
          refine lv_aload_n hx hb dX11_readsRight_91 rfl (lv_at hl 1 rfl) ?_
          refine qf_get hx hb hts inX11 hown hK hP (q0 := 0) (by decide) (hgM_0 ca o) rfl 16 (by decide) wq_1009 (v := .int (z93 0 16)) rfl dX11_readsRight_92 ?_
          refine lv_topi (fun x105 e105 => ?_)
          have b105 := iM_0_16 J93 e105
          have k105 : x105.toInt = (z93 0 16).toInt := congrArg Int32.toInt e105
          refine lv_istore_n (lv' := [(2, .int x105), (1, .int r1), (0, .ref (o + 0))]) hx hb dX11_readsRight_95 rfl hl (by decide) rfl (fun ls hl => ?_)
          refine lv_aload_n hx hb dX11_readsRight_96 rfl (lv_at hl 2 rfl) ?_
          refine qc_Vi2 (As := []) (rest := []) (k0 := 0) (m_readsNumber l D ca o b z93 y J93) kc_yX11_readsNumber ⟨hx, hb, hml, hown, hts⟩ wq_1265 rfl rfl ⟨Nat.le_of_ble_eq_true rfl, Nat.le_of_ble_eq_true rfl⟩ wq_all hP hK hS qw_Ai (q0 := 0) (by decide) (hgM_0 ca o _ _) rfl rfl hl.1 rfl (Nat.le_of_ble_eq_true rfl) dX11_readsRight_97 ⟨Nat.zero_le _, Nat.zero_le _⟩ (fun r106 z106 y106 H locs h106 hP hS _ _ => ?_)
          have J106 : qJM b z106 := h106.2.1
          have p106_2 : (z106 0 29).toInt = (z93 0 29).toInt := h106.2.2.1
          have p106_3 : (z106 0 33).toInt = (z93 0 33).toInt := h106.2.2.2.1
          have p106_4 : (z106 0 34).toInt = (z93 0 34).toInt := h106.2.2.2.2
          rcases h106.1 with ⟨hr106, hf106_0⟩ | hr106
          · subst hr106
            have hg106_0 : (z106 0 16).toInt ≥ (z93 0 16).toInt + 1 := hf106_0
            refine lv_if_ne (tgt := 105) hx hb dX11_readsRight_100 (by decide) (fun _ => ?_) (fun q => absurd q (by decide))
            refine lv_aload_n hx hb dX11_readsRight_105 rfl (lv_at hl 2 rfl) ?_
            refine qf_get hx hb hts inX11 hown hK hP (q0 := 0) (by decide) (hgM_0 ca o) rfl 19 (by decide) wq_1012 (v := .int (z106 0 19)) rfl dX11_readsRight_106 ?_
            refine lv_topi (fun x107 e107 => ?_)
            have k107 : x107.toInt = (z106 0 19).toInt := congrArg Int32.toInt e107
            refine lv_if_ne (tgt := 119) hx hb dX11_readsRight_109 (by decide) (fun c108 => ?_) (fun c108 => ?_)
            · have t108 : x107.toInt ≠ (0 : Int) := gl_ne c108
              refine lv_aload_n hx hb dX11_readsRight_119 rfl (lv_at hl 2 rfl) ?_
              refine lv_aload_n hx hb dX11_readsRight_120 rfl (lv_at hl 2 rfl) ?_
              refine qf_get hx hb hts inX11 hown hK hP (q0 := 0) (by decide) (hgM_0 ca o) rfl 19 (by decide) wq_1012 (v := .int (z106 0 19)) rfl dX11_readsRight_121 ?_
              refine lv_topi (fun x109 e109 => ?_)
              have k109 : x109.toInt = (z106 0 19).toInt := congrArg Int32.toInt e109
              have ag109 : x109.toInt = x107.toInt := congrArg Int32.toInt (e109.trans e107.symm)
              refine qf_put2 hx hb hts inX11 tyX11 tyX11_ok nmX11 hown hK hP hS qw_Ai (q0 := 0) (by decide) (hgM_0 ca o) rfl 34 (by decide) wq_1027 rfl (x := x109) 34 rfl rfl rfl (Nat.le_of_ble_eq_true rfl) dX11_readsRight_124 (fun z110 H locs hz110 hP hS => ?_)
              have J110 := jM_0_34 J106 hz110
              have k110_0 : (z110 0 16).toInt = (z106 0 16).toInt := congrArg Int32.toInt (qt_off hz110 (by decide))
              have k110_1 : (z110 0 33).toInt = (z106 0 33).toInt := congrArg Int32.toInt (qt_off hz110 (by decide))
              have k110_2 : (z110 0 34).toInt = x109.toInt := congrArg Int32.toInt (qt_at hz110)
              have k110_3 : (z110 0 19).toInt = (z106 0 19).toInt := congrArg Int32.toInt (qt_off hz110 (by decide))
              refine lv_iconst (v := 1) hx hb dX11_readsRight_127 (by decide) ?_
              exact W.zret (v := 1) (ty := .boolean) hx hb hr rfl (fun t ht hW => ⟨⟨1, (z110, y106), rfl, ⟨Or.inl ⟨rfl, (show 0 ≤ (z110 0 33).toInt ∧ (z110 0 33).toInt ≤ 3 ∧ ((z110 0 33).toInt ≠ 3 ∨ (z110 0 34).toInt ≠ 0) from by omega)⟩, J110⟩, by rw [ht]; exact hP, va_K.moved hW.alike hK⟩, hS.F ht⟩) hS.2.2 dX11_readsRight_128
            · have t108 : x107.toInt = (0 : Int) := gl_eq c108
              refine lv_aload_n hx hb dX11_readsRight_112 rfl (lv_at hl 2 rfl) ?_
              refine lv_iconst (v := 3) hx hb dX11_readsRight_113 (by decide) ?_
              refine lv_iload_n hx hb dX11_readsRight_114 rfl (lv_at hl 0 rfl) ?_
              refine qc_Vi2 (As := [.int 3, .int x105]) (rest := []) (k0 := 2) (m_wrongAt l D ca o b z106 y106 J106 3 x105) kc_yX11_wrongAt ⟨hx, hb, hml, hown, hts⟩ wq_1249 rfl rfl ⟨Nat.le_of_ble_eq_true rfl, Nat.le_of_ble_eq_true rfl⟩ wq_all hP hK hS qw_Ai (q0 := 0) (by decide) (hgM_0 ca o _ _) rfl rfl hl.1 rfl (Nat.le_of_ble_eq_true rfl) dX11_readsRight_115 ⟨Nat.zero_le _, Nat.zero_le _⟩ (fun r111 z111 y111 H locs h111 hP hS _ _ => ?_)
              have J111 : qJM b z111 := h111.2.1
              have p111_5 : (z111 0 16).toInt = (z106 0 16).toInt := h111.2.2.2.2.2.1
              have p111_6 : (z111 0 29).toInt = (z106 0 29).toInt := h111.2.2.2.2.2.2.1
              have p111_7 : (z111 0 19).toInt = (z106 0 19).toInt := h111.2.2.2.2.2.2.2.1
              have p111_8 : (z111 0 33).toInt = (z106 0 33).toInt := h111.2.2.2.2.2.2.2.2.1
              have p111_9 : (z111 0 34).toInt = (z106 0 34).toInt := h111.2.2.2.2.2.2.2.2.2
              have b111 : (0 : Int) ≤ r111.toInt ∧ r111.toInt ≤ 0 := h111.1
              obtain rfl : r111 = 0 := lit_eq (k := 0) (K := 0) rfl (by omega) (by omega)
              exact W.zret (v := 0) (ty := .boolean) hx hb hr rfl (fun t ht hW => ⟨⟨0, (z111, y111), rfl, ⟨Or.inr rfl, J111⟩, by rw [ht]; exact hP, va_K.moved hW.alike hK⟩, hS.F ht⟩) hS.2.2 dX11_readsRight_118
          · subst hr106
            refine lv_if_ne (tgt := 105) hx hb dX11_readsRight_100 (by decide) (fun q => absurd q (by decide)) (fun _ => ?_)
            refine lv_iconst (v := 0) hx hb dX11_readsRight_103 (by decide) ?_
            exact W.zret (v := 0) (ty := .boolean) hx hb hr rfl (fun t ht hW => ⟨⟨0, (z106, y106), rfl, ⟨Or.inr rfl, J106⟩, by rw [ht]; exact hP, va_K.moved hW.alike hK⟩, hS.F ht⟩) hS.2.2 dX11_readsRight_104
      · have t90 : x89.toInt = (-1 : Int) := gl_eq c90
        refine lv_aload_n hx hb dX11_readsRight_63 rfl (lv_at hl 1 rfl) ?_
        refine lv_iconst (v := 1) hx hb dX11_readsRight_64 (by decide) ?_
        refine lv_aload_n hx hb dX11_readsRight_65 rfl (lv_at hl 1 rfl) ?_
        refine qf_get hx hb hts inX11 hown hK hP (q0 := 0) (by decide) (hgM_0 ca o) rfl 16 (by decide) wq_1009 (v := .int (z88 0 16)) rfl dX11_readsRight_66 ?_
        refine lv_topi (fun x112 e112 => ?_)
        have b112 := iM_0_16 J88 e112
        have k112 : x112.toInt = (z88 0 16).toInt := congrArg Int32.toInt e112
        refine qc_Vi2 (As := [.int 1, .int x112]) (rest := []) (k0 := 2) (m_wrongAt l D ca o b z88 y J88 1 x112) kc_yX11_wrongAt ⟨hx, hb, hml, hown, hts⟩ wq_1249 rfl rfl ⟨Nat.le_of_ble_eq_true rfl, Nat.le_of_ble_eq_true rfl⟩ wq_all hP hK hS qw_Ai (q0 := 0) (by decide) (hgM_0 ca o _ _) rfl rfl hl.1 rfl (Nat.le_of_ble_eq_true rfl) dX11_readsRight_69 ⟨Nat.zero_le _, Nat.zero_le _⟩ (fun r113 z113 y113 H locs h113 hP hS _ _ => ?_)
        have J113 : qJM b z113 := h113.2.1
        have p113_5 : (z113 0 16).toInt = (z88 0 16).toInt := h113.2.2.2.2.2.1
        have p113_6 : (z113 0 29).toInt = (z88 0 29).toInt := h113.2.2.2.2.2.2.1
        have p113_7 : (z113 0 19).toInt = (z88 0 19).toInt := h113.2.2.2.2.2.2.2.1
        have p113_8 : (z113 0 33).toInt = (z88 0 33).toInt := h113.2.2.2.2.2.2.2.2.1
        have p113_9 : (z113 0 34).toInt = (z88 0 34).toInt := h113.2.2.2.2.2.2.2.2.2
        have b113 : (0 : Int) ≤ r113.toInt ∧ r113.toInt ≤ 0 := h113.1
        obtain rfl : r113 = 0 := lit_eq (k := 0) (K := 0) rfl (by omega) (by omega)
        exact W.zret (v := 0) (ty := .boolean) hx hb hr rfl (fun t ht hW => ⟨⟨0, (z113, y113), rfl, ⟨Or.inr rfl, J113⟩, by rw [ht]; exact hP, va_K.moved hW.alike hK⟩, hS.F ht⟩) hS.2.2 dX11_readsRight_72
  · have t2 : r1.toInt = (61 : Int) := gl_eq c2
    refine lv_iconst (v := 0) hx hb dX11_readsRight_12 (by decide) ?_
    refine lv_goto (tgt := 47) hx hb dX11_readsRight_13 (by decide) ?_
    refine qf_put2 hx hb hts inX11 tyX11 tyX11_ok nmX11 hown hK hP hS qw_Ai (q0 := 0) (by decide) (hgM_0 ca o) rfl 33 (by decide) wq_1026 rfl (x := 0) 33 rfl rfl rfl (Nat.le_of_ble_eq_true rfl) dX11_readsRight_47 (fun z114 H locs hz114 hP hS => ?_)
    have J114 := jM_0_33 J0 hz114
    have k114_0 : (z114 0 16).toInt = (z 0 16).toInt := congrArg Int32.toInt (qt_off hz114 (by decide))
    have k114_1 : (z114 0 33).toInt = (0 : Int) := congrArg Int32.toInt (qt_at hz114)
    have k114_2 : (z114 0 34).toInt = (z 0 34).toInt := congrArg Int32.toInt (qt_off hz114 (by decide))
    have k114_3 : (z114 0 19).toInt = (z 0 19).toInt := congrArg Int32.toInt (qt_off hz114 (by decide))
    refine lv_aload_n hx hb dX11_readsRight_50 rfl (lv_at hl 1 rfl) ?_
    refine lv_iconst (v := 0) hx hb dX11_readsRight_51 (by decide) ?_
    refine qf_put2 hx hb hts inX11 tyX11 tyX11_ok nmX11 hown hK hP hS qw_Ai (q0 := 0) (by decide) (hgM_0 ca o) rfl 34 (by decide) wq_1027 rfl (x := 0) 34 rfl rfl rfl (Nat.le_of_ble_eq_true rfl) dX11_readsRight_52 (fun z115 H locs hz115 hP hS => ?_)
    have J115 := jM_0_34 J114 hz115
    have k115_0 : (z115 0 16).toInt = (z114 0 16).toInt := congrArg Int32.toInt (qt_off hz115 (by decide))
    have k115_1 : (z115 0 33).toInt = (z114 0 33).toInt := congrArg Int32.toInt (qt_off hz115 (by decide))
    have k115_2 : (z115 0 34).toInt = (0 : Int) := congrArg Int32.toInt (qt_at hz115)
    have k115_3 : (z115 0 19).toInt = (z114 0 19).toInt := congrArg Int32.toInt (qt_off hz115 (by decide))
    refine lv_aload_n hx hb dX11_readsRight_55 rfl (lv_at hl 1 rfl) ?_
    refine qf_get hx hb hts inX11 hown hK hP (q0 := 0) (by decide) (hgM_0 ca o) rfl 33 (by decide) wq_1026 (v := .int (z115 0 33)) rfl dX11_readsRight_56 ?_
    refine lv_topi (fun x116 e116 => ?_)
    have k116 : x116.toInt = (z115 0 33).toInt := congrArg Int32.toInt e116
    refine lv_iconst (v := (-1)) hx hb dX11_readsRight_59 (by decide) ?_
    refine lv_icmp_ne (tgt := 73) hx hb dX11_readsRight_60 (by decide) (fun c117 => ?_) (fun c117 => ?_)
    · have t117 : x116.toInt ≠ (-1 : Int) := gl_ne c117
      refine lv_aload_n hx hb dX11_readsRight_73 rfl (lv_at hl 1 rfl) ?_
      refine lv_aload_n hx hb dX11_readsRight_74 rfl (lv_at hl 1 rfl) ?_
      refine qf_get hx hb hts inX11 hown hK hP (q0 := 0) (by decide) (hgM_0 ca o) rfl 16 (by decide) wq_1009 (v := .int (z115 0 16)) rfl dX11_readsRight_75 ?_
      refine lv_topi (fun x118 e118 => ?_)
      have b118 := iM_0_16 J115 e118
      have k118 : x118.toInt = (z115 0 16).toInt := congrArg Int32.toInt e118
      refine lv_iconst (v := 1) hx hb dX11_readsRight_78 (by decide) ?_
      refine lv_iadd hx hb dX11_readsRight_79 ?_
      refine lv_topi (fun x119 e119 => ?_)
      have t119 : x119.toInt = x118.toInt + (1 : Int) := ga_add e119 rfl rfl (by omega) (by omega)
      refine qf_put2 hx hb hts inX11 tyX11 tyX11_ok nmX11 hown hK hP hS qw_Ai (q0 := 0) (by decide) (hgM_0 ca o) rfl 16 (by decide) wq_1009 rfl (x := x119) 16 rfl rfl rfl (Nat.le_of_ble_eq_true rfl) dX11_readsRight_80 (fun z120 H locs hz120 hP hS => ?_)
      have J120 := jM_0_16 J115 hz120 ⟨by omega, by omega⟩
      have k120_0 : (z120 0 16).toInt = x119.toInt := congrArg Int32.toInt (qt_at hz120)
      have k120_1 : (z120 0 33).toInt = (z115 0 33).toInt := congrArg Int32.toInt (qt_off hz120 (by decide))
      have k120_2 : (z120 0 34).toInt = (z115 0 34).toInt := congrArg Int32.toInt (qt_off hz120 (by decide))
      have k120_3 : (z120 0 19).toInt = (z115 0 19).toInt := congrArg Int32.toInt (qt_off hz120 (by decide))
      refine lv_aload_n hx hb dX11_readsRight_83 rfl (lv_at hl 1 rfl) ?_
      refine qf_get hx hb hts inX11 hown hK hP (q0 := 0) (by decide) (hgM_0 ca o) rfl 33 (by decide) wq_1026 (v := .int (z120 0 33)) rfl dX11_readsRight_84 ?_
      refine lv_topi (fun x121 e121 => ?_)
      have k121 : x121.toInt = (z120 0 33).toInt := congrArg Int32.toInt e121
      refine lv_iconst (v := 3) hx hb dX11_readsRight_87 (by decide) ?_
      refine lv_icmp_ne (tgt := 129) hx hb dX11_readsRight_88 (by decide) (fun c122 => ?_) (fun c122 => ?_)
      · have t122 : x121.toInt ≠ (3 : Int) := gl_ne c122
        refine lv_aload_n hx hb dX11_readsRight_129 rfl (lv_at hl 1 rfl) ?_
        refine qc_Vi2 (As := []) (rest := []) (k0 := 0) (m_readsSide l D ca o b z120 y J120) kc_yX11_readsSide ⟨hx, hb, hml, hown, hts⟩ wq_1225 rfl rfl ⟨Nat.le_of_ble_eq_true rfl, Nat.le_of_ble_eq_true rfl⟩ wq_all hP hK hS qw_Ai (q0 := 0) (by decide) (hgM_0 ca o _ _) rfl rfl hl.1 rfl (Nat.le_of_ble_eq_true rfl) dX11_readsRight_130 ⟨Nat.zero_le _, Nat.zero_le _⟩ (fun r123 z123 y123 H locs h123 hP hS _ _ => ?_)
        have J123 : qJM b z123 := h123.2.1
        have p123_2 : (z123 0 33).toInt = (z120 0 33).toInt := h123.2.2.1
        have p123_3 : (z123 0 34).toInt = (z120 0 34).toInt := h123.2.2.2
        have b123 : (0 : Int) ≤ r123.toInt ∧ r123.toInt ≤ 1 := h123.1
        refine lv_if_ne (tgt := 138) hx hb dX11_readsRight_133 (by decide) (fun c124 => ?_) (fun c124 => ?_)
        · have t124 : r123.toInt ≠ (0 : Int) := gl_ne c124
          refine lv_iconst (v := 0) hx hb dX11_readsRight_138 (by decide) ?_
          refine lv_istore_n (lv' := [(2, .int 0), (1, .int r1), (0, .ref (o + 0))]) hx hb dX11_readsRight_139 rfl hl (by decide) rfl (fun ls hl => ?_)
          have loop125 : ∀ (n : Nat) (w125_2 : Int32) (z125 : Nat → Nat → Int32) (y125 : Nat → Nat → Int64), ((7 - w125_2.toInt : Int) < (n : Int)) → ((0 : Int) ≤ w125_2.toInt ∧ w125_2.toInt ≤ 7) → (qJM b z125) → ((z125 0 16).toInt = (z123 0 16).toInt) → ((z125 0 33).toInt = (z123 0 33).toInt) → ((z125 0 34).toInt = (z123 0 34).toInt) → ((z125 0 19).toInt = (z123 0 19).toInt) → ∀ (H : Heap) (locs : List Loc), qw_P D vwCl o 41 (qG (GM ca o) z125 y125) H → va_S (qw_A o 41) s.heap H locs → ∀ (ls : Array Slot), lv_has ls 3 [(2, .int w125_2), (1, .int r1), (0, .ref (o + 0))] → W p l e (headSpec (Cond.code yX11_readsRight cX11_readsRight 3 (some .boolean) :: qtbl) ({ frames := 7, cells := 0, slots := 0, locals := 191 })).room s m (([.ref (o + 0)] : List Value).toArray) below meth c H locs 0 0 (MQ below (va_Qi (fun r u => ((r = 1 ∧ (0 ≤ (u.1 0 33).toInt ∧ (u.1 0 33).toInt ≤ 3 ∧ ((u.1 0 33).toInt ≠ 3 ∨ (u.1 0 34).toInt ≠ 0))) ∨ (r = 0)) ∧ qJM b u.1) (qB D vwCl (qT6 ca) o 41 (fun u : qZ => qG (GM ca o) u.1 u.2)) (qw_A o 41)) (([.ref (o + 0)] : List Value).toArray) s 0 0 (qw_A o 41)) (F0 m 140 ls []) := by
            intro n
            induction n with
            | zero => intro w125_2 z125 y125 hb125 hv125_2 J125 v125_0 v125_1 v125_2 v125_3; exfalso; omega
            | succ n125 ih125 =>
              intro w125_2 z125 y125 hb125 hv125_2 J125 v125_0 v125_1 v125_2 v125_3 H locs hP hS ls hl
              refine lv_iload_n hx hb dX11_readsRight_140 rfl (lv_at hl 0 rfl) ?_
              refine lv_bipush (v := 7) hx hb dX11_readsRight_141 (by decide) ?_
              refine lv_icmp_ge (tgt := 171) hx hb dX11_readsRight_143 (by decide) (fun c126 => ?_) (fun c126 => ?_)
              · have t126 : w125_2.toInt ≥ (7 : Int) := gl_le c126
                refine lv_iconst (v := 1) hx hb dX11_readsRight_171 (by decide) ?_
                exact W.zret (v := 1) (ty := .boolean) hx hb hr rfl (fun t ht hW => ⟨⟨1, (z125, y125), rfl, ⟨Or.inl ⟨rfl, (show 0 ≤ (z125 0 33).toInt ∧ (z125 0 33).toInt ≤ 3 ∧ ((z125 0 33).toInt ≠ 3 ∨ (z125 0 34).toInt ≠ 0) from by omega)⟩, J125⟩, by rw [ht]; exact hP, va_K.moved hW.alike hK⟩, hS.F ht⟩) hS.2.2 dX11_readsRight_172
              · have t126 : w125_2.toInt < (7 : Int) := gl_nle c126
                refine lv_aload_n hx hb dX11_readsRight_146 rfl (lv_at hl 2 rfl) ?_
                refine qf_get hx hb hts inX11 hown hK hP (q0 := 0) (by decide) (hgM_0 ca o) rfl 32 (by decide) wq_1025 (v := .ref (o + 22)) rfl dX11_readsRight_147 ?_
                refine lv_iload_n hx hb dX11_readsRight_150 rfl (lv_at hl 0 rfl) ?_
                refine lv_aload_n hx hb dX11_readsRight_151 rfl (lv_at hl 2 rfl) ?_
                refine qf_get hx hb hts inX11 hown hK hP (q0 := 0) (by decide) (hgM_0 ca o) rfl 32 (by decide) wq_1025 (v := .ref (o + 22)) rfl dX11_readsRight_152 ?_
                refine lv_iload_n hx hb dX11_readsRight_155 rfl (lv_at hl 0 rfl) ?_
                refine qa_iald hx hb hK hP (q0 := 22) (by decide) 0 (N := 7) (hgM_22 ca o) rfl (gi_in (by omega) (by omega)) dX11_readsRight_156 ?_
                refine lv_topi (fun x127 e127 => ?_)
                refine lv_aload_n hx hb dX11_readsRight_157 rfl (lv_at hl 2 rfl) ?_
                refine qf_get hx hb hts inX11 hown hK hP (q0 := 0) (by decide) (hgM_0 ca o) rfl 20 (by decide) wq_1013 (v := .ref (o + 13)) rfl dX11_readsRight_158 ?_
                refine lv_iload_n hx hb dX11_readsRight_161 rfl (lv_at hl 0 rfl) ?_
                refine qa_iald hx hb hK hP (q0 := 13) (by decide) 0 (N := 49) (hgM_13 ca o) rfl (gi_in (by omega) (by omega)) dX11_readsRight_162 ?_
                refine lv_topi (fun x128 e128 => ?_)
                refine lv_isub hx hb dX11_readsRight_163 ?_
                refine lv_topi (fun x129 e129 => ?_)
                refine qa_iast2 hx hb hK hP hS qw_Ai (q0 := 22) (by decide) 0 (N := 7) (hgM_22 ca o) rfl (i := w125_2) (x := x129) (gi_in (by omega) (by omega)) dX11_readsRight_164 (fun z130 H locs hz130 hP hS => ?_)
                have J130 := jM_22 J125 hz130
                have k130_0 : (z130 0 16).toInt = (z125 0 16).toInt := congrArg Int32.toInt (qt_ne hz130 16 (by decide))
                have k130_1 : (z130 0 33).toInt = (z125 0 33).toInt := congrArg Int32.toInt (qt_ne hz130 33 (by decide))
                have k130_2 : (z130 0 34).toInt = (z125 0 34).toInt := congrArg Int32.toInt (qt_ne hz130 34 (by decide))
                have k130_3 : (z130 0 19).toInt = (z125 0 19).toInt := congrArg Int32.toInt (qt_ne hz130 19 (by decide))
                obtain ⟨x131, e131⟩ : ∃ t : Int32, t = w125_2 + 1 := ⟨_, rfl⟩
                refine lv_iinc (v := x131) (lv' := [(2, .int x131), (1, .int r1), (0, .ref (o + 0))]) hx hb dX11_readsRight_165 hl (k := 0) rfl (by rw [e131]; rfl) (by decide) rfl (fun ls hl => ?_)
                have t131 : x131.toInt = w125_2.toInt + (1 : Int) := ga_add e131 rfl rfl (by omega) (by omega)
                refine lv_goto (tgt := 140) hx hb dX11_readsRight_168 (by decide) ?_
                exact ih125 x131 z130 y125 (show (7 - x131.toInt : Int) < (n125 : Int) from by omega) ⟨by omega, by omega⟩ J130 (show (z130 0 16).toInt = (z123 0 16).toInt from by omega) (show (z130 0 33).toInt = (z123 0 33).toInt from by omega) (show (z130 0 34).toInt = (z123 0 34).toInt from by omega) (show (z130 0 19).toInt = (z123 0 19).toInt from by omega) _ _ hP hS _ (lv_sub hl [0, 1, 2] rfl)
          exact loop125 8 0 z123 y123 (show (7 - (0 : Int) : Int) < ((8 : Nat) : Int) from by omega) ⟨by decide, by decide⟩ J123 (show (z123 0 16).toInt = (z123 0 16).toInt from by omega) (show (z123 0 33).toInt = (z123 0 33).toInt from by omega) (show (z123 0 34).toInt = (z123 0 34).toInt from by omega) (show (z123 0 19).toInt = (z123 0 19).toInt from by omega) _ _ hP hS _ (lv_sub hl [0, 1, 2] rfl)
        · have t124 : r123.toInt = (0 : Int) := gl_eq c124
          refine lv_iconst (v := 0) hx hb dX11_readsRight_136 (by decide) ?_
          exact W.zret (v := 0) (ty := .boolean) hx hb hr rfl (fun t ht hW => ⟨⟨0, (z123, y123), rfl, ⟨Or.inr rfl, J123⟩, by rw [ht]; exact hP, va_K.moved hW.alike hK⟩, hS.F ht⟩) hS.2.2 dX11_readsRight_137
      · have t122 : x121.toInt = (3 : Int) := gl_eq c122
        refine lv_aload_n hx hb dX11_readsRight_91 rfl (lv_at hl 1 rfl) ?_
        refine qf_get hx hb hts inX11 hown hK hP (q0 := 0) (by decide) (hgM_0 ca o) rfl 16 (by decide) wq_1009 (v := .int (z120 0 16)) rfl dX11_readsRight_92 ?_
        refine lv_topi (fun x132 e132 => ?_)
        have b132 := iM_0_16 J120 e132
        have k132 : x132.toInt = (z120 0 16).toInt := congrArg Int32.toInt e132
        refine lv_istore_n (lv' := [(2, .int x132), (1, .int r1), (0, .ref (o + 0))]) hx hb dX11_readsRight_95 rfl hl (by decide) rfl (fun ls hl => ?_)
        refine lv_aload_n hx hb dX11_readsRight_96 rfl (lv_at hl 2 rfl) ?_
        refine qc_Vi2 (As := []) (rest := []) (k0 := 0) (m_readsNumber l D ca o b z120 y J120) kc_yX11_readsNumber ⟨hx, hb, hml, hown, hts⟩ wq_1265 rfl rfl ⟨Nat.le_of_ble_eq_true rfl, Nat.le_of_ble_eq_true rfl⟩ wq_all hP hK hS qw_Ai (q0 := 0) (by decide) (hgM_0 ca o _ _) rfl rfl hl.1 rfl (Nat.le_of_ble_eq_true rfl) dX11_readsRight_97 ⟨Nat.zero_le _, Nat.zero_le _⟩ (fun r133 z133 y133 H locs h133 hP hS _ _ => ?_)
        have J133 : qJM b z133 := h133.2.1
        have p133_2 : (z133 0 29).toInt = (z120 0 29).toInt := h133.2.2.1
        have p133_3 : (z133 0 33).toInt = (z120 0 33).toInt := h133.2.2.2.1
        have p133_4 : (z133 0 34).toInt = (z120 0 34).toInt := h133.2.2.2.2
        rcases h133.1 with ⟨hr133, hf133_0⟩ | hr133
        · subst hr133
          have hg133_0 : (z133 0 16).toInt ≥ (z120 0 16).toInt + 1 := hf133_0
          refine lv_if_ne (tgt := 105) hx hb dX11_readsRight_100 (by decide) (fun _ => ?_) (fun q => absurd q (by decide))
          refine lv_aload_n hx hb dX11_readsRight_105 rfl (lv_at hl 2 rfl) ?_
          refine qf_get hx hb hts inX11 hown hK hP (q0 := 0) (by decide) (hgM_0 ca o) rfl 19 (by decide) wq_1012 (v := .int (z133 0 19)) rfl dX11_readsRight_106 ?_
          refine lv_topi (fun x134 e134 => ?_)
          have k134 : x134.toInt = (z133 0 19).toInt := congrArg Int32.toInt e134
          refine lv_if_ne (tgt := 119) hx hb dX11_readsRight_109 (by decide) (fun c135 => ?_) (fun c135 => ?_)
          · have t135 : x134.toInt ≠ (0 : Int) := gl_ne c135
            refine lv_aload_n hx hb dX11_readsRight_119 rfl (lv_at hl 2 rfl) ?_
            refine lv_aload_n hx hb dX11_readsRight_120 rfl (lv_at hl 2 rfl) ?_
            refine qf_get hx hb hts inX11 hown hK hP (q0 := 0) (by decide) (hgM_0 ca o) rfl 19 (by decide) wq_1012 (v := .int (z133 0 19)) rfl dX11_readsRight_121 ?_
            refine lv_topi (fun x136 e136 => ?_)
            have k136 : x136.toInt = (z133 0 19).toInt := congrArg Int32.toInt e136
            have ag136 : x136.toInt = x134.toInt := congrArg Int32.toInt (e136.trans e134.symm)
            refine qf_put2 hx hb hts inX11 tyX11 tyX11_ok nmX11 hown hK hP hS qw_Ai (q0 := 0) (by decide) (hgM_0 ca o) rfl 34 (by decide) wq_1027 rfl (x := x136) 34 rfl rfl rfl (Nat.le_of_ble_eq_true rfl) dX11_readsRight_124 (fun z137 H locs hz137 hP hS => ?_)
            have J137 := jM_0_34 J133 hz137
            have k137_0 : (z137 0 16).toInt = (z133 0 16).toInt := congrArg Int32.toInt (qt_off hz137 (by decide))
            have k137_1 : (z137 0 33).toInt = (z133 0 33).toInt := congrArg Int32.toInt (qt_off hz137 (by decide))
            have k137_2 : (z137 0 34).toInt = x136.toInt := congrArg Int32.toInt (qt_at hz137)
            have k137_3 : (z137 0 19).toInt = (z133 0 19).toInt := congrArg Int32.toInt (qt_off hz137 (by decide))
            refine lv_iconst (v := 1) hx hb dX11_readsRight_127 (by decide) ?_
            exact W.zret (v := 1) (ty := .boolean) hx hb hr rfl (fun t ht hW => ⟨⟨1, (z137, y133), rfl, ⟨Or.inl ⟨rfl, (show 0 ≤ (z137 0 33).toInt ∧ (z137 0 33).toInt ≤ 3 ∧ ((z137 0 33).toInt ≠ 3 ∨ (z137 0 34).toInt ≠ 0) from by omega)⟩, J137⟩, by rw [ht]; exact hP, va_K.moved hW.alike hK⟩, hS.F ht⟩) hS.2.2 dX11_readsRight_128
          · have t135 : x134.toInt = (0 : Int) := gl_eq c135
            refine lv_aload_n hx hb dX11_readsRight_112 rfl (lv_at hl 2 rfl) ?_
            refine lv_iconst (v := 3) hx hb dX11_readsRight_113 (by decide) ?_
            refine lv_iload_n hx hb dX11_readsRight_114 rfl (lv_at hl 0 rfl) ?_
            refine qc_Vi2 (As := [.int 3, .int x132]) (rest := []) (k0 := 2) (m_wrongAt l D ca o b z133 y133 J133 3 x132) kc_yX11_wrongAt ⟨hx, hb, hml, hown, hts⟩ wq_1249 rfl rfl ⟨Nat.le_of_ble_eq_true rfl, Nat.le_of_ble_eq_true rfl⟩ wq_all hP hK hS qw_Ai (q0 := 0) (by decide) (hgM_0 ca o _ _) rfl rfl hl.1 rfl (Nat.le_of_ble_eq_true rfl) dX11_readsRight_115 ⟨Nat.zero_le _, Nat.zero_le _⟩ (fun r138 z138 y138 H locs h138 hP hS _ _ => ?_)
            have J138 : qJM b z138 := h138.2.1
            have p138_5 : (z138 0 16).toInt = (z133 0 16).toInt := h138.2.2.2.2.2.1
            have p138_6 : (z138 0 29).toInt = (z133 0 29).toInt := h138.2.2.2.2.2.2.1
            have p138_7 : (z138 0 19).toInt = (z133 0 19).toInt := h138.2.2.2.2.2.2.2.1
            have p138_8 : (z138 0 33).toInt = (z133 0 33).toInt := h138.2.2.2.2.2.2.2.2.1
            have p138_9 : (z138 0 34).toInt = (z133 0 34).toInt := h138.2.2.2.2.2.2.2.2.2
            have b138 : (0 : Int) ≤ r138.toInt ∧ r138.toInt ≤ 0 := h138.1
            obtain rfl : r138 = 0 := lit_eq (k := 0) (K := 0) rfl (by omega) (by omega)
            exact W.zret (v := 0) (ty := .boolean) hx hb hr rfl (fun t ht hW => ⟨⟨0, (z138, y138), rfl, ⟨Or.inr rfl, J138⟩, by rw [ht]; exact hP, va_K.moved hW.alike hK⟩, hS.F ht⟩) hS.2.2 dX11_readsRight_118
        · subst hr133
          refine lv_if_ne (tgt := 105) hx hb dX11_readsRight_100 (by decide) (fun q => absurd q (by decide)) (fun _ => ?_)
          refine lv_iconst (v := 0) hx hb dX11_readsRight_103 (by decide) ?_
          exact W.zret (v := 0) (ty := .boolean) hx hb hr rfl (fun t ht hW => ⟨⟨0, (z133, y133), rfl, ⟨Or.inr rfl, J133⟩, by rw [ht]; exact hP, va_K.moved hW.alike hK⟩, hS.F ht⟩) hS.2.2 dX11_readsRight_104
    · have t117 : x116.toInt = (-1 : Int) := gl_eq c117
      refine lv_aload_n hx hb dX11_readsRight_63 rfl (lv_at hl 1 rfl) ?_
      refine lv_iconst (v := 1) hx hb dX11_readsRight_64 (by decide) ?_
      refine lv_aload_n hx hb dX11_readsRight_65 rfl (lv_at hl 1 rfl) ?_
      refine qf_get hx hb hts inX11 hown hK hP (q0 := 0) (by decide) (hgM_0 ca o) rfl 16 (by decide) wq_1009 (v := .int (z115 0 16)) rfl dX11_readsRight_66 ?_
      refine lv_topi (fun x139 e139 => ?_)
      have b139 := iM_0_16 J115 e139
      have k139 : x139.toInt = (z115 0 16).toInt := congrArg Int32.toInt e139
      refine qc_Vi2 (As := [.int 1, .int x139]) (rest := []) (k0 := 2) (m_wrongAt l D ca o b z115 y J115 1 x139) kc_yX11_wrongAt ⟨hx, hb, hml, hown, hts⟩ wq_1249 rfl rfl ⟨Nat.le_of_ble_eq_true rfl, Nat.le_of_ble_eq_true rfl⟩ wq_all hP hK hS qw_Ai (q0 := 0) (by decide) (hgM_0 ca o _ _) rfl rfl hl.1 rfl (Nat.le_of_ble_eq_true rfl) dX11_readsRight_69 ⟨Nat.zero_le _, Nat.zero_le _⟩ (fun r140 z140 y140 H locs h140 hP hS _ _ => ?_)
      have J140 : qJM b z140 := h140.2.1
      have p140_5 : (z140 0 16).toInt = (z115 0 16).toInt := h140.2.2.2.2.2.1
      have p140_6 : (z140 0 29).toInt = (z115 0 29).toInt := h140.2.2.2.2.2.2.1
      have p140_7 : (z140 0 19).toInt = (z115 0 19).toInt := h140.2.2.2.2.2.2.2.1
      have p140_8 : (z140 0 33).toInt = (z115 0 33).toInt := h140.2.2.2.2.2.2.2.2.1
      have p140_9 : (z140 0 34).toInt = (z115 0 34).toInt := h140.2.2.2.2.2.2.2.2.2
      have b140 : (0 : Int) ≤ r140.toInt ∧ r140.toInt ≤ 0 := h140.1
      obtain rfl : r140 = 0 := lit_eq (k := 0) (K := 0) rfl (by omega) (by omega)
      exact W.zret (v := 0) (ty := .boolean) hx hb hr rfl (fun t ht hW => ⟨⟨0, (z140, y140), rfl, ⟨Or.inr rfl, J140⟩, by rw [ht]; exact hP, va_K.moved hW.alike hK⟩, hS.F ht⟩) hS.2.2 dX11_readsRight_72
