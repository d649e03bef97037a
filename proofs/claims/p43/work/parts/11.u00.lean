set_option maxRecDepth 100000 in
set_option maxHeartbeats 8000000 in
theorem u_Fits_forget (l : Launch) (D : va_G) (ca : Nat → ClassId) (o : Nat) (b z : Nat → Nat → Int32) (y : Nat → Nat → Int64) (J0 : qJU b z)   : qM l yX3_forget cX3_forget 1 none 1 60 (qPre D vwCl (qT6 ca) o 132 (qG (GU ca o) z y) [.ref (o + 108)]) (va_Qv (fun u => qJU b u.1) (qB D vwCl (qT6 ca) o 132 (fun u : qZ => qG (GU ca o) u.1 u.2)) (qw_A o 132)) (qw_A o 132) := by
  refine Met.ofW (cc := cX3_forget) (maxL := 1) (ret := none) (by decide) rfl ?_
  intro p e s m args below meth c s₁ B hml hv
  obtain ⟨rfl, hP, hK⟩ := hv
  have hx := B.exec
  have hb := B.bytes
  have hr := B.returns
  have hts0 := atoms_spec (ws := Cond.code yX3_forget cX3_forget 1 none :: qtbl) B.pre
  have hts : ∀ w ∈ qtbl, w.before _ s = true := fun w h => hts0 w (List.mem_cons_of_mem _ h)
  have hown : s.vm.findClass RX3 = some m.cls := findClass_of_methodNamed B.named
  have hlocks := B.notSynchronized
  have hS : va_S (qw_A o 132) s.heap s.heap [] := va_S.rf
  have hl := lv_entry ([.ref (o + 108)]) (n := 1) (Nat.le_of_ble_eq_true rfl)
  rw [lg_entry_eq]
  generalize (lg_sl ([.ref (o + 108)]) ++ List.replicate (1 - (lg_sl ([.ref (o + 108)])).length) Slot.unset).toArray = ls at hl ⊢
  have hl : lv_has ls 1 [(0, .ref (o + 108))] := hl
  refine lv_aload_n hx hb dX3_forget_0 rfl (lv_at hl 0 rfl) ?_
  refine lv_iconst (v := 0) hx hb dX3_forget_1 (by decide) ?_
  refine qf_put2 hx hb hts inX3 tyX3 tyX3_ok nmX3 hown hK hP hS qw_Ai (q0 := 108) (by decide) (hgU_108 ca o) rfl 1 (by decide) wq_217 rfl (x := 0) 1 rfl rfl rfl (Nat.le_of_ble_eq_true rfl) dX3_forget_2 (fun z1 H locs hz1 hP hS => ?_)
  have J1 := jU_108_1 J0 hz1 ⟨by decide, by decide⟩
  exact W.vret hx hb hr (fun t ht hW => ⟨⟨(z1, y), rfl, J1, by rw [ht]; exact hP, va_K.moved hW.alike hK⟩, hS.F ht⟩) hS.2.2 dX3_forget_5
set_option maxRecDepth 100000 in
set_option maxHeartbeats 8000000 in
theorem u_person (l : Launch) (D : va_G) (ca : Nat → ClassId) (o : Nat) (b z : Nat → Nat → Int32) (y : Nat → Nat → Int64) (J0 : qJU b z) (a0 : Int32) (a1 : Int32) (a2 : Int32)  : qM l yX10_person cX10_person 4 (some .boolean) 2 80 (qPre D vwCl (qT6 ca) o 132 (qG (GU ca o) z y) [.ref (o + 0), .int a0, .int a1, .int a2]) (va_Qi (fun r u => ((r = 1 ∧ (0 ≤ a0.toInt ∧ a0.toInt ≤ 5 ∧ 0 ≤ a1.toInt ∧ a2.toInt ≤ 99 ∧ a1.toInt ≤ a2.toInt) ∧ (qK kU (qu (qu (qu (qu z 2 a0.toNatClampNeg a1) 3 a0.toNatClampNeg a2) 4 a0.toNatClampNeg 100) 1 5 (z 1 5 ||| 1 <<< (a0 &&& 31))) u.1)) ∨ (r = 0 ∧ (¬ (0 ≤ a0.toInt ∧ a0.toInt ≤ 5 ∧ 0 ≤ a1.toInt ∧ a2.toInt ≤ 99 ∧ a1.toInt ≤ a2.toInt)) ∧ (qK kU z u.1))) ∧ qJU u.1 u.1) (qB D vwCl (qT6 ca) o 132 (fun u : qZ => qG (GU ca o) u.1 u.2)) (qw_A o 132)) (qw_A o 132) := by
  refine Met.ofW (cc := cX10_person) (maxL := 4) (ret := (some .boolean)) (by decide) rfl ?_
  intro p e s m args below meth c s₁ B hml hv
  obtain ⟨rfl, hP, hK⟩ := hv
  have hx := B.exec
  have hb := B.bytes
  have hr := B.returns
  have hts0 := atoms_spec (ws := Cond.code yX10_person cX10_person 4 (some .boolean) :: qtbl) B.pre
  have hts : ∀ w ∈ qtbl, w.before _ s = true := fun w h => hts0 w (List.mem_cons_of_mem _ h)
  have hown : s.vm.findClass RX10 = some m.cls := findClass_of_methodNamed B.named
  have hlocks := B.notSynchronized
  have hS : va_S (qw_A o 132) s.heap s.heap [] := va_S.rf
  have hl := lv_entry ([.ref (o + 0), .int a0, .int a1, .int a2]) (n := 4) (Nat.le_of_ble_eq_true rfl)
  rw [lg_entry_eq]
  generalize (lg_sl ([.ref (o + 0), .int a0, .int a1, .int a2]) ++ List.replicate (4 - (lg_sl ([.ref (o + 0), .int a0, .int a1, .int a2])).length) Slot.unset).toArray = ls at hl ⊢
  have hl : lv_has ls 4 [(0, .ref (o + 0)), (1, .int a0), (2, .int a1), (3, .int a2)] := hl
  have Jz : qJU z z := ⟨J0.1, qK_rf⟩
  refine lv_iload_n hx hb dX10_person_0 rfl (lv_at hl 1 rfl) ?_
  refine lv_if_lt (tgt := 25) hx hb dX10_person_1 (by decide) (fun c1 => ?_) (fun c1 => ?_)
  · have t1 : a0.toInt < (0 : Int) := gl_lt c1
    refine lv_iconst (v := 0) hx hb dX10_person_25 (by decide) ?_
    exact W.zret (v := 0) (ty := .boolean) hx hb hr rfl (fun t ht hW => ⟨⟨0, (z, y), rfl, ⟨Or.inr ⟨rfl, (by omega), qK_rf⟩, ⟨Jz.1, qK_rf⟩⟩, by rw [ht]; exact hP, va_K.moved hW.alike hK⟩, hS.F ht⟩) hS.2.2 dX10_person_26
  · have t1 : a0.toInt ≥ (0 : Int) := gl_nlt c1
    refine lv_iload_n hx hb dX10_person_4 rfl (lv_at hl 1 rfl) ?_
    refine lv_bipush (v := 6) hx hb dX10_person_5 (by decide) ?_
    refine lv_icmp_ge (tgt := 25) hx hb dX10_person_7 (by decide) (fun c2 => ?_) (fun c2 => ?_)
    · have t2 : a0.toInt ≥ (6 : Int) := gl_le c2
      refine lv_iconst (v := 0) hx hb dX10_person_25 (by decide) ?_
      exact W.zret (v := 0) (ty := .boolean) hx hb hr rfl (fun t ht hW => ⟨⟨0, (z, y), rfl, ⟨Or.inr ⟨rfl, (by omega), qK_rf⟩, ⟨Jz.1, qK_rf⟩⟩, by rw [ht]; exact hP, va_K.moved hW.alike hK⟩, hS.F ht⟩) hS.2.2 dX10_person_26
    · have t2 : a0.toInt < (6 : Int) := gl_nle c2
      refine lv_iload_n hx hb dX10_person_10 rfl (lv_at hl 2 rfl) ?_
      refine lv_if_lt (tgt := 25) hx hb dX10_person_11 (by decide) (fun c3 => ?_) (fun c3 => ?_)
      · have t3 : a1.toInt < (0 : Int) := gl_lt c3
        refine lv_iconst (v := 0) hx hb dX10_person_25 (by decide) ?_
        exact W.zret (v := 0) (ty := .boolean) hx hb hr rfl (fun t ht hW => ⟨⟨0, (z, y), rfl, ⟨Or.inr ⟨rfl, (by omega), qK_rf⟩, ⟨Jz.1, qK_rf⟩⟩, by rw [ht]; exact hP, va_K.moved hW.alike hK⟩, hS.F ht⟩) hS.2.2 dX10_person_26
      · have t3 : a1.toInt ≥ (0 : Int) := gl_nlt c3
        refine lv_iload_n hx hb dX10_person_14 rfl (lv_at hl 3 rfl) ?_
        refine lv_bipush (v := 99) hx hb dX10_person_15 (by decide) ?_
        refine lv_icmp_gt (tgt := 25) hx hb dX10_person_17 (by decide) (fun c4 => ?_) (fun c4 => ?_)
        · have t4 : a2.toInt > (99 : Int) := gl_lt c4
          refine lv_iconst (v := 0) hx hb dX10_person_25 (by decide) ?_
          exact W.zret (v := 0) (ty := .boolean) hx hb hr rfl (fun t ht hW => ⟨⟨0, (z, y), rfl, ⟨Or.inr ⟨rfl, (by omega), qK_rf⟩, ⟨Jz.1, qK_rf⟩⟩, by rw [ht]; exact hP, va_K.moved hW.alike hK⟩, hS.F ht⟩) hS.2.2 dX10_person_26
        · have t4 : a2.toInt ≤ (99 : Int) := gl_nlt c4
          refine lv_iload_n hx hb dX10_person_20 rfl (lv_at hl 2 rfl) ?_
          refine lv_iload_n hx hb dX10_person_21 rfl (lv_at hl 3 rfl) ?_
          refine lv_icmp_le (tgt := 27) hx hb dX10_person_22 (by decide) (fun c5 => ?_) (fun c5 => ?_)
          · have t5 : a1.toInt ≤ a2.toInt := gl_le c5
            refine lv_aload_n hx hb dX10_person_27 rfl (lv_at hl 0 rfl) ?_
            refine qf_get hx hb hts inX10 hown hK hP (q0 := 0) (by decide) (hgU_0 ca o) rfl 0 (by decide) wq_353 (v := .ref (o + 1)) rfl dX10_person_28 ?_
            refine qf_get hx hb hts inX9 hown hK hP (q0 := 1) (by decide) (hgU_1 ca o) rfl 0 (by decide) wq_83 (v := .ref (o + 2)) rfl dX10_person_31 ?_
            refine lv_iload_n hx hb dX10_person_34 rfl (lv_at hl 1 rfl) ?_
            refine lv_iload_n hx hb dX10_person_35 rfl (lv_at hl 2 rfl) ?_
            refine qa_iast2 hx hb hK hP hS qw_Ai (q0 := 2) (by decide) 0 (N := 6) (hgU_2 ca o) rfl (i := a0) (x := a1) (gi_in (by omega) (by omega)) dX10_person_36 (fun z6 H locs hz6 hP hS => ?_)
            have J6 := jU_2 Jz hz6 ⟨by omega, by omega⟩
            refine lv_aload_n hx hb dX10_person_37 rfl (lv_at hl 0 rfl) ?_
            refine qf_get hx hb hts inX10 hown hK hP (q0 := 0) (by decide) (hgU_0 ca o) rfl 0 (by decide) wq_353 (v := .ref (o + 1)) rfl dX10_person_38 ?_
            refine qf_get hx hb hts inX9 hown hK hP (q0 := 1) (by decide) (hgU_1 ca o) rfl 1 (by decide) wq_87 (v := .ref (o + 3)) rfl dX10_person_41 ?_
            refine lv_iload_n hx hb dX10_person_44 rfl (lv_at hl 1 rfl) ?_
            refine lv_iload_n hx hb dX10_person_45 rfl (lv_at hl 3 rfl) ?_
            refine qa_iast2 hx hb hK hP hS qw_Ai (q0 := 3) (by decide) 0 (N := 6) (hgU_3 ca o) rfl (i := a0) (x := a2) (gi_in (by omega) (by omega)) dX10_person_46 (fun z7 H locs hz7 hP hS => ?_)
            have J7 := jU_3 J6 hz7 ⟨by omega, by omega⟩
            refine lv_aload_n hx hb dX10_person_47 rfl (lv_at hl 0 rfl) ?_
            refine qf_get hx hb hts inX10 hown hK hP (q0 := 0) (by decide) (hgU_0 ca o) rfl 0 (by decide) wq_353 (v := .ref (o + 1)) rfl dX10_person_48 ?_
            refine qf_get hx hb hts inX9 hown hK hP (q0 := 1) (by decide) (hgU_1 ca o) rfl 2 (by decide) wq_90 (v := .ref (o + 4)) rfl dX10_person_51 ?_
            refine lv_iload_n hx hb dX10_person_54 rfl (lv_at hl 1 rfl) ?_
            refine lv_bipush (v := 100) hx hb dX10_person_55 (by decide) ?_
            refine qa_iast2 hx hb hK hP hS qw_Ai (q0 := 4) (by decide) 0 (N := 6) (hgU_4 ca o) rfl (i := a0) (x := 100) (gi_in (by omega) (by omega)) dX10_person_57 (fun z8 H locs hz8 hP hS => ?_)
            have J8 := jU_4 J7 hz8
            refine lv_aload_n hx hb dX10_person_58 rfl (lv_at hl 0 rfl) ?_
            refine qf_get hx hb hts inX10 hown hK hP (q0 := 0) (by decide) (hgU_0 ca o) rfl 0 (by decide) wq_353 (v := .ref (o + 1)) rfl dX10_person_59 ?_
            refine lv_dup hx hb dX10_person_62 rfl ?_
            refine qf_get hx hb hts inX9 hown hK hP (q0 := 1) (by decide) (hgU_1 ca o) rfl 5 (by decide) wq_98 (v := .int (z8 1 5)) rfl dX10_person_63 ?_
            refine lv_topi (fun x9 e9 => ?_)
            have m9 : x9 = z 1 5 := e9.trans ((J8.2 1 5 rfl).trans (by rfl))
            refine lv_iconst (v := 1) hx hb dX10_person_66 (by decide) ?_
            refine lv_iload_n hx hb dX10_person_67 rfl (lv_at hl 1 rfl) ?_
            refine lv_ishl hx hb dX10_person_68 ?_
            refine lv_topi (fun x10 e10 => ?_)
            have t10 : 1 ≤ x10.toInt ∧ x10.toInt ≤ 32 := ga_shl 5 32 e10 (by decide) (by decide) (by omega) (by omega)
            refine lv_ior hx hb dX10_person_69 ?_
            refine lv_topi (fun x11 e11 => ?_)
            refine qf_put2 hx hb hts inX9 tyX9 tyX9_ok nmX9 hown hK hP hS qw_Ai (q0 := 1) (by decide) (hgU_1 ca o) rfl 5 (by decide) wq_98 rfl (x := x11) 5 rfl rfl rfl (Nat.le_of_ble_eq_true rfl) dX10_person_70 (fun z12 H locs hz12 hP hS => ?_)
            have J12 := jU_1_5 J8 hz12
            refine lv_aload_n hx hb dX10_person_73 rfl (lv_at hl 0 rfl) ?_
            refine qf_get hx hb hts inX10 hown hK hP (q0 := 0) (by decide) (hgU_0 ca o) rfl 7 (by decide) wq_360 (v := .ref (o + 108)) rfl dX10_person_74 ?_
            refine qc_Vv2 (As := []) (rest := []) (k0 := 0) (u_Fits_forget l D ca o (qu (qu (qu (qu z 2 a0.toNatClampNeg a1) 3 a0.toNatClampNeg a2) 4 a0.toNatClampNeg 100) 1 5 x11) z12 y J12) kc_yX3_forget ⟨hx, hb, hml, hown, hts⟩ wq_403 rfl rfl ⟨Nat.le_of_ble_eq_true rfl, Nat.le_of_ble_eq_true rfl⟩ wq_all hP hK hS qw_Ai (q0 := 108) (by decide) (hgU_108 ca o _ _) rfl rfl hl.1 rfl (Nat.le_of_ble_eq_true rfl) dX10_person_77 ⟨Nat.zero_le _, Nat.zero_le _⟩ (fun z13 y13 H locs h13 hP hS _ _ => ?_)
            have J13 : qJU (qu (qu (qu (qu z 2 a0.toNatClampNeg a1) 3 a0.toNatClampNeg a2) 4 a0.toNatClampNeg 100) 1 5 x11) z13 := h13
            refine lv_iconst (v := 1) hx hb dX10_person_80 (by decide) ?_
            exact W.zret (v := 1) (ty := .boolean) hx hb hr rfl (fun t ht hW => ⟨⟨1, (z13, y13), rfl, ⟨Or.inl ⟨rfl, ⟨by omega, by omega, by omega, by omega, by omega⟩, by have h := J13.2; rw [e11, m9, e10] at h; exact h⟩, ⟨J13.1, qK_rf⟩⟩, by rw [ht]; exact hP, va_K.moved hW.alike hK⟩, hS.F ht⟩) hS.2.2 dX10_person_81
          · have t5 : a1.toInt > a2.toInt := gl_nle c5
            refine lv_iconst (v := 0) hx hb dX10_person_25 (by decide) ?_
            exact W.zret (v := 0) (ty := .boolean) hx hb hr rfl (fun t ht hW => ⟨⟨0, (z, y), rfl, ⟨Or.inr ⟨rfl, (by omega), qK_rf⟩, ⟨Jz.1, qK_rf⟩⟩, by rw [ht]; exact hP, va_K.moved hW.alike hK⟩, hS.F ht⟩) hS.2.2 dX10_person_26
set_option maxRecDepth 100000 in
set_option maxHeartbeats 8000000 in
theorem u_Told_hasPerson (l : Launch) (D : va_G) (ca : Nat → ClassId) (o : Nat) (b z : Nat → Nat → Int32) (y : Nat → Nat → Int64) (J0 : qJU b z) (a0 : Int32)  : qM l yX9_hasPerson cX9_hasPerson 2 (some .boolean) 1 60 (qPre D vwCl (qT6 ca) o 132 (qG (GU ca o) z y) [.ref (o + 1), .int a0]) (va_Qi (fun r (_ : Unit) => ((r = 1 ∧ (pHas (z 1 5) a0) ∧ (0 ≤ a0.toInt ∧ a0.toInt ≤ 5)) ∨ (r = 0 ∧ (¬ pHas (z 1 5) a0)))) (qB D vwCl (qT6 ca) o 132 (fun _ : Unit => qG (GU ca o) z y)) (qw_A o 132)) (qw_A o 132) := by
  refine Met.ofW (cc := cX9_hasPerson) (maxL := 2) (ret := (some .boolean)) (by decide) rfl ?_
  intro p e s m args below meth c s₁ B hml hv
  obtain ⟨rfl, hP, hK⟩ := hv
  have hx := B.exec
  have hb := B.bytes
  have hr := B.returns
  have hts0 := atoms_spec (ws := Cond.code yX9_hasPerson cX9_hasPerson 2 (some .boolean) :: qtbl) B.pre
  have hts : ∀ w ∈ qtbl, w.before _ s = true := fun w h => hts0 w (List.mem_cons_of_mem _ h)
  have hown : s.vm.findClass RX9 = some m.cls := findClass_of_methodNamed B.named
  have hlocks := B.notSynchronized
  have hS : va_S (qw_A o 132) s.heap s.heap [] := va_S.rf
  have hl := lv_entry ([.ref (o + 1), .int a0]) (n := 2) (Nat.le_of_ble_eq_true rfl)
  rw [lg_entry_eq]
  generalize (lg_sl ([.ref (o + 1), .int a0]) ++ List.replicate (2 - (lg_sl ([.ref (o + 1), .int a0])).length) Slot.unset).toArray = ls at hl ⊢
  have hl : lv_has ls 2 [(0, .ref (o + 1)), (1, .int a0)] := hl
  refine lv_iload_n hx hb dX9_hasPerson_0 rfl (lv_at hl 1 rfl) ?_
  refine lv_if_lt (tgt := 25) hx hb dX9_hasPerson_1 (by decide) (fun c1 => ?_) (fun c1 => ?_)
  · have t1 : a0.toInt < (0 : Int) := gl_lt c1
    refine lv_iconst (v := 0) hx hb dX9_hasPerson_25 (by decide) ?_
    exact W.zret (v := 0) (ty := .boolean) hx hb hr rfl (fun t ht hW => ⟨⟨0, (), rfl, Or.inr ⟨rfl, (fun h => by have h1 := h.1; have h2 := h.2.1; omega)⟩, by rw [ht]; exact hP, va_K.moved hW.alike hK⟩, hS.F ht⟩) hS.2.2 dX9_hasPerson_26
  · have t1 : a0.toInt ≥ (0 : Int) := gl_nlt c1
    refine lv_iload_n hx hb dX9_hasPerson_4 rfl (lv_at hl 1 rfl) ?_
    refine lv_bipush (v := 6) hx hb dX9_hasPerson_5 (by decide) ?_
    refine lv_icmp_ge (tgt := 25) hx hb dX9_hasPerson_7 (by decide) (fun c2 => ?_) (fun c2 => ?_)
    · have t2 : a0.toInt ≥ (6 : Int) := gl_le c2
      refine lv_iconst (v := 0) hx hb dX9_hasPerson_25 (by decide) ?_
      exact W.zret (v := 0) (ty := .boolean) hx hb hr rfl (fun t ht hW => ⟨⟨0, (), rfl, Or.inr ⟨rfl, (fun h => by have h1 := h.1; have h2 := h.2.1; omega)⟩, by rw [ht]; exact hP, va_K.moved hW.alike hK⟩, hS.F ht⟩) hS.2.2 dX9_hasPerson_26
    · have t2 : a0.toInt < (6 : Int) := gl_nle c2
      refine lv_aload_n hx hb dX9_hasPerson_10 rfl (lv_at hl 0 rfl) ?_
      refine qf_get hx hb hts inX9 hown hK hP (q0 := 1) (by decide) (hgU_1 ca o) rfl 5 (by decide) wq_99 (v := .int (z 1 5)) rfl dX9_hasPerson_11 ?_
      refine lv_topi (fun x3 e3 => ?_)
      refine lv_iload_n hx hb dX9_hasPerson_14 rfl (lv_at hl 1 rfl) ?_
      refine lv_ishr hx hb dX9_hasPerson_15 ?_
      refine lv_topi (fun x4 e4 => ?_)
      refine lv_iconst (v := 1) hx hb dX9_hasPerson_16 (by decide) ?_
      refine lv_iand hx hb dX9_hasPerson_17 ?_
      refine lv_topi (fun x5 e5 => ?_)
      have t5 : 0 ≤ x5.toInt ∧ x5.toInt ≤ (1 : Int) := ga_and e5 rfl (by omega)
      refine lv_if_eq (tgt := 25) hx hb dX9_hasPerson_18 (by decide) (fun c6 => ?_) (fun c6 => ?_)
      · have t6 : x5.toInt = (0 : Int) := gl_eq c6
        refine lv_iconst (v := 0) hx hb dX9_hasPerson_25 (by decide) ?_
        exact W.zret (v := 0) (ty := .boolean) hx hb hr rfl (fun t ht hW => ⟨⟨0, (), rfl, Or.inr ⟨rfl, (fun h => h.2.2 (by rw [e5, e4, e3] at c6; exact c6))⟩, by rw [ht]; exact hP, va_K.moved hW.alike hK⟩, hS.F ht⟩) hS.2.2 dX9_hasPerson_26
      · have t6 : x5.toInt ≠ (0 : Int) := gl_ne c6
        refine lv_iconst (v := 1) hx hb dX9_hasPerson_21 (by decide) ?_
        refine lv_goto (tgt := 26) hx hb dX9_hasPerson_22 (by decide) ?_
        exact W.zret (v := 1) (ty := .boolean) hx hb hr rfl (fun t ht hW => ⟨⟨1, (), rfl, Or.inl ⟨rfl, ⟨by omega, by omega, by rw [e5, e4, e3] at c6; exact c6⟩, ⟨by omega, by omega⟩⟩, by rw [ht]; exact hP, va_K.moved hW.alike hK⟩, hS.F ht⟩) hS.2.2 dX9_hasPerson_26
set_option maxRecDepth 100000 in
set_option maxHeartbeats 8000000 in
theorem u_dies (l : Launch) (D : va_G) (ca : Nat → ClassId) (o : Nat) (b z : Nat → Nat → Int32) (y : Nat → Nat → Int64) (J0 : qJU b z) (a0 : Int32) (a1 : Int32)  : qM l yX10_dies cX10_dies 3 (some .boolean) 2 81 (qPre D vwCl (qT6 ca) o 132 (qG (GU ca o) z y) [.ref (o + 0), .int a0, .int a1]) (va_Qi (fun r u => ((r = 1 ∧ (pHas (z 1 5) a0 ∧ 0 ≤ a1.toInt ∧ a1.toInt ≤ 100) ∧ (qK kU (qu z 4 a0.toNatClampNeg a1) u.1)) ∨ (r = 0 ∧ (¬ (pHas (z 1 5) a0 ∧ 0 ≤ a1.toInt ∧ a1.toInt ≤ 100)) ∧ (qK kU z u.1))) ∧ qJU u.1 u.1) (qB D vwCl (qT6 ca) o 132 (fun u : qZ => qG (GU ca o) u.1 u.2)) (qw_A o 132)) (qw_A o 132) := by
  refine Met.ofW (cc := cX10_dies) (maxL := 3) (ret := (some .boolean)) (by decide) rfl ?_
  intro p e s m args below meth c s₁ B hml hv
  obtain ⟨rfl, hP, hK⟩ := hv
  have hx := B.exec
  have hb := B.bytes
  have hr := B.returns
  have hts0 := atoms_spec (ws := Cond.code yX10_dies cX10_dies 3 (some .boolean) :: qtbl) B.pre
  have hts : ∀ w ∈ qtbl, w.before _ s = true := fun w h => hts0 w (List.mem_cons_of_mem _ h)
  have hown : s.vm.findClass RX10 = some m.cls := findClass_of_methodNamed B.named
  have hlocks := B.notSynchronized
  have hS : va_S (qw_A o 132) s.heap s.heap [] := va_S.rf
  have hl := lv_entry ([.ref (o + 0), .int a0, .int a1]) (n := 3) (Nat.le_of_ble_eq_true rfl)
  rw [lg_entry_eq]
  generalize (lg_sl ([.ref (o + 0), .int a0, .int a1]) ++ List.replicate (3 - (lg_sl ([.ref (o + 0), .int a0, .int a1])).length) Slot.unset).toArray = ls at hl ⊢
  have hl : lv_has ls 3 [(0, .ref (o + 0)), (1, .int a0), (2, .int a1)] := hl
  have Jz : qJU z z := ⟨J0.1, qK_rf⟩
  refine lv_aload_n hx hb dX10_dies_0 rfl (lv_at hl 0 rfl) ?_
  refine qf_get hx hb hts inX10 hown hK hP (q0 := 0) (by decide) (hgU_0 ca o) rfl 0 (by decide) wq_353 (v := .ref (o + 1)) rfl dX10_dies_1 ?_
  refine lv_iload_n hx hb dX10_dies_4 rfl (lv_at hl 1 rfl) ?_
  refine qc_Vip (As := [.int a0]) (rest := []) (k0 := 1) (u_Told_hasPerson l D ca o z z y Jz a0) kc_yX9_hasPerson ⟨hx, hb, hml, hown, hts⟩ wq_411 rfl rfl ⟨Nat.le_of_ble_eq_true rfl, Nat.le_of_ble_eq_true rfl⟩ wq_all hP hK hS qw_Ai (q0 := 1) (by decide) (hgU_1 ca o _ _) rfl rfl hl.1 rfl (Nat.le_of_ble_eq_true rfl) dX10_dies_5 ⟨Nat.zero_le _, Nat.zero_le _⟩ (fun r1 H locs h1 hP hS _ _ => ?_)
  rcases h1 with ⟨hr1, hf1_0, hf1_1⟩ | ⟨hr1, hf1_0⟩
  · subst hr1
    have hg1_0 : pHas (z 1 5) a0 := hf1_0
    have hg1_1 : 0 ≤ a0.toInt ∧ a0.toInt ≤ 5 := hf1_1
    refine lv_if_eq (tgt := 21) hx hb dX10_dies_8 (by decide) (fun q => absurd q (by decide)) (fun _ => ?_)
    refine lv_iload_n hx hb dX10_dies_11 rfl (lv_at hl 2 rfl) ?_
    refine lv_if_lt (tgt := 21) hx hb dX10_dies_12 (by decide) (fun c2 => ?_) (fun c2 => ?_)
    · have t2 : a1.toInt < (0 : Int) := gl_lt c2
      refine lv_iconst (v := 0) hx hb dX10_dies_21 (by decide) ?_
      exact W.zret (v := 0) (ty := .boolean) hx hb hr rfl (fun t ht hW => ⟨⟨0, (z, y), rfl, ⟨Or.inr ⟨rfl, (by omega), qK_rf⟩, ⟨Jz.1, qK_rf⟩⟩, by rw [ht]; exact hP, va_K.moved hW.alike hK⟩, hS.F ht⟩) hS.2.2 dX10_dies_22
    · have t2 : a1.toInt ≥ (0 : Int) := gl_nlt c2
      refine lv_iload_n hx hb dX10_dies_15 rfl (lv_at hl 2 rfl) ?_
      refine lv_bipush (v := 100) hx hb dX10_dies_16 (by decide) ?_
      refine lv_icmp_le (tgt := 23) hx hb dX10_dies_18 (by decide) (fun c3 => ?_) (fun c3 => ?_)
      · have t3 : a1.toInt ≤ (100 : Int) := gl_le c3
        refine lv_aload_n hx hb dX10_dies_23 rfl (lv_at hl 0 rfl) ?_
        refine qf_get hx hb hts inX10 hown hK hP (q0 := 0) (by decide) (hgU_0 ca o) rfl 0 (by decide) wq_353 (v := .ref (o + 1)) rfl dX10_dies_24 ?_
        refine qf_get hx hb hts inX9 hown hK hP (q0 := 1) (by decide) (hgU_1 ca o) rfl 2 (by decide) wq_90 (v := .ref (o + 4)) rfl dX10_dies_27 ?_
        refine lv_iload_n hx hb dX10_dies_30 rfl (lv_at hl 1 rfl) ?_
        refine lv_iload_n hx hb dX10_dies_31 rfl (lv_at hl 2 rfl) ?_
        refine qa_iast2 hx hb hK hP hS qw_Ai (q0 := 4) (by decide) 0 (N := 6) (hgU_4 ca o) rfl (i := a0) (x := a1) (gi_in (by omega) (by omega)) dX10_dies_32 (fun z4 H locs hz4 hP hS => ?_)
        have J4 := jU_4 Jz hz4
        refine lv_iconst (v := 1) hx hb dX10_dies_33 (by decide) ?_
        exact W.zret (v := 1) (ty := .boolean) hx hb hr rfl (fun t ht hW => ⟨⟨1, (z4, y), rfl, ⟨Or.inl ⟨rfl, ⟨hg1_0, by omega, by omega⟩, by have h := J4.2; exact h⟩, ⟨J4.1, qK_rf⟩⟩, by rw [ht]; exact hP, va_K.moved hW.alike hK⟩, hS.F ht⟩) hS.2.2 dX10_dies_34
      · have t3 : a1.toInt > (100 : Int) := gl_nle c3
        refine lv_iconst (v := 0) hx hb dX10_dies_21 (by decide) ?_
        exact W.zret (v := 0) (ty := .boolean) hx hb hr rfl (fun t ht hW => ⟨⟨0, (z, y), rfl, ⟨Or.inr ⟨rfl, (by omega), qK_rf⟩, ⟨Jz.1, qK_rf⟩⟩, by rw [ht]; exact hP, va_K.moved hW.alike hK⟩, hS.F ht⟩) hS.2.2 dX10_dies_22
  · subst hr1
    have hg1_0 : ¬ pHas (z 1 5) a0 := hf1_0
    refine lv_if_eq (tgt := 21) hx hb dX10_dies_8 (by decide) (fun _ => ?_) (fun q => absurd (by decide) q)
    refine lv_iconst (v := 0) hx hb dX10_dies_21 (by decide) ?_
    exact W.zret (v := 0) (ty := .boolean) hx hb hr rfl (fun t ht hW => ⟨⟨0, (z, y), rfl, ⟨Or.inr ⟨rfl, (fun h => hg1_0 h.1), qK_rf⟩, ⟨Jz.1, qK_rf⟩⟩, by rw [ht]; exact hP, va_K.moved hW.alike hK⟩, hS.F ht⟩) hS.2.2 dX10_dies_22
set_option maxRecDepth 100000 in
set_option maxHeartbeats 8000000 in
theorem u_years (l : Launch) (D : va_G) (ca : Nat → ClassId) (o : Nat) (b z : Nat → Nat → Int32) (y : Nat → Nat → Int64) (J0 : qJU b z) (a0 : Int32)  : qM l yX10_years cX10_years 2 (some .int) 1 60 (qPre D vwCl (qT6 ca) o 132 (qG (GU ca o) z y) [.ref (o + 0), .int a0]) (va_Qi (fun r u => True ∧ qJU u.1 u.1 ∧ (((1 ≤ a0.toInt ∧ a0.toInt ≤ 99 ∧ (z 1 7 + a0).toInt ≤ 99) ∧ r = z 1 7 + a0 ∧ qK kU (qu z 1 7 (z 1 7 + a0)) u.1) ∨ (¬ (1 ≤ a0.toInt ∧ a0.toInt ≤ 99 ∧ (z 1 7 + a0).toInt ≤ 99) ∧ r = -1 ∧ qK kU z u.1))) (qB D vwCl (qT6 ca) o 132 (fun u : qZ => qG (GU ca o) u.1 u.2)) (qw_A o 132)) (qw_A o 132) := by
  refine Met.ofW (cc := cX10_years) (maxL := 2) (ret := (some .int)) (by decide) rfl ?_
  intro p e s m args below meth c s₁ B hml hv
  obtain ⟨rfl, hP, hK⟩ := hv
  have hx := B.exec
  have hb := B.bytes
  have hr := B.returns
  have hts0 := atoms_spec (ws := Cond.code yX10_years cX10_years 2 (some .int) :: qtbl) B.pre
  have hts : ∀ w ∈ qtbl, w.before _ s = true := fun w h => hts0 w (List.mem_cons_of_mem _ h)
  have hown : s.vm.findClass RX10 = some m.cls := findClass_of_methodNamed B.named
  have hlocks := B.notSynchronized
  have hS : va_S (qw_A o 132) s.heap s.heap [] := va_S.rf
  have hl := lv_entry ([.ref (o + 0), .int a0]) (n := 2) (Nat.le_of_ble_eq_true rfl)
  rw [lg_entry_eq]
  generalize (lg_sl ([.ref (o + 0), .int a0]) ++ List.replicate (2 - (lg_sl ([.ref (o + 0), .int a0])).length) Slot.unset).toArray = ls at hl ⊢
  have hl : lv_has ls 2 [(0, .ref (o + 0)), (1, .int a0)] := hl
  have Jz : qJU z z := ⟨J0.1, qK_rf⟩
  refine lv_iload_n hx hb dX10_years_0 rfl (lv_at hl 1 rfl) ?_
  refine lv_iconst (v := 1) hx hb dX10_years_1 (by decide) ?_
  refine lv_icmp_lt (tgt := 25) hx hb dX10_years_2 (by decide) (fun c1 => ?_) (fun c1 => ?_)
  · have t1 : a0.toInt < (1 : Int) := gl_lt c1
    refine lv_iconst (v := (-1)) hx hb dX10_years_25 (by decide) ?_
    exact W.iret (v := (-1)) hx hb hr (fun t ht hW => ⟨⟨(-1), (z, y), rfl, ⟨trivial, ⟨Jz.1, qK_rf⟩, Or.inr ⟨by omega, rfl, qK_rf⟩⟩, by rw [ht]; exact hP, va_K.moved hW.alike hK⟩, hS.F ht⟩) hS.2.2 dX10_years_26
  · have t1 : a0.toInt ≥ (1 : Int) := gl_nlt c1
    refine lv_iload_n hx hb dX10_years_5 rfl (lv_at hl 1 rfl) ?_
    refine lv_bipush (v := 99) hx hb dX10_years_6 (by decide) ?_
    refine lv_icmp_gt (tgt := 25) hx hb dX10_years_8 (by decide) (fun c2 => ?_) (fun c2 => ?_)
    · have t2 : a0.toInt > (99 : Int) := gl_lt c2
      refine lv_iconst (v := (-1)) hx hb dX10_years_25 (by decide) ?_
      exact W.iret (v := (-1)) hx hb hr (fun t ht hW => ⟨⟨(-1), (z, y), rfl, ⟨trivial, ⟨Jz.1, qK_rf⟩, Or.inr ⟨by omega, rfl, qK_rf⟩⟩, by rw [ht]; exact hP, va_K.moved hW.alike hK⟩, hS.F ht⟩) hS.2.2 dX10_years_26
    · have t2 : a0.toInt ≤ (99 : Int) := gl_nlt c2
      refine lv_aload_n hx hb dX10_years_11 rfl (lv_at hl 0 rfl) ?_
      refine qf_get hx hb hts inX10 hown hK hP (q0 := 0) (by decide) (hgU_0 ca o) rfl 0 (by decide) wq_353 (v := .ref (o + 1)) rfl dX10_years_12 ?_
      refine qf_get hx hb hts inX9 hown hK hP (q0 := 1) (by decide) (hgU_1 ca o) rfl 7 (by decide) wq_104 (v := .int (z 1 7)) rfl dX10_years_15 ?_
      refine lv_topi (fun x3 e3 => ?_)
      have m3 : x3 = z 1 7 := e3.trans ((Jz.2 1 7 rfl).trans (by rfl))
      refine lv_iload_n hx hb dX10_years_18 rfl (lv_at hl 1 rfl) ?_
      refine lv_iadd hx hb dX10_years_19 ?_
      refine lv_topi (fun x4 e4 => ?_)
      have s4 : x4 = z 1 7 + a0 := by rw [e4, m3]
      refine lv_bipush (v := 99) hx hb dX10_years_20 (by decide) ?_
      refine lv_icmp_le (tgt := 27) hx hb dX10_years_22 (by decide) (fun c5 => ?_) (fun c5 => ?_)
      · have t5 : x4.toInt ≤ (99 : Int) := gl_le c5
        refine lv_aload_n hx hb dX10_years_27 rfl (lv_at hl 0 rfl) ?_
        refine qf_get hx hb hts inX10 hown hK hP (q0 := 0) (by decide) (hgU_0 ca o) rfl 0 (by decide) wq_353 (v := .ref (o + 1)) rfl dX10_years_28 ?_
        refine lv_dup hx hb dX10_years_31 rfl ?_
        refine qf_get hx hb hts inX9 hown hK hP (q0 := 1) (by decide) (hgU_1 ca o) rfl 7 (by decide) wq_104 (v := .int (z 1 7)) rfl dX10_years_32 ?_
        refine lv_topi (fun x6 e6 => ?_)
        have m6 : x6 = z 1 7 := e6.trans ((Jz.2 1 7 rfl).trans (by rfl))
        have ag6 : x6.toInt = x3.toInt := congrArg Int32.toInt (e6.trans e3.symm)
        refine lv_iload_n hx hb dX10_years_35 rfl (lv_at hl 1 rfl) ?_
        refine lv_iadd hx hb dX10_years_36 ?_
        refine lv_topi (fun x7 e7 => ?_)
        have s7 : x7 = z 1 7 + a0 := by rw [e7, m6]
        refine qf_put2 hx hb hts inX9 tyX9 tyX9_ok nmX9 hown hK hP hS qw_Ai (q0 := 1) (by decide) (hgU_1 ca o) rfl 7 (by decide) wq_104 rfl (x := x7) 7 rfl rfl rfl (Nat.le_of_ble_eq_true rfl) dX10_years_37 (fun z8 H locs hz8 hP hS => ?_)
        have J8 := jU_1_7 Jz hz8
        refine lv_aload_n hx hb dX10_years_40 rfl (lv_at hl 0 rfl) ?_
        refine qf_get hx hb hts inX10 hown hK hP (q0 := 0) (by decide) (hgU_0 ca o) rfl 0 (by decide) wq_353 (v := .ref (o + 1)) rfl dX10_years_41 ?_
        refine qf_get hx hb hts inX9 hown hK hP (q0 := 1) (by decide) (hgU_1 ca o) rfl 7 (by decide) wq_104 (v := .int (z8 1 7)) rfl dX10_years_44 ?_
        refine lv_topi (fun x9 e9 => ?_)
        have m9 : x9 = x7 := e9.trans ((J8.2 1 7 rfl).trans (by rfl))
        exact W.iret (v := x9) hx hb hr (fun t ht hW => ⟨⟨x9, (z8, y), rfl, ⟨trivial, ⟨J8.1, qK_rf⟩, Or.inl ⟨⟨by omega, by omega, by rw [← s4]; omega⟩, by rw [m9]; exact s7, by have h := J8.2; rw [s7] at h; exact h⟩⟩, by rw [ht]; exact hP, va_K.moved hW.alike hK⟩, hS.F ht⟩) hS.2.2 dX10_years_47
      · have t5 : x4.toInt > (99 : Int) := gl_nle c5
        refine lv_iconst (v := (-1)) hx hb dX10_years_25 (by decide) ?_
        exact W.iret (v := (-1)) hx hb hr (fun t ht hW => ⟨⟨(-1), (z, y), rfl, ⟨trivial, ⟨Jz.1, qK_rf⟩, Or.inr ⟨by rw [← s4]; omega, rfl, qK_rf⟩⟩, by rw [ht]; exact hP, va_K.moved hW.alike hK⟩, hS.F ht⟩) hS.2.2 dX10_years_26
set_option maxRecDepth 100000 in
set_option maxHeartbeats 8000000 in
theorem u_putBytes (l : Launch) (D : va_G) (ca : Nat → ClassId) (o : Nat) (b z : Nat → Nat → Int32) (y : Nat → Nat → Int64) (J0 : qJU b z) (a0 : Int32)  : qM l yX10_putBytes cX10_putBytes 3 none 1 60 (qPre D vwCl (qT6 ca) o 132 (qG (GU ca o) z y) [.ref (o + 0), .int a0]) (va_Qv (fun u => qJU b u.1) (qB D vwCl (qT6 ca) o 132 (fun u : qZ => qG (GU ca o) u.1 u.2)) (qw_A o 132)) (qw_A o 132) := by
  refine Met.ofW (cc := cX10_putBytes) (maxL := 3) (ret := none) (by decide) rfl ?_
  intro p e s m args below meth c s₁ B hml hv
  obtain ⟨rfl, hP, hK⟩ := hv
  have hx := B.exec
  have hb := B.bytes
  have hr := B.returns
  have hts0 := atoms_spec (ws := Cond.code yX10_putBytes cX10_putBytes 3 none :: qtbl) B.pre
  have hts : ∀ w ∈ qtbl, w.before _ s = true := fun w h => hts0 w (List.mem_cons_of_mem _ h)
  have hown : s.vm.findClass RX10 = some m.cls := findClass_of_methodNamed B.named
  have hlocks := B.notSynchronized
  have hS : va_S (qw_A o 132) s.heap s.heap [] := va_S.rf
  have hl := lv_entry ([.ref (o + 0), .int a0]) (n := 3) (Nat.le_of_ble_eq_true rfl)
  rw [lg_entry_eq]
  generalize (lg_sl ([.ref (o + 0), .int a0]) ++ List.replicate (3 - (lg_sl ([.ref (o + 0), .int a0])).length) Slot.unset).toArray = ls at hl ⊢
  have hl : lv_has ls 3 [(0, .ref (o + 0)), (1, .int a0)] := hl
  refine lv_bipush (v := 24) hx hb dX10_putBytes_0 (by decide) ?_
  refine lv_istore_n (lv' := [(2, .int 24), (0, .ref (o + 0)), (1, .int a0)]) hx hb dX10_putBytes_2 rfl hl (by decide) rfl (fun ls hl => ?_)
  have loop1 : ∀ (n : Nat) (w1_2 : Int32) (z1 : Nat → Nat → Int32) (y1 : Nat → Nat → Int64), ((w1_2.toInt - (-8) : Int) < (n : Int)) → ((-8 : Int) ≤ w1_2.toInt ∧ w1_2.toInt ≤ 24) → (qJU b z1) → ∀ (H : Heap) (locs : List Loc), qw_P D vwCl o 132 (qG (GU ca o) z1 y1) H → va_S (qw_A o 132) s.heap H locs → ∀ (ls : Array Slot), lv_has ls 3 [(2, .int w1_2), (0, .ref (o + 0)), (1, .int a0)] → W p l e (headSpec (Cond.code yX10_putBytes cX10_putBytes 3 none :: qtbl) ({ frames := 1, cells := 0, slots := 0, locals := 60 })).room s m (([.ref (o + 0), .int a0] : List Value).toArray) below meth c H locs 0 0 (MQ below (va_Qv (fun u => qJU b u.1) (qB D vwCl (qT6 ca) o 132 (fun u : qZ => qG (GU ca o) u.1 u.2)) (qw_A o 132)) (([.ref (o + 0), .int a0] : List Value).toArray) s 0 0 (qw_A o 132)) (F0 m 3 ls []) := by
    intro n
    induction n with
    | zero => intro w1_2 z1 y1 hb1 hv1_2 J1; exfalso; omega
    | succ n1 ih1 =>
      intro w1_2 z1 y1 hb1 hv1_2 J1 H locs hP hS ls hl
      refine lv_iload_n hx hb dX10_putBytes_3 rfl (lv_at hl 0 rfl) ?_
      refine lv_if_lt (tgt := 49) hx hb dX10_putBytes_4 (by decide) (fun c2 => ?_) (fun c2 => ?_)
      · have t2 : w1_2.toInt < (0 : Int) := gl_lt c2
        exact W.vret hx hb hr (fun t ht hW => ⟨⟨(z1, y1), rfl, J1, by rw [ht]; exact hP, va_K.moved hW.alike hK⟩, hS.F ht⟩) hS.2.2 dX10_putBytes_49
      · have t2 : w1_2.toInt ≥ (0 : Int) := gl_nlt c2
        refine lv_aload_n hx hb dX10_putBytes_7 rfl (lv_at hl 1 rfl) ?_
        refine qf_get hx hb hts inX10 hown hK hP (q0 := 0) (by decide) (hgU_0 ca o) rfl 4 (by decide) wq_357 (v := .int (z1 0 4)) rfl dX10_putBytes_8 ?_
        refine lv_topi (fun x3 e3 => ?_)
        have b3 := iU_0_4 J1 e3
        have k3 : x3.toInt = (z1 0 4).toInt := congrArg Int32.toInt e3
        refine lv_sipush (v := 260) hx hb dX10_putBytes_11 (by decide) ?_
        refine lv_icmp_ge (tgt := 49) hx hb dX10_putBytes_14 (by decide) (fun c4 => ?_) (fun c4 => ?_)
        · have t4 : x3.toInt ≥ (260 : Int) := gl_le c4
          exact W.vret hx hb hr (fun t ht hW => ⟨⟨(z1, y1), rfl, J1, by rw [ht]; exact hP, va_K.moved hW.alike hK⟩, hS.F ht⟩) hS.2.2 dX10_putBytes_49
        · have t4 : x3.toInt < (260 : Int) := gl_nle c4
          refine lv_aload_n hx hb dX10_putBytes_17 rfl (lv_at hl 1 rfl) ?_
          refine qf_get hx hb hts inX10 hown hK hP (q0 := 0) (by decide) (hgU_0 ca o) rfl 3 (by decide) wq_356 (v := .ref (o + 77)) rfl dX10_putBytes_18 ?_
          refine lv_aload_n hx hb dX10_putBytes_21 rfl (lv_at hl 1 rfl) ?_
          refine qf_get hx hb hts inX10 hown hK hP (q0 := 0) (by decide) (hgU_0 ca o) rfl 4 (by decide) wq_357 (v := .int (z1 0 4)) rfl dX10_putBytes_22 ?_
          refine lv_topi (fun x5 e5 => ?_)
          have b5 := iU_0_4 J1 e5
          have k5 : x5.toInt = (z1 0 4).toInt := congrArg Int32.toInt e5
          have ag5 : x5.toInt = x3.toInt := congrArg Int32.toInt (e5.trans e3.symm)
          refine lv_iload_n hx hb dX10_putBytes_25 rfl (lv_at hl 2 rfl) ?_
          refine lv_iload_n hx hb dX10_putBytes_26 rfl (lv_at hl 0 rfl) ?_
          refine lv_ishr hx hb dX10_putBytes_27 ?_
          refine lv_topi (fun x6 e6 => ?_)
          refine lv_sipush (v := 255) hx hb dX10_putBytes_28 (by decide) ?_
          refine lv_iand hx hb dX10_putBytes_31 ?_
          refine lv_topi (fun x7 e7 => ?_)
          have t7 : 0 ≤ x7.toInt ∧ x7.toInt ≤ (255 : Int) := ga_and e7 rfl (by omega)
          refine qa_iast2 hx hb hK hP hS qw_Ai (q0 := 77) (by decide) 0 (N := 260) (hgU_77 ca o) rfl (i := x5) (x := x7) (gi_in (by omega) (by omega)) dX10_putBytes_32 (fun z8 H locs hz8 hP hS => ?_)
          have J8 := jU_77 J1 hz8
          have k8_0 : (z8 0 4).toInt = (z1 0 4).toInt := congrArg Int32.toInt (qt_ne hz8 4 (by decide))
          refine lv_aload_n hx hb dX10_putBytes_33 rfl (lv_at hl 1 rfl) ?_
          refine lv_dup hx hb dX10_putBytes_34 rfl ?_
          refine qf_get hx hb hts inX10 hown hK hP (q0 := 0) (by decide) (hgU_0 ca o) rfl 4 (by decide) wq_357 (v := .int (z8 0 4)) rfl dX10_putBytes_35 ?_
          refine lv_topi (fun x9 e9 => ?_)
          have b9 := iU_0_4 J8 e9
          have k9 : x9.toInt = (z8 0 4).toInt := congrArg Int32.toInt e9
          refine lv_iconst (v := 1) hx hb dX10_putBytes_38 (by decide) ?_
          refine lv_iadd hx hb dX10_putBytes_39 ?_
          refine lv_topi (fun x10 e10 => ?_)
          have t10 : x10.toInt = x9.toInt + (1 : Int) := ga_add e10 rfl rfl (by omega) (by omega)
          refine qf_put2 hx hb hts inX10 tyX10 tyX10_ok nmX10 hown hK hP hS qw_Ai (q0 := 0) (by decide) (hgU_0 ca o) rfl 4 (by decide) wq_357 rfl (x := x10) 4 rfl rfl rfl (Nat.le_of_ble_eq_true rfl) dX10_putBytes_40 (fun z11 H locs hz11 hP hS => ?_)
          have J11 := jU_0_4 J8 hz11 ⟨by omega, by omega⟩
          have k11_0 : (z11 0 4).toInt = x10.toInt := congrArg Int32.toInt (qt_at hz11)
          obtain ⟨x12, e12⟩ : ∃ t : Int32, t = w1_2 + (-8) := ⟨_, rfl⟩
          refine lv_iinc (v := x12) (lv' := [(2, .int x12), (0, .ref (o + 0)), (1, .int a0)]) hx hb dX10_putBytes_43 hl (k := 0) rfl (by rw [e12]; rfl) (by decide) rfl (fun ls hl => ?_)
          have t12 : x12.toInt = w1_2.toInt + (-8 : Int) := ga_add e12 rfl rfl (by omega) (by omega)
          refine lv_goto (tgt := 3) hx hb dX10_putBytes_46 (by decide) ?_
          exact ih1 x12 z11 y1 (show (x12.toInt - (-8) : Int) < (n1 : Int) from by omega) ⟨by omega, by omega⟩ J11 _ _ hP hS _ (lv_sub hl [0, 1, 2] rfl)
  exact loop1 33 24 z y (show ((24 : Int) - (-8) : Int) < ((33 : Nat) : Int) from by omega) ⟨by decide, by decide⟩ J0 _ _ hP hS _ (lv_sub hl [0, 1, 2] rfl)
set_option maxRecDepth 100000 in
set_option maxHeartbeats 8000000 in
theorem u_feed (l : Launch) (D : va_G) (ca : Nat → ClassId) (o : Nat) (b z : Nat → Nat → Int32) (y : Nat → Nat → Int64) (J0 : qJU b z) (a0 : Int32) (a1 : Int32) (a2 : Int32) (a3 : Int32) (a4 : Int32)  : qM l yX10_feed cX10_feed 6 (some .int) 2 82 (qPre D vwCl (qT6 ca) o 132 (qG (GU ca o) z y) [.ref (o + 0), .int a0, .int a1, .int a2, .int a3, .int a4]) (va_Qi (fun r u => ((-1 : Int) ≤ r.toInt ∧ r.toInt ≤ 260) ∧ qJU b u.1) (qB D vwCl (qT6 ca) o 132 (fun u : qZ => qG (GU ca o) u.1 u.2)) (qw_A o 132)) (qw_A o 132) := by
  refine Met.ofW (cc := cX10_feed) (maxL := 6) (ret := (some .int)) (by decide) rfl ?_
  intro p e s m args below meth c s₁ B hml hv
  obtain ⟨rfl, hP, hK⟩ := hv
  have hx := B.exec
  have hb := B.bytes
  have hr := B.returns
  have hts0 := atoms_spec (ws := Cond.code yX10_feed cX10_feed 6 (some .int) :: qtbl) B.pre
  have hts : ∀ w ∈ qtbl, w.before _ s = true := fun w h => hts0 w (List.mem_cons_of_mem _ h)
  have hown : s.vm.findClass RX10 = some m.cls := findClass_of_methodNamed B.named
  have hlocks := B.notSynchronized
  have hS : va_S (qw_A o 132) s.heap s.heap [] := va_S.rf
  have hl := lv_entry ([.ref (o + 0), .int a0, .int a1, .int a2, .int a3, .int a4]) (n := 6) (Nat.le_of_ble_eq_true rfl)
  rw [lg_entry_eq]
  generalize (lg_sl ([.ref (o + 0), .int a0, .int a1, .int a2, .int a3, .int a4]) ++ List.replicate (6 - (lg_sl ([.ref (o + 0), .int a0, .int a1, .int a2, .int a3, .int a4])).length) Slot.unset).toArray = ls at hl ⊢
  have hl : lv_has ls 6 [(0, .ref (o + 0)), (1, .int a0), (2, .int a1), (3, .int a2), (4, .int a3), (5, .int a4)] := hl
  refine lv_aload_n hx hb dX10_feed_0 rfl (lv_at hl 0 rfl) ?_
  refine qf_get hx hb hts inX10 hown hK hP (q0 := 0) (by decide) (hgU_0 ca o) rfl 4 (by decide) wq_357 (v := .int (z 0 4)) rfl dX10_feed_1 ?_
  refine lv_topi (fun x1 e1 => ?_)
  have b1 := iU_0_4 J0 e1
  refine lv_sipush (v := 240) hx hb dX10_feed_4 (by decide) ?_
  refine lv_icmp_le (tgt := 12) hx hb dX10_feed_7 (by decide) (fun c2 => ?_) (fun c2 => ?_)
  · have t2 : x1.toInt ≤ (240 : Int) := gl_le c2
    refine lv_aload_n hx hb dX10_feed_12 rfl (lv_at hl 0 rfl) ?_
    refine lv_iload_n hx hb dX10_feed_13 rfl (lv_at hl 1 rfl) ?_
    refine qc_Vv2 (As := [.int a0]) (rest := []) (k0 := 1) (u_putBytes l D ca o b z y J0 a0) kc_yX10_putBytes ⟨hx, hb, hml, hown, hts⟩ wq_423 rfl rfl ⟨Nat.le_of_ble_eq_true rfl, Nat.le_of_ble_eq_true rfl⟩ wq_all hP hK hS qw_Ai (q0 := 0) (by decide) (hgU_0 ca o _ _) rfl rfl hl.1 rfl (Nat.le_of_ble_eq_true rfl) dX10_feed_14 ⟨Nat.zero_le _, Nat.zero_le _⟩ (fun z3 y3 H locs h3 hP hS _ _ => ?_)
    have J3 : qJU b z3 := h3
    refine lv_aload_n hx hb dX10_feed_17 rfl (lv_at hl 0 rfl) ?_
    refine lv_iload_n hx hb dX10_feed_18 rfl (lv_at hl 2 rfl) ?_
    refine qc_Vv2 (As := [.int a1]) (rest := []) (k0 := 1) (u_putBytes l D ca o b z3 y3 J3 a1) kc_yX10_putBytes ⟨hx, hb, hml, hown, hts⟩ wq_423 rfl rfl ⟨Nat.le_of_ble_eq_true rfl, Nat.le_of_ble_eq_true rfl⟩ wq_all hP hK hS qw_Ai (q0 := 0) (by decide) (hgU_0 ca o _ _) rfl rfl hl.1 rfl (Nat.le_of_ble_eq_true rfl) dX10_feed_19 ⟨Nat.zero_le _, Nat.zero_le _⟩ (fun z4 y4 H locs h4 hP hS _ _ => ?_)
    have J4 : qJU b z4 := h4
    refine lv_aload_n hx hb dX10_feed_22 rfl (lv_at hl 0 rfl) ?_
    refine lv_iload_n hx hb dX10_feed_23 rfl (lv_at hl 3 rfl) ?_
    refine qc_Vv2 (As := [.int a2]) (rest := []) (k0 := 1) (u_putBytes l D ca o b z4 y4 J4 a2) kc_yX10_putBytes ⟨hx, hb, hml, hown, hts⟩ wq_423 rfl rfl ⟨Nat.le_of_ble_eq_true rfl, Nat.le_of_ble_eq_true rfl⟩ wq_all hP hK hS qw_Ai (q0 := 0) (by decide) (hgU_0 ca o _ _) rfl rfl hl.1 rfl (Nat.le_of_ble_eq_true rfl) dX10_feed_24 ⟨Nat.zero_le _, Nat.zero_le _⟩ (fun z5 y5 H locs h5 hP hS _ _ => ?_)
    have J5 : qJU b z5 := h5
    refine lv_aload_n hx hb dX10_feed_27 rfl (lv_at hl 0 rfl) ?_
    refine lv_iload hx hb dX10_feed_28 (lv_at hl 4 rfl) ?_
    refine qc_Vv2 (As := [.int a3]) (rest := []) (k0 := 1) (u_putBytes l D ca o b z5 y5 J5 a3) kc_yX10_putBytes ⟨hx, hb, hml, hown, hts⟩ wq_423 rfl rfl ⟨Nat.le_of_ble_eq_true rfl, Nat.le_of_ble_eq_true rfl⟩ wq_all hP hK hS qw_Ai (q0 := 0) (by decide) (hgU_0 ca o _ _) rfl rfl hl.1 rfl (Nat.le_of_ble_eq_true rfl) dX10_feed_30 ⟨Nat.zero_le _, Nat.zero_le _⟩ (fun z6 y6 H locs h6 hP hS _ _ => ?_)
    have J6 : qJU b z6 := h6
    refine lv_aload_n hx hb dX10_feed_33 rfl (lv_at hl 0 rfl) ?_
    refine lv_iload hx hb dX10_feed_34 (lv_at hl 5 rfl) ?_
    refine qc_Vv2 (As := [.int a4]) (rest := []) (k0 := 1) (u_putBytes l D ca o b z6 y6 J6 a4) kc_yX10_putBytes ⟨hx, hb, hml, hown, hts⟩ wq_423 rfl rfl ⟨Nat.le_of_ble_eq_true rfl, Nat.le_of_ble_eq_true rfl⟩ wq_all hP hK hS qw_Ai (q0 := 0) (by decide) (hgU_0 ca o _ _) rfl rfl hl.1 rfl (Nat.le_of_ble_eq_true rfl) dX10_feed_36 ⟨Nat.zero_le _, Nat.zero_le _⟩ (fun z7 y7 H locs h7 hP hS _ _ => ?_)
    have J7 : qJU b z7 := h7
    refine lv_aload_n hx hb dX10_feed_39 rfl (lv_at hl 0 rfl) ?_
    refine qf_get hx hb hts inX10 hown hK hP (q0 := 0) (by decide) (hgU_0 ca o) rfl 4 (by decide) wq_357 (v := .int (z7 0 4)) rfl dX10_feed_40 ?_
    refine lv_topi (fun x8 e8 => ?_)
    have b8 := iU_0_4 J7 e8
    exact W.iret (v := x8) hx hb hr (fun t ht hW => ⟨⟨x8, (z7, y7), rfl, ⟨⟨by omega, by omega⟩, J7⟩, by rw [ht]; exact hP, va_K.moved hW.alike hK⟩, hS.F ht⟩) hS.2.2 dX10_feed_43
  · have t2 : x1.toInt > (240 : Int) := gl_nle c2
    refine lv_iconst (v := (-1)) hx hb dX10_feed_10 (by decide) ?_
    exact W.iret (v := (-1)) hx hb hr (fun t ht hW => ⟨⟨(-1), (z, y), rfl, ⟨⟨by decide, by decide⟩, J0⟩, by rw [ht]; exact hP, va_K.moved hW.alike hK⟩, hS.F ht⟩) hS.2.2 dX10_feed_11
set_option maxRecDepth 100000 in
set_option maxHeartbeats 8000000 in
theorem u_isText (l : Launch) (D : va_G) (ca : Nat → ClassId) (o : Nat) (b z : Nat → Nat → Int32) (y : Nat → Nat → Int64) (J0 : qJU b z) (a0 : Int32) (a1 : Int32)  : qM l yX10_isText cX10_isText 3 (some .boolean) 1 60 (qPre D vwCl (qT6 ca) o 132 (qG (GU ca o) z y) [.ref (o + 0), .int a0, .int a1]) (va_Qi (fun r (_ : Unit) => ((r = 1 ∧ (1 ≤ a0.toInt ∧ a0.toInt ≤ a1.toInt)) ∨ (r = 0))) (qB D vwCl (qT6 ca) o 132 (fun _ : Unit => qG (GU ca o) z y)) (qw_A o 132)) (qw_A o 132) := by
  refine Met.ofW (cc := cX10_isText) (maxL := 3) (ret := (some .boolean)) (by decide) rfl ?_
  intro p e s m args below meth c s₁ B hml hv
  obtain ⟨rfl, hP, hK⟩ := hv
  have hx := B.exec
  have hb := B.bytes
  have hr := B.returns
  have hts0 := atoms_spec (ws := Cond.code yX10_isText cX10_isText 3 (some .boolean) :: qtbl) B.pre
  have hts : ∀ w ∈ qtbl, w.before _ s = true := fun w h => hts0 w (List.mem_cons_of_mem _ h)
  have hown : s.vm.findClass RX10 = some m.cls := findClass_of_methodNamed B.named
  have hlocks := B.notSynchronized
  have hS : va_S (qw_A o 132) s.heap s.heap [] := va_S.rf
  have hl := lv_entry ([.ref (o + 0), .int a0, .int a1]) (n := 3) (Nat.le_of_ble_eq_true rfl)
  rw [lg_entry_eq]
  generalize (lg_sl ([.ref (o + 0), .int a0, .int a1]) ++ List.replicate (3 - (lg_sl ([.ref (o + 0), .int a0, .int a1])).length) Slot.unset).toArray = ls at hl ⊢
  have hl : lv_has ls 3 [(0, .ref (o + 0)), (1, .int a0), (2, .int a1)] := hl
  refine lv_iload_n hx hb dX10_isText_0 rfl (lv_at hl 1 rfl) ?_
  refine lv_iconst (v := 1) hx hb dX10_isText_1 (by decide) ?_
  refine lv_icmp_lt (tgt := 22) hx hb dX10_isText_2 (by decide) (fun c1 => ?_) (fun c1 => ?_)
  · have t1 : a0.toInt < (1 : Int) := gl_lt c1
    refine lv_iconst (v := 0) hx hb dX10_isText_22 (by decide) ?_
    exact W.zret (v := 0) (ty := .boolean) hx hb hr rfl (fun t ht hW => ⟨⟨0, (), rfl, Or.inr rfl, by rw [ht]; exact hP, va_K.moved hW.alike hK⟩, hS.F ht⟩) hS.2.2 dX10_isText_23
  · have t1 : a0.toInt ≥ (1 : Int) := gl_nlt c1
    refine lv_iload_n hx hb dX10_isText_5 rfl (lv_at hl 1 rfl) ?_
    refine lv_iload_n hx hb dX10_isText_6 rfl (lv_at hl 2 rfl) ?_
    refine lv_icmp_gt (tgt := 22) hx hb dX10_isText_7 (by decide) (fun c2 => ?_) (fun c2 => ?_)
    · have t2 : a0.toInt > a1.toInt := gl_lt c2
      refine lv_iconst (v := 0) hx hb dX10_isText_22 (by decide) ?_
      exact W.zret (v := 0) (ty := .boolean) hx hb hr rfl (fun t ht hW => ⟨⟨0, (), rfl, Or.inr rfl, by rw [ht]; exact hP, va_K.moved hW.alike hK⟩, hS.F ht⟩) hS.2.2 dX10_isText_23
    · have t2 : a0.toInt ≤ a1.toInt := gl_nlt c2
      refine lv_iload_n hx hb dX10_isText_10 rfl (lv_at hl 1 rfl) ?_
      refine lv_aload_n hx hb dX10_isText_11 rfl (lv_at hl 0 rfl) ?_
      refine qf_get hx hb hts inX10 hown hK hP (q0 := 0) (by decide) (hgU_0 ca o) rfl 4 (by decide) wq_357 (v := .int (z 0 4)) rfl dX10_isText_12 ?_
      refine lv_topi (fun x3 e3 => ?_)
      have b3 := iU_0_4 J0 e3
      refine lv_icmp_gt (tgt := 22) hx hb dX10_isText_15 (by decide) (fun c4 => ?_) (fun c4 => ?_)
      · have t4 : a0.toInt > x3.toInt := gl_lt c4
        refine lv_iconst (v := 0) hx hb dX10_isText_22 (by decide) ?_
        exact W.zret (v := 0) (ty := .boolean) hx hb hr rfl (fun t ht hW => ⟨⟨0, (), rfl, Or.inr rfl, by rw [ht]; exact hP, va_K.moved hW.alike hK⟩, hS.F ht⟩) hS.2.2 dX10_isText_23
      · have t4 : a0.toInt ≤ x3.toInt := gl_nlt c4
        refine lv_iconst (v := 1) hx hb dX10_isText_18 (by decide) ?_
        refine lv_goto (tgt := 23) hx hb dX10_isText_19 (by decide) ?_
        exact W.zret (v := 1) (ty := .boolean) hx hb hr rfl (fun t ht hW => ⟨⟨1, (), rfl, Or.inl ⟨rfl, ⟨by omega, by omega⟩⟩, by rw [ht]; exact hP, va_K.moved hW.alike hK⟩, hS.F ht⟩) hS.2.2 dX10_isText_23
set_option maxRecDepth 100000 in
set_option maxHeartbeats 8000000 in
theorem u_Arrays_fill (l : Launch) (D : va_G) (ca : Nat → ClassId) (o : Nat) (b z : Nat → Nat → Int32) (y : Nat → Nat → Int64) (J0 : qJU b z) (a1 : Int32)  : qM l yJ7_fill_53178 cJ7_fill_53178 4 none 1 60 (qPre D vwCl (qT6 ca) o 132 (qG (GU ca o) z y) [.ref (o + 80), .int a1]) (va_Qv (fun u => qJU b u.1) (qB D vwCl (qT6 ca) o 132 (fun u : qZ => qG (GU ca o) u.1 u.2)) (qw_A o 132)) (qw_A o 132) := by
  refine Met.ofW (cc := cJ7_fill_53178) (maxL := 4) (ret := none) (by decide) rfl ?_
  intro p e s m args below meth c s₁ B hml hv
  obtain ⟨rfl, hP, hK⟩ := hv
  have hx := B.exec
  have hb := B.bytes
  have hr := B.returns
  have hts0 := atoms_spec (ws := Cond.code yJ7_fill_53178 cJ7_fill_53178 4 none :: qtbl) B.pre
  have hts : ∀ w ∈ qtbl, w.before _ s = true := fun w h => hts0 w (List.mem_cons_of_mem _ h)
  have hown : s.vm.findClass RJ7 = some m.cls := findClass_of_methodNamed B.named
  have hlocks := B.notSynchronized
  have hS : va_S (qw_A o 132) s.heap s.heap [] := va_S.rf
  have hl := lv_entry ([.ref (o + 80), .int a1]) (n := 4) (Nat.le_of_ble_eq_true rfl)
  rw [lg_entry_eq]
  generalize (lg_sl ([.ref (o + 80), .int a1]) ++ List.replicate (4 - (lg_sl ([.ref (o + 80), .int a1])).length) Slot.unset).toArray = ls at hl ⊢
  have hl : lv_has ls 4 [(0, .ref (o + 80)), (1, .int a1)] := hl
  refine lv_iconst (v := 0) hx hb dJ7_fill_53178_0 (by decide) ?_
  refine lv_istore_n (lv' := [(2, .int 0), (0, .ref (o + 80)), (1, .int a1)]) hx hb dJ7_fill_53178_1 rfl hl (by decide) rfl (fun ls hl => ?_)
  refine lv_aload_n hx hb dJ7_fill_53178_2 rfl (lv_at hl 1 rfl) ?_
  refine qa_len hx hb hK hP (q0 := 80) (by decide) 0 (hgU_80 ca o) rfl (v := 7) rfl dJ7_fill_53178_3 ?_
  refine lv_istore_n (lv' := [(3, .int 7), (2, .int 0), (0, .ref (o + 80)), (1, .int a1)]) hx hb dJ7_fill_53178_4 rfl hl (by decide) rfl (fun ls hl => ?_)
  have loop1 : ∀ (n : Nat) (w1_2 : Int32) (z1 : Nat → Nat → Int32) (y1 : Nat → Nat → Int64), ((8 - w1_2.toInt : Int) < (n : Int)) → ((0 : Int) ≤ w1_2.toInt ∧ w1_2.toInt ≤ 8) → (qJU b z1) → ∀ (H : Heap) (locs : List Loc), qw_P D vwCl o 132 (qG (GU ca o) z1 y1) H → va_S (qw_A o 132) s.heap H locs → ∀ (ls : Array Slot), lv_has ls 4 [(3, .int 7), (2, .int w1_2), (0, .ref (o + 80)), (1, .int a1)] → W p l e (headSpec (Cond.code yJ7_fill_53178 cJ7_fill_53178 4 none :: qtbl) ({ frames := 1, cells := 0, slots := 0, locals := 60 })).room s m (([.ref (o + 80), .int a1] : List Value).toArray) below meth c H locs 0 0 (MQ below (va_Qv (fun u => qJU b u.1) (qB D vwCl (qT6 ca) o 132 (fun u : qZ => qG (GU ca o) u.1 u.2)) (qw_A o 132)) (([.ref (o + 80), .int a1] : List Value).toArray) s 0 0 (qw_A o 132)) (F0 m 5 ls []) := by
    intro n
    induction n with
    | zero => intro w1_2 z1 y1 hb1 hv1_2 J1; exfalso; omega
    | succ n1 ih1 =>
      intro w1_2 z1 y1 hb1 hv1_2 J1 H locs hP hS ls hl
      refine lv_iload_n hx hb dJ7_fill_53178_5 rfl (lv_at hl 1 rfl) ?_
      refine lv_iload_n hx hb dJ7_fill_53178_6 rfl (lv_at hl 0 rfl) ?_
      refine lv_icmp_ge (tgt := 20) hx hb dJ7_fill_53178_7 (by decide) (fun c2 => ?_) (fun c2 => ?_)
      · have t2 : w1_2.toInt ≥ (7 : Int) := gl_le c2
        exact W.vret hx hb hr (fun t ht hW => ⟨⟨(z1, y1), rfl, J1, by rw [ht]; exact hP, va_K.moved hW.alike hK⟩, hS.F ht⟩) hS.2.2 dJ7_fill_53178_20
      · have t2 : w1_2.toInt < (7 : Int) := gl_nle c2
        refine lv_aload_n hx hb dJ7_fill_53178_10 rfl (lv_at hl 2 rfl) ?_
        refine lv_iload_n hx hb dJ7_fill_53178_11 rfl (lv_at hl 1 rfl) ?_
        refine lv_iload_n hx hb dJ7_fill_53178_12 rfl (lv_at hl 3 rfl) ?_
        refine qa_iast2 hx hb hK hP hS qw_Ai (q0 := 80) (by decide) 0 (N := 7) (hgU_80 ca o) rfl (i := w1_2) (x := a1) (gi_in (by omega) (by omega)) dJ7_fill_53178_13 (fun z3 H locs hz3 hP hS => ?_)
        have J3 := jU_80 J1 hz3
        obtain ⟨x4, e4⟩ : ∃ t : Int32, t = w1_2 + 1 := ⟨_, rfl⟩
        refine lv_iinc (v := x4) (lv' := [(2, .int x4), (3, .int 7), (0, .ref (o + 80)), (1, .int a1)]) hx hb dJ7_fill_53178_14 hl (k := 1) rfl (by rw [e4]; rfl) (by decide) rfl (fun ls hl => ?_)
        have t4 : x4.toInt = w1_2.toInt + (1 : Int) := ga_add e4 rfl rfl (by omega) (by omega)
        refine lv_goto (tgt := 5) hx hb dJ7_fill_53178_17 (by decide) ?_
        exact ih1 x4 z3 y1 (show (8 - x4.toInt : Int) < (n1 : Int) from by omega) ⟨by omega, by omega⟩ J3 _ _ hP hS _ (lv_sub hl [1, 0, 2, 3] rfl)
  exact loop1 9 0 z y (show (8 - (0 : Int) : Int) < ((9 : Nat) : Int) from by omega) ⟨by decide, by decide⟩ J0 _ _ hP hS _ (lv_sub hl [0, 1, 2, 3] rfl)
set_option maxRecDepth 100000 in
set_option maxHeartbeats 8000000 in
theorem u_Arrays_fill_v1 (l : Launch) (D : va_G) (ca : Nat → ClassId) (o : Nat) (b z : Nat → Nat → Int32) (y : Nat → Nat → Int64) (J0 : qJU b z) (a1 : Int32)  : qM l yJ7_fill_53178 cJ7_fill_53178 4 none 1 60 (qPre D vwCl (qT6 ca) o 132 (qG (GU ca o) z y) [.ref (o + 88), .int a1]) (va_Qv (fun u => qJU b u.1) (qB D vwCl (qT6 ca) o 132 (fun u : qZ => qG (GU ca o) u.1 u.2)) (qw_A o 132)) (qw_A o 132) := by
  refine Met.ofW (cc := cJ7_fill_53178) (maxL := 4) (ret := none) (by decide) rfl ?_
  intro p e s m args below meth c s₁ B hml hv
  obtain ⟨rfl, hP, hK⟩ := hv
  have hx := B.exec
  have hb := B.bytes
  have hr := B.returns
  have hts0 := atoms_spec (ws := Cond.code yJ7_fill_53178 cJ7_fill_53178 4 none :: qtbl) B.pre
  have hts : ∀ w ∈ qtbl, w.before _ s = true := fun w h => hts0 w (List.mem_cons_of_mem _ h)
  have hown : s.vm.findClass RJ7 = some m.cls := findClass_of_methodNamed B.named
  have hlocks := B.notSynchronized
  have hS : va_S (qw_A o 132) s.heap s.heap [] := va_S.rf
  have hl := lv_entry ([.ref (o + 88), .int a1]) (n := 4) (Nat.le_of_ble_eq_true rfl)
  rw [lg_entry_eq]
  generalize (lg_sl ([.ref (o + 88), .int a1]) ++ List.replicate (4 - (lg_sl ([.ref (o + 88), .int a1])).length) Slot.unset).toArray = ls at hl ⊢
  have hl : lv_has ls 4 [(0, .ref (o + 88)), (1, .int a1)] := hl
  refine lv_iconst (v := 0) hx hb dJ7_fill_53178_0 (by decide) ?_
  refine lv_istore_n (lv' := [(2, .int 0), (0, .ref (o + 88)), (1, .int a1)]) hx hb dJ7_fill_53178_1 rfl hl (by decide) rfl (fun ls hl => ?_)
  refine lv_aload_n hx hb dJ7_fill_53178_2 rfl (lv_at hl 1 rfl) ?_
  refine qa_len hx hb hK hP (q0 := 88) (by decide) 0 (hgU_88 ca o) rfl (v := 7) rfl dJ7_fill_53178_3 ?_
  refine lv_istore_n (lv' := [(3, .int 7), (2, .int 0), (0, .ref (o + 88)), (1, .int a1)]) hx hb dJ7_fill_53178_4 rfl hl (by decide) rfl (fun ls hl => ?_)
  have loop1 : ∀ (n : Nat) (w1_2 : Int32) (z1 : Nat → Nat → Int32) (y1 : Nat → Nat → Int64), ((8 - w1_2.toInt : Int) < (n : Int)) → ((0 : Int) ≤ w1_2.toInt ∧ w1_2.toInt ≤ 8) → (qJU b z1) → ∀ (H : Heap) (locs : List Loc), qw_P D vwCl o 132 (qG (GU ca o) z1 y1) H → va_S (qw_A o 132) s.heap H locs → ∀ (ls : Array Slot), lv_has ls 4 [(3, .int 7), (2, .int w1_2), (0, .ref (o + 88)), (1, .int a1)] → W p l e (headSpec (Cond.code yJ7_fill_53178 cJ7_fill_53178 4 none :: qtbl) ({ frames := 1, cells := 0, slots := 0, locals := 60 })).room s m (([.ref (o + 88), .int a1] : List Value).toArray) below meth c H locs 0 0 (MQ below (va_Qv (fun u => qJU b u.1) (qB D vwCl (qT6 ca) o 132 (fun u : qZ => qG (GU ca o) u.1 u.2)) (qw_A o 132)) (([.ref (o + 88), .int a1] : List Value).toArray) s 0 0 (qw_A o 132)) (F0 m 5 ls []) := by
    intro n
    induction n with
    | zero => intro w1_2 z1 y1 hb1 hv1_2 J1; exfalso; omega
    | succ n1 ih1 =>
      intro w1_2 z1 y1 hb1 hv1_2 J1 H locs hP hS ls hl
      refine lv_iload_n hx hb dJ7_fill_53178_5 rfl (lv_at hl 1 rfl) ?_
      refine lv_iload_n hx hb dJ7_fill_53178_6 rfl (lv_at hl 0 rfl) ?_
      refine lv_icmp_ge (tgt := 20) hx hb dJ7_fill_53178_7 (by decide) (fun c2 => ?_) (fun c2 => ?_)
      · have t2 : w1_2.toInt ≥ (7 : Int) := gl_le c2
        exact W.vret hx hb hr (fun t ht hW => ⟨⟨(z1, y1), rfl, J1, by rw [ht]; exact hP, va_K.moved hW.alike hK⟩, hS.F ht⟩) hS.2.2 dJ7_fill_53178_20
      · have t2 : w1_2.toInt < (7 : Int) := gl_nle c2
        refine lv_aload_n hx hb dJ7_fill_53178_10 rfl (lv_at hl 2 rfl) ?_
        refine lv_iload_n hx hb dJ7_fill_53178_11 rfl (lv_at hl 1 rfl) ?_
        refine lv_iload_n hx hb dJ7_fill_53178_12 rfl (lv_at hl 3 rfl) ?_
        refine qa_iast2 hx hb hK hP hS qw_Ai (q0 := 88) (by decide) 0 (N := 7) (hgU_88 ca o) rfl (i := w1_2) (x := a1) (gi_in (by omega) (by omega)) dJ7_fill_53178_13 (fun z3 H locs hz3 hP hS => ?_)
        have J3 := jU_88 J1 hz3
        obtain ⟨x4, e4⟩ : ∃ t : Int32, t = w1_2 + 1 := ⟨_, rfl⟩
        refine lv_iinc (v := x4) (lv' := [(2, .int x4), (3, .int 7), (0, .ref (o + 88)), (1, .int a1)]) hx hb dJ7_fill_53178_14 hl (k := 1) rfl (by rw [e4]; rfl) (by decide) rfl (fun ls hl => ?_)
        have t4 : x4.toInt = w1_2.toInt + (1 : Int) := ga_add e4 rfl rfl (by omega) (by omega)
        refine lv_goto (tgt := 5) hx hb dJ7_fill_53178_17 (by decide) ?_
        exact ih1 x4 z3 y1 (show (8 - x4.toInt : Int) < (n1 : Int) from by omega) ⟨by omega, by omega⟩ J3 _ _ hP hS _ (lv_sub hl [1, 0, 2, 3] rfl)
  exact loop1 9 0 z y (show (8 - (0 : Int) : Int) < ((9 : Nat) : Int) from by omega) ⟨by decide, by decide⟩ J0 _ _ hP hS _ (lv_sub hl [0, 1, 2, 3] rfl)
set_option maxRecDepth 100000 in
set_option maxHeartbeats 8000000 in
theorem u_Reader_peek (l : Launch) (D : va_G) (ca : Nat → ClassId) (o : Nat) (b z : Nat → Nat → Int32) (y : Nat → Nat → Int64) (J0 : qJU b z)   : qM l yX6_peek cX6_peek 1 (some .int) 1 60 (qPre D vwCl (qT6 ca) o 132 (qG (GU ca o) z y) [.ref (o + 78)]) (va_Qi (fun r (_ : Unit) => True) (qB D vwCl (qT6 ca) o 132 (fun _ : Unit => qG (GU ca o) z y)) (qw_A o 132)) (qw_A o 132) := by
  refine Met.ofW (cc := cX6_peek) (maxL := 1) (ret := (some .int)) (by decide) rfl ?_
  intro p e s m args below meth c s₁ B hml hv
  obtain ⟨rfl, hP, hK⟩ := hv
  have hx := B.exec
  have hb := B.bytes
  have hr := B.returns
  have hts0 := atoms_spec (ws := Cond.code yX6_peek cX6_peek 1 (some .int) :: qtbl) B.pre
  have hts : ∀ w ∈ qtbl, w.before _ s = true := fun w h => hts0 w (List.mem_cons_of_mem _ h)
  have hown : s.vm.findClass RX6 = some m.cls := findClass_of_methodNamed B.named
  have hlocks := B.notSynchronized
  have hS : va_S (qw_A o 132) s.heap s.heap [] := va_S.rf
  have hl := lv_entry ([.ref (o + 78)]) (n := 1) (Nat.le_of_ble_eq_true rfl)
  rw [lg_entry_eq]
  generalize (lg_sl ([.ref (o + 78)]) ++ List.replicate (1 - (lg_sl ([.ref (o + 78)])).length) Slot.unset).toArray = ls at hl ⊢
  have hl : lv_has ls 1 [(0, .ref (o + 78))] := hl
  refine lv_aload_n hx hb dX6_peek_0 rfl (lv_at hl 0 rfl) ?_
  refine qf_get hx hb hts inX6 hown hK hP (q0 := 78) (by decide) (hgU_78 ca o) rfl 6 (by decide) wq_136 (v := .int (z 78 6)) rfl dX6_peek_1 ?_
  refine lv_topi (fun x1 e1 => ?_)
  refine lv_if_lt (tgt := 42) hx hb dX6_peek_4 (by decide) (fun c2 => ?_) (fun c2 => ?_)
  · have t2 : x1.toInt < (0 : Int) := gl_lt c2
    refine lv_iconst (v := (-1)) hx hb dX6_peek_42 (by decide) ?_
    exact W.iret (v := (-1)) hx hb hr (fun t ht hW => ⟨⟨(-1), (), rfl, trivial, by rw [ht]; exact hP, va_K.moved hW.alike hK⟩, hS.F ht⟩) hS.2.2 dX6_peek_43
  · have t2 : x1.toInt ≥ (0 : Int) := gl_nlt c2
    refine lv_aload_n hx hb dX6_peek_7 rfl (lv_at hl 0 rfl) ?_
    refine qf_get hx hb hts inX6 hown hK hP (q0 := 78) (by decide) (hgU_78 ca o) rfl 6 (by decide) wq_136 (v := .int (z 78 6)) rfl dX6_peek_8 ?_
    refine lv_topi (fun x3 e3 => ?_)
    have ag3 : x3.toInt = x1.toInt := congrArg Int32.toInt (e3.trans e1.symm)
    refine lv_aload_n hx hb dX6_peek_11 rfl (lv_at hl 0 rfl) ?_
    refine qf_get hx hb hts inX6 hown hK hP (q0 := 78) (by decide) (hgU_78 ca o) rfl 5 (by decide) wq_135 (v := .int (z 78 5)) rfl dX6_peek_12 ?_
    refine lv_topi (fun x4 e4 => ?_)
    refine lv_icmp_ge (tgt := 42) hx hb dX6_peek_15 (by decide) (fun c5 => ?_) (fun c5 => ?_)
    · have t5 : x3.toInt ≥ x4.toInt := gl_le c5
      refine lv_iconst (v := (-1)) hx hb dX6_peek_42 (by decide) ?_
      exact W.iret (v := (-1)) hx hb hr (fun t ht hW => ⟨⟨(-1), (), rfl, trivial, by rw [ht]; exact hP, va_K.moved hW.alike hK⟩, hS.F ht⟩) hS.2.2 dX6_peek_43
    · have t5 : x3.toInt < x4.toInt := gl_nle c5
      refine lv_aload_n hx hb dX6_peek_18 rfl (lv_at hl 0 rfl) ?_
      refine qf_get hx hb hts inX6 hown hK hP (q0 := 78) (by decide) (hgU_78 ca o) rfl 6 (by decide) wq_136 (v := .int (z 78 6)) rfl dX6_peek_19 ?_
      refine lv_topi (fun x6 e6 => ?_)
      have ag6 : x6.toInt = x1.toInt := congrArg Int32.toInt (e6.trans e1.symm)
      refine lv_aload_n hx hb dX6_peek_22 rfl (lv_at hl 0 rfl) ?_
      refine qf_get hx hb hts inX6 hown hK hP (q0 := 78) (by decide) (hgU_78 ca o) rfl 0 (by decide) wq_130 (v := .ref (o + 77)) rfl dX6_peek_23 ?_
      refine qa_len hx hb hK hP (q0 := 77) (by decide) 0 (hgU_77 ca o) rfl (v := 260) rfl dX6_peek_26 ?_
      refine lv_icmp_ge (tgt := 42) hx hb dX6_peek_27 (by decide) (fun c7 => ?_) (fun c7 => ?_)
      · have t7 : x6.toInt ≥ (260 : Int) := gl_le c7
        refine lv_iconst (v := (-1)) hx hb dX6_peek_42 (by decide) ?_
        exact W.iret (v := (-1)) hx hb hr (fun t ht hW => ⟨⟨(-1), (), rfl, trivial, by rw [ht]; exact hP, va_K.moved hW.alike hK⟩, hS.F ht⟩) hS.2.2 dX6_peek_43
      · have t7 : x6.toInt < (260 : Int) := gl_nle c7
        refine lv_aload_n hx hb dX6_peek_30 rfl (lv_at hl 0 rfl) ?_
        refine qf_get hx hb hts inX6 hown hK hP (q0 := 78) (by decide) (hgU_78 ca o) rfl 0 (by decide) wq_130 (v := .ref (o + 77)) rfl dX6_peek_31 ?_
        refine lv_aload_n hx hb dX6_peek_34 rfl (lv_at hl 0 rfl) ?_
        refine qf_get hx hb hts inX6 hown hK hP (q0 := 78) (by decide) (hgU_78 ca o) rfl 6 (by decide) wq_136 (v := .int (z 78 6)) rfl dX6_peek_35 ?_
        refine lv_topi (fun x8 e8 => ?_)
        have ag8 : x8.toInt = x1.toInt := congrArg Int32.toInt (e8.trans e1.symm)
        refine qa_iald hx hb hK hP (q0 := 77) (by decide) 0 (N := 260) (hgU_77 ca o) rfl (gi_in (by omega) (by omega)) dX6_peek_38 ?_
        refine lv_topi (fun x9 e9 => ?_)
        refine lv_goto (tgt := 43) hx hb dX6_peek_39 (by decide) ?_
        exact W.iret (v := x9) hx hb hr (fun t ht hW => ⟨⟨x9, (), rfl, trivial, by rw [ht]; exact hP, va_K.moved hW.alike hK⟩, hS.F ht⟩) hS.2.2 dX6_peek_43
set_option maxRecDepth 100000 in
set_option maxHeartbeats 8000000 in
theorem u_Arrays_fill_v2 (l : Launch) (D : va_G) (ca : Nat → ClassId) (o : Nat) (b z : Nat → Nat → Int32) (y : Nat → Nat → Int64) (J0 : qJU b z) (a1 : Int32)  : qM l yJ7_fill_53178 cJ7_fill_53178 4 none 1 60 (qPre D vwCl (qT6 ca) o 132 (qG (GU ca o) z y) [.ref (o + 96), .int a1]) (va_Qv (fun u => qJU b u.1) (qB D vwCl (qT6 ca) o 132 (fun u : qZ => qG (GU ca o) u.1 u.2)) (qw_A o 132)) (qw_A o 132) := by
  refine Met.ofW (cc := cJ7_fill_53178) (maxL := 4) (ret := none) (by decide) rfl ?_
  intro p e s m args below meth c s₁ B hml hv
  obtain ⟨rfl, hP, hK⟩ := hv
  have hx := B.exec
  have hb := B.bytes
  have hr := B.returns
  have hts0 := atoms_spec (ws := Cond.code yJ7_fill_53178 cJ7_fill_53178 4 none :: qtbl) B.pre
  have hts : ∀ w ∈ qtbl, w.before _ s = true := fun w h => hts0 w (List.mem_cons_of_mem _ h)
  have hown : s.vm.findClass RJ7 = some m.cls := findClass_of_methodNamed B.named
  have hlocks := B.notSynchronized
  have hS : va_S (qw_A o 132) s.heap s.heap [] := va_S.rf
  have hl := lv_entry ([.ref (o + 96), .int a1]) (n := 4) (Nat.le_of_ble_eq_true rfl)
  rw [lg_entry_eq]
  generalize (lg_sl ([.ref (o + 96), .int a1]) ++ List.replicate (4 - (lg_sl ([.ref (o + 96), .int a1])).length) Slot.unset).toArray = ls at hl ⊢
  have hl : lv_has ls 4 [(0, .ref (o + 96)), (1, .int a1)] := hl
  refine lv_iconst (v := 0) hx hb dJ7_fill_53178_0 (by decide) ?_
  refine lv_istore_n (lv' := [(2, .int 0), (0, .ref (o + 96)), (1, .int a1)]) hx hb dJ7_fill_53178_1 rfl hl (by decide) rfl (fun ls hl => ?_)
  refine lv_aload_n hx hb dJ7_fill_53178_2 rfl (lv_at hl 1 rfl) ?_
  refine qa_len hx hb hK hP (q0 := 96) (by decide) 0 (hgU_96 ca o) rfl (v := 7) rfl dJ7_fill_53178_3 ?_
  refine lv_istore_n (lv' := [(3, .int 7), (2, .int 0), (0, .ref (o + 96)), (1, .int a1)]) hx hb dJ7_fill_53178_4 rfl hl (by decide) rfl (fun ls hl => ?_)
  have loop1 : ∀ (n : Nat) (w1_2 : Int32) (z1 : Nat → Nat → Int32) (y1 : Nat → Nat → Int64), ((8 - w1_2.toInt : Int) < (n : Int)) → ((0 : Int) ≤ w1_2.toInt ∧ w1_2.toInt ≤ 8) → (qJU b z1) → ∀ (H : Heap) (locs : List Loc), qw_P D vwCl o 132 (qG (GU ca o) z1 y1) H → va_S (qw_A o 132) s.heap H locs → ∀ (ls : Array Slot), lv_has ls 4 [(3, .int 7), (2, .int w1_2), (0, .ref (o + 96)), (1, .int a1)] → W p l e (headSpec (Cond.code yJ7_fill_53178 cJ7_fill_53178 4 none :: qtbl) ({ frames := 1, cells := 0, slots := 0, locals := 60 })).room s m (([.ref (o + 96), .int a1] : List Value).toArray) below meth c H locs 0 0 (MQ below (va_Qv (fun u => qJU b u.1) (qB D vwCl (qT6 ca) o 132 (fun u : qZ => qG (GU ca o) u.1 u.2)) (qw_A o 132)) (([.ref (o + 96), .int a1] : List Value).toArray) s 0 0 (qw_A o 132)) (F0 m 5 ls []) := by
    intro n
    induction n with
    | zero => intro w1_2 z1 y1 hb1 hv1_2 J1; exfalso; omega
    | succ n1 ih1 =>
      intro w1_2 z1 y1 hb1 hv1_2 J1 H locs hP hS ls hl
      refine lv_iload_n hx hb dJ7_fill_53178_5 rfl (lv_at hl 1 rfl) ?_
      refine lv_iload_n hx hb dJ7_fill_53178_6 rfl (lv_at hl 0 rfl) ?_
      refine lv_icmp_ge (tgt := 20) hx hb dJ7_fill_53178_7 (by decide) (fun c2 => ?_) (fun c2 => ?_)
      · have t2 : w1_2.toInt ≥ (7 : Int) := gl_le c2
        exact W.vret hx hb hr (fun t ht hW => ⟨⟨(z1, y1), rfl, J1, by rw [ht]; exact hP, va_K.moved hW.alike hK⟩, hS.F ht⟩) hS.2.2 dJ7_fill_53178_20
      · have t2 : w1_2.toInt < (7 : Int) := gl_nle c2
        refine lv_aload_n hx hb dJ7_fill_53178_10 rfl (lv_at hl 2 rfl) ?_
        refine lv_iload_n hx hb dJ7_fill_53178_11 rfl (lv_at hl 1 rfl) ?_
        refine lv_iload_n hx hb dJ7_fill_53178_12 rfl (lv_at hl 3 rfl) ?_
        refine qa_iast2 hx hb hK hP hS qw_Ai (q0 := 96) (by decide) 0 (N := 7) (hgU_96 ca o) rfl (i := w1_2) (x := a1) (gi_in (by omega) (by omega)) dJ7_fill_53178_13 (fun z3 H locs hz3 hP hS => ?_)
        have J3 := jU_96 J1 hz3
        obtain ⟨x4, e4⟩ : ∃ t : Int32, t = w1_2 + 1 := ⟨_, rfl⟩
        refine lv_iinc (v := x4) (lv' := [(2, .int x4), (3, .int 7), (0, .ref (o + 96)), (1, .int a1)]) hx hb dJ7_fill_53178_14 hl (k := 1) rfl (by rw [e4]; rfl) (by decide) rfl (fun ls hl => ?_)
        have t4 : x4.toInt = w1_2.toInt + (1 : Int) := ga_add e4 rfl rfl (by omega) (by omega)
        refine lv_goto (tgt := 5) hx hb dJ7_fill_53178_17 (by decide) ?_
        exact ih1 x4 z3 y1 (show (8 - x4.toInt : Int) < (n1 : Int) from by omega) ⟨by omega, by omega⟩ J3 _ _ hP hS _ (lv_sub hl [1, 0, 2, 3] rfl)
  exact loop1 9 0 z y (show (8 - (0 : Int) : Int) < ((9 : Nat) : Int) from by omega) ⟨by decide, by decide⟩ J0 _ _ hP hS _ (lv_sub hl [0, 1, 2, 3] rfl)
set_option maxRecDepth 100000 in
set_option maxHeartbeats 8000000 in
theorem u_Reader_fail (l : Launch) (D : va_G) (ca : Nat → ClassId) (o : Nat) (b z : Nat → Nat → Int32) (y : Nat → Nat → Int64) (J0 : qJU b z) (a0 : Int32) (a1 : Int32)  : qM l yX6_fail cX6_fail 3 (some .boolean) 1 60 (qPre D vwCl (qT6 ca) o 132 (qG (GU ca o) z y) [.ref (o + 78), .int a0, .int a1]) (va_Qi (fun r u => ((0 : Int) ≤ r.toInt ∧ r.toInt ≤ 0) ∧ qJU b u.1) (qB D vwCl (qT6 ca) o 132 (fun u : qZ => qG (GU ca o) u.1 u.2)) (qw_A o 132)) (qw_A o 132) := by
  refine Met.ofW (cc := cX6_fail) (maxL := 3) (ret := (some .boolean)) (by decide) rfl ?_
  intro p e s m args below meth c s₁ B hml hv
  obtain ⟨rfl, hP, hK⟩ := hv
  have hx := B.exec
  have hb := B.bytes
  have hr := B.returns
  have hts0 := atoms_spec (ws := Cond.code yX6_fail cX6_fail 3 (some .boolean) :: qtbl) B.pre
  have hts : ∀ w ∈ qtbl, w.before _ s = true := fun w h => hts0 w (List.mem_cons_of_mem _ h)
  have hown : s.vm.findClass RX6 = some m.cls := findClass_of_methodNamed B.named
  have hlocks := B.notSynchronized
  have hS : va_S (qw_A o 132) s.heap s.heap [] := va_S.rf
  have hl := lv_entry ([.ref (o + 78), .int a0, .int a1]) (n := 3) (Nat.le_of_ble_eq_true rfl)
  rw [lg_entry_eq]
  generalize (lg_sl ([.ref (o + 78), .int a0, .int a1]) ++ List.replicate (3 - (lg_sl ([.ref (o + 78), .int a0, .int a1])).length) Slot.unset).toArray = ls at hl ⊢
  have hl : lv_has ls 3 [(0, .ref (o + 78)), (1, .int a0), (2, .int a1)] := hl
  refine lv_aload_n hx hb dX6_fail_0 rfl (lv_at hl 0 rfl) ?_
  refine lv_iload_n hx hb dX6_fail_1 rfl (lv_at hl 1 rfl) ?_
  refine qf_put2 hx hb hts inX6 tyX6 tyX6_ok nmX6 hown hK hP hS qw_Ai (q0 := 78) (by decide) (hgU_78 ca o) rfl 13 (by decide) wq_144 rfl (x := a0) 13 rfl rfl rfl (Nat.le_of_ble_eq_true rfl) dX6_fail_2 (fun z1 H locs hz1 hP hS => ?_)
  have J1 := jU_78_13 J0 hz1
  refine lv_aload_n hx hb dX6_fail_5 rfl (lv_at hl 0 rfl) ?_
  refine lv_iload_n hx hb dX6_fail_6 rfl (lv_at hl 2 rfl) ?_
  refine qf_put2 hx hb hts inX6 tyX6 tyX6_ok nmX6 hown hK hP hS qw_Ai (q0 := 78) (by decide) (hgU_78 ca o) rfl 14 (by decide) wq_146 rfl (x := a1) 14 rfl rfl rfl (Nat.le_of_ble_eq_true rfl) dX6_fail_7 (fun z2 H locs hz2 hP hS => ?_)
  have J2 := jU_78_14 J1 hz2
  refine lv_iconst (v := 0) hx hb dX6_fail_10 (by decide) ?_
  exact W.zret (v := 0) (ty := .boolean) hx hb hr rfl (fun t ht hW => ⟨⟨0, (z2, y), rfl, ⟨⟨by decide, by decide⟩, J2⟩, by rw [ht]; exact hP, va_K.moved hW.alike hK⟩, hS.F ht⟩) hS.2.2 dX6_fail_11
set_option maxRecDepth 100000 in
set_option maxHeartbeats 8000000 in
theorem u_Reader_readNumber (l : Launch) (D : va_G) (ca : Nat → ClassId) (o : Nat) (b z : Nat → Nat → Int32) (y : Nat → Nat → Int64) (J0 : qJU b z)   : qM l yX6_readNumber cX6_readNumber 4 (some .boolean) 2 82 (qPre D vwCl (qT6 ca) o 132 (qG (GU ca o) z y) [.ref (o + 78)]) (va_Qi (fun r u => ((0 : Int) ≤ r.toInt ∧ r.toInt ≤ 1) ∧ qJU b u.1) (qB D vwCl (qT6 ca) o 132 (fun u : qZ => qG (GU ca o) u.1 u.2)) (qw_A o 132)) (qw_A o 132) := by
  refine Met.ofW (cc := cX6_readNumber) (maxL := 4) (ret := (some .boolean)) (by decide) rfl ?_
  intro p e s m args below meth c s₁ B hml hv
  obtain ⟨rfl, hP, hK⟩ := hv
  have hx := B.exec
  have hb := B.bytes
  have hr := B.returns
  have hts0 := atoms_spec (ws := Cond.code yX6_readNumber cX6_readNumber 4 (some .boolean) :: qtbl) B.pre
  have hts : ∀ w ∈ qtbl, w.before _ s = true := fun w h => hts0 w (List.mem_cons_of_mem _ h)
  have hown : s.vm.findClass RX6 = some m.cls := findClass_of_methodNamed B.named
  have hlocks := B.notSynchronized
  have hS : va_S (qw_A o 132) s.heap s.heap [] := va_S.rf
  have hl := lv_entry ([.ref (o + 78)]) (n := 4) (Nat.le_of_ble_eq_true rfl)
  rw [lg_entry_eq]
  generalize (lg_sl ([.ref (o + 78)]) ++ List.replicate (4 - (lg_sl ([.ref (o + 78)])).length) Slot.unset).toArray = ls at hl ⊢
  have hl : lv_has ls 4 [(0, .ref (o + 78))] := hl
  refine lv_aload_n hx hb dX6_readNumber_0 rfl (lv_at hl 0 rfl) ?_
  refine lv_iconst (v := 0) hx hb dX6_readNumber_1 (by decide) ?_
  refine qf_put2 hx hb hts inX6 tyX6 tyX6_ok nmX6 hown hK hP hS qw_Ai (q0 := 78) (by decide) (hgU_78 ca o) rfl 9 (by decide) wq_139 rfl (x := 0) 9 rfl rfl rfl (Nat.le_of_ble_eq_true rfl) dX6_readNumber_2 (fun z1 H locs hz1 hP hS => ?_)
  have J1 := jU_78_9 J0 hz1
  refine lv_iconst (v := 0) hx hb dX6_readNumber_5 (by decide) ?_
  refine lv_istore_n (lv' := [(1, .int 0), (0, .ref (o + 78))]) hx hb dX6_readNumber_6 rfl hl (by decide) rfl (fun ls hl => ?_)
  refine lv_iconst (v := 0) hx hb dX6_readNumber_7 (by decide) ?_
  refine lv_istore_n (lv' := [(2, .int 0), (1, .int 0), (0, .ref (o + 78))]) hx hb dX6_readNumber_8 rfl hl (by decide) rfl (fun ls hl => ?_)
  have loop2 : ∀ (n : Nat) (w2_2 : Int32) (w2_1 : Int32) (z2 : Nat → Nat → Int32) (y2 : Nat → Nat → Int64), ((4 - w2_2.toInt : Int) < (n : Int)) → ((0 : Int) ≤ w2_2.toInt ∧ w2_2.toInt ≤ 4) → ((0 : Int) ≤ w2_1.toInt ∧ w2_1.toInt ≤ 3) → (qJU b z2) → ∀ (H : Heap) (locs : List Loc), qw_P D vwCl o 132 (qG (GU ca o) z2 y2) H → va_S (qw_A o 132) s.heap H locs → ∀ (ls : Array Slot), lv_has ls 4 [(2, .int w2_2), (1, .int w2_1), (0, .ref (o + 78))] → W p l e (headSpec (Cond.code yX6_readNumber cX6_readNumber 4 (some .boolean) :: qtbl) ({ frames := 2, cells := 0, slots := 0, locals := 82 })).room s m (([.ref (o + 78)] : List Value).toArray) below meth c H locs 0 0 (MQ below (va_Qi (fun r u => ((0 : Int) ≤ r.toInt ∧ r.toInt ≤ 1) ∧ qJU b u.1) (qB D vwCl (qT6 ca) o 132 (fun u : qZ => qG (GU ca o) u.1 u.2)) (qw_A o 132)) (([.ref (o + 78)] : List Value).toArray) s 0 0 (qw_A o 132)) (F0 m 9 ls []) := by
    intro n
    induction n with
    | zero => intro w2_2 w2_1 z2 y2 hb2 hv2_2 hv2_1 J2; exfalso; omega
    | succ n2 ih2 =>
      intro w2_2 w2_1 z2 y2 hb2 hv2_2 hv2_1 J2 H locs hP hS ls hl
      refine lv_iload_n hx hb dX6_readNumber_9 rfl (lv_at hl 0 rfl) ?_
      refine lv_iconst (v := 4) hx hb dX6_readNumber_10 (by decide) ?_
      refine lv_icmp_ge (tgt := 84) hx hb dX6_readNumber_11 (by decide) (fun c3 => ?_) (fun c3 => ?_)
      · have t3 : w2_2.toInt ≥ (4 : Int) := gl_le c3
        refine lv_iload_n hx hb dX6_readNumber_84 rfl (lv_at hl 1 rfl) ?_
        refine lv_if_gt (tgt := 100) hx hb dX6_readNumber_85 (by decide) (fun c4 => ?_) (fun c4 => ?_)
        · have t4 : w2_1.toInt > (0 : Int) := gl_lt c4
          refine lv_iconst (v := 1) hx hb dX6_readNumber_100 (by decide) ?_
          refine lv_goto (tgt := 105) hx hb dX6_readNumber_101 (by decide) ?_
          exact W.zret (v := 1) (ty := .boolean) hx hb hr rfl (fun t ht hW => ⟨⟨1, (z2, y2), rfl, ⟨⟨by decide, by decide⟩, J2⟩, by rw [ht]; exact hP, va_K.moved hW.alike hK⟩, hS.F ht⟩) hS.2.2 dX6_readNumber_105
        · have t4 : w2_1.toInt ≤ (0 : Int) := gl_nlt c4
          refine lv_aload_n hx hb dX6_readNumber_88 rfl (lv_at hl 2 rfl) ?_
          refine lv_iconst (v := 1) hx hb dX6_readNumber_89 (by decide) ?_
          refine lv_aload_n hx hb dX6_readNumber_90 rfl (lv_at hl 2 rfl) ?_
          refine qf_get hx hb hts inX6 hown hK hP (q0 := 78) (by decide) (hgU_78 ca o) rfl 6 (by decide) wq_136 (v := .int (z2 78 6)) rfl dX6_readNumber_91 ?_
          refine lv_topi (fun x5 e5 => ?_)
          refine qc_Vi2 (As := [.int 1, .int x5]) (rest := []) (k0 := 2) (u_Reader_fail l D ca o b z2 y2 J2 1 x5) kc_yX6_fail ⟨hx, hb, hml, hown, hts⟩ wq_450 rfl rfl ⟨Nat.le_of_ble_eq_true rfl, Nat.le_of_ble_eq_true rfl⟩ wq_all hP hK hS qw_Ai (q0 := 78) (by decide) (hgU_78 ca o _ _) rfl rfl hl.1 rfl (Nat.le_of_ble_eq_true rfl) dX6_readNumber_94 ⟨Nat.zero_le _, Nat.zero_le _⟩ (fun r6 z6 y6 H locs h6 hP hS _ _ => ?_)
          have J6 : qJU b z6 := h6.2
          have b6 : (0 : Int) ≤ r6.toInt ∧ r6.toInt ≤ 0 := h6.1
          obtain rfl : r6 = 0 := lit_eq (k := 0) (K := 0) rfl (by omega) (by omega)
          refine lv_if_eq (tgt := 104) hx hb dX6_readNumber_97 (by decide) (fun _ => ?_) (fun q => absurd (by decide) q)
          refine lv_iconst (v := 0) hx hb dX6_readNumber_104 (by decide) ?_
          exact W.zret (v := 0) (ty := .boolean) hx hb hr rfl (fun t ht hW => ⟨⟨0, (z6, y6), rfl, ⟨⟨by decide, by decide⟩, J6⟩, by rw [ht]; exact hP, va_K.moved hW.alike hK⟩, hS.F ht⟩) hS.2.2 dX6_readNumber_105
      · have t3 : w2_2.toInt < (4 : Int) := gl_nle c3
        refine lv_aload_n hx hb dX6_readNumber_14 rfl (lv_at hl 2 rfl) ?_
        refine qc_Vip (As := []) (rest := []) (k0 := 0) (u_Reader_peek l D ca o b z2 y2 J2) kc_yX6_peek ⟨hx, hb, hml, hown, hts⟩ wq_463 rfl rfl ⟨Nat.le_of_ble_eq_true rfl, Nat.le_of_ble_eq_true rfl⟩ wq_all hP hK hS qw_Ai (q0 := 78) (by decide) (hgU_78 ca o _ _) rfl rfl hl.1 rfl (Nat.le_of_ble_eq_true rfl) dX6_readNumber_15 ⟨Nat.zero_le _, Nat.zero_le _⟩ (fun r7 H locs h7 hP hS _ _ => ?_)
        refine lv_istore_n (lv' := [(3, .int r7), (2, .int w2_2), (1, .int w2_1), (0, .ref (o + 78))]) hx hb dX6_readNumber_18 rfl hl (by decide) rfl (fun ls hl => ?_)
        refine lv_iload_n hx hb dX6_readNumber_19 rfl (lv_at hl 0 rfl) ?_
        refine lv_bipush (v := 48) hx hb dX6_readNumber_20 (by decide) ?_
        refine lv_icmp_lt (tgt := 84) hx hb dX6_readNumber_22 (by decide) (fun c8 => ?_) (fun c8 => ?_)
        · have t8 : r7.toInt < (48 : Int) := gl_lt c8
          refine lv_iload_n hx hb dX6_readNumber_84 rfl (lv_at hl 2 rfl) ?_
          refine lv_if_gt (tgt := 100) hx hb dX6_readNumber_85 (by decide) (fun c9 => ?_) (fun c9 => ?_)
          · have t9 : w2_1.toInt > (0 : Int) := gl_lt c9
            refine lv_iconst (v := 1) hx hb dX6_readNumber_100 (by decide) ?_
            refine lv_goto (tgt := 105) hx hb dX6_readNumber_101 (by decide) ?_
            exact W.zret (v := 1) (ty := .boolean) hx hb hr rfl (fun t ht hW => ⟨⟨1, (z2, y2), rfl, ⟨⟨by decide, by decide⟩, J2⟩, by rw [ht]; exact hP, va_K.moved hW.alike hK⟩, hS.F ht⟩) hS.2.2 dX6_readNumber_105
          · have t9 : w2_1.toInt ≤ (0 : Int) := gl_nlt c9
            refine lv_aload_n hx hb dX6_readNumber_88 rfl (lv_at hl 3 rfl) ?_
            refine lv_iconst (v := 1) hx hb dX6_readNumber_89 (by decide) ?_
            refine lv_aload_n hx hb dX6_readNumber_90 rfl (lv_at hl 3 rfl) ?_
            refine qf_get hx hb hts inX6 hown hK hP (q0 := 78) (by decide) (hgU_78 ca o) rfl 6 (by decide) wq_136 (v := .int (z2 78 6)) rfl dX6_readNumber_91 ?_
            refine lv_topi (fun x10 e10 => ?_)
            refine qc_Vi2 (As := [.int 1, .int x10]) (rest := []) (k0 := 2) (u_Reader_fail l D ca o b z2 y2 J2 1 x10) kc_yX6_fail ⟨hx, hb, hml, hown, hts⟩ wq_450 rfl rfl ⟨Nat.le_of_ble_eq_true rfl, Nat.le_of_ble_eq_true rfl⟩ wq_all hP hK hS qw_Ai (q0 := 78) (by decide) (hgU_78 ca o _ _) rfl rfl hl.1 rfl (Nat.le_of_ble_eq_true rfl) dX6_readNumber_94 ⟨Nat.zero_le _, Nat.zero_le _⟩ (fun r11 z11 y11 H locs h11 hP hS _ _ => ?_)
            have J11 : qJU b z11 := h11.2
            have b11 : (0 : Int) ≤ r11.toInt ∧ r11.toInt ≤ 0 := h11.1
            obtain rfl : r11 = 0 := lit_eq (k := 0) (K := 0) rfl (by omega) (by omega)
            refine lv_if_eq (tgt := 104) hx hb dX6_readNumber_97 (by decide) (fun _ => ?_) (fun q => absurd (by decide) q)
            refine lv_iconst (v := 0) hx hb dX6_readNumber_104 (by decide) ?_
            exact W.zret (v := 0) (ty := .boolean) hx hb hr rfl (fun t ht hW => ⟨⟨0, (z11, y11), rfl, ⟨⟨by decide, by decide⟩, J11⟩, by rw [ht]; exact hP, va_K.moved hW.alike hK⟩, hS.F ht⟩) hS.2.2 dX6_readNumber_105
        · have t8 : r7.toInt ≥ (48 : Int) := gl_nlt c8
          refine lv_iload_n hx hb dX6_readNumber_25 rfl (lv_at hl 0 rfl) ?_
          refine lv_bipush (v := 57) hx hb dX6_readNumber_26 (by decide) ?_
          refine lv_icmp_le (tgt := 34) hx hb dX6_readNumber_28 (by decide) (fun c12 => ?_) (fun c12 => ?_)
          · have t12 : r7.toInt ≤ (57 : Int) := gl_le c12
            refine lv_iload_n hx hb dX6_readNumber_34 rfl (lv_at hl 2 rfl) ?_
            refine lv_iconst (v := 3) hx hb dX6_readNumber_35 (by decide) ?_
            refine lv_icmp_ne (tgt := 49) hx hb dX6_readNumber_36 (by decide) (fun c13 => ?_) (fun c13 => ?_)
            · have t13 : w2_1.toInt ≠ (3 : Int) := gl_ne c13
              refine lv_aload_n hx hb dX6_readNumber_49 rfl (lv_at hl 3 rfl) ?_
              refine lv_bipush (v := 10) hx hb dX6_readNumber_50 (by decide) ?_
              refine lv_aload_n hx hb dX6_readNumber_52 rfl (lv_at hl 3 rfl) ?_
              refine qf_get hx hb hts inX6 hown hK hP (q0 := 78) (by decide) (hgU_78 ca o) rfl 9 (by decide) wq_139 (v := .int (z2 78 9)) rfl dX6_readNumber_53 ?_
              refine lv_topi (fun x14 e14 => ?_)
              refine lv_imul hx hb dX6_readNumber_56 ?_
              refine lv_topi (fun x15 e15 => ?_)
              refine lv_iload_n hx hb dX6_readNumber_57 rfl (lv_at hl 0 rfl) ?_
              refine lv_iadd hx hb dX6_readNumber_58 ?_
              refine lv_topi (fun x16 e16 => ?_)
              refine lv_bipush (v := 48) hx hb dX6_readNumber_59 (by decide) ?_
              refine lv_isub hx hb dX6_readNumber_61 ?_
              refine lv_topi (fun x17 e17 => ?_)
              refine qf_put2 hx hb hts inX6 tyX6 tyX6_ok nmX6 hown hK hP hS qw_Ai (q0 := 78) (by decide) (hgU_78 ca o) rfl 9 (by decide) wq_139 rfl (x := x17) 9 rfl rfl rfl (Nat.le_of_ble_eq_true rfl) dX6_readNumber_62 (fun z18 H locs hz18 hP hS => ?_)
              have J18 := jU_78_9 J2 hz18
              obtain ⟨x19, e19⟩ : ∃ t : Int32, t = w2_1 + 1 := ⟨_, rfl⟩
              refine lv_iinc (v := x19) (lv' := [(1, .int x19), (3, .int r7), (2, .int w2_2), (0, .ref (o + 78))]) hx hb dX6_readNumber_65 hl (k := 2) rfl (by rw [e19]; rfl) (by decide) rfl (fun ls hl => ?_)
              have t19 : x19.toInt = w2_1.toInt + (1 : Int) := ga_add e19 rfl rfl (by omega) (by omega)
              refine lv_aload_n hx hb dX6_readNumber_68 rfl (lv_at hl 3 rfl) ?_
              refine lv_dup hx hb dX6_readNumber_69 rfl ?_
              refine qf_get hx hb hts inX6 hown hK hP (q0 := 78) (by decide) (hgU_78 ca o) rfl 6 (by decide) wq_136 (v := .int (z18 78 6)) rfl dX6_readNumber_70 ?_
              refine lv_topi (fun x20 e20 => ?_)
              refine lv_iconst (v := 1) hx hb dX6_readNumber_73 (by decide) ?_
              refine lv_iadd hx hb dX6_readNumber_74 ?_
              refine lv_topi (fun x21 e21 => ?_)
              refine qf_put2 hx hb hts inX6 tyX6 tyX6_ok nmX6 hown hK hP hS qw_Ai (q0 := 78) (by decide) (hgU_78 ca o) rfl 6 (by decide) wq_136 rfl (x := x21) 6 rfl rfl rfl (Nat.le_of_ble_eq_true rfl) dX6_readNumber_75 (fun z22 H locs hz22 hP hS => ?_)
              have J22 := jU_78_6 J18 hz22
              obtain ⟨x23, e23⟩ : ∃ t : Int32, t = w2_2 + 1 := ⟨_, rfl⟩
              refine lv_iinc (v := x23) (lv' := [(2, .int x23), (1, .int x19), (3, .int r7), (0, .ref (o + 78))]) hx hb dX6_readNumber_78 hl (k := 2) rfl (by rw [e23]; rfl) (by decide) rfl (fun ls hl => ?_)
              have t23 : x23.toInt = w2_2.toInt + (1 : Int) := ga_add e23 rfl rfl (by omega) (by omega)
              refine lv_goto (tgt := 9) hx hb dX6_readNumber_81 (by decide) ?_
              exact ih2 x23 x19 z22 y2 (show (4 - x23.toInt : Int) < (n2 : Int) from by omega) ⟨by omega, by omega⟩ ⟨by omega, by omega⟩ J22 _ _ hP hS _ (lv_sub hl [0, 1, 3] rfl)
            · have t13 : w2_1.toInt = (3 : Int) := gl_eq c13
              refine lv_aload_n hx hb dX6_readNumber_39 rfl (lv_at hl 3 rfl) ?_
              refine lv_iconst (v := 2) hx hb dX6_readNumber_40 (by decide) ?_
              refine lv_aload_n hx hb dX6_readNumber_41 rfl (lv_at hl 3 rfl) ?_
              refine qf_get hx hb hts inX6 hown hK hP (q0 := 78) (by decide) (hgU_78 ca o) rfl 6 (by decide) wq_136 (v := .int (z2 78 6)) rfl dX6_readNumber_42 ?_
              refine lv_topi (fun x24 e24 => ?_)
              refine qc_Vi2 (As := [.int 2, .int x24]) (rest := []) (k0 := 2) (u_Reader_fail l D ca o b z2 y2 J2 2 x24) kc_yX6_fail ⟨hx, hb, hml, hown, hts⟩ wq_450 rfl rfl ⟨Nat.le_of_ble_eq_true rfl, Nat.le_of_ble_eq_true rfl⟩ wq_all hP hK hS qw_Ai (q0 := 78) (by decide) (hgU_78 ca o _ _) rfl rfl hl.1 rfl (Nat.le_of_ble_eq_true rfl) dX6_readNumber_45 ⟨Nat.zero_le _, Nat.zero_le _⟩ (fun r25 z25 y25 H locs h25 hP hS _ _ => ?_)
              have J25 : qJU b z25 := h25.2
              have b25 : (0 : Int) ≤ r25.toInt ∧ r25.toInt ≤ 0 := h25.1
              obtain rfl : r25 = 0 := lit_eq (k := 0) (K := 0) rfl (by omega) (by omega)
              exact W.zret (v := 0) (ty := .boolean) hx hb hr rfl (fun t ht hW => ⟨⟨0, (z25, y25), rfl, ⟨⟨by decide, by decide⟩, J25⟩, by rw [ht]; exact hP, va_K.moved hW.alike hK⟩, hS.F ht⟩) hS.2.2 dX6_readNumber_48
          · have t12 : r7.toInt > (57 : Int) := gl_nle c12
            refine lv_goto (tgt := 84) hx hb dX6_readNumber_31 (by decide) ?_
            refine lv_iload_n hx hb dX6_readNumber_84 rfl (lv_at hl 2 rfl) ?_
            refine lv_if_gt (tgt := 100) hx hb dX6_readNumber_85 (by decide) (fun c26 => ?_) (fun c26 => ?_)
            · have t26 : w2_1.toInt > (0 : Int) := gl_lt c26
              refine lv_iconst (v := 1) hx hb dX6_readNumber_100 (by decide) ?_
              refine lv_goto (tgt := 105) hx hb dX6_readNumber_101 (by decide) ?_
              exact W.zret (v := 1) (ty := .boolean) hx hb hr rfl (fun t ht hW => ⟨⟨1, (z2, y2), rfl, ⟨⟨by decide, by decide⟩, J2⟩, by rw [ht]; exact hP, va_K.moved hW.alike hK⟩, hS.F ht⟩) hS.2.2 dX6_readNumber_105
            · have t26 : w2_1.toInt ≤ (0 : Int) := gl_nlt c26
              refine lv_aload_n hx hb dX6_readNumber_88 rfl (lv_at hl 3 rfl) ?_
              refine lv_iconst (v := 1) hx hb dX6_readNumber_89 (by decide) ?_
              refine lv_aload_n hx hb dX6_readNumber_90 rfl (lv_at hl 3 rfl) ?_
              refine qf_get hx hb hts inX6 hown hK hP (q0 := 78) (by decide) (hgU_78 ca o) rfl 6 (by decide) wq_136 (v := .int (z2 78 6)) rfl dX6_readNumber_91 ?_
              refine lv_topi (fun x27 e27 => ?_)
              refine qc_Vi2 (As := [.int 1, .int x27]) (rest := []) (k0 := 2) (u_Reader_fail l D ca o b z2 y2 J2 1 x27) kc_yX6_fail ⟨hx, hb, hml, hown, hts⟩ wq_450 rfl rfl ⟨Nat.le_of_ble_eq_true rfl, Nat.le_of_ble_eq_true rfl⟩ wq_all hP hK hS qw_Ai (q0 := 78) (by decide) (hgU_78 ca o _ _) rfl rfl hl.1 rfl (Nat.le_of_ble_eq_true rfl) dX6_readNumber_94 ⟨Nat.zero_le _, Nat.zero_le _⟩ (fun r28 z28 y28 H locs h28 hP hS _ _ => ?_)
              have J28 : qJU b z28 := h28.2
              have b28 : (0 : Int) ≤ r28.toInt ∧ r28.toInt ≤ 0 := h28.1
              obtain rfl : r28 = 0 := lit_eq (k := 0) (K := 0) rfl (by omega) (by omega)
              refine lv_if_eq (tgt := 104) hx hb dX6_readNumber_97 (by decide) (fun _ => ?_) (fun q => absurd (by decide) q)
              refine lv_iconst (v := 0) hx hb dX6_readNumber_104 (by decide) ?_
              exact W.zret (v := 0) (ty := .boolean) hx hb hr rfl (fun t ht hW => ⟨⟨0, (z28, y28), rfl, ⟨⟨by decide, by decide⟩, J28⟩, by rw [ht]; exact hP, va_K.moved hW.alike hK⟩, hS.F ht⟩) hS.2.2 dX6_readNumber_105
  exact loop2 5 0 0 z1 y (show (4 - (0 : Int) : Int) < ((5 : Nat) : Int) from by omega) ⟨by decide, by decide⟩ ⟨by decide, by decide⟩ J1 _ _ hP hS _ (lv_sub hl [0, 1, 2] rfl)
set_option maxRecDepth 100000 in
set_option maxHeartbeats 8000000 in
theorem u_Reader_open (l : Launch) (D : va_G) (ca : Nat → ClassId) (o : Nat) (b z : Nat → Nat → Int32) (y : Nat → Nat → Int64) (J0 : qJU b z)   : qM l yX6_open cX6_open 2 (some .boolean) 2 82 (qPre D vwCl (qT6 ca) o 132 (qG (GU ca o) z y) [.ref (o + 78), .int 0]) (va_Qi (fun r u => ((0 : Int) ≤ r.toInt ∧ r.toInt ≤ 1) ∧ qJU b u.1) (qB D vwCl (qT6 ca) o 132 (fun u : qZ => qG (GU ca o) u.1 u.2)) (qw_A o 132)) (qw_A o 132) := by
  refine Met.ofW (cc := cX6_open) (maxL := 2) (ret := (some .boolean)) (by decide) rfl ?_
  intro p e s m args below meth c s₁ B hml hv
  obtain ⟨rfl, hP, hK⟩ := hv
  have hx := B.exec
  have hb := B.bytes
  have hr := B.returns
  have hts0 := atoms_spec (ws := Cond.code yX6_open cX6_open 2 (some .boolean) :: qtbl) B.pre
  have hts : ∀ w ∈ qtbl, w.before _ s = true := fun w h => hts0 w (List.mem_cons_of_mem _ h)
  have hown : s.vm.findClass RX6 = some m.cls := findClass_of_methodNamed B.named
  have hlocks := B.notSynchronized
  have hS : va_S (qw_A o 132) s.heap s.heap [] := va_S.rf
  have hl := lv_entry ([.ref (o + 78), .int 0]) (n := 2) (Nat.le_of_ble_eq_true rfl)
  rw [lg_entry_eq]
  generalize (lg_sl ([.ref (o + 78), .int 0]) ++ List.replicate (2 - (lg_sl ([.ref (o + 78), .int 0])).length) Slot.unset).toArray = ls at hl ⊢
  have hl : lv_has ls 2 [(0, .ref (o + 78)), (1, .int 0)] := hl
  refine lv_aload_n hx hb dX6_open_0 rfl (lv_at hl 0 rfl) ?_
  refine qc_Vip (As := []) (rest := []) (k0 := 0) (u_Reader_peek l D ca o b z y J0) kc_yX6_peek ⟨hx, hb, hml, hown, hts⟩ wq_463 rfl rfl ⟨Nat.le_of_ble_eq_true rfl, Nat.le_of_ble_eq_true rfl⟩ wq_all hP hK hS qw_Ai (q0 := 78) (by decide) (hgU_78 ca o _ _) rfl rfl hl.1 rfl (Nat.le_of_ble_eq_true rfl) dX6_open_1 ⟨Nat.zero_le _, Nat.zero_le _⟩ (fun r1 H locs h1 hP hS _ _ => ?_)
  refine lv_bipush (v := 40) hx hb dX6_open_4 (by decide) ?_
  refine lv_icmp_eq (tgt := 19) hx hb dX6_open_6 (by decide) (fun c2 => ?_) (fun c2 => ?_)
  · have t2 : r1.toInt = (40 : Int) := gl_eq c2
    refine lv_iload_n hx hb dX6_open_19 rfl (lv_at hl 1 rfl) ?_
    refine lv_bipush (v := 6) hx hb dX6_open_20 (by decide) ?_
    refine lv_icmp_lt (tgt := 35) hx hb dX6_open_22 (by decide) (fun _ => ?_) (fun q => absurd (by decide) q)
    refine lv_aload_n hx hb dX6_open_35 rfl (lv_at hl 0 rfl) ?_
    refine lv_dup hx hb dX6_open_36 rfl ?_
    refine qf_get hx hb hts inX6 hown hK hP (q0 := 78) (by decide) (hgU_78 ca o) rfl 6 (by decide) wq_136 (v := .int (z 78 6)) rfl dX6_open_37 ?_
    refine lv_topi (fun x3 e3 => ?_)
    refine lv_iconst (v := 1) hx hb dX6_open_40 (by decide) ?_
    refine lv_iadd hx hb dX6_open_41 ?_
    refine lv_topi (fun x4 e4 => ?_)
    refine qf_put2 hx hb hts inX6 tyX6 tyX6_ok nmX6 hown hK hP hS qw_Ai (q0 := 78) (by decide) (hgU_78 ca o) rfl 6 (by decide) wq_136 rfl (x := x4) 6 rfl rfl rfl (Nat.le_of_ble_eq_true rfl) dX6_open_42 (fun z5 H locs hz5 hP hS => ?_)
    have J5 := jU_78_6 J0 hz5
    refine lv_iconst (v := 1) hx hb dX6_open_45 (by decide) ?_
    exact W.zret (v := 1) (ty := .boolean) hx hb hr rfl (fun t ht hW => ⟨⟨1, (z5, y), rfl, ⟨⟨by decide, by decide⟩, J5⟩, by rw [ht]; exact hP, va_K.moved hW.alike hK⟩, hS.F ht⟩) hS.2.2 dX6_open_46
  · have t2 : r1.toInt ≠ (40 : Int) := gl_ne c2
    refine lv_aload_n hx hb dX6_open_9 rfl (lv_at hl 0 rfl) ?_
    refine lv_iconst (v := 1) hx hb dX6_open_10 (by decide) ?_
    refine lv_aload_n hx hb dX6_open_11 rfl (lv_at hl 0 rfl) ?_
    refine qf_get hx hb hts inX6 hown hK hP (q0 := 78) (by decide) (hgU_78 ca o) rfl 6 (by decide) wq_136 (v := .int (z 78 6)) rfl dX6_open_12 ?_
    refine lv_topi (fun x6 e6 => ?_)
    refine qc_Vi2 (As := [.int 1, .int x6]) (rest := []) (k0 := 2) (u_Reader_fail l D ca o b z y J0 1 x6) kc_yX6_fail ⟨hx, hb, hml, hown, hts⟩ wq_450 rfl rfl ⟨Nat.le_of_ble_eq_true rfl, Nat.le_of_ble_eq_true rfl⟩ wq_all hP hK hS qw_Ai (q0 := 78) (by decide) (hgU_78 ca o _ _) rfl rfl hl.1 rfl (Nat.le_of_ble_eq_true rfl) dX6_open_15 ⟨Nat.zero_le _, Nat.zero_le _⟩ (fun r7 z7 y7 H locs h7 hP hS _ _ => ?_)
    have J7 : qJU b z7 := h7.2
    have b7 : (0 : Int) ≤ r7.toInt ∧ r7.toInt ≤ 0 := h7.1
    obtain rfl : r7 = 0 := lit_eq (k := 0) (K := 0) rfl (by omega) (by omega)
    exact W.zret (v := 0) (ty := .boolean) hx hb hr rfl (fun t ht hW => ⟨⟨0, (z7, y7), rfl, ⟨⟨by decide, by decide⟩, J7⟩, by rw [ht]; exact hP, va_K.moved hW.alike hK⟩, hS.F ht⟩) hS.2.2 dX6_open_18
set_option maxRecDepth 100000 in
set_option maxHeartbeats 8000000 in
theorem u_Arrays_fill_v3 (l : Launch) (D : va_G) (ca : Nat → ClassId) (o : Nat) (b z : Nat → Nat → Int32) (y : Nat → Nat → Int64) (J0 : qJU b z) (a1 : Int32)  : qM l yJ7_fill_53178 cJ7_fill_53178 4 none 1 60 (qPre D vwCl (qT6 ca) o 132 (qG (GU ca o) z y) [.ref (o + 81), .int a1]) (va_Qv (fun u => qJU b u.1) (qB D vwCl (qT6 ca) o 132 (fun u : qZ => qG (GU ca o) u.1 u.2)) (qw_A o 132)) (qw_A o 132) := by
  refine Met.ofW (cc := cJ7_fill_53178) (maxL := 4) (ret := none) (by decide) rfl ?_
  intro p e s m args below meth c s₁ B hml hv
  obtain ⟨rfl, hP, hK⟩ := hv
  have hx := B.exec
  have hb := B.bytes
  have hr := B.returns
  have hts0 := atoms_spec (ws := Cond.code yJ7_fill_53178 cJ7_fill_53178 4 none :: qtbl) B.pre
  have hts : ∀ w ∈ qtbl, w.before _ s = true := fun w h => hts0 w (List.mem_cons_of_mem _ h)
  have hown : s.vm.findClass RJ7 = some m.cls := findClass_of_methodNamed B.named
  have hlocks := B.notSynchronized
  have hS : va_S (qw_A o 132) s.heap s.heap [] := va_S.rf
  have hl := lv_entry ([.ref (o + 81), .int a1]) (n := 4) (Nat.le_of_ble_eq_true rfl)
  rw [lg_entry_eq]
  generalize (lg_sl ([.ref (o + 81), .int a1]) ++ List.replicate (4 - (lg_sl ([.ref (o + 81), .int a1])).length) Slot.unset).toArray = ls at hl ⊢
  have hl : lv_has ls 4 [(0, .ref (o + 81)), (1, .int a1)] := hl
  refine lv_iconst (v := 0) hx hb dJ7_fill_53178_0 (by decide) ?_
  refine lv_istore_n (lv' := [(2, .int 0), (0, .ref (o + 81)), (1, .int a1)]) hx hb dJ7_fill_53178_1 rfl hl (by decide) rfl (fun ls hl => ?_)
  refine lv_aload_n hx hb dJ7_fill_53178_2 rfl (lv_at hl 1 rfl) ?_
  refine qa_len hx hb hK hP (q0 := 81) (by decide) 0 (hgU_81 ca o) rfl (v := 7) rfl dJ7_fill_53178_3 ?_
  refine lv_istore_n (lv' := [(3, .int 7), (2, .int 0), (0, .ref (o + 81)), (1, .int a1)]) hx hb dJ7_fill_53178_4 rfl hl (by decide) rfl (fun ls hl => ?_)
  have loop1 : ∀ (n : Nat) (w1_2 : Int32) (z1 : Nat → Nat → Int32) (y1 : Nat → Nat → Int64), ((8 - w1_2.toInt : Int) < (n : Int)) → ((0 : Int) ≤ w1_2.toInt ∧ w1_2.toInt ≤ 8) → (qJU b z1) → ∀ (H : Heap) (locs : List Loc), qw_P D vwCl o 132 (qG (GU ca o) z1 y1) H → va_S (qw_A o 132) s.heap H locs → ∀ (ls : Array Slot), lv_has ls 4 [(3, .int 7), (2, .int w1_2), (0, .ref (o + 81)), (1, .int a1)] → W p l e (headSpec (Cond.code yJ7_fill_53178 cJ7_fill_53178 4 none :: qtbl) ({ frames := 1, cells := 0, slots := 0, locals := 60 })).room s m (([.ref (o + 81), .int a1] : List Value).toArray) below meth c H locs 0 0 (MQ below (va_Qv (fun u => qJU b u.1) (qB D vwCl (qT6 ca) o 132 (fun u : qZ => qG (GU ca o) u.1 u.2)) (qw_A o 132)) (([.ref (o + 81), .int a1] : List Value).toArray) s 0 0 (qw_A o 132)) (F0 m 5 ls []) := by
    intro n
    induction n with
    | zero => intro w1_2 z1 y1 hb1 hv1_2 J1; exfalso; omega
    | succ n1 ih1 =>
      intro w1_2 z1 y1 hb1 hv1_2 J1 H locs hP hS ls hl
      refine lv_iload_n hx hb dJ7_fill_53178_5 rfl (lv_at hl 1 rfl) ?_
      refine lv_iload_n hx hb dJ7_fill_53178_6 rfl (lv_at hl 0 rfl) ?_
      refine lv_icmp_ge (tgt := 20) hx hb dJ7_fill_53178_7 (by decide) (fun c2 => ?_) (fun c2 => ?_)
      · have t2 : w1_2.toInt ≥ (7 : Int) := gl_le c2
        exact W.vret hx hb hr (fun t ht hW => ⟨⟨(z1, y1), rfl, J1, by rw [ht]; exact hP, va_K.moved hW.alike hK⟩, hS.F ht⟩) hS.2.2 dJ7_fill_53178_20
      · have t2 : w1_2.toInt < (7 : Int) := gl_nle c2
        refine lv_aload_n hx hb dJ7_fill_53178_10 rfl (lv_at hl 2 rfl) ?_
        refine lv_iload_n hx hb dJ7_fill_53178_11 rfl (lv_at hl 1 rfl) ?_
        refine lv_iload_n hx hb dJ7_fill_53178_12 rfl (lv_at hl 3 rfl) ?_
        refine qa_iast2 hx hb hK hP hS qw_Ai (q0 := 81) (by decide) 0 (N := 7) (hgU_81 ca o) rfl (i := w1_2) (x := a1) (gi_in (by omega) (by omega)) dJ7_fill_53178_13 (fun z3 H locs hz3 hP hS => ?_)
        have J3 := jU_81 J1 hz3
        obtain ⟨x4, e4⟩ : ∃ t : Int32, t = w1_2 + 1 := ⟨_, rfl⟩
        refine lv_iinc (v := x4) (lv' := [(2, .int x4), (3, .int 7), (0, .ref (o + 81)), (1, .int a1)]) hx hb dJ7_fill_53178_14 hl (k := 1) rfl (by rw [e4]; rfl) (by decide) rfl (fun ls hl => ?_)
        have t4 : x4.toInt = w1_2.toInt + (1 : Int) := ga_add e4 rfl rfl (by omega) (by omega)
        refine lv_goto (tgt := 5) hx hb dJ7_fill_53178_17 (by decide) ?_
        exact ih1 x4 z3 y1 (show (8 - x4.toInt : Int) < (n1 : Int) from by omega) ⟨by omega, by omega⟩ J3 _ _ hP hS _ (lv_sub hl [1, 0, 2, 3] rfl)
  exact loop1 9 0 z y (show (8 - (0 : Int) : Int) < ((9 : Nat) : Int) from by omega) ⟨by decide, by decide⟩ J0 _ _ hP hS _ (lv_sub hl [0, 1, 2, 3] rfl)
set_option maxRecDepth 100000 in
set_option maxHeartbeats 8000000 in
theorem u_Arrays_fill_v4 (l : Launch) (D : va_G) (ca : Nat → ClassId) (o : Nat) (b z : Nat → Nat → Int32) (y : Nat → Nat → Int64) (J0 : qJU b z) (a1 : Int32)  : qM l yJ7_fill_53178 cJ7_fill_53178 4 none 1 60 (qPre D vwCl (qT6 ca) o 132 (qG (GU ca o) z y) [.ref (o + 89), .int a1]) (va_Qv (fun u => qJU b u.1) (qB D vwCl (qT6 ca) o 132 (fun u : qZ => qG (GU ca o) u.1 u.2)) (qw_A o 132)) (qw_A o 132) := by
  refine Met.ofW (cc := cJ7_fill_53178) (maxL := 4) (ret := none) (by decide) rfl ?_
  intro p e s m args below meth c s₁ B hml hv
  obtain ⟨rfl, hP, hK⟩ := hv
  have hx := B.exec
  have hb := B.bytes
  have hr := B.returns
  have hts0 := atoms_spec (ws := Cond.code yJ7_fill_53178 cJ7_fill_53178 4 none :: qtbl) B.pre
  have hts : ∀ w ∈ qtbl, w.before _ s = true := fun w h => hts0 w (List.mem_cons_of_mem _ h)
  have hown : s.vm.findClass RJ7 = some m.cls := findClass_of_methodNamed B.named
  have hlocks := B.notSynchronized
  have hS : va_S (qw_A o 132) s.heap s.heap [] := va_S.rf
  have hl := lv_entry ([.ref (o + 89), .int a1]) (n := 4) (Nat.le_of_ble_eq_true rfl)
  rw [lg_entry_eq]
  generalize (lg_sl ([.ref (o + 89), .int a1]) ++ List.replicate (4 - (lg_sl ([.ref (o + 89), .int a1])).length) Slot.unset).toArray = ls at hl ⊢
  have hl : lv_has ls 4 [(0, .ref (o + 89)), (1, .int a1)] := hl
  refine lv_iconst (v := 0) hx hb dJ7_fill_53178_0 (by decide) ?_
  refine lv_istore_n (lv' := [(2, .int 0), (0, .ref (o + 89)), (1, .int a1)]) hx hb dJ7_fill_53178_1 rfl hl (by decide) rfl (fun ls hl => ?_)
  refine lv_aload_n hx hb dJ7_fill_53178_2 rfl (lv_at hl 1 rfl) ?_
  refine qa_len hx hb hK hP (q0 := 89) (by decide) 0 (hgU_89 ca o) rfl (v := 7) rfl dJ7_fill_53178_3 ?_
  refine lv_istore_n (lv' := [(3, .int 7), (2, .int 0), (0, .ref (o + 89)), (1, .int a1)]) hx hb dJ7_fill_53178_4 rfl hl (by decide) rfl (fun ls hl => ?_)
  have loop1 : ∀ (n : Nat) (w1_2 : Int32) (z1 : Nat → Nat → Int32) (y1 : Nat → Nat → Int64), ((8 - w1_2.toInt : Int) < (n : Int)) → ((0 : Int) ≤ w1_2.toInt ∧ w1_2.toInt ≤ 8) → (qJU b z1) → ∀ (H : Heap) (locs : List Loc), qw_P D vwCl o 132 (qG (GU ca o) z1 y1) H → va_S (qw_A o 132) s.heap H locs → ∀ (ls : Array Slot), lv_has ls 4 [(3, .int 7), (2, .int w1_2), (0, .ref (o + 89)), (1, .int a1)] → W p l e (headSpec (Cond.code yJ7_fill_53178 cJ7_fill_53178 4 none :: qtbl) ({ frames := 1, cells := 0, slots := 0, locals := 60 })).room s m (([.ref (o + 89), .int a1] : List Value).toArray) below meth c H locs 0 0 (MQ below (va_Qv (fun u => qJU b u.1) (qB D vwCl (qT6 ca) o 132 (fun u : qZ => qG (GU ca o) u.1 u.2)) (qw_A o 132)) (([.ref (o + 89), .int a1] : List Value).toArray) s 0 0 (qw_A o 132)) (F0 m 5 ls []) := by
    intro n
    induction n with
    | zero => intro w1_2 z1 y1 hb1 hv1_2 J1; exfalso; omega
    | succ n1 ih1 =>
      intro w1_2 z1 y1 hb1 hv1_2 J1 H locs hP hS ls hl
      refine lv_iload_n hx hb dJ7_fill_53178_5 rfl (lv_at hl 1 rfl) ?_
      refine lv_iload_n hx hb dJ7_fill_53178_6 rfl (lv_at hl 0 rfl) ?_
      refine lv_icmp_ge (tgt := 20) hx hb dJ7_fill_53178_7 (by decide) (fun c2 => ?_) (fun c2 => ?_)
      · have t2 : w1_2.toInt ≥ (7 : Int) := gl_le c2
        exact W.vret hx hb hr (fun t ht hW => ⟨⟨(z1, y1), rfl, J1, by rw [ht]; exact hP, va_K.moved hW.alike hK⟩, hS.F ht⟩) hS.2.2 dJ7_fill_53178_20
      · have t2 : w1_2.toInt < (7 : Int) := gl_nle c2
        refine lv_aload_n hx hb dJ7_fill_53178_10 rfl (lv_at hl 2 rfl) ?_
        refine lv_iload_n hx hb dJ7_fill_53178_11 rfl (lv_at hl 1 rfl) ?_
        refine lv_iload_n hx hb dJ7_fill_53178_12 rfl (lv_at hl 3 rfl) ?_
        refine qa_iast2 hx hb hK hP hS qw_Ai (q0 := 89) (by decide) 0 (N := 7) (hgU_89 ca o) rfl (i := w1_2) (x := a1) (gi_in (by omega) (by omega)) dJ7_fill_53178_13 (fun z3 H locs hz3 hP hS => ?_)
        have J3 := jU_89 J1 hz3
        obtain ⟨x4, e4⟩ : ∃ t : Int32, t = w1_2 + 1 := ⟨_, rfl⟩
        refine lv_iinc (v := x4) (lv' := [(2, .int x4), (3, .int 7), (0, .ref (o + 89)), (1, .int a1)]) hx hb dJ7_fill_53178_14 hl (k := 1) rfl (by rw [e4]; rfl) (by decide) rfl (fun ls hl => ?_)
        have t4 : x4.toInt = w1_2.toInt + (1 : Int) := ga_add e4 rfl rfl (by omega) (by omega)
        refine lv_goto (tgt := 5) hx hb dJ7_fill_53178_17 (by decide) ?_
        exact ih1 x4 z3 y1 (show (8 - x4.toInt : Int) < (n1 : Int) from by omega) ⟨by omega, by omega⟩ J3 _ _ hP hS _ (lv_sub hl [1, 0, 2, 3] rfl)
  exact loop1 9 0 z y (show (8 - (0 : Int) : Int) < ((9 : Nat) : Int) from by omega) ⟨by decide, by decide⟩ J0 _ _ hP hS _ (lv_sub hl [0, 1, 2, 3] rfl)
set_option maxRecDepth 100000 in
set_option maxHeartbeats 8000000 in
theorem u_Arrays_fill_v5 (l : Launch) (D : va_G) (ca : Nat → ClassId) (o : Nat) (b z : Nat → Nat → Int32) (y : Nat → Nat → Int64) (J0 : qJU b z) (a1 : Int32)  : qM l yJ7_fill_53178 cJ7_fill_53178 4 none 1 60 (qPre D vwCl (qT6 ca) o 132 (qG (GU ca o) z y) [.ref (o + 97), .int a1]) (va_Qv (fun u => qJU b u.1) (qB D vwCl (qT6 ca) o 132 (fun u : qZ => qG (GU ca o) u.1 u.2)) (qw_A o 132)) (qw_A o 132) := by
  refine Met.ofW (cc := cJ7_fill_53178) (maxL := 4) (ret := none) (by decide) rfl ?_
  intro p e s m args below meth c s₁ B hml hv
  obtain ⟨rfl, hP, hK⟩ := hv
  have hx := B.exec
  have hb := B.bytes
  have hr := B.returns
  have hts0 := atoms_spec (ws := Cond.code yJ7_fill_53178 cJ7_fill_53178 4 none :: qtbl) B.pre
  have hts : ∀ w ∈ qtbl, w.before _ s = true := fun w h => hts0 w (List.mem_cons_of_mem _ h)
  have hown : s.vm.findClass RJ7 = some m.cls := findClass_of_methodNamed B.named
  have hlocks := B.notSynchronized
  have hS : va_S (qw_A o 132) s.heap s.heap [] := va_S.rf
  have hl := lv_entry ([.ref (o + 97), .int a1]) (n := 4) (Nat.le_of_ble_eq_true rfl)
  rw [lg_entry_eq]
  generalize (lg_sl ([.ref (o + 97), .int a1]) ++ List.replicate (4 - (lg_sl ([.ref (o + 97), .int a1])).length) Slot.unset).toArray = ls at hl ⊢
  have hl : lv_has ls 4 [(0, .ref (o + 97)), (1, .int a1)] := hl
  refine lv_iconst (v := 0) hx hb dJ7_fill_53178_0 (by decide) ?_
  refine lv_istore_n (lv' := [(2, .int 0), (0, .ref (o + 97)), (1, .int a1)]) hx hb dJ7_fill_53178_1 rfl hl (by decide) rfl (fun ls hl => ?_)
  refine lv_aload_n hx hb dJ7_fill_53178_2 rfl (lv_at hl 1 rfl) ?_
  refine qa_len hx hb hK hP (q0 := 97) (by decide) 0 (hgU_97 ca o) rfl (v := 7) rfl dJ7_fill_53178_3 ?_
  refine lv_istore_n (lv' := [(3, .int 7), (2, .int 0), (0, .ref (o + 97)), (1, .int a1)]) hx hb dJ7_fill_53178_4 rfl hl (by decide) rfl (fun ls hl => ?_)
  have loop1 : ∀ (n : Nat) (w1_2 : Int32) (z1 : Nat → Nat → Int32) (y1 : Nat → Nat → Int64), ((8 - w1_2.toInt : Int) < (n : Int)) → ((0 : Int) ≤ w1_2.toInt ∧ w1_2.toInt ≤ 8) → (qJU b z1) → ∀ (H : Heap) (locs : List Loc), qw_P D vwCl o 132 (qG (GU ca o) z1 y1) H → va_S (qw_A o 132) s.heap H locs → ∀ (ls : Array Slot), lv_has ls 4 [(3, .int 7), (2, .int w1_2), (0, .ref (o + 97)), (1, .int a1)] → W p l e (headSpec (Cond.code yJ7_fill_53178 cJ7_fill_53178 4 none :: qtbl) ({ frames := 1, cells := 0, slots := 0, locals := 60 })).room s m (([.ref (o + 97), .int a1] : List Value).toArray) below meth c H locs 0 0 (MQ below (va_Qv (fun u => qJU b u.1) (qB D vwCl (qT6 ca) o 132 (fun u : qZ => qG (GU ca o) u.1 u.2)) (qw_A o 132)) (([.ref (o + 97), .int a1] : List Value).toArray) s 0 0 (qw_A o 132)) (F0 m 5 ls []) := by
    intro n
    induction n with
    | zero => intro w1_2 z1 y1 hb1 hv1_2 J1; exfalso; omega
    | succ n1 ih1 =>
      intro w1_2 z1 y1 hb1 hv1_2 J1 H locs hP hS ls hl
      refine lv_iload_n hx hb dJ7_fill_53178_5 rfl (lv_at hl 1 rfl) ?_
      refine lv_iload_n hx hb dJ7_fill_53178_6 rfl (lv_at hl 0 rfl) ?_
      refine lv_icmp_ge (tgt := 20) hx hb dJ7_fill_53178_7 (by decide) (fun c2 => ?_) (fun c2 => ?_)
      · have t2 : w1_2.toInt ≥ (7 : Int) := gl_le c2
        exact W.vret hx hb hr (fun t ht hW => ⟨⟨(z1, y1), rfl, J1, by rw [ht]; exact hP, va_K.moved hW.alike hK⟩, hS.F ht⟩) hS.2.2 dJ7_fill_53178_20
      · have t2 : w1_2.toInt < (7 : Int) := gl_nle c2
        refine lv_aload_n hx hb dJ7_fill_53178_10 rfl (lv_at hl 2 rfl) ?_
        refine lv_iload_n hx hb dJ7_fill_53178_11 rfl (lv_at hl 1 rfl) ?_
        refine lv_iload_n hx hb dJ7_fill_53178_12 rfl (lv_at hl 3 rfl) ?_
        refine qa_iast2 hx hb hK hP hS qw_Ai (q0 := 97) (by decide) 0 (N := 7) (hgU_97 ca o) rfl (i := w1_2) (x := a1) (gi_in (by omega) (by omega)) dJ7_fill_53178_13 (fun z3 H locs hz3 hP hS => ?_)
        have J3 := jU_97 J1 hz3
        obtain ⟨x4, e4⟩ : ∃ t : Int32, t = w1_2 + 1 := ⟨_, rfl⟩
        refine lv_iinc (v := x4) (lv' := [(2, .int x4), (3, .int 7), (0, .ref (o + 97)), (1, .int a1)]) hx hb dJ7_fill_53178_14 hl (k := 1) rfl (by rw [e4]; rfl) (by decide) rfl (fun ls hl => ?_)
        have t4 : x4.toInt = w1_2.toInt + (1 : Int) := ga_add e4 rfl rfl (by omega) (by omega)
        refine lv_goto (tgt := 5) hx hb dJ7_fill_53178_17 (by decide) ?_
        exact ih1 x4 z3 y1 (show (8 - x4.toInt : Int) < (n1 : Int) from by omega) ⟨by omega, by omega⟩ J3 _ _ hP hS _ (lv_sub hl [1, 0, 2, 3] rfl)
  exact loop1 9 0 z y (show (8 - (0 : Int) : Int) < ((9 : Nat) : Int) from by omega) ⟨by decide, by decide⟩ J0 _ _ hP hS _ (lv_sub hl [0, 1, 2, 3] rfl)
set_option maxRecDepth 100000 in
set_option maxHeartbeats 8000000 in
theorem u_Reader_open_v1 (l : Launch) (D : va_G) (ca : Nat → ClassId) (o : Nat) (b z : Nat → Nat → Int32) (y : Nat → Nat → Int64) (J0 : qJU b z)   : qM l yX6_open cX6_open 2 (some .boolean) 2 82 (qPre D vwCl (qT6 ca) o 132 (qG (GU ca o) z y) [.ref (o + 78), .int 1]) (va_Qi (fun r u => ((0 : Int) ≤ r.toInt ∧ r.toInt ≤ 1) ∧ qJU b u.1) (qB D vwCl (qT6 ca) o 132 (fun u : qZ => qG (GU ca o) u.1 u.2)) (qw_A o 132)) (qw_A o 132) := by
  refine Met.ofW (cc := cX6_open) (maxL := 2) (ret := (some .boolean)) (by decide) rfl ?_
  intro p e s m args below meth c s₁ B hml hv
  obtain ⟨rfl, hP, hK⟩ := hv
  have hx := B.exec
  have hb := B.bytes
  have hr := B.returns
  have hts0 := atoms_spec (ws := Cond.code yX6_open cX6_open 2 (some .boolean) :: qtbl) B.pre
  have hts : ∀ w ∈ qtbl, w.before _ s = true := fun w h => hts0 w (List.mem_cons_of_mem _ h)
  have hown : s.vm.findClass RX6 = some m.cls := findClass_of_methodNamed B.named
  have hlocks := B.notSynchronized
  have hS : va_S (qw_A o 132) s.heap s.heap [] := va_S.rf
  have hl := lv_entry ([.ref (o + 78), .int 1]) (n := 2) (Nat.le_of_ble_eq_true rfl)
  rw [lg_entry_eq]
  generalize (lg_sl ([.ref (o + 78), .int 1]) ++ List.replicate (2 - (lg_sl ([.ref (o + 78), .int 1])).length) Slot.unset).toArray = ls at hl ⊢
  have hl : lv_has ls 2 [(0, .ref (o + 78)), (1, .int 1)] := hl
  refine lv_aload_n hx hb dX6_open_0 rfl (lv_at hl 0 rfl) ?_
  refine qc_Vip (As := []) (rest := []) (k0 := 0) (u_Reader_peek l D ca o b z y J0) kc_yX6_peek ⟨hx, hb, hml, hown, hts⟩ wq_463 rfl rfl ⟨Nat.le_of_ble_eq_true rfl, Nat.le_of_ble_eq_true rfl⟩ wq_all hP hK hS qw_Ai (q0 := 78) (by decide) (hgU_78 ca o _ _) rfl rfl hl.1 rfl (Nat.le_of_ble_eq_true rfl) dX6_open_1 ⟨Nat.zero_le _, Nat.zero_le _⟩ (fun r1 H locs h1 hP hS _ _ => ?_)
  refine lv_bipush (v := 40) hx hb dX6_open_4 (by decide) ?_
  refine lv_icmp_eq (tgt := 19) hx hb dX6_open_6 (by decide) (fun c2 => ?_) (fun c2 => ?_)
  · have t2 : r1.toInt = (40 : Int) := gl_eq c2
    refine lv_iload_n hx hb dX6_open_19 rfl (lv_at hl 1 rfl) ?_
    refine lv_bipush (v := 6) hx hb dX6_open_20 (by decide) ?_
    refine lv_icmp_lt (tgt := 35) hx hb dX6_open_22 (by decide) (fun _ => ?_) (fun q => absurd (by decide) q)
    refine lv_aload_n hx hb dX6_open_35 rfl (lv_at hl 0 rfl) ?_
    refine lv_dup hx hb dX6_open_36 rfl ?_
    refine qf_get hx hb hts inX6 hown hK hP (q0 := 78) (by decide) (hgU_78 ca o) rfl 6 (by decide) wq_136 (v := .int (z 78 6)) rfl dX6_open_37 ?_
    refine lv_topi (fun x3 e3 => ?_)
    refine lv_iconst (v := 1) hx hb dX6_open_40 (by decide) ?_
    refine lv_iadd hx hb dX6_open_41 ?_
    refine lv_topi (fun x4 e4 => ?_)
    refine qf_put2 hx hb hts inX6 tyX6 tyX6_ok nmX6 hown hK hP hS qw_Ai (q0 := 78) (by decide) (hgU_78 ca o) rfl 6 (by decide) wq_136 rfl (x := x4) 6 rfl rfl rfl (Nat.le_of_ble_eq_true rfl) dX6_open_42 (fun z5 H locs hz5 hP hS => ?_)
    have J5 := jU_78_6 J0 hz5
    refine lv_iconst (v := 1) hx hb dX6_open_45 (by decide) ?_
    exact W.zret (v := 1) (ty := .boolean) hx hb hr rfl (fun t ht hW => ⟨⟨1, (z5, y), rfl, ⟨⟨by decide, by decide⟩, J5⟩, by rw [ht]; exact hP, va_K.moved hW.alike hK⟩, hS.F ht⟩) hS.2.2 dX6_open_46
  · have t2 : r1.toInt ≠ (40 : Int) := gl_ne c2
    refine lv_aload_n hx hb dX6_open_9 rfl (lv_at hl 0 rfl) ?_
    refine lv_iconst (v := 1) hx hb dX6_open_10 (by decide) ?_
    refine lv_aload_n hx hb dX6_open_11 rfl (lv_at hl 0 rfl) ?_
    refine qf_get hx hb hts inX6 hown hK hP (q0 := 78) (by decide) (hgU_78 ca o) rfl 6 (by decide) wq_136 (v := .int (z 78 6)) rfl dX6_open_12 ?_
    refine lv_topi (fun x6 e6 => ?_)
    refine qc_Vi2 (As := [.int 1, .int x6]) (rest := []) (k0 := 2) (u_Reader_fail l D ca o b z y J0 1 x6) kc_yX6_fail ⟨hx, hb, hml, hown, hts⟩ wq_450 rfl rfl ⟨Nat.le_of_ble_eq_true rfl, Nat.le_of_ble_eq_true rfl⟩ wq_all hP hK hS qw_Ai (q0 := 78) (by decide) (hgU_78 ca o _ _) rfl rfl hl.1 rfl (Nat.le_of_ble_eq_true rfl) dX6_open_15 ⟨Nat.zero_le _, Nat.zero_le _⟩ (fun r7 z7 y7 H locs h7 hP hS _ _ => ?_)
    have J7 : qJU b z7 := h7.2
    have b7 : (0 : Int) ≤ r7.toInt ∧ r7.toInt ≤ 0 := h7.1
    obtain rfl : r7 = 0 := lit_eq (k := 0) (K := 0) rfl (by omega) (by omega)
    exact W.zret (v := 0) (ty := .boolean) hx hb hr rfl (fun t ht hW => ⟨⟨0, (z7, y7), rfl, ⟨⟨by decide, by decide⟩, J7⟩, by rw [ht]; exact hP, va_K.moved hW.alike hK⟩, hS.F ht⟩) hS.2.2 dX6_open_18
set_option maxRecDepth 100000 in
set_option maxHeartbeats 8000000 in
theorem u_Arrays_fill_v6 (l : Launch) (D : va_G) (ca : Nat → ClassId) (o : Nat) (b z : Nat → Nat → Int32) (y : Nat → Nat → Int64) (J0 : qJU b z) (a1 : Int32)  : qM l yJ7_fill_53178 cJ7_fill_53178 4 none 1 60 (qPre D vwCl (qT6 ca) o 132 (qG (GU ca o) z y) [.ref (o + 82), .int a1]) (va_Qv (fun u => qJU b u.1) (qB D vwCl (qT6 ca) o 132 (fun u : qZ => qG (GU ca o) u.1 u.2)) (qw_A o 132)) (qw_A o 132) := by
  refine Met.ofW (cc := cJ7_fill_53178) (maxL := 4) (ret := none) (by decide) rfl ?_
  intro p e s m args below meth c s₁ B hml hv
  obtain ⟨rfl, hP, hK⟩ := hv
  have hx := B.exec
  have hb := B.bytes
  have hr := B.returns
  have hts0 := atoms_spec (ws := Cond.code yJ7_fill_53178 cJ7_fill_53178 4 none :: qtbl) B.pre
  have hts : ∀ w ∈ qtbl, w.before _ s = true := fun w h => hts0 w (List.mem_cons_of_mem _ h)
  have hown : s.vm.findClass RJ7 = some m.cls := findClass_of_methodNamed B.named
  have hlocks := B.notSynchronized
  have hS : va_S (qw_A o 132) s.heap s.heap [] := va_S.rf
  have hl := lv_entry ([.ref (o + 82), .int a1]) (n := 4) (Nat.le_of_ble_eq_true rfl)
  rw [lg_entry_eq]
  generalize (lg_sl ([.ref (o + 82), .int a1]) ++ List.replicate (4 - (lg_sl ([.ref (o + 82), .int a1])).length) Slot.unset).toArray = ls at hl ⊢
  have hl : lv_has ls 4 [(0, .ref (o + 82)), (1, .int a1)] := hl
  refine lv_iconst (v := 0) hx hb dJ7_fill_53178_0 (by decide) ?_
  refine lv_istore_n (lv' := [(2, .int 0), (0, .ref (o + 82)), (1, .int a1)]) hx hb dJ7_fill_53178_1 rfl hl (by decide) rfl (fun ls hl => ?_)
  refine lv_aload_n hx hb dJ7_fill_53178_2 rfl (lv_at hl 1 rfl) ?_
  refine qa_len hx hb hK hP (q0 := 82) (by decide) 0 (hgU_82 ca o) rfl (v := 7) rfl dJ7_fill_53178_3 ?_
  refine lv_istore_n (lv' := [(3, .int 7), (2, .int 0), (0, .ref (o + 82)), (1, .int a1)]) hx hb dJ7_fill_53178_4 rfl hl (by decide) rfl (fun ls hl => ?_)
  have loop1 : ∀ (n : Nat) (w1_2 : Int32) (z1 : Nat → Nat → Int32) (y1 : Nat → Nat → Int64), ((8 - w1_2.toInt : Int) < (n : Int)) → ((0 : Int) ≤ w1_2.toInt ∧ w1_2.toInt ≤ 8) → (qJU b z1) → ∀ (H : Heap) (locs : List Loc), qw_P D vwCl o 132 (qG (GU ca o) z1 y1) H → va_S (qw_A o 132) s.heap H locs → ∀ (ls : Array Slot), lv_has ls 4 [(3, .int 7), (2, .int w1_2), (0, .ref (o + 82)), (1, .int a1)] → W p l e (headSpec (Cond.code yJ7_fill_53178 cJ7_fill_53178 4 none :: qtbl) ({ frames := 1, cells := 0, slots := 0, locals := 60 })).room s m (([.ref (o + 82), .int a1] : List Value).toArray) below meth c H locs 0 0 (MQ below (va_Qv (fun u => qJU b u.1) (qB D vwCl (qT6 ca) o 132 (fun u : qZ => qG (GU ca o) u.1 u.2)) (qw_A o 132)) (([.ref (o + 82), .int a1] : List Value).toArray) s 0 0 (qw_A o 132)) (F0 m 5 ls []) := by
    intro n
    induction n with
    | zero => intro w1_2 z1 y1 hb1 hv1_2 J1; exfalso; omega
    | succ n1 ih1 =>
      intro w1_2 z1 y1 hb1 hv1_2 J1 H locs hP hS ls hl
      refine lv_iload_n hx hb dJ7_fill_53178_5 rfl (lv_at hl 1 rfl) ?_
      refine lv_iload_n hx hb dJ7_fill_53178_6 rfl (lv_at hl 0 rfl) ?_
      refine lv_icmp_ge (tgt := 20) hx hb dJ7_fill_53178_7 (by decide) (fun c2 => ?_) (fun c2 => ?_)
      · have t2 : w1_2.toInt ≥ (7 : Int) := gl_le c2
        exact W.vret hx hb hr (fun t ht hW => ⟨⟨(z1, y1), rfl, J1, by rw [ht]; exact hP, va_K.moved hW.alike hK⟩, hS.F ht⟩) hS.2.2 dJ7_fill_53178_20
      · have t2 : w1_2.toInt < (7 : Int) := gl_nle c2
        refine lv_aload_n hx hb dJ7_fill_53178_10 rfl (lv_at hl 2 rfl) ?_
        refine lv_iload_n hx hb dJ7_fill_53178_11 rfl (lv_at hl 1 rfl) ?_
        refine lv_iload_n hx hb dJ7_fill_53178_12 rfl (lv_at hl 3 rfl) ?_
        refine qa_iast2 hx hb hK hP hS qw_Ai (q0 := 82) (by decide) 0 (N := 7) (hgU_82 ca o) rfl (i := w1_2) (x := a1) (gi_in (by omega) (by omega)) dJ7_fill_53178_13 (fun z3 H locs hz3 hP hS => ?_)
        have J3 := jU_82 J1 hz3
        obtain ⟨x4, e4⟩ : ∃ t : Int32, t = w1_2 + 1 := ⟨_, rfl⟩
        refine lv_iinc (v := x4) (lv' := [(2, .int x4), (3, .int 7), (0, .ref (o + 82)), (1, .int a1)]) hx hb dJ7_fill_53178_14 hl (k := 1) rfl (by rw [e4]; rfl) (by decide) rfl (fun ls hl => ?_)
        have t4 : x4.toInt = w1_2.toInt + (1 : Int) := ga_add e4 rfl rfl (by omega) (by omega)
        refine lv_goto (tgt := 5) hx hb dJ7_fill_53178_17 (by decide) ?_
        exact ih1 x4 z3 y1 (show (8 - x4.toInt : Int) < (n1 : Int) from by omega) ⟨by omega, by omega⟩ J3 _ _ hP hS _ (lv_sub hl [1, 0, 2, 3] rfl)
  exact loop1 9 0 z y (show (8 - (0 : Int) : Int) < ((9 : Nat) : Int) from by omega) ⟨by decide, by decide⟩ J0 _ _ hP hS _ (lv_sub hl [0, 1, 2, 3] rfl)
set_option maxRecDepth 100000 in
set_option maxHeartbeats 8000000 in
theorem u_Arrays_fill_v7 (l : Launch) (D : va_G) (ca : Nat → ClassId) (o : Nat) (b z : Nat → Nat → Int32) (y : Nat → Nat → Int64) (J0 : qJU b z) (a1 : Int32)  : qM l yJ7_fill_53178 cJ7_fill_53178 4 none 1 60 (qPre D vwCl (qT6 ca) o 132 (qG (GU ca o) z y) [.ref (o + 90), .int a1]) (va_Qv (fun u => qJU b u.1) (qB D vwCl (qT6 ca) o 132 (fun u : qZ => qG (GU ca o) u.1 u.2)) (qw_A o 132)) (qw_A o 132) := by
  refine Met.ofW (cc := cJ7_fill_53178) (maxL := 4) (ret := none) (by decide) rfl ?_
  intro p e s m args below meth c s₁ B hml hv
  obtain ⟨rfl, hP, hK⟩ := hv
  have hx := B.exec
  have hb := B.bytes
  have hr := B.returns
  have hts0 := atoms_spec (ws := Cond.code yJ7_fill_53178 cJ7_fill_53178 4 none :: qtbl) B.pre
  have hts : ∀ w ∈ qtbl, w.before _ s = true := fun w h => hts0 w (List.mem_cons_of_mem _ h)
  have hown : s.vm.findClass RJ7 = some m.cls := findClass_of_methodNamed B.named
  have hlocks := B.notSynchronized
  have hS : va_S (qw_A o 132) s.heap s.heap [] := va_S.rf
  have hl := lv_entry ([.ref (o + 90), .int a1]) (n := 4) (Nat.le_of_ble_eq_true rfl)
  rw [lg_entry_eq]
  generalize (lg_sl ([.ref (o + 90), .int a1]) ++ List.replicate (4 - (lg_sl ([.ref (o + 90), .int a1])).length) Slot.unset).toArray = ls at hl ⊢
  have hl : lv_has ls 4 [(0, .ref (o + 90)), (1, .int a1)] := hl
  refine lv_iconst (v := 0) hx hb dJ7_fill_53178_0 (by decide) ?_
  refine lv_istore_n (lv' := [(2, .int 0), (0, .ref (o + 90)), (1, .int a1)]) hx hb dJ7_fill_53178_1 rfl hl (by decide) rfl (fun ls hl => ?_)
  refine lv_aload_n hx hb dJ7_fill_53178_2 rfl (lv_at hl 1 rfl) ?_
  refine qa_len hx hb hK hP (q0 := 90) (by decide) 0 (hgU_90 ca o) rfl (v := 7) rfl dJ7_fill_53178_3 ?_
  refine lv_istore_n (lv' := [(3, .int 7), (2, .int 0), (0, .ref (o + 90)), (1, .int a1)]) hx hb dJ7_fill_53178_4 rfl hl (by decide) rfl (fun ls hl => ?_)
  have loop1 : ∀ (n : Nat) (w1_2 : Int32) (z1 : Nat → Nat → Int32) (y1 : Nat → Nat → Int64), ((8 - w1_2.toInt : Int) < (n : Int)) → ((0 : Int) ≤ w1_2.toInt ∧ w1_2.toInt ≤ 8) → (qJU b z1) → ∀ (H : Heap) (locs : List Loc), qw_P D vwCl o 132 (qG (GU ca o) z1 y1) H → va_S (qw_A o 132) s.heap H locs → ∀ (ls : Array Slot), lv_has ls 4 [(3, .int 7), (2, .int w1_2), (0, .ref (o + 90)), (1, .int a1)] → W p l e (headSpec (Cond.code yJ7_fill_53178 cJ7_fill_53178 4 none :: qtbl) ({ frames := 1, cells := 0, slots := 0, locals := 60 })).room s m (([.ref (o + 90), .int a1] : List Value).toArray) below meth c H locs 0 0 (MQ below (va_Qv (fun u => qJU b u.1) (qB D vwCl (qT6 ca) o 132 (fun u : qZ => qG (GU ca o) u.1 u.2)) (qw_A o 132)) (([.ref (o + 90), .int a1] : List Value).toArray) s 0 0 (qw_A o 132)) (F0 m 5 ls []) := by
    intro n
    induction n with
    | zero => intro w1_2 z1 y1 hb1 hv1_2 J1; exfalso; omega
    | succ n1 ih1 =>
      intro w1_2 z1 y1 hb1 hv1_2 J1 H locs hP hS ls hl
      refine lv_iload_n hx hb dJ7_fill_53178_5 rfl (lv_at hl 1 rfl) ?_
      refine lv_iload_n hx hb dJ7_fill_53178_6 rfl (lv_at hl 0 rfl) ?_
      refine lv_icmp_ge (tgt := 20) hx hb dJ7_fill_53178_7 (by decide) (fun c2 => ?_) (fun c2 => ?_)
      · have t2 : w1_2.toInt ≥ (7 : Int) := gl_le c2
        exact W.vret hx hb hr (fun t ht hW => ⟨⟨(z1, y1), rfl, J1, by rw [ht]; exact hP, va_K.moved hW.alike hK⟩, hS.F ht⟩) hS.2.2 dJ7_fill_53178_20
      · have t2 : w1_2.toInt < (7 : Int) := gl_nle c2
        refine lv_aload_n hx hb dJ7_fill_53178_10 rfl (lv_at hl 2 rfl) ?_
        refine lv_iload_n hx hb dJ7_fill_53178_11 rfl (lv_at hl 1 rfl) ?_
        refine lv_iload_n hx hb dJ7_fill_53178_12 rfl (lv_at hl 3 rfl) ?_
        refine qa_iast2 hx hb hK hP hS qw_Ai (q0 := 90) (by decide) 0 (N := 7) (hgU_90 ca o) rfl (i := w1_2) (x := a1) (gi_in (by omega) (by omega)) dJ7_fill_53178_13 (fun z3 H locs hz3 hP hS => ?_)
        have J3 := jU_90 J1 hz3
        obtain ⟨x4, e4⟩ : ∃ t : Int32, t = w1_2 + 1 := ⟨_, rfl⟩
        refine lv_iinc (v := x4) (lv' := [(2, .int x4), (3, .int 7), (0, .ref (o + 90)), (1, .int a1)]) hx hb dJ7_fill_53178_14 hl (k := 1) rfl (by rw [e4]; rfl) (by decide) rfl (fun ls hl => ?_)
        have t4 : x4.toInt = w1_2.toInt + (1 : Int) := ga_add e4 rfl rfl (by omega) (by omega)
        refine lv_goto (tgt := 5) hx hb dJ7_fill_53178_17 (by decide) ?_
        exact ih1 x4 z3 y1 (show (8 - x4.toInt : Int) < (n1 : Int) from by omega) ⟨by omega, by omega⟩ J3 _ _ hP hS _ (lv_sub hl [1, 0, 2, 3] rfl)
  exact loop1 9 0 z y (show (8 - (0 : Int) : Int) < ((9 : Nat) : Int) from by omega) ⟨by decide, by decide⟩ J0 _ _ hP hS _ (lv_sub hl [0, 1, 2, 3] rfl)
set_option maxRecDepth 100000 in
set_option maxHeartbeats 8000000 in
theorem u_Arrays_fill_v8 (l : Launch) (D : va_G) (ca : Nat → ClassId) (o : Nat) (b z : Nat → Nat → Int32) (y : Nat → Nat → Int64) (J0 : qJU b z) (a1 : Int32)  : qM l yJ7_fill_53178 cJ7_fill_53178 4 none 1 60 (qPre D vwCl (qT6 ca) o 132 (qG (GU ca o) z y) [.ref (o + 98), .int a1]) (va_Qv (fun u => qJU b u.1) (qB D vwCl (qT6 ca) o 132 (fun u : qZ => qG (GU ca o) u.1 u.2)) (qw_A o 132)) (qw_A o 132) := by
  refine Met.ofW (cc := cJ7_fill_53178) (maxL := 4) (ret := none) (by decide) rfl ?_
  intro p e s m args below meth c s₁ B hml hv
  obtain ⟨rfl, hP, hK⟩ := hv
  have hx := B.exec
  have hb := B.bytes
  have hr := B.returns
  have hts0 := atoms_spec (ws := Cond.code yJ7_fill_53178 cJ7_fill_53178 4 none :: qtbl) B.pre
  have hts : ∀ w ∈ qtbl, w.before _ s = true := fun w h => hts0 w (List.mem_cons_of_mem _ h)
  have hown : s.vm.findClass RJ7 = some m.cls := findClass_of_methodNamed B.named
  have hlocks := B.notSynchronized
  have hS : va_S (qw_A o 132) s.heap s.heap [] := va_S.rf
  have hl := lv_entry ([.ref (o + 98), .int a1]) (n := 4) (Nat.le_of_ble_eq_true rfl)
  rw [lg_entry_eq]
  generalize (lg_sl ([.ref (o + 98), .int a1]) ++ List.replicate (4 - (lg_sl ([.ref (o + 98), .int a1])).length) Slot.unset).toArray = ls at hl ⊢
  have hl : lv_has ls 4 [(0, .ref (o + 98)), (1, .int a1)] := hl
  refine lv_iconst (v := 0) hx hb dJ7_fill_53178_0 (by decide) ?_
  refine lv_istore_n (lv' := [(2, .int 0), (0, .ref (o + 98)), (1, .int a1)]) hx hb dJ7_fill_53178_1 rfl hl (by decide) rfl (fun ls hl => ?_)
  refine lv_aload_n hx hb dJ7_fill_53178_2 rfl (lv_at hl 1 rfl) ?_
  refine qa_len hx hb hK hP (q0 := 98) (by decide) 0 (hgU_98 ca o) rfl (v := 7) rfl dJ7_fill_53178_3 ?_
  refine lv_istore_n (lv' := [(3, .int 7), (2, .int 0), (0, .ref (o + 98)), (1, .int a1)]) hx hb dJ7_fill_53178_4 rfl hl (by decide) rfl (fun ls hl => ?_)
  have loop1 : ∀ (n : Nat) (w1_2 : Int32) (z1 : Nat → Nat → Int32) (y1 : Nat → Nat → Int64), ((8 - w1_2.toInt : Int) < (n : Int)) → ((0 : Int) ≤ w1_2.toInt ∧ w1_2.toInt ≤ 8) → (qJU b z1) → ∀ (H : Heap) (locs : List Loc), qw_P D vwCl o 132 (qG (GU ca o) z1 y1) H → va_S (qw_A o 132) s.heap H locs → ∀ (ls : Array Slot), lv_has ls 4 [(3, .int 7), (2, .int w1_2), (0, .ref (o + 98)), (1, .int a1)] → W p l e (headSpec (Cond.code yJ7_fill_53178 cJ7_fill_53178 4 none :: qtbl) ({ frames := 1, cells := 0, slots := 0, locals := 60 })).room s m (([.ref (o + 98), .int a1] : List Value).toArray) below meth c H locs 0 0 (MQ below (va_Qv (fun u => qJU b u.1) (qB D vwCl (qT6 ca) o 132 (fun u : qZ => qG (GU ca o) u.1 u.2)) (qw_A o 132)) (([.ref (o + 98), .int a1] : List Value).toArray) s 0 0 (qw_A o 132)) (F0 m 5 ls []) := by
    intro n
    induction n with
    | zero => intro w1_2 z1 y1 hb1 hv1_2 J1; exfalso; omega
    | succ n1 ih1 =>
      intro w1_2 z1 y1 hb1 hv1_2 J1 H locs hP hS ls hl
      refine lv_iload_n hx hb dJ7_fill_53178_5 rfl (lv_at hl 1 rfl) ?_
      refine lv_iload_n hx hb dJ7_fill_53178_6 rfl (lv_at hl 0 rfl) ?_
      refine lv_icmp_ge (tgt := 20) hx hb dJ7_fill_53178_7 (by decide) (fun c2 => ?_) (fun c2 => ?_)
      · have t2 : w1_2.toInt ≥ (7 : Int) := gl_le c2
        exact W.vret hx hb hr (fun t ht hW => ⟨⟨(z1, y1), rfl, J1, by rw [ht]; exact hP, va_K.moved hW.alike hK⟩, hS.F ht⟩) hS.2.2 dJ7_fill_53178_20
      · have t2 : w1_2.toInt < (7 : Int) := gl_nle c2
        refine lv_aload_n hx hb dJ7_fill_53178_10 rfl (lv_at hl 2 rfl) ?_
        refine lv_iload_n hx hb dJ7_fill_53178_11 rfl (lv_at hl 1 rfl) ?_
        refine lv_iload_n hx hb dJ7_fill_53178_12 rfl (lv_at hl 3 rfl) ?_
        refine qa_iast2 hx hb hK hP hS qw_Ai (q0 := 98) (by decide) 0 (N := 7) (hgU_98 ca o) rfl (i := w1_2) (x := a1) (gi_in (by omega) (by omega)) dJ7_fill_53178_13 (fun z3 H locs hz3 hP hS => ?_)
        have J3 := jU_98 J1 hz3
        obtain ⟨x4, e4⟩ : ∃ t : Int32, t = w1_2 + 1 := ⟨_, rfl⟩
        refine lv_iinc (v := x4) (lv' := [(2, .int x4), (3, .int 7), (0, .ref (o + 98)), (1, .int a1)]) hx hb dJ7_fill_53178_14 hl (k := 1) rfl (by rw [e4]; rfl) (by decide) rfl (fun ls hl => ?_)
        have t4 : x4.toInt = w1_2.toInt + (1 : Int) := ga_add e4 rfl rfl (by omega) (by omega)
        refine lv_goto (tgt := 5) hx hb dJ7_fill_53178_17 (by decide) ?_
        exact ih1 x4 z3 y1 (show (8 - x4.toInt : Int) < (n1 : Int) from by omega) ⟨by omega, by omega⟩ J3 _ _ hP hS _ (lv_sub hl [1, 0, 2, 3] rfl)
  exact loop1 9 0 z y (show (8 - (0 : Int) : Int) < ((9 : Nat) : Int) from by omega) ⟨by decide, by decide⟩ J0 _ _ hP hS _ (lv_sub hl [0, 1, 2, 3] rfl)
set_option maxRecDepth 100000 in
set_option maxHeartbeats 8000000 in
theorem u_Reader_open_v2 (l : Launch) (D : va_G) (ca : Nat → ClassId) (o : Nat) (b z : Nat → Nat → Int32) (y : Nat → Nat → Int64) (J0 : qJU b z)   : qM l yX6_open cX6_open 2 (some .boolean) 2 82 (qPre D vwCl (qT6 ca) o 132 (qG (GU ca o) z y) [.ref (o + 78), .int 2]) (va_Qi (fun r u => ((0 : Int) ≤ r.toInt ∧ r.toInt ≤ 1) ∧ qJU b u.1) (qB D vwCl (qT6 ca) o 132 (fun u : qZ => qG (GU ca o) u.1 u.2)) (qw_A o 132)) (qw_A o 132) := by
  refine Met.ofW (cc := cX6_open) (maxL := 2) (ret := (some .boolean)) (by decide) rfl ?_
  intro p e s m args below meth c s₁ B hml hv
  obtain ⟨rfl, hP, hK⟩ := hv
  have hx := B.exec
  have hb := B.bytes
  have hr := B.returns
  have hts0 := atoms_spec (ws := Cond.code yX6_open cX6_open 2 (some .boolean) :: qtbl) B.pre
  have hts : ∀ w ∈ qtbl, w.before _ s = true := fun w h => hts0 w (List.mem_cons_of_mem _ h)
  have hown : s.vm.findClass RX6 = some m.cls := findClass_of_methodNamed B.named
  have hlocks := B.notSynchronized
  have hS : va_S (qw_A o 132) s.heap s.heap [] := va_S.rf
  have hl := lv_entry ([.ref (o + 78), .int 2]) (n := 2) (Nat.le_of_ble_eq_true rfl)
  rw [lg_entry_eq]
  generalize (lg_sl ([.ref (o + 78), .int 2]) ++ List.replicate (2 - (lg_sl ([.ref (o + 78), .int 2])).length) Slot.unset).toArray = ls at hl ⊢
  have hl : lv_has ls 2 [(0, .ref (o + 78)), (1, .int 2)] := hl
  refine lv_aload_n hx hb dX6_open_0 rfl (lv_at hl 0 rfl) ?_
  refine qc_Vip (As := []) (rest := []) (k0 := 0) (u_Reader_peek l D ca o b z y J0) kc_yX6_peek ⟨hx, hb, hml, hown, hts⟩ wq_463 rfl rfl ⟨Nat.le_of_ble_eq_true rfl, Nat.le_of_ble_eq_true rfl⟩ wq_all hP hK hS qw_Ai (q0 := 78) (by decide) (hgU_78 ca o _ _) rfl rfl hl.1 rfl (Nat.le_of_ble_eq_true rfl) dX6_open_1 ⟨Nat.zero_le _, Nat.zero_le _⟩ (fun r1 H locs h1 hP hS _ _ => ?_)
  refine lv_bipush (v := 40) hx hb dX6_open_4 (by decide) ?_
  refine lv_icmp_eq (tgt := 19) hx hb dX6_open_6 (by decide) (fun c2 => ?_) (fun c2 => ?_)
  · have t2 : r1.toInt = (40 : Int) := gl_eq c2
    refine lv_iload_n hx hb dX6_open_19 rfl (lv_at hl 1 rfl) ?_
    refine lv_bipush (v := 6) hx hb dX6_open_20 (by decide) ?_
    refine lv_icmp_lt (tgt := 35) hx hb dX6_open_22 (by decide) (fun _ => ?_) (fun q => absurd (by decide) q)
    refine lv_aload_n hx hb dX6_open_35 rfl (lv_at hl 0 rfl) ?_
    refine lv_dup hx hb dX6_open_36 rfl ?_
    refine qf_get hx hb hts inX6 hown hK hP (q0 := 78) (by decide) (hgU_78 ca o) rfl 6 (by decide) wq_136 (v := .int (z 78 6)) rfl dX6_open_37 ?_
    refine lv_topi (fun x3 e3 => ?_)
    refine lv_iconst (v := 1) hx hb dX6_open_40 (by decide) ?_
    refine lv_iadd hx hb dX6_open_41 ?_
    refine lv_topi (fun x4 e4 => ?_)
    refine qf_put2 hx hb hts inX6 tyX6 tyX6_ok nmX6 hown hK hP hS qw_Ai (q0 := 78) (by decide) (hgU_78 ca o) rfl 6 (by decide) wq_136 rfl (x := x4) 6 rfl rfl rfl (Nat.le_of_ble_eq_true rfl) dX6_open_42 (fun z5 H locs hz5 hP hS => ?_)
    have J5 := jU_78_6 J0 hz5
    refine lv_iconst (v := 1) hx hb dX6_open_45 (by decide) ?_
    exact W.zret (v := 1) (ty := .boolean) hx hb hr rfl (fun t ht hW => ⟨⟨1, (z5, y), rfl, ⟨⟨by decide, by decide⟩, J5⟩, by rw [ht]; exact hP, va_K.moved hW.alike hK⟩, hS.F ht⟩) hS.2.2 dX6_open_46
  · have t2 : r1.toInt ≠ (40 : Int) := gl_ne c2
    refine lv_aload_n hx hb dX6_open_9 rfl (lv_at hl 0 rfl) ?_
    refine lv_iconst (v := 1) hx hb dX6_open_10 (by decide) ?_
    refine lv_aload_n hx hb dX6_open_11 rfl (lv_at hl 0 rfl) ?_
    refine qf_get hx hb hts inX6 hown hK hP (q0 := 78) (by decide) (hgU_78 ca o) rfl 6 (by decide) wq_136 (v := .int (z 78 6)) rfl dX6_open_12 ?_
    refine lv_topi (fun x6 e6 => ?_)
    refine qc_Vi2 (As := [.int 1, .int x6]) (rest := []) (k0 := 2) (u_Reader_fail l D ca o b z y J0 1 x6) kc_yX6_fail ⟨hx, hb, hml, hown, hts⟩ wq_450 rfl rfl ⟨Nat.le_of_ble_eq_true rfl, Nat.le_of_ble_eq_true rfl⟩ wq_all hP hK hS qw_Ai (q0 := 78) (by decide) (hgU_78 ca o _ _) rfl rfl hl.1 rfl (Nat.le_of_ble_eq_true rfl) dX6_open_15 ⟨Nat.zero_le _, Nat.zero_le _⟩ (fun r7 z7 y7 H locs h7 hP hS _ _ => ?_)
    have J7 : qJU b z7 := h7.2
    have b7 : (0 : Int) ≤ r7.toInt ∧ r7.toInt ≤ 0 := h7.1
    obtain rfl : r7 = 0 := lit_eq (k := 0) (K := 0) rfl (by omega) (by omega)
    exact W.zret (v := 0) (ty := .boolean) hx hb hr rfl (fun t ht hW => ⟨⟨0, (z7, y7), rfl, ⟨⟨by decide, by decide⟩, J7⟩, by rw [ht]; exact hP, va_K.moved hW.alike hK⟩, hS.F ht⟩) hS.2.2 dX6_open_18
set_option maxRecDepth 100000 in
set_option maxHeartbeats 8000000 in
theorem u_Arrays_fill_v9 (l : Launch) (D : va_G) (ca : Nat → ClassId) (o : Nat) (b z : Nat → Nat → Int32) (y : Nat → Nat → Int64) (J0 : qJU b z) (a1 : Int32)  : qM l yJ7_fill_53178 cJ7_fill_53178 4 none 1 60 (qPre D vwCl (qT6 ca) o 132 (qG (GU ca o) z y) [.ref (o + 83), .int a1]) (va_Qv (fun u => qJU b u.1) (qB D vwCl (qT6 ca) o 132 (fun u : qZ => qG (GU ca o) u.1 u.2)) (qw_A o 132)) (qw_A o 132) := by
  refine Met.ofW (cc := cJ7_fill_53178) (maxL := 4) (ret := none) (by decide) rfl ?_
  intro p e s m args below meth c s₁ B hml hv
  obtain ⟨rfl, hP, hK⟩ := hv
  have hx := B.exec
  have hb := B.bytes
  have hr := B.returns
  have hts0 := atoms_spec (ws := Cond.code yJ7_fill_53178 cJ7_fill_53178 4 none :: qtbl) B.pre
  have hts : ∀ w ∈ qtbl, w.before _ s = true := fun w h => hts0 w (List.mem_cons_of_mem _ h)
  have hown : s.vm.findClass RJ7 = some m.cls := findClass_of_methodNamed B.named
  have hlocks := B.notSynchronized
  have hS : va_S (qw_A o 132) s.heap s.heap [] := va_S.rf
  have hl := lv_entry ([.ref (o + 83), .int a1]) (n := 4) (Nat.le_of_ble_eq_true rfl)
  rw [lg_entry_eq]
  generalize (lg_sl ([.ref (o + 83), .int a1]) ++ List.replicate (4 - (lg_sl ([.ref (o + 83), .int a1])).length) Slot.unset).toArray = ls at hl ⊢
  have hl : lv_has ls 4 [(0, .ref (o + 83)), (1, .int a1)] := hl
  refine lv_iconst (v := 0) hx hb dJ7_fill_53178_0 (by decide) ?_
  refine lv_istore_n (lv' := [(2, .int 0), (0, .ref (o + 83)), (1, .int a1)]) hx hb dJ7_fill_53178_1 rfl hl (by decide) rfl (fun ls hl => ?_)
  refine lv_aload_n hx hb dJ7_fill_53178_2 rfl (lv_at hl 1 rfl) ?_
  refine qa_len hx hb hK hP (q0 := 83) (by decide) 0 (hgU_83 ca o) rfl (v := 7) rfl dJ7_fill_53178_3 ?_
  refine lv_istore_n (lv' := [(3, .int 7), (2, .int 0), (0, .ref (o + 83)), (1, .int a1)]) hx hb dJ7_fill_53178_4 rfl hl (by decide) rfl (fun ls hl => ?_)
  have loop1 : ∀ (n : Nat) (w1_2 : Int32) (z1 : Nat → Nat → Int32) (y1 : Nat → Nat → Int64), ((8 - w1_2.toInt : Int) < (n : Int)) → ((0 : Int) ≤ w1_2.toInt ∧ w1_2.toInt ≤ 8) → (qJU b z1) → ∀ (H : Heap) (locs : List Loc), qw_P D vwCl o 132 (qG (GU ca o) z1 y1) H → va_S (qw_A o 132) s.heap H locs → ∀ (ls : Array Slot), lv_has ls 4 [(3, .int 7), (2, .int w1_2), (0, .ref (o + 83)), (1, .int a1)] → W p l e (headSpec (Cond.code yJ7_fill_53178 cJ7_fill_53178 4 none :: qtbl) ({ frames := 1, cells := 0, slots := 0, locals := 60 })).room s m (([.ref (o + 83), .int a1] : List Value).toArray) below meth c H locs 0 0 (MQ below (va_Qv (fun u => qJU b u.1) (qB D vwCl (qT6 ca) o 132 (fun u : qZ => qG (GU ca o) u.1 u.2)) (qw_A o 132)) (([.ref (o + 83), .int a1] : List Value).toArray) s 0 0 (qw_A o 132)) (F0 m 5 ls []) := by
    intro n
    induction n with
    | zero => intro w1_2 z1 y1 hb1 hv1_2 J1; exfalso; omega
    | succ n1 ih1 =>
      intro w1_2 z1 y1 hb1 hv1_2 J1 H locs hP hS ls hl
      refine lv_iload_n hx hb dJ7_fill_53178_5 rfl (lv_at hl 1 rfl) ?_
      refine lv_iload_n hx hb dJ7_fill_53178_6 rfl (lv_at hl 0 rfl) ?_
      refine lv_icmp_ge (tgt := 20) hx hb dJ7_fill_53178_7 (by decide) (fun c2 => ?_) (fun c2 => ?_)
      · have t2 : w1_2.toInt ≥ (7 : Int) := gl_le c2
        exact W.vret hx hb hr (fun t ht hW => ⟨⟨(z1, y1), rfl, J1, by rw [ht]; exact hP, va_K.moved hW.alike hK⟩, hS.F ht⟩) hS.2.2 dJ7_fill_53178_20
      · have t2 : w1_2.toInt < (7 : Int) := gl_nle c2
        refine lv_aload_n hx hb dJ7_fill_53178_10 rfl (lv_at hl 2 rfl) ?_
        refine lv_iload_n hx hb dJ7_fill_53178_11 rfl (lv_at hl 1 rfl) ?_
        refine lv_iload_n hx hb dJ7_fill_53178_12 rfl (lv_at hl 3 rfl) ?_
        refine qa_iast2 hx hb hK hP hS qw_Ai (q0 := 83) (by decide) 0 (N := 7) (hgU_83 ca o) rfl (i := w1_2) (x := a1) (gi_in (by omega) (by omega)) dJ7_fill_53178_13 (fun z3 H locs hz3 hP hS => ?_)
        have J3 := jU_83 J1 hz3
        obtain ⟨x4, e4⟩ : ∃ t : Int32, t = w1_2 + 1 := ⟨_, rfl⟩
        refine lv_iinc (v := x4) (lv' := [(2, .int x4), (3, .int 7), (0, .ref (o + 83)), (1, .int a1)]) hx hb dJ7_fill_53178_14 hl (k := 1) rfl (by rw [e4]; rfl) (by decide) rfl (fun ls hl => ?_)
        have t4 : x4.toInt = w1_2.toInt + (1 : Int) := ga_add e4 rfl rfl (by omega) (by omega)
        refine lv_goto (tgt := 5) hx hb dJ7_fill_53178_17 (by decide) ?_
        exact ih1 x4 z3 y1 (show (8 - x4.toInt : Int) < (n1 : Int) from by omega) ⟨by omega, by omega⟩ J3 _ _ hP hS _ (lv_sub hl [1, 0, 2, 3] rfl)
  exact loop1 9 0 z y (show (8 - (0 : Int) : Int) < ((9 : Nat) : Int) from by omega) ⟨by decide, by decide⟩ J0 _ _ hP hS _ (lv_sub hl [0, 1, 2, 3] rfl)
set_option maxRecDepth 100000 in
set_option maxHeartbeats 8000000 in
theorem u_Arrays_fill_v10 (l : Launch) (D : va_G) (ca : Nat → ClassId) (o : Nat) (b z : Nat → Nat → Int32) (y : Nat → Nat → Int64) (J0 : qJU b z) (a1 : Int32)  : qM l yJ7_fill_53178 cJ7_fill_53178 4 none 1 60 (qPre D vwCl (qT6 ca) o 132 (qG (GU ca o) z y) [.ref (o + 91), .int a1]) (va_Qv (fun u => qJU b u.1) (qB D vwCl (qT6 ca) o 132 (fun u : qZ => qG (GU ca o) u.1 u.2)) (qw_A o 132)) (qw_A o 132) := by
  refine Met.ofW (cc := cJ7_fill_53178) (maxL := 4) (ret := none) (by decide) rfl ?_
  intro p e s m args below meth c s₁ B hml hv
  obtain ⟨rfl, hP, hK⟩ := hv
  have hx := B.exec
  have hb := B.bytes
  have hr := B.returns
  have hts0 := atoms_spec (ws := Cond.code yJ7_fill_53178 cJ7_fill_53178 4 none :: qtbl) B.pre
  have hts : ∀ w ∈ qtbl, w.before _ s = true := fun w h => hts0 w (List.mem_cons_of_mem _ h)
  have hown : s.vm.findClass RJ7 = some m.cls := findClass_of_methodNamed B.named
  have hlocks := B.notSynchronized
  have hS : va_S (qw_A o 132) s.heap s.heap [] := va_S.rf
  have hl := lv_entry ([.ref (o + 91), .int a1]) (n := 4) (Nat.le_of_ble_eq_true rfl)
  rw [lg_entry_eq]
  generalize (lg_sl ([.ref (o + 91), .int a1]) ++ List.replicate (4 - (lg_sl ([.ref (o + 91), .int a1])).length) Slot.unset).toArray = ls at hl ⊢
  have hl : lv_has ls 4 [(0, .ref (o + 91)), (1, .int a1)] := hl
  refine lv_iconst (v := 0) hx hb dJ7_fill_53178_0 (by decide) ?_
  refine lv_istore_n (lv' := [(2, .int 0), (0, .ref (o + 91)), (1, .int a1)]) hx hb dJ7_fill_53178_1 rfl hl (by decide) rfl (fun ls hl => ?_)
  refine lv_aload_n hx hb dJ7_fill_53178_2 rfl (lv_at hl 1 rfl) ?_
  refine qa_len hx hb hK hP (q0 := 91) (by decide) 0 (hgU_91 ca o) rfl (v := 7) rfl dJ7_fill_53178_3 ?_
  refine lv_istore_n (lv' := [(3, .int 7), (2, .int 0), (0, .ref (o + 91)), (1, .int a1)]) hx hb dJ7_fill_53178_4 rfl hl (by decide) rfl (fun ls hl => ?_)
  have loop1 : ∀ (n : Nat) (w1_2 : Int32) (z1 : Nat → Nat → Int32) (y1 : Nat → Nat → Int64), ((8 - w1_2.toInt : Int) < (n : Int)) → ((0 : Int) ≤ w1_2.toInt ∧ w1_2.toInt ≤ 8) → (qJU b z1) → ∀ (H : Heap) (locs : List Loc), qw_P D vwCl o 132 (qG (GU ca o) z1 y1) H → va_S (qw_A o 132) s.heap H locs → ∀ (ls : Array Slot), lv_has ls 4 [(3, .int 7), (2, .int w1_2), (0, .ref (o + 91)), (1, .int a1)] → W p l e (headSpec (Cond.code yJ7_fill_53178 cJ7_fill_53178 4 none :: qtbl) ({ frames := 1, cells := 0, slots := 0, locals := 60 })).room s m (([.ref (o + 91), .int a1] : List Value).toArray) below meth c H locs 0 0 (MQ below (va_Qv (fun u => qJU b u.1) (qB D vwCl (qT6 ca) o 132 (fun u : qZ => qG (GU ca o) u.1 u.2)) (qw_A o 132)) (([.ref (o + 91), .int a1] : List Value).toArray) s 0 0 (qw_A o 132)) (F0 m 5 ls []) := by
    intro n
    induction n with
    | zero => intro w1_2 z1 y1 hb1 hv1_2 J1; exfalso; omega
    | succ n1 ih1 =>
      intro w1_2 z1 y1 hb1 hv1_2 J1 H locs hP hS ls hl
      refine lv_iload_n hx hb dJ7_fill_53178_5 rfl (lv_at hl 1 rfl) ?_
      refine lv_iload_n hx hb dJ7_fill_53178_6 rfl (lv_at hl 0 rfl) ?_
      refine lv_icmp_ge (tgt := 20) hx hb dJ7_fill_53178_7 (by decide) (fun c2 => ?_) (fun c2 => ?_)
      · have t2 : w1_2.toInt ≥ (7 : Int) := gl_le c2
        exact W.vret hx hb hr (fun t ht hW => ⟨⟨(z1, y1), rfl, J1, by rw [ht]; exact hP, va_K.moved hW.alike hK⟩, hS.F ht⟩) hS.2.2 dJ7_fill_53178_20
      · have t2 : w1_2.toInt < (7 : Int) := gl_nle c2
        refine lv_aload_n hx hb dJ7_fill_53178_10 rfl (lv_at hl 2 rfl) ?_
        refine lv_iload_n hx hb dJ7_fill_53178_11 rfl (lv_at hl 1 rfl) ?_
        refine lv_iload_n hx hb dJ7_fill_53178_12 rfl (lv_at hl 3 rfl) ?_
        refine qa_iast2 hx hb hK hP hS qw_Ai (q0 := 91) (by decide) 0 (N := 7) (hgU_91 ca o) rfl (i := w1_2) (x := a1) (gi_in (by omega) (by omega)) dJ7_fill_53178_13 (fun z3 H locs hz3 hP hS => ?_)
        have J3 := jU_91 J1 hz3
        obtain ⟨x4, e4⟩ : ∃ t : Int32, t = w1_2 + 1 := ⟨_, rfl⟩
        refine lv_iinc (v := x4) (lv' := [(2, .int x4), (3, .int 7), (0, .ref (o + 91)), (1, .int a1)]) hx hb dJ7_fill_53178_14 hl (k := 1) rfl (by rw [e4]; rfl) (by decide) rfl (fun ls hl => ?_)
        have t4 : x4.toInt = w1_2.toInt + (1 : Int) := ga_add e4 rfl rfl (by omega) (by omega)
        refine lv_goto (tgt := 5) hx hb dJ7_fill_53178_17 (by decide) ?_
        exact ih1 x4 z3 y1 (show (8 - x4.toInt : Int) < (n1 : Int) from by omega) ⟨by omega, by omega⟩ J3 _ _ hP hS _ (lv_sub hl [1, 0, 2, 3] rfl)
  exact loop1 9 0 z y (show (8 - (0 : Int) : Int) < ((9 : Nat) : Int) from by omega) ⟨by decide, by decide⟩ J0 _ _ hP hS _ (lv_sub hl [0, 1, 2, 3] rfl)
set_option maxRecDepth 100000 in
set_option maxHeartbeats 8000000 in
theorem u_Arrays_fill_v11 (l : Launch) (D : va_G) (ca : Nat → ClassId) (o : Nat) (b z : Nat → Nat → Int32) (y : Nat → Nat → Int64) (J0 : qJU b z) (a1 : Int32)  : qM l yJ7_fill_53178 cJ7_fill_53178 4 none 1 60 (qPre D vwCl (qT6 ca) o 132 (qG (GU ca o) z y) [.ref (o + 99), .int a1]) (va_Qv (fun u => qJU b u.1) (qB D vwCl (qT6 ca) o 132 (fun u : qZ => qG (GU ca o) u.1 u.2)) (qw_A o 132)) (qw_A o 132) := by
  refine Met.ofW (cc := cJ7_fill_53178) (maxL := 4) (ret := none) (by decide) rfl ?_
  intro p e s m args below meth c s₁ B hml hv
  obtain ⟨rfl, hP, hK⟩ := hv
  have hx := B.exec
  have hb := B.bytes
  have hr := B.returns
  have hts0 := atoms_spec (ws := Cond.code yJ7_fill_53178 cJ7_fill_53178 4 none :: qtbl) B.pre
  have hts : ∀ w ∈ qtbl, w.before _ s = true := fun w h => hts0 w (List.mem_cons_of_mem _ h)
  have hown : s.vm.findClass RJ7 = some m.cls := findClass_of_methodNamed B.named
  have hlocks := B.notSynchronized
  have hS : va_S (qw_A o 132) s.heap s.heap [] := va_S.rf
  have hl := lv_entry ([.ref (o + 99), .int a1]) (n := 4) (Nat.le_of_ble_eq_true rfl)
  rw [lg_entry_eq]
  generalize (lg_sl ([.ref (o + 99), .int a1]) ++ List.replicate (4 - (lg_sl ([.ref (o + 99), .int a1])).length) Slot.unset).toArray = ls at hl ⊢
  have hl : lv_has ls 4 [(0, .ref (o + 99)), (1, .int a1)] := hl
  refine lv_iconst (v := 0) hx hb dJ7_fill_53178_0 (by decide) ?_
  refine lv_istore_n (lv' := [(2, .int 0), (0, .ref (o + 99)), (1, .int a1)]) hx hb dJ7_fill_53178_1 rfl hl (by decide) rfl (fun ls hl => ?_)
  refine lv_aload_n hx hb dJ7_fill_53178_2 rfl (lv_at hl 1 rfl) ?_
  refine qa_len hx hb hK hP (q0 := 99) (by decide) 0 (hgU_99 ca o) rfl (v := 7) rfl dJ7_fill_53178_3 ?_
  refine lv_istore_n (lv' := [(3, .int 7), (2, .int 0), (0, .ref (o + 99)), (1, .int a1)]) hx hb dJ7_fill_53178_4 rfl hl (by decide) rfl (fun ls hl => ?_)
  have loop1 : ∀ (n : Nat) (w1_2 : Int32) (z1 : Nat → Nat → Int32) (y1 : Nat → Nat → Int64), ((8 - w1_2.toInt : Int) < (n : Int)) → ((0 : Int) ≤ w1_2.toInt ∧ w1_2.toInt ≤ 8) → (qJU b z1) → ∀ (H : Heap) (locs : List Loc), qw_P D vwCl o 132 (qG (GU ca o) z1 y1) H → va_S (qw_A o 132) s.heap H locs → ∀ (ls : Array Slot), lv_has ls 4 [(3, .int 7), (2, .int w1_2), (0, .ref (o + 99)), (1, .int a1)] → W p l e (headSpec (Cond.code yJ7_fill_53178 cJ7_fill_53178 4 none :: qtbl) ({ frames := 1, cells := 0, slots := 0, locals := 60 })).room s m (([.ref (o + 99), .int a1] : List Value).toArray) below meth c H locs 0 0 (MQ below (va_Qv (fun u => qJU b u.1) (qB D vwCl (qT6 ca) o 132 (fun u : qZ => qG (GU ca o) u.1 u.2)) (qw_A o 132)) (([.ref (o + 99), .int a1] : List Value).toArray) s 0 0 (qw_A o 132)) (F0 m 5 ls []) := by
    intro n
    induction n with
    | zero => intro w1_2 z1 y1 hb1 hv1_2 J1; exfalso; omega
    | succ n1 ih1 =>
      intro w1_2 z1 y1 hb1 hv1_2 J1 H locs hP hS ls hl
      refine lv_iload_n hx hb dJ7_fill_53178_5 rfl (lv_at hl 1 rfl) ?_
      refine lv_iload_n hx hb dJ7_fill_53178_6 rfl (lv_at hl 0 rfl) ?_
      refine lv_icmp_ge (tgt := 20) hx hb dJ7_fill_53178_7 (by decide) (fun c2 => ?_) (fun c2 => ?_)
      · have t2 : w1_2.toInt ≥ (7 : Int) := gl_le c2
        exact W.vret hx hb hr (fun t ht hW => ⟨⟨(z1, y1), rfl, J1, by rw [ht]; exact hP, va_K.moved hW.alike hK⟩, hS.F ht⟩) hS.2.2 dJ7_fill_53178_20
      · have t2 : w1_2.toInt < (7 : Int) := gl_nle c2
        refine lv_aload_n hx hb dJ7_fill_53178_10 rfl (lv_at hl 2 rfl) ?_
        refine lv_iload_n hx hb dJ7_fill_53178_11 rfl (lv_at hl 1 rfl) ?_
        refine lv_iload_n hx hb dJ7_fill_53178_12 rfl (lv_at hl 3 rfl) ?_
        refine qa_iast2 hx hb hK hP hS qw_Ai (q0 := 99) (by decide) 0 (N := 7) (hgU_99 ca o) rfl (i := w1_2) (x := a1) (gi_in (by omega) (by omega)) dJ7_fill_53178_13 (fun z3 H locs hz3 hP hS => ?_)
        have J3 := jU_99 J1 hz3
        obtain ⟨x4, e4⟩ : ∃ t : Int32, t = w1_2 + 1 := ⟨_, rfl⟩
        refine lv_iinc (v := x4) (lv' := [(2, .int x4), (3, .int 7), (0, .ref (o + 99)), (1, .int a1)]) hx hb dJ7_fill_53178_14 hl (k := 1) rfl (by rw [e4]; rfl) (by decide) rfl (fun ls hl => ?_)
        have t4 : x4.toInt = w1_2.toInt + (1 : Int) := ga_add e4 rfl rfl (by omega) (by omega)
        refine lv_goto (tgt := 5) hx hb dJ7_fill_53178_17 (by decide) ?_
        exact ih1 x4 z3 y1 (show (8 - x4.toInt : Int) < (n1 : Int) from by omega) ⟨by omega, by omega⟩ J3 _ _ hP hS _ (lv_sub hl [1, 0, 2, 3] rfl)
  exact loop1 9 0 z y (show (8 - (0 : Int) : Int) < ((9 : Nat) : Int) from by omega) ⟨by decide, by decide⟩ J0 _ _ hP hS _ (lv_sub hl [0, 1, 2, 3] rfl)
set_option maxRecDepth 100000 in
set_option maxHeartbeats 8000000 in
theorem u_Reader_open_v3 (l : Launch) (D : va_G) (ca : Nat → ClassId) (o : Nat) (b z : Nat → Nat → Int32) (y : Nat → Nat → Int64) (J0 : qJU b z)   : qM l yX6_open cX6_open 2 (some .boolean) 2 82 (qPre D vwCl (qT6 ca) o 132 (qG (GU ca o) z y) [.ref (o + 78), .int 3]) (va_Qi (fun r u => ((0 : Int) ≤ r.toInt ∧ r.toInt ≤ 1) ∧ qJU b u.1) (qB D vwCl (qT6 ca) o 132 (fun u : qZ => qG (GU ca o) u.1 u.2)) (qw_A o 132)) (qw_A o 132) := by
  refine Met.ofW (cc := cX6_open) (maxL := 2) (ret := (some .boolean)) (by decide) rfl ?_
  intro p e s m args below meth c s₁ B hml hv
  obtain ⟨rfl, hP, hK⟩ := hv
  have hx := B.exec
  have hb := B.bytes
  have hr := B.returns
  have hts0 := atoms_spec (ws := Cond.code yX6_open cX6_open 2 (some .boolean) :: qtbl) B.pre
  have hts : ∀ w ∈ qtbl, w.before _ s = true := fun w h => hts0 w (List.mem_cons_of_mem _ h)
  have hown : s.vm.findClass RX6 = some m.cls := findClass_of_methodNamed B.named
  have hlocks := B.notSynchronized
  have hS : va_S (qw_A o 132) s.heap s.heap [] := va_S.rf
  have hl := lv_entry ([.ref (o + 78), .int 3]) (n := 2) (Nat.le_of_ble_eq_true rfl)
  rw [lg_entry_eq]
  generalize (lg_sl ([.ref (o + 78), .int 3]) ++ List.replicate (2 - (lg_sl ([.ref (o + 78), .int 3])).length) Slot.unset).toArray = ls at hl ⊢
  have hl : lv_has ls 2 [(0, .ref (o + 78)), (1, .int 3)] := hl
  refine lv_aload_n hx hb dX6_open_0 rfl (lv_at hl 0 rfl) ?_
  refine qc_Vip (As := []) (rest := []) (k0 := 0) (u_Reader_peek l D ca o b z y J0) kc_yX6_peek ⟨hx, hb, hml, hown, hts⟩ wq_463 rfl rfl ⟨Nat.le_of_ble_eq_true rfl, Nat.le_of_ble_eq_true rfl⟩ wq_all hP hK hS qw_Ai (q0 := 78) (by decide) (hgU_78 ca o _ _) rfl rfl hl.1 rfl (Nat.le_of_ble_eq_true rfl) dX6_open_1 ⟨Nat.zero_le _, Nat.zero_le _⟩ (fun r1 H locs h1 hP hS _ _ => ?_)
  refine lv_bipush (v := 40) hx hb dX6_open_4 (by decide) ?_
  refine lv_icmp_eq (tgt := 19) hx hb dX6_open_6 (by decide) (fun c2 => ?_) (fun c2 => ?_)
  · have t2 : r1.toInt = (40 : Int) := gl_eq c2
    refine lv_iload_n hx hb dX6_open_19 rfl (lv_at hl 1 rfl) ?_
    refine lv_bipush (v := 6) hx hb dX6_open_20 (by decide) ?_
    refine lv_icmp_lt (tgt := 35) hx hb dX6_open_22 (by decide) (fun _ => ?_) (fun q => absurd (by decide) q)
    refine lv_aload_n hx hb dX6_open_35 rfl (lv_at hl 0 rfl) ?_
    refine lv_dup hx hb dX6_open_36 rfl ?_
    refine qf_get hx hb hts inX6 hown hK hP (q0 := 78) (by decide) (hgU_78 ca o) rfl 6 (by decide) wq_136 (v := .int (z 78 6)) rfl dX6_open_37 ?_
    refine lv_topi (fun x3 e3 => ?_)
    refine lv_iconst (v := 1) hx hb dX6_open_40 (by decide) ?_
    refine lv_iadd hx hb dX6_open_41 ?_
    refine lv_topi (fun x4 e4 => ?_)
    refine qf_put2 hx hb hts inX6 tyX6 tyX6_ok nmX6 hown hK hP hS qw_Ai (q0 := 78) (by decide) (hgU_78 ca o) rfl 6 (by decide) wq_136 rfl (x := x4) 6 rfl rfl rfl (Nat.le_of_ble_eq_true rfl) dX6_open_42 (fun z5 H locs hz5 hP hS => ?_)
    have J5 := jU_78_6 J0 hz5
    refine lv_iconst (v := 1) hx hb dX6_open_45 (by decide) ?_
    exact W.zret (v := 1) (ty := .boolean) hx hb hr rfl (fun t ht hW => ⟨⟨1, (z5, y), rfl, ⟨⟨by decide, by decide⟩, J5⟩, by rw [ht]; exact hP, va_K.moved hW.alike hK⟩, hS.F ht⟩) hS.2.2 dX6_open_46
  · have t2 : r1.toInt ≠ (40 : Int) := gl_ne c2
    refine lv_aload_n hx hb dX6_open_9 rfl (lv_at hl 0 rfl) ?_
    refine lv_iconst (v := 1) hx hb dX6_open_10 (by decide) ?_
    refine lv_aload_n hx hb dX6_open_11 rfl (lv_at hl 0 rfl) ?_
    refine qf_get hx hb hts inX6 hown hK hP (q0 := 78) (by decide) (hgU_78 ca o) rfl 6 (by decide) wq_136 (v := .int (z 78 6)) rfl dX6_open_12 ?_
    refine lv_topi (fun x6 e6 => ?_)
    refine qc_Vi2 (As := [.int 1, .int x6]) (rest := []) (k0 := 2) (u_Reader_fail l D ca o b z y J0 1 x6) kc_yX6_fail ⟨hx, hb, hml, hown, hts⟩ wq_450 rfl rfl ⟨Nat.le_of_ble_eq_true rfl, Nat.le_of_ble_eq_true rfl⟩ wq_all hP hK hS qw_Ai (q0 := 78) (by decide) (hgU_78 ca o _ _) rfl rfl hl.1 rfl (Nat.le_of_ble_eq_true rfl) dX6_open_15 ⟨Nat.zero_le _, Nat.zero_le _⟩ (fun r7 z7 y7 H locs h7 hP hS _ _ => ?_)
    have J7 : qJU b z7 := h7.2
    have b7 : (0 : Int) ≤ r7.toInt ∧ r7.toInt ≤ 0 := h7.1
    obtain rfl : r7 = 0 := lit_eq (k := 0) (K := 0) rfl (by omega) (by omega)
    exact W.zret (v := 0) (ty := .boolean) hx hb hr rfl (fun t ht hW => ⟨⟨0, (z7, y7), rfl, ⟨⟨by decide, by decide⟩, J7⟩, by rw [ht]; exact hP, va_K.moved hW.alike hK⟩, hS.F ht⟩) hS.2.2 dX6_open_18
set_option maxRecDepth 100000 in
set_option maxHeartbeats 8000000 in
theorem u_Arrays_fill_v12 (l : Launch) (D : va_G) (ca : Nat → ClassId) (o : Nat) (b z : Nat → Nat → Int32) (y : Nat → Nat → Int64) (J0 : qJU b z) (a1 : Int32)  : qM l yJ7_fill_53178 cJ7_fill_53178 4 none 1 60 (qPre D vwCl (qT6 ca) o 132 (qG (GU ca o) z y) [.ref (o + 84), .int a1]) (va_Qv (fun u => qJU b u.1) (qB D vwCl (qT6 ca) o 132 (fun u : qZ => qG (GU ca o) u.1 u.2)) (qw_A o 132)) (qw_A o 132) := by
  refine Met.ofW (cc := cJ7_fill_53178) (maxL := 4) (ret := none) (by decide) rfl ?_
  intro p e s m args below meth c s₁ B hml hv
  obtain ⟨rfl, hP, hK⟩ := hv
  have hx := B.exec
  have hb := B.bytes
  have hr := B.returns
  have hts0 := atoms_spec (ws := Cond.code yJ7_fill_53178 cJ7_fill_53178 4 none :: qtbl) B.pre
  have hts : ∀ w ∈ qtbl, w.before _ s = true := fun w h => hts0 w (List.mem_cons_of_mem _ h)
  have hown : s.vm.findClass RJ7 = some m.cls := findClass_of_methodNamed B.named
  have hlocks := B.notSynchronized
  have hS : va_S (qw_A o 132) s.heap s.heap [] := va_S.rf
  have hl := lv_entry ([.ref (o + 84), .int a1]) (n := 4) (Nat.le_of_ble_eq_true rfl)
  rw [lg_entry_eq]
  generalize (lg_sl ([.ref (o + 84), .int a1]) ++ List.replicate (4 - (lg_sl ([.ref (o + 84), .int a1])).length) Slot.unset).toArray = ls at hl ⊢
  have hl : lv_has ls 4 [(0, .ref (o + 84)), (1, .int a1)] := hl
  refine lv_iconst (v := 0) hx hb dJ7_fill_53178_0 (by decide) ?_
  refine lv_istore_n (lv' := [(2, .int 0), (0, .ref (o + 84)), (1, .int a1)]) hx hb dJ7_fill_53178_1 rfl hl (by decide) rfl (fun ls hl => ?_)
  refine lv_aload_n hx hb dJ7_fill_53178_2 rfl (lv_at hl 1 rfl) ?_
  refine qa_len hx hb hK hP (q0 := 84) (by decide) 0 (hgU_84 ca o) rfl (v := 7) rfl dJ7_fill_53178_3 ?_
  refine lv_istore_n (lv' := [(3, .int 7), (2, .int 0), (0, .ref (o + 84)), (1, .int a1)]) hx hb dJ7_fill_53178_4 rfl hl (by decide) rfl (fun ls hl => ?_)
  have loop1 : ∀ (n : Nat) (w1_2 : Int32) (z1 : Nat → Nat → Int32) (y1 : Nat → Nat → Int64), ((8 - w1_2.toInt : Int) < (n : Int)) → ((0 : Int) ≤ w1_2.toInt ∧ w1_2.toInt ≤ 8) → (qJU b z1) → ∀ (H : Heap) (locs : List Loc), qw_P D vwCl o 132 (qG (GU ca o) z1 y1) H → va_S (qw_A o 132) s.heap H locs → ∀ (ls : Array Slot), lv_has ls 4 [(3, .int 7), (2, .int w1_2), (0, .ref (o + 84)), (1, .int a1)] → W p l e (headSpec (Cond.code yJ7_fill_53178 cJ7_fill_53178 4 none :: qtbl) ({ frames := 1, cells := 0, slots := 0, locals := 60 })).room s m (([.ref (o + 84), .int a1] : List Value).toArray) below meth c H locs 0 0 (MQ below (va_Qv (fun u => qJU b u.1) (qB D vwCl (qT6 ca) o 132 (fun u : qZ => qG (GU ca o) u.1 u.2)) (qw_A o 132)) (([.ref (o + 84), .int a1] : List Value).toArray) s 0 0 (qw_A o 132)) (F0 m 5 ls []) := by
    intro n
    induction n with
    | zero => intro w1_2 z1 y1 hb1 hv1_2 J1; exfalso; omega
    | succ n1 ih1 =>
      intro w1_2 z1 y1 hb1 hv1_2 J1 H locs hP hS ls hl
      refine lv_iload_n hx hb dJ7_fill_53178_5 rfl (lv_at hl 1 rfl) ?_
      refine lv_iload_n hx hb dJ7_fill_53178_6 rfl (lv_at hl 0 rfl) ?_
      refine lv_icmp_ge (tgt := 20) hx hb dJ7_fill_53178_7 (by decide) (fun c2 => ?_) (fun c2 => ?_)
      · have t2 : w1_2.toInt ≥ (7 : Int) := gl_le c2
        exact W.vret hx hb hr (fun t ht hW => ⟨⟨(z1, y1), rfl, J1, by rw [ht]; exact hP, va_K.moved hW.alike hK⟩, hS.F ht⟩) hS.2.2 dJ7_fill_53178_20
      · have t2 : w1_2.toInt < (7 : Int) := gl_nle c2
        refine lv_aload_n hx hb dJ7_fill_53178_10 rfl (lv_at hl 2 rfl) ?_
        refine lv_iload_n hx hb dJ7_fill_53178_11 rfl (lv_at hl 1 rfl) ?_
        refine lv_iload_n hx hb dJ7_fill_53178_12 rfl (lv_at hl 3 rfl) ?_
        refine qa_iast2 hx hb hK hP hS qw_Ai (q0 := 84) (by decide) 0 (N := 7) (hgU_84 ca o) rfl (i := w1_2) (x := a1) (gi_in (by omega) (by omega)) dJ7_fill_53178_13 (fun z3 H locs hz3 hP hS => ?_)
        have J3 := jU_84 J1 hz3
        obtain ⟨x4, e4⟩ : ∃ t : Int32, t = w1_2 + 1 := ⟨_, rfl⟩
        refine lv_iinc (v := x4) (lv' := [(2, .int x4), (3, .int 7), (0, .ref (o + 84)), (1, .int a1)]) hx hb dJ7_fill_53178_14 hl (k := 1) rfl (by rw [e4]; rfl) (by decide) rfl (fun ls hl => ?_)
        have t4 : x4.toInt = w1_2.toInt + (1 : Int) := ga_add e4 rfl rfl (by omega) (by omega)
        refine lv_goto (tgt := 5) hx hb dJ7_fill_53178_17 (by decide) ?_
        exact ih1 x4 z3 y1 (show (8 - x4.toInt : Int) < (n1 : Int) from by omega) ⟨by omega, by omega⟩ J3 _ _ hP hS _ (lv_sub hl [1, 0, 2, 3] rfl)
  exact loop1 9 0 z y (show (8 - (0 : Int) : Int) < ((9 : Nat) : Int) from by omega) ⟨by decide, by decide⟩ J0 _ _ hP hS _ (lv_sub hl [0, 1, 2, 3] rfl)
set_option maxRecDepth 100000 in
set_option maxHeartbeats 8000000 in
theorem u_Arrays_fill_v13 (l : Launch) (D : va_G) (ca : Nat → ClassId) (o : Nat) (b z : Nat → Nat → Int32) (y : Nat → Nat → Int64) (J0 : qJU b z) (a1 : Int32)  : qM l yJ7_fill_53178 cJ7_fill_53178 4 none 1 60 (qPre D vwCl (qT6 ca) o 132 (qG (GU ca o) z y) [.ref (o + 92), .int a1]) (va_Qv (fun u => qJU b u.1) (qB D vwCl (qT6 ca) o 132 (fun u : qZ => qG (GU ca o) u.1 u.2)) (qw_A o 132)) (qw_A o 132) := by
  refine Met.ofW (cc := cJ7_fill_53178) (maxL := 4) (ret := none) (by decide) rfl ?_
  intro p e s m args below meth c s₁ B hml hv
  obtain ⟨rfl, hP, hK⟩ := hv
  have hx := B.exec
  have hb := B.bytes
  have hr := B.returns
  have hts0 := atoms_spec (ws := Cond.code yJ7_fill_53178 cJ7_fill_53178 4 none :: qtbl) B.pre
  have hts : ∀ w ∈ qtbl, w.before _ s = true := fun w h => hts0 w (List.mem_cons_of_mem _ h)
  have hown : s.vm.findClass RJ7 = some m.cls := findClass_of_methodNamed B.named
  have hlocks := B.notSynchronized
  have hS : va_S (qw_A o 132) s.heap s.heap [] := va_S.rf
  have hl := lv_entry ([.ref (o + 92), .int a1]) (n := 4) (Nat.le_of_ble_eq_true rfl)
  rw [lg_entry_eq]
  generalize (lg_sl ([.ref (o + 92), .int a1]) ++ List.replicate (4 - (lg_sl ([.ref (o + 92), .int a1])).length) Slot.unset).toArray = ls at hl ⊢
  have hl : lv_has ls 4 [(0, .ref (o + 92)), (1, .int a1)] := hl
  refine lv_iconst (v := 0) hx hb dJ7_fill_53178_0 (by decide) ?_
  refine lv_istore_n (lv' := [(2, .int 0), (0, .ref (o + 92)), (1, .int a1)]) hx hb dJ7_fill_53178_1 rfl hl (by decide) rfl (fun ls hl => ?_)
  refine lv_aload_n hx hb dJ7_fill_53178_2 rfl (lv_at hl 1 rfl) ?_
  refine qa_len hx hb hK hP (q0 := 92) (by decide) 0 (hgU_92 ca o) rfl (v := 7) rfl dJ7_fill_53178_3 ?_
  refine lv_istore_n (lv' := [(3, .int 7), (2, .int 0), (0, .ref (o + 92)), (1, .int a1)]) hx hb dJ7_fill_53178_4 rfl hl (by decide) rfl (fun ls hl => ?_)
  have loop1 : ∀ (n : Nat) (w1_2 : Int32) (z1 : Nat → Nat → Int32) (y1 : Nat → Nat → Int64), ((8 - w1_2.toInt : Int) < (n : Int)) → ((0 : Int) ≤ w1_2.toInt ∧ w1_2.toInt ≤ 8) → (qJU b z1) → ∀ (H : Heap) (locs : List Loc), qw_P D vwCl o 132 (qG (GU ca o) z1 y1) H → va_S (qw_A o 132) s.heap H locs → ∀ (ls : Array Slot), lv_has ls 4 [(3, .int 7), (2, .int w1_2), (0, .ref (o + 92)), (1, .int a1)] → W p l e (headSpec (Cond.code yJ7_fill_53178 cJ7_fill_53178 4 none :: qtbl) ({ frames := 1, cells := 0, slots := 0, locals := 60 })).room s m (([.ref (o + 92), .int a1] : List Value).toArray) below meth c H locs 0 0 (MQ below (va_Qv (fun u => qJU b u.1) (qB D vwCl (qT6 ca) o 132 (fun u : qZ => qG (GU ca o) u.1 u.2)) (qw_A o 132)) (([.ref (o + 92), .int a1] : List Value).toArray) s 0 0 (qw_A o 132)) (F0 m 5 ls []) := by
    intro n
    induction n with
    | zero => intro w1_2 z1 y1 hb1 hv1_2 J1; exfalso; omega
    | succ n1 ih1 =>
      intro w1_2 z1 y1 hb1 hv1_2 J1 H locs hP hS ls hl
      refine lv_iload_n hx hb dJ7_fill_53178_5 rfl (lv_at hl 1 rfl) ?_
      refine lv_iload_n hx hb dJ7_fill_53178_6 rfl (lv_at hl 0 rfl) ?_
      refine lv_icmp_ge (tgt := 20) hx hb dJ7_fill_53178_7 (by decide) (fun c2 => ?_) (fun c2 => ?_)
      · have t2 : w1_2.toInt ≥ (7 : Int) := gl_le c2
        exact W.vret hx hb hr (fun t ht hW => ⟨⟨(z1, y1), rfl, J1, by rw [ht]; exact hP, va_K.moved hW.alike hK⟩, hS.F ht⟩) hS.2.2 dJ7_fill_53178_20
      · have t2 : w1_2.toInt < (7 : Int) := gl_nle c2
        refine lv_aload_n hx hb dJ7_fill_53178_10 rfl (lv_at hl 2 rfl) ?_
        refine lv_iload_n hx hb dJ7_fill_53178_11 rfl (lv_at hl 1 rfl) ?_
        refine lv_iload_n hx hb dJ7_fill_53178_12 rfl (lv_at hl 3 rfl) ?_
        refine qa_iast2 hx hb hK hP hS qw_Ai (q0 := 92) (by decide) 0 (N := 7) (hgU_92 ca o) rfl (i := w1_2) (x := a1) (gi_in (by omega) (by omega)) dJ7_fill_53178_13 (fun z3 H locs hz3 hP hS => ?_)
        have J3 := jU_92 J1 hz3
        obtain ⟨x4, e4⟩ : ∃ t : Int32, t = w1_2 + 1 := ⟨_, rfl⟩
        refine lv_iinc (v := x4) (lv' := [(2, .int x4), (3, .int 7), (0, .ref (o + 92)), (1, .int a1)]) hx hb dJ7_fill_53178_14 hl (k := 1) rfl (by rw [e4]; rfl) (by decide) rfl (fun ls hl => ?_)
        have t4 : x4.toInt = w1_2.toInt + (1 : Int) := ga_add e4 rfl rfl (by omega) (by omega)
        refine lv_goto (tgt := 5) hx hb dJ7_fill_53178_17 (by decide) ?_
        exact ih1 x4 z3 y1 (show (8 - x4.toInt : Int) < (n1 : Int) from by omega) ⟨by omega, by omega⟩ J3 _ _ hP hS _ (lv_sub hl [1, 0, 2, 3] rfl)
  exact loop1 9 0 z y (show (8 - (0 : Int) : Int) < ((9 : Nat) : Int) from by omega) ⟨by decide, by decide⟩ J0 _ _ hP hS _ (lv_sub hl [0, 1, 2, 3] rfl)
