set_option maxRecDepth 100000 in
set_option maxHeartbeats 8000000 in
theorem m_in (l : Launch) (D : va_G) (ca : Nat → ClassId) (o : Nat) (b z : Nat → Nat → Int32) (y : Nat → Nat → Int64) (J0 : qJM b z) (a0 : Int32) (a1 : Int32) (a2 : Int32)  : qM l yX11_in cX11_in 3 (some .boolean) 1 60 (qPre D vwCl (qT6 ca) o 41 (qG (GM ca o) z y) [.int a0, .int a1, .int a2]) (va_Qi (fun r (_ : Unit) => ((r = 1 ∧ (a1.toInt ≤ a0.toInt ∧ a0.toInt ≤ a2.toInt)) ∨ (r = 0 ∧ (¬ (a1.toInt ≤ a0.toInt ∧ a0.toInt ≤ a2.toInt))))) (qB D vwCl (qT6 ca) o 41 (fun _ : Unit => qG (GM ca o) z y)) (qw_A o 41)) (qw_A o 41) := by
  refine Met.ofW (cc := cX11_in) (maxL := 3) (ret := (some .boolean)) (by decide) rfl ?_
  intro p e s m args below meth c s₁ B hml hv
  obtain ⟨rfl, hP, hK⟩ := hv
  have hx := B.exec
  have hb := B.bytes
  have hr := B.returns
  have hts0 := atoms_spec (ws := Cond.code yX11_in cX11_in 3 (some .boolean) :: qtbl) B.pre
  have hts : ∀ w ∈ qtbl, w.before _ s = true := fun w h => hts0 w (List.mem_cons_of_mem _ h)
  have hown : s.vm.findClass RX11 = some m.cls := findClass_of_methodNamed B.named
  have hlocks := B.notSynchronized
  have hS : va_S (qw_A o 41) s.heap s.heap [] := va_S.rf
  have hl := lv_entry ([.int a0, .int a1, .int a2]) (n := 3) (Nat.le_of_ble_eq_true rfl)
  rw [lg_entry_eq]
  generalize (lg_sl ([.int a0, .int a1, .int a2]) ++ List.replicate (3 - (lg_sl ([.int a0, .int a1, .int a2])).length) Slot.unset).toArray = ls at hl ⊢
  have hl : lv_has ls 3 [(0, .int a0), (1, .int a1), (2, .int a2)] := hl
  refine lv_iload_n hx hb dX11_in_0 rfl (lv_at hl 0 rfl) ?_
  refine lv_iload_n hx hb dX11_in_1 rfl (lv_at hl 1 rfl) ?_
  refine lv_icmp_lt (tgt := 14) hx hb dX11_in_2 (by decide) (fun c1 => ?_) (fun c1 => ?_)
  · have t1 : a0.toInt < a1.toInt := gl_lt c1
    refine lv_iconst (v := 0) hx hb dX11_in_14 (by decide) ?_
    exact W.zret (v := 0) (ty := .boolean) hx hb hr rfl (fun t ht hW => ⟨⟨0, (), rfl, Or.inr ⟨rfl, (show ¬ (a1.toInt ≤ a0.toInt ∧ a0.toInt ≤ a2.toInt) from by omega)⟩, by rw [ht]; exact hP, va_K.moved hW.alike hK⟩, hS.F ht⟩) hS.2.2 dX11_in_15
  · have t1 : a0.toInt ≥ a1.toInt := gl_nlt c1
    refine lv_iload_n hx hb dX11_in_5 rfl (lv_at hl 0 rfl) ?_
    refine lv_iload_n hx hb dX11_in_6 rfl (lv_at hl 2 rfl) ?_
    refine lv_icmp_gt (tgt := 14) hx hb dX11_in_7 (by decide) (fun c2 => ?_) (fun c2 => ?_)
    · have t2 : a0.toInt > a2.toInt := gl_lt c2
      refine lv_iconst (v := 0) hx hb dX11_in_14 (by decide) ?_
      exact W.zret (v := 0) (ty := .boolean) hx hb hr rfl (fun t ht hW => ⟨⟨0, (), rfl, Or.inr ⟨rfl, (show ¬ (a1.toInt ≤ a0.toInt ∧ a0.toInt ≤ a2.toInt) from by omega)⟩, by rw [ht]; exact hP, va_K.moved hW.alike hK⟩, hS.F ht⟩) hS.2.2 dX11_in_15
    · have t2 : a0.toInt ≤ a2.toInt := gl_nlt c2
      refine lv_iconst (v := 1) hx hb dX11_in_10 (by decide) ?_
      refine lv_goto (tgt := 15) hx hb dX11_in_11 (by decide) ?_
      exact W.zret (v := 1) (ty := .boolean) hx hb hr rfl (fun t ht hW => ⟨⟨1, (), rfl, Or.inl ⟨rfl, (show a1.toInt ≤ a0.toInt ∧ a0.toInt ≤ a2.toInt from by omega)⟩, by rw [ht]; exact hP, va_K.moved hW.alike hK⟩, hS.F ht⟩) hS.2.2 dX11_in_15
set_option maxRecDepth 100000 in
set_option maxHeartbeats 8000000 in
theorem m_person (l : Launch) (D : va_G) (ca : Nat → ClassId) (o : Nat) (b z : Nat → Nat → Int32) (y : Nat → Nat → Int64) (J0 : qJM b z) (a0 : Int32) (a1 : Int32) (a2 : Int32)  : qM l yX11_person cX11_person 4 (some .boolean) 2 82 (qPre D vwCl (qT6 ca) o 41 (qG (GM ca o) z y) [.ref (o + 0), .int a0, .int a1, .int a2]) (va_Qi (fun r u => ((r = 1 ∧ (0 ≤ a0.toInt ∧ a0.toInt ≤ 5 ∧ 0 ≤ a1.toInt ∧ a2.toInt ≤ 99 ∧ a1.toInt ≤ a2.toInt) ∧ (qK kM (qu (qu (qu (qu z 0 4 (z 0 4 ||| 1 <<< (a0 &&& 31))) 1 a0.toNatClampNeg a1) 2 a0.toNatClampNeg a2) 3 a0.toNatClampNeg 100) u.1)) ∨ (r = 0 ∧ (¬ (0 ≤ a0.toInt ∧ a0.toInt ≤ 5 ∧ 0 ≤ a1.toInt ∧ a2.toInt ≤ 99 ∧ a1.toInt ≤ a2.toInt)) ∧ (qK kM z u.1))) ∧ qJM u.1 u.1) (qB D vwCl (qT6 ca) o 41 (fun u : qZ => qG (GM ca o) u.1 u.2)) (qw_A o 41)) (qw_A o 41) := by
  refine Met.ofW (cc := cX11_person) (maxL := 4) (ret := (some .boolean)) (by decide) rfl ?_
  intro p e s m args below meth c s₁ B hml hv
  obtain ⟨rfl, hP, hK⟩ := hv
  have hx := B.exec
  have hb := B.bytes
  have hr := B.returns
  have hts0 := atoms_spec (ws := Cond.code yX11_person cX11_person 4 (some .boolean) :: qtbl) B.pre
  have hts : ∀ w ∈ qtbl, w.before _ s = true := fun w h => hts0 w (List.mem_cons_of_mem _ h)
  have hown : s.vm.findClass RX11 = some m.cls := findClass_of_methodNamed B.named
  have hlocks := B.notSynchronized
  have hS : va_S (qw_A o 41) s.heap s.heap [] := va_S.rf
  have hl := lv_entry ([.ref (o + 0), .int a0, .int a1, .int a2]) (n := 4) (Nat.le_of_ble_eq_true rfl)
  rw [lg_entry_eq]
  generalize (lg_sl ([.ref (o + 0), .int a0, .int a1, .int a2]) ++ List.replicate (4 - (lg_sl ([.ref (o + 0), .int a0, .int a1, .int a2])).length) Slot.unset).toArray = ls at hl ⊢
  have hl : lv_has ls 4 [(0, .ref (o + 0)), (1, .int a0), (2, .int a1), (3, .int a2)] := hl
  have Jz : qJM z z := ⟨J0.1, qK_rf, J0.2.2⟩
  refine lv_iload_n hx hb dX11_person_0 rfl (lv_at hl 1 rfl) ?_
  refine lv_iconst (v := 0) hx hb dX11_person_1 (by decide) ?_
  refine lv_iconst (v := 5) hx hb dX11_person_2 (by decide) ?_
  refine qc_Sip (As := [.int a0, .int 0, .int 5]) (rest := []) (k0 := 3) (m_in l D ca o z z y Jz a0 0 5) kc_yX11_in ⟨hx, hb, hml, hown, hts⟩ wq_1187 rfl rfl ⟨Nat.le_of_ble_eq_true rfl, Nat.le_of_ble_eq_true rfl⟩ wq_all hP hK hS qw_Ai rfl hl.1 rfl (Nat.le_of_ble_eq_true rfl) dX11_person_3 ⟨Nat.zero_le _, Nat.zero_le _⟩ (fun r1 H locs h1 hP hS _ _ => ?_)
  rcases h1 with ⟨hr1, hf1_0⟩ | ⟨hr1, hf1_0⟩
  · subst hr1
    have hg1_0 : (0 : Int) ≤ a0.toInt ∧ a0.toInt ≤ (5 : Int) := hf1_0
    refine lv_if_eq (tgt := 29) hx hb dX11_person_6 (by decide) (fun q => absurd q (by decide)) (fun _ => ?_)
    refine lv_iload_n hx hb dX11_person_9 rfl (lv_at hl 2 rfl) ?_
    refine lv_iconst (v := 0) hx hb dX11_person_10 (by decide) ?_
    refine lv_bipush (v := 99) hx hb dX11_person_11 (by decide) ?_
    refine qc_Sip (As := [.int a1, .int 0, .int 99]) (rest := []) (k0 := 3) (m_in l D ca o z z y Jz a1 0 99) kc_yX11_in ⟨hx, hb, hml, hown, hts⟩ wq_1187 rfl rfl ⟨Nat.le_of_ble_eq_true rfl, Nat.le_of_ble_eq_true rfl⟩ wq_all hP hK hS qw_Ai rfl hl.1 rfl (Nat.le_of_ble_eq_true rfl) dX11_person_13 ⟨Nat.zero_le _, Nat.zero_le _⟩ (fun r2 H locs h2 hP hS _ _ => ?_)
    rcases h2 with ⟨hr2, hf2_0⟩ | ⟨hr2, hf2_0⟩
    · subst hr2
      have hg2_0 : (0 : Int) ≤ a1.toInt ∧ a1.toInt ≤ (99 : Int) := hf2_0
      refine lv_if_eq (tgt := 29) hx hb dX11_person_16 (by decide) (fun q => absurd q (by decide)) (fun _ => ?_)
      refine lv_iload_n hx hb dX11_person_19 rfl (lv_at hl 3 rfl) ?_
      refine lv_iload_n hx hb dX11_person_20 rfl (lv_at hl 2 rfl) ?_
      refine lv_bipush (v := 99) hx hb dX11_person_21 (by decide) ?_
      refine qc_Sip (As := [.int a2, .int a1, .int 99]) (rest := []) (k0 := 3) (m_in l D ca o z z y Jz a2 a1 99) kc_yX11_in ⟨hx, hb, hml, hown, hts⟩ wq_1187 rfl rfl ⟨Nat.le_of_ble_eq_true rfl, Nat.le_of_ble_eq_true rfl⟩ wq_all hP hK hS qw_Ai rfl hl.1 rfl (Nat.le_of_ble_eq_true rfl) dX11_person_23 ⟨Nat.zero_le _, Nat.zero_le _⟩ (fun r3 H locs h3 hP hS _ _ => ?_)
      rcases h3 with ⟨hr3, hf3_0⟩ | ⟨hr3, hf3_0⟩
      · subst hr3
        have hg3_0 : a1.toInt ≤ a2.toInt ∧ a2.toInt ≤ (99 : Int) := hf3_0
        refine lv_if_ne (tgt := 31) hx hb dX11_person_26 (by decide) (fun _ => ?_) (fun q => absurd q (by decide))
        refine lv_aload_n hx hb dX11_person_31 rfl (lv_at hl 0 rfl) ?_
        refine lv_aload_n hx hb dX11_person_32 rfl (lv_at hl 0 rfl) ?_
        refine qf_get hx hb hts inX11 hown hK hP (q0 := 0) (by decide) (hgM_0 ca o) rfl 4 (by decide) wq_997 (v := .int (z 0 4)) rfl dX11_person_33 ?_
        refine lv_topi (fun x4 e4 => ?_)
        have m4 : x4 = z 0 4 := e4.trans ((Jz.2.1 0 4 rfl).trans (by rfl))
        refine lv_iconst (v := 1) hx hb dX11_person_36 (by decide) ?_
        refine lv_iload_n hx hb dX11_person_37 rfl (lv_at hl 1 rfl) ?_
        refine lv_ishl hx hb dX11_person_38 ?_
        refine lv_topi (fun x5 e5 => ?_)
        have t5 : 1 ≤ x5.toInt ∧ x5.toInt ≤ 32 := ga_shl 5 32 e5 (by decide) (by decide) (by omega) (by omega)
        refine lv_ior hx hb dX11_person_39 ?_
        refine lv_topi (fun x6 e6 => ?_)
        refine qf_put2 hx hb hts inX11 tyX11 tyX11_ok nmX11 hown hK hP hS qw_Ai (q0 := 0) (by decide) (hgM_0 ca o) rfl 4 (by decide) wq_997 rfl (x := x6) 4 rfl rfl rfl (Nat.le_of_ble_eq_true rfl) dX11_person_40 (fun z7 H locs hz7 hP hS => ?_)
        have J7 := jM_0_4 Jz hz7
        refine lv_aload_n hx hb dX11_person_43 rfl (lv_at hl 0 rfl) ?_
        refine qf_get hx hb hts inX11 hown hK hP (q0 := 0) (by decide) (hgM_0 ca o) rfl 0 (by decide) wq_993 (v := .ref (o + 1)) rfl dX11_person_44 ?_
        refine lv_iload_n hx hb dX11_person_47 rfl (lv_at hl 1 rfl) ?_
        refine lv_iload_n hx hb dX11_person_48 rfl (lv_at hl 2 rfl) ?_
        refine qa_iast2 hx hb hK hP hS qw_Ai (q0 := 1) (by decide) 0 (N := 6) (hgM_1 ca o) rfl (i := a0) (x := a1) (gi_in (by omega) (by omega)) dX11_person_49 (fun z8 H locs hz8 hP hS => ?_)
        refine lv_aload_n hx hb dX11_person_50 rfl (lv_at hl 0 rfl) ?_
        refine qf_get hx hb hts inX11 hown hK hP (q0 := 0) (by decide) (hgM_0 ca o) rfl 1 (by decide) wq_994 (v := .ref (o + 2)) rfl dX11_person_51 ?_
        refine lv_iload_n hx hb dX11_person_54 rfl (lv_at hl 1 rfl) ?_
        refine lv_iload_n hx hb dX11_person_55 rfl (lv_at hl 3 rfl) ?_
        refine qa_iast2 hx hb hK hP hS qw_Ai (q0 := 2) (by decide) 0 (N := 6) (hgM_2 ca o) rfl (i := a0) (x := a2) (gi_in (by omega) (by omega)) dX11_person_56 (fun z9 H locs hz9 hP hS => ?_)
        have J9 := jM_lh J7 hz8 hz9 ⟨by omega, by omega⟩ ⟨by omega, by omega⟩ (by omega)
        refine lv_aload_n hx hb dX11_person_57 rfl (lv_at hl 0 rfl) ?_
        refine qf_get hx hb hts inX11 hown hK hP (q0 := 0) (by decide) (hgM_0 ca o) rfl 2 (by decide) wq_995 (v := .ref (o + 3)) rfl dX11_person_58 ?_
        refine lv_iload_n hx hb dX11_person_61 rfl (lv_at hl 1 rfl) ?_
        refine lv_bipush (v := 100) hx hb dX11_person_62 (by decide) ?_
        refine qa_iast2 hx hb hK hP hS qw_Ai (q0 := 3) (by decide) 0 (N := 6) (hgM_3 ca o) rfl (i := a0) (x := 100) (gi_in (by omega) (by omega)) dX11_person_64 (fun z10 H locs hz10 hP hS => ?_)
        have J10 := jM_3 J9 hz10
        refine lv_iconst (v := 1) hx hb dX11_person_65 (by decide) ?_
        exact W.zret (v := 1) (ty := .boolean) hx hb hr rfl (fun t ht hW => ⟨⟨1, (z10, y), rfl, ⟨Or.inl ⟨rfl, ⟨by omega, by omega, by omega, by omega, by omega⟩, (by have h := J10.2.1; rw [e6, m4, e5] at h; exact h)⟩, ⟨J10.1, qK_rf, J10.2.2⟩⟩, by rw [ht]; exact hP, va_K.moved hW.alike hK⟩, hS.F ht⟩) hS.2.2 dX11_person_66
      · subst hr3
        have hg3_0 : ¬ (a1.toInt ≤ a2.toInt ∧ a2.toInt ≤ (99 : Int)) := hf3_0
        refine lv_if_ne (tgt := 31) hx hb dX11_person_26 (by decide) (fun q => absurd q (by decide)) (fun _ => ?_)
        refine lv_iconst (v := 0) hx hb dX11_person_29 (by decide) ?_
        exact W.zret (v := 0) (ty := .boolean) hx hb hr rfl (fun t ht hW => ⟨⟨0, (z, y), rfl, ⟨Or.inr ⟨rfl, (by omega), qK_rf⟩, ⟨Jz.1, qK_rf, Jz.2.2⟩⟩, by rw [ht]; exact hP, va_K.moved hW.alike hK⟩, hS.F ht⟩) hS.2.2 dX11_person_30
    · subst hr2
      have hg2_0 : ¬ ((0 : Int) ≤ a1.toInt ∧ a1.toInt ≤ (99 : Int)) := hf2_0
      refine lv_if_eq (tgt := 29) hx hb dX11_person_16 (by decide) (fun _ => ?_) (fun q => absurd (by decide) q)
      refine lv_iconst (v := 0) hx hb dX11_person_29 (by decide) ?_
      exact W.zret (v := 0) (ty := .boolean) hx hb hr rfl (fun t ht hW => ⟨⟨0, (z, y), rfl, ⟨Or.inr ⟨rfl, (by omega), qK_rf⟩, ⟨Jz.1, qK_rf, Jz.2.2⟩⟩, by rw [ht]; exact hP, va_K.moved hW.alike hK⟩, hS.F ht⟩) hS.2.2 dX11_person_30
  · subst hr1
    have hg1_0 : ¬ ((0 : Int) ≤ a0.toInt ∧ a0.toInt ≤ (5 : Int)) := hf1_0
    refine lv_if_eq (tgt := 29) hx hb dX11_person_6 (by decide) (fun _ => ?_) (fun q => absurd (by decide) q)
    refine lv_iconst (v := 0) hx hb dX11_person_29 (by decide) ?_
    exact W.zret (v := 0) (ty := .boolean) hx hb hr rfl (fun t ht hW => ⟨⟨0, (z, y), rfl, ⟨Or.inr ⟨rfl, (by omega), qK_rf⟩, ⟨Jz.1, qK_rf, Jz.2.2⟩⟩, by rw [ht]; exact hP, va_K.moved hW.alike hK⟩, hS.F ht⟩) hS.2.2 dX11_person_30
set_option maxRecDepth 100000 in
set_option maxHeartbeats 8000000 in
theorem m_has (l : Launch) (D : va_G) (ca : Nat → ClassId) (o : Nat) (b z : Nat → Nat → Int32) (y : Nat → Nat → Int64) (J0 : qJM b z) (a0 : Int32) (a1 : Int32)  : qM l yX11_has cX11_has 2 (some .boolean) 1 60 (qPre D vwCl (qT6 ca) o 41 (qG (GM ca o) z y) [.int a0, .int a1]) (va_Qi (fun r (_ : Unit) => ((r = 1 ∧ (bitAt a0 a1 ≠ 0)) ∨ (r = 0 ∧ (bitAt a0 a1 = 0)))) (qB D vwCl (qT6 ca) o 41 (fun _ : Unit => qG (GM ca o) z y)) (qw_A o 41)) (qw_A o 41) := by
  refine Met.ofW (cc := cX11_has) (maxL := 2) (ret := (some .boolean)) (by decide) rfl ?_
  intro p e s m args below meth c s₁ B hml hv
  obtain ⟨rfl, hP, hK⟩ := hv
  have hx := B.exec
  have hb := B.bytes
  have hr := B.returns
  have hts0 := atoms_spec (ws := Cond.code yX11_has cX11_has 2 (some .boolean) :: qtbl) B.pre
  have hts : ∀ w ∈ qtbl, w.before _ s = true := fun w h => hts0 w (List.mem_cons_of_mem _ h)
  have hown : s.vm.findClass RX11 = some m.cls := findClass_of_methodNamed B.named
  have hlocks := B.notSynchronized
  have hS : va_S (qw_A o 41) s.heap s.heap [] := va_S.rf
  have hl := lv_entry ([.int a0, .int a1]) (n := 2) (Nat.le_of_ble_eq_true rfl)
  rw [lg_entry_eq]
  generalize (lg_sl ([.int a0, .int a1]) ++ List.replicate (2 - (lg_sl ([.int a0, .int a1])).length) Slot.unset).toArray = ls at hl ⊢
  have hl : lv_has ls 2 [(0, .int a0), (1, .int a1)] := hl
  refine lv_iload_n hx hb dX11_has_0 rfl (lv_at hl 0 rfl) ?_
  refine lv_iload_n hx hb dX11_has_1 rfl (lv_at hl 1 rfl) ?_
  refine lv_ishr hx hb dX11_has_2 ?_
  refine lv_topi (fun x1 e1 => ?_)
  refine lv_iconst (v := 1) hx hb dX11_has_3 (by decide) ?_
  refine lv_iand hx hb dX11_has_4 ?_
  refine lv_topi (fun x2 e2 => ?_)
  have t2 : 0 ≤ x2.toInt ∧ x2.toInt ≤ (1 : Int) := ga_and e2 rfl (by omega)
  refine lv_iconst (v := 1) hx hb dX11_has_5 (by decide) ?_
  refine lv_icmp_ne (tgt := 13) hx hb dX11_has_6 (by decide) (fun c3 => ?_) (fun c3 => ?_)
  · have t3 : x2.toInt ≠ (1 : Int) := gl_ne c3
    refine lv_iconst (v := 0) hx hb dX11_has_13 (by decide) ?_
    exact W.zret (v := 0) (ty := .boolean) hx hb hr rfl (fun t ht hW => ⟨⟨0, (), rfl, Or.inr ⟨rfl, (by have h := (ga_bit e2).resolve_right c3; rw [e2, e1] at h; exact h)⟩, by rw [ht]; exact hP, va_K.moved hW.alike hK⟩, hS.F ht⟩) hS.2.2 dX11_has_14
  · have t3 : x2.toInt = (1 : Int) := gl_eq c3
    refine lv_iconst (v := 1) hx hb dX11_has_9 (by decide) ?_
    refine lv_goto (tgt := 14) hx hb dX11_has_10 (by decide) ?_
    exact W.zret (v := 1) (ty := .boolean) hx hb hr rfl (fun t ht hW => ⟨⟨1, (), rfl, Or.inl ⟨rfl, (by rw [e2, e1] at c3; show a0 >>> (a1 &&& 31) &&& 1 ≠ 0; rw [c3]; decide)⟩, by rw [ht]; exact hP, va_K.moved hW.alike hK⟩, hS.F ht⟩) hS.2.2 dX11_has_14
set_option maxRecDepth 100000 in
set_option maxHeartbeats 8000000 in
theorem m_isPerson (l : Launch) (D : va_G) (ca : Nat → ClassId) (o : Nat) (b z : Nat → Nat → Int32) (y : Nat → Nat → Int64) (J0 : qJM b z) (a0 : Int32)  : qM l yX11_isPerson cX11_isPerson 2 (some .boolean) 2 82 (qPre D vwCl (qT6 ca) o 41 (qG (GM ca o) z y) [.ref (o + 0), .int a0]) (va_Qi (fun r (_ : Unit) => ((r = 1 ∧ (pHas (z 0 4) a0) ∧ (0 ≤ a0.toInt ∧ a0.toInt ≤ 5)) ∨ (r = 0 ∧ (¬ pHas (z 0 4) a0)))) (qB D vwCl (qT6 ca) o 41 (fun _ : Unit => qG (GM ca o) z y)) (qw_A o 41)) (qw_A o 41) := by
  refine Met.ofW (cc := cX11_isPerson) (maxL := 2) (ret := (some .boolean)) (by decide) rfl ?_
  intro p e s m args below meth c s₁ B hml hv
  obtain ⟨rfl, hP, hK⟩ := hv
  have hx := B.exec
  have hb := B.bytes
  have hr := B.returns
  have hts0 := atoms_spec (ws := Cond.code yX11_isPerson cX11_isPerson 2 (some .boolean) :: qtbl) B.pre
  have hts : ∀ w ∈ qtbl, w.before _ s = true := fun w h => hts0 w (List.mem_cons_of_mem _ h)
  have hown : s.vm.findClass RX11 = some m.cls := findClass_of_methodNamed B.named
  have hlocks := B.notSynchronized
  have hS : va_S (qw_A o 41) s.heap s.heap [] := va_S.rf
  have hl := lv_entry ([.ref (o + 0), .int a0]) (n := 2) (Nat.le_of_ble_eq_true rfl)
  rw [lg_entry_eq]
  generalize (lg_sl ([.ref (o + 0), .int a0]) ++ List.replicate (2 - (lg_sl ([.ref (o + 0), .int a0])).length) Slot.unset).toArray = ls at hl ⊢
  have hl : lv_has ls 2 [(0, .ref (o + 0)), (1, .int a0)] := hl
  refine lv_iload_n hx hb dX11_isPerson_0 rfl (lv_at hl 1 rfl) ?_
  refine lv_iconst (v := 0) hx hb dX11_isPerson_1 (by decide) ?_
  refine lv_iconst (v := 5) hx hb dX11_isPerson_2 (by decide) ?_
  refine qc_Sip (As := [.int a0, .int 0, .int 5]) (rest := []) (k0 := 3) (m_in l D ca o b z y J0 a0 0 5) kc_yX11_in ⟨hx, hb, hml, hown, hts⟩ wq_1187 rfl rfl ⟨Nat.le_of_ble_eq_true rfl, Nat.le_of_ble_eq_true rfl⟩ wq_all hP hK hS qw_Ai rfl hl.1 rfl (Nat.le_of_ble_eq_true rfl) dX11_isPerson_3 ⟨Nat.zero_le _, Nat.zero_le _⟩ (fun r1 H locs h1 hP hS _ _ => ?_)
  rcases h1 with ⟨hr1, hf1_0⟩ | ⟨hr1, hf1_0⟩
  · subst hr1
    have hg1_0 : (0 : Int) ≤ a0.toInt ∧ a0.toInt ≤ (5 : Int) := hf1_0
    refine lv_if_eq (tgt := 24) hx hb dX11_isPerson_6 (by decide) (fun q => absurd q (by decide)) (fun _ => ?_)
    refine lv_aload_n hx hb dX11_isPerson_9 rfl (lv_at hl 0 rfl) ?_
    refine qf_get hx hb hts inX11 hown hK hP (q0 := 0) (by decide) (hgM_0 ca o) rfl 4 (by decide) wq_997 (v := .int (z 0 4)) rfl dX11_isPerson_10 ?_
    refine lv_topi (fun x2 e2 => ?_)
    refine lv_iload_n hx hb dX11_isPerson_13 rfl (lv_at hl 1 rfl) ?_
    refine qc_Sip (As := [.int x2, .int a0]) (rest := []) (k0 := 2) (m_has l D ca o b z y J0 x2 a0) kc_yX11_has ⟨hx, hb, hml, hown, hts⟩ wq_1198 rfl rfl ⟨Nat.le_of_ble_eq_true rfl, Nat.le_of_ble_eq_true rfl⟩ wq_all hP hK hS qw_Ai rfl hl.1 rfl (Nat.le_of_ble_eq_true rfl) dX11_isPerson_14 ⟨Nat.zero_le _, Nat.zero_le _⟩ (fun r3 H locs h3 hP hS _ _ => ?_)
    rcases h3 with ⟨hr3, hf3_0⟩ | ⟨hr3, hf3_0⟩
    · subst hr3
      have hg3_0 : bitAt x2 a0 ≠ 0 := hf3_0
      refine lv_if_eq (tgt := 24) hx hb dX11_isPerson_17 (by decide) (fun q => absurd q (by decide)) (fun _ => ?_)
      refine lv_iconst (v := 1) hx hb dX11_isPerson_20 (by decide) ?_
      refine lv_goto (tgt := 25) hx hb dX11_isPerson_21 (by decide) ?_
      exact W.zret (v := 1) (ty := .boolean) hx hb hr rfl (fun t ht hW => ⟨⟨1, (), rfl, Or.inl ⟨rfl, ⟨by omega, by omega, by have h := hg3_0; rw [e2] at h; exact h⟩, ⟨by omega, by omega⟩⟩, by rw [ht]; exact hP, va_K.moved hW.alike hK⟩, hS.F ht⟩) hS.2.2 dX11_isPerson_25
    · subst hr3
      have hg3_0 : bitAt x2 a0 = 0 := hf3_0
      refine lv_if_eq (tgt := 24) hx hb dX11_isPerson_17 (by decide) (fun _ => ?_) (fun q => absurd (by decide) q)
      refine lv_iconst (v := 0) hx hb dX11_isPerson_24 (by decide) ?_
      exact W.zret (v := 0) (ty := .boolean) hx hb hr rfl (fun t ht hW => ⟨⟨0, (), rfl, Or.inr ⟨rfl, (fun h => h.2.2 (by have h1 := hg3_0; rw [e2] at h1; exact h1))⟩, by rw [ht]; exact hP, va_K.moved hW.alike hK⟩, hS.F ht⟩) hS.2.2 dX11_isPerson_25
  · subst hr1
    have hg1_0 : ¬ ((0 : Int) ≤ a0.toInt ∧ a0.toInt ≤ (5 : Int)) := hf1_0
    refine lv_if_eq (tgt := 24) hx hb dX11_isPerson_6 (by decide) (fun _ => ?_) (fun q => absurd (by decide) q)
    refine lv_iconst (v := 0) hx hb dX11_isPerson_24 (by decide) ?_
    exact W.zret (v := 0) (ty := .boolean) hx hb hr rfl (fun t ht hW => ⟨⟨0, (), rfl, Or.inr ⟨rfl, (fun h => by have h1 := h.1; have h2 := h.2.1; omega)⟩, by rw [ht]; exact hP, va_K.moved hW.alike hK⟩, hS.F ht⟩) hS.2.2 dX11_isPerson_25
set_option maxRecDepth 100000 in
set_option maxHeartbeats 8000000 in
theorem m_dies (l : Launch) (D : va_G) (ca : Nat → ClassId) (o : Nat) (b z : Nat → Nat → Int32) (y : Nat → Nat → Int64) (J0 : qJM b z) (a0 : Int32) (a1 : Int32)  : qM l yX11_dies cX11_dies 3 (some .boolean) 3 103 (qPre D vwCl (qT6 ca) o 41 (qG (GM ca o) z y) [.ref (o + 0), .int a0, .int a1]) (va_Qi (fun r u => ((r = 1 ∧ (pHas (z 0 4) a0 ∧ 0 ≤ a1.toInt ∧ a1.toInt ≤ 100) ∧ (qK kM (qu z 3 a0.toNatClampNeg a1) u.1)) ∨ (r = 0 ∧ (¬ (pHas (z 0 4) a0 ∧ 0 ≤ a1.toInt ∧ a1.toInt ≤ 100)) ∧ (qK kM z u.1))) ∧ qJM u.1 u.1) (qB D vwCl (qT6 ca) o 41 (fun u : qZ => qG (GM ca o) u.1 u.2)) (qw_A o 41)) (qw_A o 41) := by
  refine Met.ofW (cc := cX11_dies) (maxL := 3) (ret := (some .boolean)) (by decide) rfl ?_
  intro p e s m args below meth c s₁ B hml hv
  obtain ⟨rfl, hP, hK⟩ := hv
  have hx := B.exec
  have hb := B.bytes
  have hr := B.returns
  have hts0 := atoms_spec (ws := Cond.code yX11_dies cX11_dies 3 (some .boolean) :: qtbl) B.pre
  have hts : ∀ w ∈ qtbl, w.before _ s = true := fun w h => hts0 w (List.mem_cons_of_mem _ h)
  have hown : s.vm.findClass RX11 = some m.cls := findClass_of_methodNamed B.named
  have hlocks := B.notSynchronized
  have hS : va_S (qw_A o 41) s.heap s.heap [] := va_S.rf
  have hl := lv_entry ([.ref (o + 0), .int a0, .int a1]) (n := 3) (Nat.le_of_ble_eq_true rfl)
  rw [lg_entry_eq]
  generalize (lg_sl ([.ref (o + 0), .int a0, .int a1]) ++ List.replicate (3 - (lg_sl ([.ref (o + 0), .int a0, .int a1])).length) Slot.unset).toArray = ls at hl ⊢
  have hl : lv_has ls 3 [(0, .ref (o + 0)), (1, .int a0), (2, .int a1)] := hl
  have Jz : qJM z z := ⟨J0.1, qK_rf, J0.2.2⟩
  refine lv_aload_n hx hb dX11_dies_0 rfl (lv_at hl 0 rfl) ?_
  refine lv_iload_n hx hb dX11_dies_1 rfl (lv_at hl 1 rfl) ?_
  refine qc_Vip (As := [.int a0]) (rest := []) (k0 := 1) (m_isPerson l D ca o z z y Jz a0) kc_yX11_isPerson ⟨hx, hb, hml, hown, hts⟩ wq_1194 rfl rfl ⟨Nat.le_of_ble_eq_true rfl, Nat.le_of_ble_eq_true rfl⟩ wq_all hP hK hS qw_Ai (q0 := 0) (by decide) (hgM_0 ca o _ _) rfl rfl hl.1 rfl (Nat.le_of_ble_eq_true rfl) dX11_dies_2 ⟨Nat.zero_le _, Nat.zero_le _⟩ (fun r1 H locs h1 hP hS _ _ => ?_)
  rcases h1 with ⟨hr1, hf1_0, hf1_1⟩ | ⟨hr1, hf1_0⟩
  · subst hr1
    have hg1_0 : pHas (z 0 4) a0 := hf1_0
    have hg1_1 : 0 ≤ a0.toInt ∧ a0.toInt ≤ 5 := hf1_1
    refine lv_if_eq (tgt := 18) hx hb dX11_dies_5 (by decide) (fun q => absurd q (by decide)) (fun _ => ?_)
    refine lv_iload_n hx hb dX11_dies_8 rfl (lv_at hl 2 rfl) ?_
    refine lv_iconst (v := 0) hx hb dX11_dies_9 (by decide) ?_
    refine lv_bipush (v := 100) hx hb dX11_dies_10 (by decide) ?_
    refine qc_Sip (As := [.int a1, .int 0, .int 100]) (rest := []) (k0 := 3) (m_in l D ca o z z y Jz a1 0 100) kc_yX11_in ⟨hx, hb, hml, hown, hts⟩ wq_1187 rfl rfl ⟨Nat.le_of_ble_eq_true rfl, Nat.le_of_ble_eq_true rfl⟩ wq_all hP hK hS qw_Ai rfl hl.1 rfl (Nat.le_of_ble_eq_true rfl) dX11_dies_12 ⟨Nat.zero_le _, Nat.zero_le _⟩ (fun r2 H locs h2 hP hS _ _ => ?_)
    rcases h2 with ⟨hr2, hf2_0⟩ | ⟨hr2, hf2_0⟩
    · subst hr2
      have hg2_0 : (0 : Int) ≤ a1.toInt ∧ a1.toInt ≤ (100 : Int) := hf2_0
      refine lv_if_ne (tgt := 20) hx hb dX11_dies_15 (by decide) (fun _ => ?_) (fun q => absurd q (by decide))
      refine lv_aload_n hx hb dX11_dies_20 rfl (lv_at hl 0 rfl) ?_
      refine qf_get hx hb hts inX11 hown hK hP (q0 := 0) (by decide) (hgM_0 ca o) rfl 2 (by decide) wq_995 (v := .ref (o + 3)) rfl dX11_dies_21 ?_
      refine lv_iload_n hx hb dX11_dies_24 rfl (lv_at hl 1 rfl) ?_
      refine lv_iload_n hx hb dX11_dies_25 rfl (lv_at hl 2 rfl) ?_
      refine qa_iast2 hx hb hK hP hS qw_Ai (q0 := 3) (by decide) 0 (N := 6) (hgM_3 ca o) rfl (i := a0) (x := a1) (gi_in (by omega) (by omega)) dX11_dies_26 (fun z3 H locs hz3 hP hS => ?_)
      have J3 := jM_3 Jz hz3
      refine lv_iconst (v := 1) hx hb dX11_dies_27 (by decide) ?_
      exact W.zret (v := 1) (ty := .boolean) hx hb hr rfl (fun t ht hW => ⟨⟨1, (z3, y), rfl, ⟨Or.inl ⟨rfl, ⟨hg1_0, by omega, by omega⟩, (by have h := J3.2.1; exact h)⟩, ⟨J3.1, qK_rf, J3.2.2⟩⟩, by rw [ht]; exact hP, va_K.moved hW.alike hK⟩, hS.F ht⟩) hS.2.2 dX11_dies_28
    · subst hr2
      have hg2_0 : ¬ ((0 : Int) ≤ a1.toInt ∧ a1.toInt ≤ (100 : Int)) := hf2_0
      refine lv_if_ne (tgt := 20) hx hb dX11_dies_15 (by decide) (fun q => absurd q (by decide)) (fun _ => ?_)
      refine lv_iconst (v := 0) hx hb dX11_dies_18 (by decide) ?_
      exact W.zret (v := 0) (ty := .boolean) hx hb hr rfl (fun t ht hW => ⟨⟨0, (z, y), rfl, ⟨Or.inr ⟨rfl, (by omega), qK_rf⟩, ⟨Jz.1, qK_rf, Jz.2.2⟩⟩, by rw [ht]; exact hP, va_K.moved hW.alike hK⟩, hS.F ht⟩) hS.2.2 dX11_dies_19
  · subst hr1
    have hg1_0 : ¬ pHas (z 0 4) a0 := hf1_0
    refine lv_if_eq (tgt := 18) hx hb dX11_dies_5 (by decide) (fun _ => ?_) (fun q => absurd (by decide) q)
    refine lv_iconst (v := 0) hx hb dX11_dies_18 (by decide) ?_
    exact W.zret (v := 0) (ty := .boolean) hx hb hr rfl (fun t ht hW => ⟨⟨0, (z, y), rfl, ⟨Or.inr ⟨rfl, (fun h => hg1_0 h.1), qK_rf⟩, ⟨Jz.1, qK_rf, Jz.2.2⟩⟩, by rw [ht]; exact hP, va_K.moved hW.alike hK⟩, hS.F ht⟩) hS.2.2 dX11_dies_19
set_option maxRecDepth 100000 in
set_option maxHeartbeats 8000000 in
theorem m_years (l : Launch) (D : va_G) (ca : Nat → ClassId) (o : Nat) (b z : Nat → Nat → Int32) (y : Nat → Nat → Int64) (J0 : qJM b z) (a0 : Int32)  : qM l yX11_years cX11_years 2 (some .int) 2 82 (qPre D vwCl (qT6 ca) o 41 (qG (GM ca o) z y) [.ref (o + 0), .int a0]) (va_Qi (fun r u => ((-1 : Int) ≤ r.toInt ∧ r.toInt ≤ 99) ∧ qJM u.1 u.1 ∧ (((1 ≤ a0.toInt ∧ a0.toInt ≤ 99 ∧ (z 0 5 + a0).toInt ≤ 99) ∧ r = z 0 5 + a0 ∧ qK kM (qu z 0 5 (z 0 5 + a0)) u.1) ∨ (¬ (1 ≤ a0.toInt ∧ a0.toInt ≤ 99 ∧ (z 0 5 + a0).toInt ≤ 99) ∧ r = -1 ∧ qK kM z u.1))) (qB D vwCl (qT6 ca) o 41 (fun u : qZ => qG (GM ca o) u.1 u.2)) (qw_A o 41)) (qw_A o 41) := by
  refine Met.ofW (cc := cX11_years) (maxL := 2) (ret := (some .int)) (by decide) rfl ?_
  intro p e s m args below meth c s₁ B hml hv
  obtain ⟨rfl, hP, hK⟩ := hv
  have hx := B.exec
  have hb := B.bytes
  have hr := B.returns
  have hts0 := atoms_spec (ws := Cond.code yX11_years cX11_years 2 (some .int) :: qtbl) B.pre
  have hts : ∀ w ∈ qtbl, w.before _ s = true := fun w h => hts0 w (List.mem_cons_of_mem _ h)
  have hown : s.vm.findClass RX11 = some m.cls := findClass_of_methodNamed B.named
  have hlocks := B.notSynchronized
  have hS : va_S (qw_A o 41) s.heap s.heap [] := va_S.rf
  have hl := lv_entry ([.ref (o + 0), .int a0]) (n := 2) (Nat.le_of_ble_eq_true rfl)
  rw [lg_entry_eq]
  generalize (lg_sl ([.ref (o + 0), .int a0]) ++ List.replicate (2 - (lg_sl ([.ref (o + 0), .int a0])).length) Slot.unset).toArray = ls at hl ⊢
  have hl : lv_has ls 2 [(0, .ref (o + 0)), (1, .int a0)] := hl
  have Jz : qJM z z := ⟨J0.1, qK_rf, J0.2.2⟩
  refine lv_iload_n hx hb dX11_years_0 rfl (lv_at hl 1 rfl) ?_
  refine lv_iconst (v := 1) hx hb dX11_years_1 (by decide) ?_
  refine lv_bipush (v := 99) hx hb dX11_years_2 (by decide) ?_
  refine qc_Sip (As := [.int a0, .int 1, .int 99]) (rest := []) (k0 := 3) (m_in l D ca o z z y Jz a0 1 99) kc_yX11_in ⟨hx, hb, hml, hown, hts⟩ wq_1187 rfl rfl ⟨Nat.le_of_ble_eq_true rfl, Nat.le_of_ble_eq_true rfl⟩ wq_all hP hK hS qw_Ai rfl hl.1 rfl (Nat.le_of_ble_eq_true rfl) dX11_years_4 ⟨Nat.zero_le _, Nat.zero_le _⟩ (fun r1 H locs h1 hP hS _ _ => ?_)
  rcases h1 with ⟨hr1, hf1_0⟩ | ⟨hr1, hf1_0⟩
  · subst hr1
    have hg1_0 : (1 : Int) ≤ a0.toInt ∧ a0.toInt ≤ (99 : Int) := hf1_0
    refine lv_if_eq (tgt := 21) hx hb dX11_years_7 (by decide) (fun q => absurd q (by decide)) (fun _ => ?_)
    refine lv_aload_n hx hb dX11_years_10 rfl (lv_at hl 0 rfl) ?_
    refine qf_get hx hb hts inX11 hown hK hP (q0 := 0) (by decide) (hgM_0 ca o) rfl 5 (by decide) wq_998 (v := .int (z 0 5)) rfl dX11_years_11 ?_
    refine lv_topi (fun x2 e2 => ?_)
    have b2 := iM_0_5 Jz e2
    have m2 : x2 = z 0 5 := e2.trans ((Jz.2.1 0 5 rfl).trans (by rfl))
    refine lv_iload_n hx hb dX11_years_14 rfl (lv_at hl 1 rfl) ?_
    refine lv_iadd hx hb dX11_years_15 ?_
    refine lv_topi (fun x3 e3 => ?_)
    have s3 : x3 = z 0 5 + a0 := by rw [e3, m2]
    have t3 : x3.toInt = x2.toInt + a0.toInt := ga_add e3 rfl rfl (by omega) (by omega)
    refine lv_bipush (v := 99) hx hb dX11_years_16 (by decide) ?_
    refine lv_icmp_le (tgt := 23) hx hb dX11_years_18 (by decide) (fun c4 => ?_) (fun c4 => ?_)
    · have t4 : x3.toInt ≤ (99 : Int) := gl_le c4
      refine lv_aload_n hx hb dX11_years_23 rfl (lv_at hl 0 rfl) ?_
      refine lv_aload_n hx hb dX11_years_24 rfl (lv_at hl 0 rfl) ?_
      refine qf_get hx hb hts inX11 hown hK hP (q0 := 0) (by decide) (hgM_0 ca o) rfl 5 (by decide) wq_998 (v := .int (z 0 5)) rfl dX11_years_25 ?_
      refine lv_topi (fun x5 e5 => ?_)
      have b5 := iM_0_5 Jz e5
      have m5 : x5 = z 0 5 := e5.trans ((Jz.2.1 0 5 rfl).trans (by rfl))
      have ag5 : x5.toInt = x2.toInt := congrArg Int32.toInt (e5.trans e2.symm)
      refine lv_iload_n hx hb dX11_years_28 rfl (lv_at hl 1 rfl) ?_
      refine lv_iadd hx hb dX11_years_29 ?_
      refine lv_topi (fun x6 e6 => ?_)
      have s6 : x6 = z 0 5 + a0 := by rw [e6, m5]
      have t6 : x6.toInt = x5.toInt + a0.toInt := ga_add e6 rfl rfl (by omega) (by omega)
      refine qf_put2 hx hb hts inX11 tyX11 tyX11_ok nmX11 hown hK hP hS qw_Ai (q0 := 0) (by decide) (hgM_0 ca o) rfl 5 (by decide) wq_998 rfl (x := x6) 5 rfl rfl rfl (Nat.le_of_ble_eq_true rfl) dX11_years_30 (fun z7 H locs hz7 hP hS => ?_)
      have J7 := jM_0_5 Jz hz7 ⟨by omega, by omega⟩
      refine lv_aload_n hx hb dX11_years_33 rfl (lv_at hl 0 rfl) ?_
      refine qf_get hx hb hts inX11 hown hK hP (q0 := 0) (by decide) (hgM_0 ca o) rfl 5 (by decide) wq_998 (v := .int (z7 0 5)) rfl dX11_years_34 ?_
      refine lv_topi (fun x8 e8 => ?_)
      have b8 := iM_0_5 J7 e8
      have m8 : x8 = x6 := e8.trans ((J7.2.1 0 5 rfl).trans (by rfl))
      exact W.iret (v := x8) hx hb hr (fun t ht hW => ⟨⟨x8, (z7, y), rfl, ⟨⟨by omega, by omega⟩, ⟨J7.1, qK_rf, J7.2.2⟩, Or.inl ⟨⟨by omega, by omega, by rw [← s3]; omega⟩, by rw [m8]; exact s6, by have h := J7.2.1; rw [s6] at h; exact h⟩⟩, by rw [ht]; exact hP, va_K.moved hW.alike hK⟩, hS.F ht⟩) hS.2.2 dX11_years_37
    · have t4 : x3.toInt > (99 : Int) := gl_nle c4
      refine lv_iconst (v := (-1)) hx hb dX11_years_21 (by decide) ?_
      exact W.iret (v := (-1)) hx hb hr (fun t ht hW => ⟨⟨(-1), (z, y), rfl, ⟨⟨by decide, by decide⟩, ⟨Jz.1, qK_rf, Jz.2.2⟩, Or.inr ⟨by rw [← s3]; omega, rfl, qK_rf⟩⟩, by rw [ht]; exact hP, va_K.moved hW.alike hK⟩, hS.F ht⟩) hS.2.2 dX11_years_22
  · subst hr1
    have hg1_0 : ¬ ((1 : Int) ≤ a0.toInt ∧ a0.toInt ≤ (99 : Int)) := hf1_0
    refine lv_if_eq (tgt := 21) hx hb dX11_years_7 (by decide) (fun _ => ?_) (fun q => absurd (by decide) q)
    refine lv_iconst (v := (-1)) hx hb dX11_years_21 (by decide) ?_
    exact W.iret (v := (-1)) hx hb hr (fun t ht hW => ⟨⟨(-1), (z, y), rfl, ⟨⟨by decide, by decide⟩, ⟨Jz.1, qK_rf, Jz.2.2⟩, Or.inr ⟨by omega, rfl, qK_rf⟩⟩, by rw [ht]; exact hP, va_K.moved hW.alike hK⟩, hS.F ht⟩) hS.2.2 dX11_years_22
set_option maxRecDepth 100000 in
set_option maxHeartbeats 8000000 in
theorem m_types (l : Launch) (D : va_G) (ca : Nat → ClassId) (o : Nat) (b z : Nat → Nat → Int32) (y : Nat → Nat → Int64) (J0 : qJM b z) (a0 : Int32) (hp0 : (z 0 15).toInt ≤ 256) : qM l yX11_types cX11_types 3 none 1 60 (qPre D vwCl (qT6 ca) o 41 (qG (GM ca o) z y) [.ref (o + 0), .int a0]) (va_Qv (fun u => qJM b u.1 ∧ ((u.1 0 15).toInt = (z 0 15).toInt + 4)) (qB D vwCl (qT6 ca) o 41 (fun u : qZ => qG (GM ca o) u.1 u.2)) (qw_A o 41)) (qw_A o 41) := by
  refine Met.ofW (cc := cX11_types) (maxL := 3) (ret := none) (by decide) rfl ?_
  intro p e s m args below meth c s₁ B hml hv
  obtain ⟨rfl, hP, hK⟩ := hv
  have hx := B.exec
  have hb := B.bytes
  have hr := B.returns
  have hts0 := atoms_spec (ws := Cond.code yX11_types cX11_types 3 none :: qtbl) B.pre
  have hts : ∀ w ∈ qtbl, w.before _ s = true := fun w h => hts0 w (List.mem_cons_of_mem _ h)
  have hown : s.vm.findClass RX11 = some m.cls := findClass_of_methodNamed B.named
  have hlocks := B.notSynchronized
  have hS : va_S (qw_A o 41) s.heap s.heap [] := va_S.rf
  have hl := lv_entry ([.ref (o + 0), .int a0]) (n := 3) (Nat.le_of_ble_eq_true rfl)
  rw [lg_entry_eq]
  generalize (lg_sl ([.ref (o + 0), .int a0]) ++ List.replicate (3 - (lg_sl ([.ref (o + 0), .int a0])).length) Slot.unset).toArray = ls at hl ⊢
  have hl : lv_has ls 3 [(0, .ref (o + 0)), (1, .int a0)] := hl
  refine lv_iconst (v := 3) hx hb dX11_types_0 (by decide) ?_
  refine lv_istore_n (lv' := [(2, .int 3), (0, .ref (o + 0)), (1, .int a0)]) hx hb dX11_types_1 rfl hl (by decide) rfl (fun ls hl => ?_)
  have loop1 : ∀ (n : Nat) (w1_2 : Int32) (z1 : Nat → Nat → Int32) (y1 : Nat → Nat → Int64), ((w1_2.toInt - (-1) : Int) < (n : Int)) → ((-1 : Int) ≤ w1_2.toInt ∧ w1_2.toInt ≤ 3) → (qJM b z1) → ((z1 0 15).toInt = (z 0 15).toInt + 3 - w1_2.toInt) → ∀ (H : Heap) (locs : List Loc), qw_P D vwCl o 41 (qG (GM ca o) z1 y1) H → va_S (qw_A o 41) s.heap H locs → ∀ (ls : Array Slot), lv_has ls 3 [(2, .int w1_2), (0, .ref (o + 0)), (1, .int a0)] → W p l e (headSpec (Cond.code yX11_types cX11_types 3 none :: qtbl) ({ frames := 1, cells := 0, slots := 0, locals := 60 })).room s m (([.ref (o + 0), .int a0] : List Value).toArray) below meth c H locs 0 0 (MQ below (va_Qv (fun u => qJM b u.1 ∧ ((u.1 0 15).toInt = (z 0 15).toInt + 4)) (qB D vwCl (qT6 ca) o 41 (fun u : qZ => qG (GM ca o) u.1 u.2)) (qw_A o 41)) (([.ref (o + 0), .int a0] : List Value).toArray) s 0 0 (qw_A o 41)) (F0 m 2 ls []) := by
    intro n
    induction n with
    | zero => intro w1_2 z1 y1 hb1 hv1_2 J1 v1_0; exfalso; omega
    | succ n1 ih1 =>
      intro w1_2 z1 y1 hb1 hv1_2 J1 v1_0 H locs hP hS ls hl
      refine lv_iload_n hx hb dX11_types_2 rfl (lv_at hl 0 rfl) ?_
      refine lv_if_lt (tgt := 38) hx hb dX11_types_3 (by decide) (fun c2 => ?_) (fun c2 => ?_)
      · have t2 : w1_2.toInt < (0 : Int) := gl_lt c2
        exact W.vret hx hb hr (fun t ht hW => ⟨⟨(z1, y1), rfl, ⟨J1, (show (z1 0 15).toInt = (z 0 15).toInt + 4 from by omega)⟩, by rw [ht]; exact hP, va_K.moved hW.alike hK⟩, hS.F ht⟩) hS.2.2 dX11_types_38
      · have t2 : w1_2.toInt ≥ (0 : Int) := gl_nlt c2
        refine lv_aload_n hx hb dX11_types_6 rfl (lv_at hl 1 rfl) ?_
        refine qf_get hx hb hts inX11 hown hK hP (q0 := 0) (by decide) (hgM_0 ca o) rfl 14 (by decide) wq_1007 (v := .ref (o + 12)) rfl dX11_types_7 ?_
        refine lv_aload_n hx hb dX11_types_10 rfl (lv_at hl 1 rfl) ?_
        refine qf_get hx hb hts inX11 hown hK hP (q0 := 0) (by decide) (hgM_0 ca o) rfl 15 (by decide) wq_1008 (v := .int (z1 0 15)) rfl dX11_types_11 ?_
        refine lv_topi (fun x3 e3 => ?_)
        have b3 := iM_0_15 J1 e3
        have k3 : x3.toInt = (z1 0 15).toInt := congrArg Int32.toInt e3
        refine lv_iload_n hx hb dX11_types_14 rfl (lv_at hl 2 rfl) ?_
        refine lv_bipush (v := 8) hx hb dX11_types_15 (by decide) ?_
        refine lv_iload_n hx hb dX11_types_17 rfl (lv_at hl 0 rfl) ?_
        refine lv_imul hx hb dX11_types_18 ?_
        refine lv_topi (fun x4 e4 => ?_)
        have t4 : x4.toInt = (8 : Int) * w1_2.toInt := ga_mul e4 rfl rfl (by omega) (by omega)
        refine lv_ishr hx hb dX11_types_19 ?_
        refine lv_topi (fun x5 e5 => ?_)
        refine lv_i2b hx hb dX11_types_20 rfl ?_
        refine lv_topi (fun x6 e6 => ?_)
        refine qa_bast2 hx hb hK hP hS qw_Ai (q0 := 12) (by decide) 3 (N := 260) (hgM_12 ca o) rfl (i := x3) (x := x6) (gi_in (by omega) (by omega)) dX11_types_21 (fun z7 H locs hz7 hP hS => ?_)
        have J7 := jM_12 J1 hz7
        have k7_0 : (z7 0 15).toInt = (z1 0 15).toInt := congrArg Int32.toInt (qt_ne hz7 15 (by decide))
        refine lv_aload_n hx hb dX11_types_22 rfl (lv_at hl 1 rfl) ?_
        refine lv_aload_n hx hb dX11_types_23 rfl (lv_at hl 1 rfl) ?_
        refine qf_get hx hb hts inX11 hown hK hP (q0 := 0) (by decide) (hgM_0 ca o) rfl 15 (by decide) wq_1008 (v := .int (z7 0 15)) rfl dX11_types_24 ?_
        refine lv_topi (fun x8 e8 => ?_)
        have b8 := iM_0_15 J7 e8
        have k8 : x8.toInt = (z7 0 15).toInt := congrArg Int32.toInt e8
        refine lv_iconst (v := 1) hx hb dX11_types_27 (by decide) ?_
        refine lv_iadd hx hb dX11_types_28 ?_
        refine lv_topi (fun x9 e9 => ?_)
        have t9 : x9.toInt = x8.toInt + (1 : Int) := ga_add e9 rfl rfl (by omega) (by omega)
        refine qf_put2 hx hb hts inX11 tyX11 tyX11_ok nmX11 hown hK hP hS qw_Ai (q0 := 0) (by decide) (hgM_0 ca o) rfl 15 (by decide) wq_1008 rfl (x := x9) 15 rfl rfl rfl (Nat.le_of_ble_eq_true rfl) dX11_types_29 (fun z10 H locs hz10 hP hS => ?_)
        have J10 := jM_0_15 J7 hz10 ⟨by omega, by omega⟩
        have k10_0 : (z10 0 15).toInt = x9.toInt := congrArg Int32.toInt (qt_at hz10)
        obtain ⟨x11, e11⟩ : ∃ t : Int32, t = w1_2 + (-1) := ⟨_, rfl⟩
        refine lv_iinc (v := x11) (lv' := [(2, .int x11), (0, .ref (o + 0)), (1, .int a0)]) hx hb dX11_types_32 hl (k := 0) rfl (by rw [e11]; rfl) (by decide) rfl (fun ls hl => ?_)
        have t11 : x11.toInt = w1_2.toInt + (-1 : Int) := ga_add e11 rfl rfl (by omega) (by omega)
        refine lv_goto (tgt := 2) hx hb dX11_types_35 (by decide) ?_
        exact ih1 x11 z10 y1 (show (x11.toInt - (-1) : Int) < (n1 : Int) from by omega) ⟨by omega, by omega⟩ J10 (show (z10 0 15).toInt = (z 0 15).toInt + 3 - x11.toInt from by omega) _ _ hP hS _ (lv_sub hl [0, 1, 2] rfl)
  exact loop1 5 3 z y (show ((3 : Int) - (-1) : Int) < ((5 : Nat) : Int) from by omega) ⟨by decide, by decide⟩ J0 (show (z 0 15).toInt = (z 0 15).toInt + 3 - (3 : Int) from by omega) _ _ hP hS _ (lv_sub hl [0, 1, 2] rfl)
set_option maxRecDepth 100000 in
set_option maxHeartbeats 8000000 in
theorem m_feed (l : Launch) (D : va_G) (ca : Nat → ClassId) (o : Nat) (b z : Nat → Nat → Int32) (y : Nat → Nat → Int64) (J0 : qJM b z) (a0 : Int32) (a1 : Int32) (a2 : Int32) (a3 : Int32) (a4 : Int32)  : qM l yX11_feed cX11_feed 6 (some .int) 2 82 (qPre D vwCl (qT6 ca) o 41 (qG (GM ca o) z y) [.ref (o + 0), .int a0, .int a1, .int a2, .int a3, .int a4]) (va_Qi (fun r u => ((-1 : Int) ≤ r.toInt ∧ r.toInt ≤ 260) ∧ qJM b u.1) (qB D vwCl (qT6 ca) o 41 (fun u : qZ => qG (GM ca o) u.1 u.2)) (qw_A o 41)) (qw_A o 41) := by
  refine Met.ofW (cc := cX11_feed) (maxL := 6) (ret := (some .int)) (by decide) rfl ?_
  intro p e s m args below meth c s₁ B hml hv
  obtain ⟨rfl, hP, hK⟩ := hv
  have hx := B.exec
  have hb := B.bytes
  have hr := B.returns
  have hts0 := atoms_spec (ws := Cond.code yX11_feed cX11_feed 6 (some .int) :: qtbl) B.pre
  have hts : ∀ w ∈ qtbl, w.before _ s = true := fun w h => hts0 w (List.mem_cons_of_mem _ h)
  have hown : s.vm.findClass RX11 = some m.cls := findClass_of_methodNamed B.named
  have hlocks := B.notSynchronized
  have hS : va_S (qw_A o 41) s.heap s.heap [] := va_S.rf
  have hl := lv_entry ([.ref (o + 0), .int a0, .int a1, .int a2, .int a3, .int a4]) (n := 6) (Nat.le_of_ble_eq_true rfl)
  rw [lg_entry_eq]
  generalize (lg_sl ([.ref (o + 0), .int a0, .int a1, .int a2, .int a3, .int a4]) ++ List.replicate (6 - (lg_sl ([.ref (o + 0), .int a0, .int a1, .int a2, .int a3, .int a4])).length) Slot.unset).toArray = ls at hl ⊢
  have hl : lv_has ls 6 [(0, .ref (o + 0)), (1, .int a0), (2, .int a1), (3, .int a2), (4, .int a3), (5, .int a4)] := hl
  refine lv_aload_n hx hb dX11_feed_0 rfl (lv_at hl 0 rfl) ?_
  refine qf_get hx hb hts inX11 hown hK hP (q0 := 0) (by decide) (hgM_0 ca o) rfl 15 (by decide) wq_1008 (v := .int (z 0 15)) rfl dX11_feed_1 ?_
  refine lv_topi (fun x1 e1 => ?_)
  have b1 := iM_0_15 J0 e1
  have k1 : x1.toInt = (z 0 15).toInt := congrArg Int32.toInt e1
  refine lv_bipush (v := 20) hx hb dX11_feed_4 (by decide) ?_
  refine lv_iadd hx hb dX11_feed_6 ?_
  refine lv_topi (fun x2 e2 => ?_)
  have t2 : x2.toInt = x1.toInt + (20 : Int) := ga_add e2 rfl rfl (by omega) (by omega)
  refine lv_sipush (v := 260) hx hb dX11_feed_7 (by decide) ?_
  refine lv_icmp_le (tgt := 15) hx hb dX11_feed_10 (by decide) (fun c3 => ?_) (fun c3 => ?_)
  · have t3 : x2.toInt ≤ (260 : Int) := gl_le c3
    refine lv_aload_n hx hb dX11_feed_15 rfl (lv_at hl 0 rfl) ?_
    refine lv_iload_n hx hb dX11_feed_16 rfl (lv_at hl 1 rfl) ?_
    refine qc_Vv2 (As := [.int a0]) (rest := []) (k0 := 1) (m_types l D ca o b z y J0 a0 (by omega)) kc_yX11_types ⟨hx, hb, hml, hown, hts⟩ wq_1209 rfl rfl ⟨Nat.le_of_ble_eq_true rfl, Nat.le_of_ble_eq_true rfl⟩ wq_all hP hK hS qw_Ai (q0 := 0) (by decide) (hgM_0 ca o _ _) rfl rfl hl.1 rfl (Nat.le_of_ble_eq_true rfl) dX11_feed_17 ⟨Nat.zero_le _, Nat.zero_le _⟩ (fun z4 y4 H locs h4 hP hS _ _ => ?_)
    have J4 : qJM b z4 := h4.1
    have p4_1 : (z4 0 15).toInt = (z 0 15).toInt + 4 := h4.2
    refine lv_aload_n hx hb dX11_feed_20 rfl (lv_at hl 0 rfl) ?_
    refine lv_iload_n hx hb dX11_feed_21 rfl (lv_at hl 2 rfl) ?_
    refine qc_Vv2 (As := [.int a1]) (rest := []) (k0 := 1) (m_types l D ca o b z4 y4 J4 a1 (by omega)) kc_yX11_types ⟨hx, hb, hml, hown, hts⟩ wq_1209 rfl rfl ⟨Nat.le_of_ble_eq_true rfl, Nat.le_of_ble_eq_true rfl⟩ wq_all hP hK hS qw_Ai (q0 := 0) (by decide) (hgM_0 ca o _ _) rfl rfl hl.1 rfl (Nat.le_of_ble_eq_true rfl) dX11_feed_22 ⟨Nat.zero_le _, Nat.zero_le _⟩ (fun z5 y5 H locs h5 hP hS _ _ => ?_)
    have J5 : qJM b z5 := h5.1
    have p5_1 : (z5 0 15).toInt = (z4 0 15).toInt + 4 := h5.2
    refine lv_aload_n hx hb dX11_feed_25 rfl (lv_at hl 0 rfl) ?_
    refine lv_iload_n hx hb dX11_feed_26 rfl (lv_at hl 3 rfl) ?_
    refine qc_Vv2 (As := [.int a2]) (rest := []) (k0 := 1) (m_types l D ca o b z5 y5 J5 a2 (by omega)) kc_yX11_types ⟨hx, hb, hml, hown, hts⟩ wq_1209 rfl rfl ⟨Nat.le_of_ble_eq_true rfl, Nat.le_of_ble_eq_true rfl⟩ wq_all hP hK hS qw_Ai (q0 := 0) (by decide) (hgM_0 ca o _ _) rfl rfl hl.1 rfl (Nat.le_of_ble_eq_true rfl) dX11_feed_27 ⟨Nat.zero_le _, Nat.zero_le _⟩ (fun z6 y6 H locs h6 hP hS _ _ => ?_)
    have J6 : qJM b z6 := h6.1
    have p6_1 : (z6 0 15).toInt = (z5 0 15).toInt + 4 := h6.2
    refine lv_aload_n hx hb dX11_feed_30 rfl (lv_at hl 0 rfl) ?_
    refine lv_iload hx hb dX11_feed_31 (lv_at hl 4 rfl) ?_
    refine qc_Vv2 (As := [.int a3]) (rest := []) (k0 := 1) (m_types l D ca o b z6 y6 J6 a3 (by omega)) kc_yX11_types ⟨hx, hb, hml, hown, hts⟩ wq_1209 rfl rfl ⟨Nat.le_of_ble_eq_true rfl, Nat.le_of_ble_eq_true rfl⟩ wq_all hP hK hS qw_Ai (q0 := 0) (by decide) (hgM_0 ca o _ _) rfl rfl hl.1 rfl (Nat.le_of_ble_eq_true rfl) dX11_feed_33 ⟨Nat.zero_le _, Nat.zero_le _⟩ (fun z7 y7 H locs h7 hP hS _ _ => ?_)
    have J7 : qJM b z7 := h7.1
    have p7_1 : (z7 0 15).toInt = (z6 0 15).toInt + 4 := h7.2
    refine lv_aload_n hx hb dX11_feed_36 rfl (lv_at hl 0 rfl) ?_
    refine lv_iload hx hb dX11_feed_37 (lv_at hl 5 rfl) ?_
    refine qc_Vv2 (As := [.int a4]) (rest := []) (k0 := 1) (m_types l D ca o b z7 y7 J7 a4 (by omega)) kc_yX11_types ⟨hx, hb, hml, hown, hts⟩ wq_1209 rfl rfl ⟨Nat.le_of_ble_eq_true rfl, Nat.le_of_ble_eq_true rfl⟩ wq_all hP hK hS qw_Ai (q0 := 0) (by decide) (hgM_0 ca o _ _) rfl rfl hl.1 rfl (Nat.le_of_ble_eq_true rfl) dX11_feed_39 ⟨Nat.zero_le _, Nat.zero_le _⟩ (fun z8 y8 H locs h8 hP hS _ _ => ?_)
    have J8 : qJM b z8 := h8.1
    have p8_1 : (z8 0 15).toInt = (z7 0 15).toInt + 4 := h8.2
    refine lv_aload_n hx hb dX11_feed_42 rfl (lv_at hl 0 rfl) ?_
    refine qf_get hx hb hts inX11 hown hK hP (q0 := 0) (by decide) (hgM_0 ca o) rfl 15 (by decide) wq_1008 (v := .int (z8 0 15)) rfl dX11_feed_43 ?_
    refine lv_topi (fun x9 e9 => ?_)
    have b9 := iM_0_15 J8 e9
    have k9 : x9.toInt = (z8 0 15).toInt := congrArg Int32.toInt e9
    exact W.iret (v := x9) hx hb hr (fun t ht hW => ⟨⟨x9, (z8, y8), rfl, ⟨⟨by omega, by omega⟩, J8⟩, by rw [ht]; exact hP, va_K.moved hW.alike hK⟩, hS.F ht⟩) hS.2.2 dX11_feed_46
  · have t3 : x2.toInt > (260 : Int) := gl_nle c3
    refine lv_iconst (v := (-1)) hx hb dX11_feed_13 (by decide) ?_
    exact W.iret (v := (-1)) hx hb hr (fun t ht hW => ⟨⟨(-1), (z, y), rfl, ⟨⟨by decide, by decide⟩, J0⟩, by rw [ht]; exact hP, va_K.moved hW.alike hK⟩, hS.F ht⟩) hS.2.2 dX11_feed_14
set_option maxRecDepth 100000 in
set_option maxHeartbeats 8000000 in
theorem m_opensFrame (l : Launch) (D : va_G) (ca : Nat → ClassId) (o : Nat) (b z : Nat → Nat → Int32) (y : Nat → Nat → Int64) (J0 : qJM b z) (a0 : Int32) (a1 : Int32) (ha0 : (-1 : Int) ≤ a0.toInt ∧ a0.toInt ≤ 5) (ha1 : (-1 : Int) ≤ a1.toInt ∧ a1.toInt ≤ 5) (hp0 : a0.toInt = -1 ∨ 0 ≤ a1.toInt) : qM l yX11_opensFrame cX11_opensFrame 4 none 1 60 (qPre D vwCl (qT6 ca) o 41 (qG (GM ca o) z y) [.ref (o + 0), .int a0, .int a1]) (va_Qv (fun u => qJM b u.1 ∧ ((u.1 0 16).toInt = (z 0 16).toInt) ∧ ((u.1 0 29).toInt = (z 0 29).toInt) ∧ ((u.1 0 33).toInt = (z 0 33).toInt) ∧ ((u.1 0 34).toInt = (z 0 34).toInt)) (qB D vwCl (qT6 ca) o 41 (fun u : qZ => qG (GM ca o) u.1 u.2)) (qw_A o 41)) (qw_A o 41) := by
  refine Met.ofW (cc := cX11_opensFrame) (maxL := 4) (ret := none) (by decide) rfl ?_
  intro p e s m args below meth c s₁ B hml hv
  obtain ⟨rfl, hP, hK⟩ := hv
  have hx := B.exec
  have hb := B.bytes
  have hr := B.returns
  have hts0 := atoms_spec (ws := Cond.code yX11_opensFrame cX11_opensFrame 4 none :: qtbl) B.pre
  have hts : ∀ w ∈ qtbl, w.before _ s = true := fun w h => hts0 w (List.mem_cons_of_mem _ h)
  have hown : s.vm.findClass RX11 = some m.cls := findClass_of_methodNamed B.named
  have hlocks := B.notSynchronized
  have hS : va_S (qw_A o 41) s.heap s.heap [] := va_S.rf
  have hl := lv_entry ([.ref (o + 0), .int a0, .int a1]) (n := 4) (Nat.le_of_ble_eq_true rfl)
  rw [lg_entry_eq]
  generalize (lg_sl ([.ref (o + 0), .int a0, .int a1]) ++ List.replicate (4 - (lg_sl ([.ref (o + 0), .int a0, .int a1])).length) Slot.unset).toArray = ls at hl ⊢
  have hl : lv_has ls 4 [(0, .ref (o + 0)), (1, .int a0), (2, .int a1)] := hl
  refine lv_aload_n hx hb dX11_opensFrame_0 rfl (lv_at hl 0 rfl) ?_
  refine qf_get hx hb hts inX11 hown hK hP (q0 := 0) (by decide) (hgM_0 ca o) rfl 27 (by decide) wq_1020 (v := .ref (o + 20)) rfl dX11_opensFrame_1 ?_
  refine lv_aload_n hx hb dX11_opensFrame_4 rfl (lv_at hl 0 rfl) ?_
  refine qf_get hx hb hts inX11 hown hK hP (q0 := 0) (by decide) (hgM_0 ca o) rfl 29 (by decide) wq_1022 (v := .int (z 0 29)) rfl dX11_opensFrame_5 ?_
  refine lv_topi (fun x1 e1 => ?_)
  have b1 := iM_0_29 J0 e1
  have k1 : x1.toInt = (z 0 29).toInt := congrArg Int32.toInt e1
  refine lv_iload_n hx hb dX11_opensFrame_8 rfl (lv_at hl 1 rfl) ?_
  refine qa_iast2 hx hb hK hP hS qw_Ai (q0 := 20) (by decide) 0 (N := 7) (hgM_20 ca o) rfl (i := x1) (x := a0) (gi_in (by omega) (by omega)) dX11_opensFrame_9 (fun z2 H locs hz2 hP hS => ?_)
  have k2_0 : (z2 0 16).toInt = (z 0 16).toInt := congrArg Int32.toInt (qt_ne hz2 16 (by decide))
  have k2_1 : (z2 0 29).toInt = (z 0 29).toInt := congrArg Int32.toInt (qt_ne hz2 29 (by decide))
  have k2_2 : (z2 0 33).toInt = (z 0 33).toInt := congrArg Int32.toInt (qt_ne hz2 33 (by decide))
  have k2_3 : (z2 0 34).toInt = (z 0 34).toInt := congrArg Int32.toInt (qt_ne hz2 34 (by decide))
  refine lv_aload_n hx hb dX11_opensFrame_10 rfl (lv_at hl 0 rfl) ?_
  refine qf_get hx hb hts inX11 hown hK hP (q0 := 0) (by decide) (hgM_0 ca o) rfl 28 (by decide) wq_1021 (v := .ref (o + 21)) rfl dX11_opensFrame_11 ?_
  refine lv_aload_n hx hb dX11_opensFrame_14 rfl (lv_at hl 0 rfl) ?_
  refine qf_get hx hb hts inX11 hown hK hP (q0 := 0) (by decide) (hgM_0 ca o) rfl 29 (by decide) wq_1022 (v := .int (z2 0 29)) rfl dX11_opensFrame_15 ?_
  refine lv_topi (fun x3 e3 => ?_)
  have k3 : x3.toInt = (z2 0 29).toInt := congrArg Int32.toInt e3
  refine lv_iload_n hx hb dX11_opensFrame_18 rfl (lv_at hl 2 rfl) ?_
  refine qa_iast2 hx hb hK hP hS qw_Ai (q0 := 21) (by decide) 0 (N := 7) (hgM_21 ca o) rfl (i := x3) (x := a1) (gi_in (by omega) (by omega)) dX11_opensFrame_19 (fun z4 H locs hz4 hP hS => ?_)
  have J4 := jM_fs J0 hz2 hz4 (congrArg Int32.toNatClampNeg (gr_eq (show x3.toInt = x1.toInt from by omega))) ⟨by omega, by omega⟩ ⟨by omega, by omega⟩ (by omega)
  have k4_0 : (z4 0 16).toInt = (z2 0 16).toInt := congrArg Int32.toInt (qt_ne hz4 16 (by decide))
  have k4_1 : (z4 0 29).toInt = (z2 0 29).toInt := congrArg Int32.toInt (qt_ne hz4 29 (by decide))
  have k4_2 : (z4 0 33).toInt = (z2 0 33).toInt := congrArg Int32.toInt (qt_ne hz4 33 (by decide))
  have k4_3 : (z4 0 34).toInt = (z2 0 34).toInt := congrArg Int32.toInt (qt_ne hz4 34 (by decide))
  refine lv_aload_n hx hb dX11_opensFrame_20 rfl (lv_at hl 0 rfl) ?_
  refine qf_get hx hb hts inX11 hown hK hP (q0 := 0) (by decide) (hgM_0 ca o) rfl 25 (by decide) wq_1018 (v := .ref (o + 18)) rfl dX11_opensFrame_21 ?_
  refine lv_aload_n hx hb dX11_opensFrame_24 rfl (lv_at hl 0 rfl) ?_
  refine qf_get hx hb hts inX11 hown hK hP (q0 := 0) (by decide) (hgM_0 ca o) rfl 29 (by decide) wq_1022 (v := .int (z4 0 29)) rfl dX11_opensFrame_25 ?_
  refine lv_topi (fun x5 e5 => ?_)
  have b5 := iM_0_29 J4 e5
  have k5 : x5.toInt = (z4 0 29).toInt := congrArg Int32.toInt e5
  refine lv_iconst (v := 1) hx hb dX11_opensFrame_28 (by decide) ?_
  refine qa_iast2 hx hb hK hP hS qw_Ai (q0 := 18) (by decide) 0 (N := 7) (hgM_18 ca o) rfl (i := x5) (x := 1) (gi_in (by omega) (by omega)) dX11_opensFrame_29 (fun z6 H locs hz6 hP hS => ?_)
  have J6 := jM_18 J4 hz6
  have k6_0 : (z6 0 16).toInt = (z4 0 16).toInt := congrArg Int32.toInt (qt_ne hz6 16 (by decide))
  have k6_1 : (z6 0 29).toInt = (z4 0 29).toInt := congrArg Int32.toInt (qt_ne hz6 29 (by decide))
  have k6_2 : (z6 0 33).toInt = (z4 0 33).toInt := congrArg Int32.toInt (qt_ne hz6 33 (by decide))
  have k6_3 : (z6 0 34).toInt = (z4 0 34).toInt := congrArg Int32.toInt (qt_ne hz6 34 (by decide))
  refine lv_aload_n hx hb dX11_opensFrame_30 rfl (lv_at hl 0 rfl) ?_
  refine qf_get hx hb hts inX11 hown hK hP (q0 := 0) (by decide) (hgM_0 ca o) rfl 26 (by decide) wq_1019 (v := .ref (o + 19)) rfl dX11_opensFrame_31 ?_
  refine lv_aload_n hx hb dX11_opensFrame_34 rfl (lv_at hl 0 rfl) ?_
  refine qf_get hx hb hts inX11 hown hK hP (q0 := 0) (by decide) (hgM_0 ca o) rfl 29 (by decide) wq_1022 (v := .int (z6 0 29)) rfl dX11_opensFrame_35 ?_
  refine lv_topi (fun x7 e7 => ?_)
  have b7 := iM_0_29 J6 e7
  have k7 : x7.toInt = (z6 0 29).toInt := congrArg Int32.toInt e7
  refine lv_iconst (v := (-1)) hx hb dX11_opensFrame_38 (by decide) ?_
  refine qa_iast2 hx hb hK hP hS qw_Ai (q0 := 19) (by decide) 0 (N := 7) (hgM_19 ca o) rfl (i := x7) (x := (-1)) (gi_in (by omega) (by omega)) dX11_opensFrame_39 (fun z8 H locs hz8 hP hS => ?_)
  have J8 := jM_19 J6 hz8
  have k8_0 : (z8 0 16).toInt = (z6 0 16).toInt := congrArg Int32.toInt (qt_ne hz8 16 (by decide))
  have k8_1 : (z8 0 29).toInt = (z6 0 29).toInt := congrArg Int32.toInt (qt_ne hz8 29 (by decide))
  have k8_2 : (z8 0 33).toInt = (z6 0 33).toInt := congrArg Int32.toInt (qt_ne hz8 33 (by decide))
  have k8_3 : (z8 0 34).toInt = (z6 0 34).toInt := congrArg Int32.toInt (qt_ne hz8 34 (by decide))
  refine lv_aload_n hx hb dX11_opensFrame_40 rfl (lv_at hl 0 rfl) ?_
  refine qf_get hx hb hts inX11 hown hK hP (q0 := 0) (by decide) (hgM_0 ca o) rfl 23 (by decide) wq_1016 (v := .ref (o + 16)) rfl dX11_opensFrame_41 ?_
  refine lv_aload_n hx hb dX11_opensFrame_44 rfl (lv_at hl 0 rfl) ?_
  refine qf_get hx hb hts inX11 hown hK hP (q0 := 0) (by decide) (hgM_0 ca o) rfl 29 (by decide) wq_1022 (v := .int (z8 0 29)) rfl dX11_opensFrame_45 ?_
  refine lv_topi (fun x9 e9 => ?_)
  have b9 := iM_0_29 J8 e9
  have k9 : x9.toInt = (z8 0 29).toInt := congrArg Int32.toInt e9
  refine lv_iconst (v := 0) hx hb dX11_opensFrame_48 (by decide) ?_
  refine qa_iast2 hx hb hK hP hS qw_Ai (q0 := 16) (by decide) 0 (N := 7) (hgM_16 ca o) rfl (i := x9) (x := 0) (gi_in (by omega) (by omega)) dX11_opensFrame_49 (fun z10 H locs hz10 hP hS => ?_)
  have J10 := jM_16 J8 hz10
  have k10_0 : (z10 0 16).toInt = (z8 0 16).toInt := congrArg Int32.toInt (qt_ne hz10 16 (by decide))
  have k10_1 : (z10 0 29).toInt = (z8 0 29).toInt := congrArg Int32.toInt (qt_ne hz10 29 (by decide))
  have k10_2 : (z10 0 33).toInt = (z8 0 33).toInt := congrArg Int32.toInt (qt_ne hz10 33 (by decide))
  have k10_3 : (z10 0 34).toInt = (z8 0 34).toInt := congrArg Int32.toInt (qt_ne hz10 34 (by decide))
  refine lv_aload_n hx hb dX11_opensFrame_50 rfl (lv_at hl 0 rfl) ?_
  refine qf_get hx hb hts inX11 hown hK hP (q0 := 0) (by decide) (hgM_0 ca o) rfl 24 (by decide) wq_1017 (v := .ref (o + 17)) rfl dX11_opensFrame_51 ?_
  refine lv_aload_n hx hb dX11_opensFrame_54 rfl (lv_at hl 0 rfl) ?_
  refine qf_get hx hb hts inX11 hown hK hP (q0 := 0) (by decide) (hgM_0 ca o) rfl 29 (by decide) wq_1022 (v := .int (z10 0 29)) rfl dX11_opensFrame_55 ?_
  refine lv_topi (fun x11 e11 => ?_)
  have b11 := iM_0_29 J10 e11
  have k11 : x11.toInt = (z10 0 29).toInt := congrArg Int32.toInt e11
  refine lv_iconst (v := 0) hx hb dX11_opensFrame_58 (by decide) ?_
  refine qa_iast2 hx hb hK hP hS qw_Ai (q0 := 17) (by decide) 0 (N := 7) (hgM_17 ca o) rfl (i := x11) (x := 0) (gi_in (by omega) (by omega)) dX11_opensFrame_59 (fun z12 H locs hz12 hP hS => ?_)
  have J12 := jM_17 J10 hz12
  have k12_0 : (z12 0 16).toInt = (z10 0 16).toInt := congrArg Int32.toInt (qt_ne hz12 16 (by decide))
  have k12_1 : (z12 0 29).toInt = (z10 0 29).toInt := congrArg Int32.toInt (qt_ne hz12 29 (by decide))
  have k12_2 : (z12 0 33).toInt = (z10 0 33).toInt := congrArg Int32.toInt (qt_ne hz12 33 (by decide))
  have k12_3 : (z12 0 34).toInt = (z10 0 34).toInt := congrArg Int32.toInt (qt_ne hz12 34 (by decide))
  refine lv_iconst (v := 0) hx hb dX11_opensFrame_60 (by decide) ?_
  refine lv_istore_n (lv' := [(3, .int 0), (0, .ref (o + 0)), (1, .int a0), (2, .int a1)]) hx hb dX11_opensFrame_61 rfl hl (by decide) rfl (fun ls hl => ?_)
  have loop13 : ∀ (n : Nat) (w13_3 : Int32) (z13 : Nat → Nat → Int32) (y13 : Nat → Nat → Int64), ((7 - w13_3.toInt : Int) < (n : Int)) → ((0 : Int) ≤ w13_3.toInt ∧ w13_3.toInt ≤ 7) → (qJM b z13) → ((z13 0 16).toInt = (z12 0 16).toInt) → ((z13 0 29).toInt = (z12 0 29).toInt) → ((z13 0 33).toInt = (z12 0 33).toInt) → ((z13 0 34).toInt = (z12 0 34).toInt) → ∀ (H : Heap) (locs : List Loc), qw_P D vwCl o 41 (qG (GM ca o) z13 y13) H → va_S (qw_A o 41) s.heap H locs → ∀ (ls : Array Slot), lv_has ls 4 [(3, .int w13_3), (0, .ref (o + 0)), (1, .int a0), (2, .int a1)] → W p l e (headSpec (Cond.code yX11_opensFrame cX11_opensFrame 4 none :: qtbl) ({ frames := 1, cells := 0, slots := 0, locals := 60 })).room s m (([.ref (o + 0), .int a0, .int a1] : List Value).toArray) below meth c H locs 0 0 (MQ below (va_Qv (fun u => qJM b u.1 ∧ ((u.1 0 16).toInt = (z 0 16).toInt) ∧ ((u.1 0 29).toInt = (z 0 29).toInt) ∧ ((u.1 0 33).toInt = (z 0 33).toInt) ∧ ((u.1 0 34).toInt = (z 0 34).toInt)) (qB D vwCl (qT6 ca) o 41 (fun u : qZ => qG (GM ca o) u.1 u.2)) (qw_A o 41)) (([.ref (o + 0), .int a0, .int a1] : List Value).toArray) s 0 0 (qw_A o 41)) (F0 m 62 ls []) := by
    intro n
    induction n with
    | zero => intro w13_3 z13 y13 hb13 hv13_3 J13 v13_0 v13_1 v13_2 v13_3; exfalso; omega
    | succ n13 ih13 =>
      intro w13_3 z13 y13 hb13 hv13_3 J13 v13_0 v13_1 v13_2 v13_3 H locs hP hS ls hl
      refine lv_iload_n hx hb dX11_opensFrame_62 rfl (lv_at hl 0 rfl) ?_
      refine lv_bipush (v := 7) hx hb dX11_opensFrame_63 (by decide) ?_
      refine lv_icmp_ge (tgt := 104) hx hb dX11_opensFrame_65 (by decide) (fun c14 => ?_) (fun c14 => ?_)
      · have t14 : w13_3.toInt ≥ (7 : Int) := gl_le c14
        refine lv_aload_n hx hb dX11_opensFrame_104 rfl (lv_at hl 1 rfl) ?_
        refine lv_iconst (v := 1) hx hb dX11_opensFrame_105 (by decide) ?_
        refine qf_put2 hx hb hts inX11 tyX11 tyX11_ok nmX11 hown hK hP hS qw_Ai (q0 := 0) (by decide) (hgM_0 ca o) rfl 31 (by decide) wq_1024 rfl (x := 1) 31 rfl rfl rfl (Nat.le_of_ble_eq_true rfl) dX11_opensFrame_106 (fun z15 H locs hz15 hP hS => ?_)
        have J15 := jM_0_31 J13 hz15
        have k15_0 : (z15 0 16).toInt = (z13 0 16).toInt := congrArg Int32.toInt (qt_off hz15 (by decide))
        have k15_1 : (z15 0 29).toInt = (z13 0 29).toInt := congrArg Int32.toInt (qt_off hz15 (by decide))
        have k15_2 : (z15 0 33).toInt = (z13 0 33).toInt := congrArg Int32.toInt (qt_off hz15 (by decide))
        have k15_3 : (z15 0 34).toInt = (z13 0 34).toInt := congrArg Int32.toInt (qt_off hz15 (by decide))
        exact W.vret hx hb hr (fun t ht hW => ⟨⟨(z15, y13), rfl, ⟨J15, (show (z15 0 16).toInt = (z 0 16).toInt from by omega), (show (z15 0 29).toInt = (z 0 29).toInt from by omega), (show (z15 0 33).toInt = (z 0 33).toInt from by omega), (show (z15 0 34).toInt = (z 0 34).toInt from by omega)⟩, by rw [ht]; exact hP, va_K.moved hW.alike hK⟩, hS.F ht⟩) hS.2.2 dX11_opensFrame_109
      · have t14 : w13_3.toInt < (7 : Int) := gl_nle c14
        refine lv_aload_n hx hb dX11_opensFrame_68 rfl (lv_at hl 1 rfl) ?_
        refine qf_get hx hb hts inX11 hown hK hP (q0 := 0) (by decide) (hgM_0 ca o) rfl 20 (by decide) wq_1013 (v := .ref (o + 13)) rfl dX11_opensFrame_69 ?_
        refine lv_bipush (v := 7) hx hb dX11_opensFrame_72 (by decide) ?_
        refine lv_aload_n hx hb dX11_opensFrame_74 rfl (lv_at hl 1 rfl) ?_
        refine qf_get hx hb hts inX11 hown hK hP (q0 := 0) (by decide) (hgM_0 ca o) rfl 29 (by decide) wq_1022 (v := .int (z13 0 29)) rfl dX11_opensFrame_75 ?_
        refine lv_topi (fun x16 e16 => ?_)
        have b16 := iM_0_29 J13 e16
        have k16 : x16.toInt = (z13 0 29).toInt := congrArg Int32.toInt e16
        refine lv_imul hx hb dX11_opensFrame_78 ?_
        refine lv_topi (fun x17 e17 => ?_)
        have t17 : x17.toInt = (7 : Int) * x16.toInt := ga_mul e17 rfl rfl (by omega) (by omega)
        refine lv_iload_n hx hb dX11_opensFrame_79 rfl (lv_at hl 0 rfl) ?_
        refine lv_iadd hx hb dX11_opensFrame_80 ?_
        refine lv_topi (fun x18 e18 => ?_)
        have t18 : x18.toInt = x17.toInt + w13_3.toInt := ga_add e18 rfl rfl (by omega) (by omega)
        refine lv_iconst (v := 0) hx hb dX11_opensFrame_81 (by decide) ?_
        refine qa_iast2 hx hb hK hP hS qw_Ai (q0 := 13) (by decide) 0 (N := 49) (hgM_13 ca o) rfl (i := x18) (x := 0) (gi_in (by omega) (by omega)) dX11_opensFrame_82 (fun z19 H locs hz19 hP hS => ?_)
        have J19 := jM_13 J13 hz19
        have k19_0 : (z19 0 16).toInt = (z13 0 16).toInt := congrArg Int32.toInt (qt_ne hz19 16 (by decide))
        have k19_1 : (z19 0 29).toInt = (z13 0 29).toInt := congrArg Int32.toInt (qt_ne hz19 29 (by decide))
        have k19_2 : (z19 0 33).toInt = (z13 0 33).toInt := congrArg Int32.toInt (qt_ne hz19 33 (by decide))
        have k19_3 : (z19 0 34).toInt = (z13 0 34).toInt := congrArg Int32.toInt (qt_ne hz19 34 (by decide))
        refine lv_aload_n hx hb dX11_opensFrame_83 rfl (lv_at hl 1 rfl) ?_
        refine qf_get hx hb hts inX11 hown hK hP (q0 := 0) (by decide) (hgM_0 ca o) rfl 21 (by decide) wq_1014 (v := .ref (o + 14)) rfl dX11_opensFrame_84 ?_
        refine lv_bipush (v := 7) hx hb dX11_opensFrame_87 (by decide) ?_
        refine lv_aload_n hx hb dX11_opensFrame_89 rfl (lv_at hl 1 rfl) ?_
        refine qf_get hx hb hts inX11 hown hK hP (q0 := 0) (by decide) (hgM_0 ca o) rfl 29 (by decide) wq_1022 (v := .int (z19 0 29)) rfl dX11_opensFrame_90 ?_
        refine lv_topi (fun x20 e20 => ?_)
        have b20 := iM_0_29 J19 e20
        have k20 : x20.toInt = (z19 0 29).toInt := congrArg Int32.toInt e20
        refine lv_imul hx hb dX11_opensFrame_93 ?_
        refine lv_topi (fun x21 e21 => ?_)
        have t21 : x21.toInt = (7 : Int) * x20.toInt := ga_mul e21 rfl rfl (by omega) (by omega)
        refine lv_iload_n hx hb dX11_opensFrame_94 rfl (lv_at hl 0 rfl) ?_
        refine lv_iadd hx hb dX11_opensFrame_95 ?_
        refine lv_topi (fun x22 e22 => ?_)
        have t22 : x22.toInt = x21.toInt + w13_3.toInt := ga_add e22 rfl rfl (by omega) (by omega)
        refine lv_iconst (v := 0) hx hb dX11_opensFrame_96 (by decide) ?_
        refine qa_iast2 hx hb hK hP hS qw_Ai (q0 := 14) (by decide) 0 (N := 49) (hgM_14 ca o) rfl (i := x22) (x := 0) (gi_in (by omega) (by omega)) dX11_opensFrame_97 (fun z23 H locs hz23 hP hS => ?_)
        have J23 := jM_14 J19 hz23
        have k23_0 : (z23 0 16).toInt = (z19 0 16).toInt := congrArg Int32.toInt (qt_ne hz23 16 (by decide))
        have k23_1 : (z23 0 29).toInt = (z19 0 29).toInt := congrArg Int32.toInt (qt_ne hz23 29 (by decide))
        have k23_2 : (z23 0 33).toInt = (z19 0 33).toInt := congrArg Int32.toInt (qt_ne hz23 33 (by decide))
        have k23_3 : (z23 0 34).toInt = (z19 0 34).toInt := congrArg Int32.toInt (qt_ne hz23 34 (by decide))
        obtain ⟨x24, e24⟩ : ∃ t : Int32, t = w13_3 + 1 := ⟨_, rfl⟩
        refine lv_iinc (v := x24) (lv' := [(3, .int x24), (0, .ref (o + 0)), (1, .int a0), (2, .int a1)]) hx hb dX11_opensFrame_98 hl (k := 0) rfl (by rw [e24]; rfl) (by decide) rfl (fun ls hl => ?_)
        have t24 : x24.toInt = w13_3.toInt + (1 : Int) := ga_add e24 rfl rfl (by omega) (by omega)
        refine lv_goto (tgt := 62) hx hb dX11_opensFrame_101 (by decide) ?_
        exact ih13 x24 z23 y13 (show (7 - x24.toInt : Int) < (n13 : Int) from by omega) ⟨by omega, by omega⟩ J23 (show (z23 0 16).toInt = (z12 0 16).toInt from by omega) (show (z23 0 29).toInt = (z12 0 29).toInt from by omega) (show (z23 0 33).toInt = (z12 0 33).toInt from by omega) (show (z23 0 34).toInt = (z12 0 34).toInt from by omega) _ _ hP hS _ (lv_sub hl [0, 1, 2, 3] rfl)
  exact loop13 8 0 z12 y (show (7 - (0 : Int) : Int) < ((8 : Nat) : Int) from by omega) ⟨by decide, by decide⟩ J12 (show (z12 0 16).toInt = (z12 0 16).toInt from by omega) (show (z12 0 29).toInt = (z12 0 29).toInt from by omega) (show (z12 0 33).toInt = (z12 0 33).toInt from by omega) (show (z12 0 34).toInt = (z12 0 34).toInt from by omega) _ _ hP hS _ (lv_sub hl [0, 1, 2, 3] rfl)
set_option maxRecDepth 100000 in
set_option maxHeartbeats 8000000 in
theorem m_octet (l : Launch) (D : va_G) (ca : Nat → ClassId) (o : Nat) (b z : Nat → Nat → Int32) (y : Nat → Nat → Int64) (J0 : qJM b z) (a0 : Int32) (ha0 : (0 : Int) ≤ a0.toInt ∧ a0.toInt ≤ 259) : qM l yX11_octet cX11_octet 2 (some .int) 1 60 (qPre D vwCl (qT6 ca) o 41 (qG (GM ca o) z y) [.ref (o + 0), .int a0]) (va_Qi (fun r (_ : Unit) => ((0 : Int) ≤ r.toInt ∧ r.toInt ≤ 255) ∧ (r = z 12 a0.toNatClampNeg &&& 255)) (qB D vwCl (qT6 ca) o 41 (fun _ : Unit => qG (GM ca o) z y)) (qw_A o 41)) (qw_A o 41) := by
  refine Met.ofW (cc := cX11_octet) (maxL := 2) (ret := (some .int)) (by decide) rfl ?_
  intro p e s m args below meth c s₁ B hml hv
  obtain ⟨rfl, hP, hK⟩ := hv
  have hx := B.exec
  have hb := B.bytes
  have hr := B.returns
  have hts0 := atoms_spec (ws := Cond.code yX11_octet cX11_octet 2 (some .int) :: qtbl) B.pre
  have hts : ∀ w ∈ qtbl, w.before _ s = true := fun w h => hts0 w (List.mem_cons_of_mem _ h)
  have hown : s.vm.findClass RX11 = some m.cls := findClass_of_methodNamed B.named
  have hlocks := B.notSynchronized
  have hS : va_S (qw_A o 41) s.heap s.heap [] := va_S.rf
  have hl := lv_entry ([.ref (o + 0), .int a0]) (n := 2) (Nat.le_of_ble_eq_true rfl)
  rw [lg_entry_eq]
  generalize (lg_sl ([.ref (o + 0), .int a0]) ++ List.replicate (2 - (lg_sl ([.ref (o + 0), .int a0])).length) Slot.unset).toArray = ls at hl ⊢
  have hl : lv_has ls 2 [(0, .ref (o + 0)), (1, .int a0)] := hl
  refine lv_aload_n hx hb dX11_octet_0 rfl (lv_at hl 0 rfl) ?_
  refine qf_get hx hb hts inX11 hown hK hP (q0 := 0) (by decide) (hgM_0 ca o) rfl 14 (by decide) wq_1007 (v := .ref (o + 12)) rfl dX11_octet_1 ?_
  refine lv_iload_n hx hb dX11_octet_4 rfl (lv_at hl 1 rfl) ?_
  refine qa_bald hx hb hK hP (q0 := 12) (by decide) 3 (N := 260) (hgM_12 ca o) rfl (gi_in (by omega) (by omega)) dX11_octet_5 ?_
  refine lv_topi (fun x1 e1 => ?_)
  refine lv_sipush (v := 255) hx hb dX11_octet_6 (by decide) ?_
  refine lv_iand hx hb dX11_octet_9 ?_
  refine lv_topi (fun x2 e2 => ?_)
  have t2 : 0 ≤ x2.toInt ∧ x2.toInt ≤ (255 : Int) := ga_and e2 rfl (by omega)
  exact W.iret (v := x2) hx hb hr (fun t ht hW => ⟨⟨x2, (), rfl, ⟨⟨by omega, by omega⟩, (by rw [e2, e1])⟩, by rw [ht]; exact hP, va_K.moved hW.alike hK⟩, hS.F ht⟩) hS.2.2 dX11_octet_10
set_option maxRecDepth 100000 in
set_option maxHeartbeats 8000000 in
theorem m_here (l : Launch) (D : va_G) (ca : Nat → ClassId) (o : Nat) (b z : Nat → Nat → Int32) (y : Nat → Nat → Int64) (J0 : qJM b z)   : qM l yX11_here cX11_here 1 (some .int) 2 81 (qPre D vwCl (qT6 ca) o 41 (qG (GM ca o) z y) [.ref (o + 0)]) (va_Qi (fun r (_ : Unit) => ((-1 : Int) ≤ r.toInt ∧ r.toInt ≤ 255) ∧ (r.toInt = (hereV z).toInt) ∧ ((r.toInt = -1 ∨ (0 ≤ r.toInt ∧ (z 0 16).toInt ≤ 259)))) (qB D vwCl (qT6 ca) o 41 (fun _ : Unit => qG (GM ca o) z y)) (qw_A o 41)) (qw_A o 41) := by
  refine Met.ofW (cc := cX11_here) (maxL := 1) (ret := (some .int)) (by decide) rfl ?_
  intro p e s m args below meth c s₁ B hml hv
  obtain ⟨rfl, hP, hK⟩ := hv
  have hx := B.exec
  have hb := B.bytes
  have hr := B.returns
  have hts0 := atoms_spec (ws := Cond.code yX11_here cX11_here 1 (some .int) :: qtbl) B.pre
  have hts : ∀ w ∈ qtbl, w.before _ s = true := fun w h => hts0 w (List.mem_cons_of_mem _ h)
  have hown : s.vm.findClass RX11 = some m.cls := findClass_of_methodNamed B.named
  have hlocks := B.notSynchronized
  have hS : va_S (qw_A o 41) s.heap s.heap [] := va_S.rf
  have hl := lv_entry ([.ref (o + 0)]) (n := 1) (Nat.le_of_ble_eq_true rfl)
  rw [lg_entry_eq]
  generalize (lg_sl ([.ref (o + 0)]) ++ List.replicate (1 - (lg_sl ([.ref (o + 0)])).length) Slot.unset).toArray = ls at hl ⊢
  have hl : lv_has ls 1 [(0, .ref (o + 0))] := hl
  refine lv_aload_n hx hb dX11_here_0 rfl (lv_at hl 0 rfl) ?_
  refine qf_get hx hb hts inX11 hown hK hP (q0 := 0) (by decide) (hgM_0 ca o) rfl 16 (by decide) wq_1009 (v := .int (z 0 16)) rfl dX11_here_1 ?_
  refine lv_topi (fun x1 e1 => ?_)
  have b1 := iM_0_16 J0 e1
  have k1 : x1.toInt = (z 0 16).toInt := congrArg Int32.toInt e1
  refine lv_aload_n hx hb dX11_here_4 rfl (lv_at hl 0 rfl) ?_
  refine qf_get hx hb hts inX11 hown hK hP (q0 := 0) (by decide) (hgM_0 ca o) rfl 17 (by decide) wq_1010 (v := .int (z 0 17)) rfl dX11_here_5 ?_
  refine lv_topi (fun x2 e2 => ?_)
  have b2 := iM_0_17 J0 e2
  refine lv_icmp_ge (tgt := 22) hx hb dX11_here_8 (by decide) (fun c3 => ?_) (fun c3 => ?_)
  · have t3 : x1.toInt ≥ x2.toInt := gl_le c3
    refine lv_iconst (v := (-1)) hx hb dX11_here_22 (by decide) ?_
    exact W.iret (v := (-1)) hx hb hr (fun t ht hW => ⟨⟨(-1), (), rfl, ⟨⟨by decide, by decide⟩, (by rw [hereV_no (by rw [← e1, ← e2]; omega)]), (Or.inl rfl)⟩, by rw [ht]; exact hP, va_K.moved hW.alike hK⟩, hS.F ht⟩) hS.2.2 dX11_here_23
  · have t3 : x1.toInt < x2.toInt := gl_nle c3
    refine lv_aload_n hx hb dX11_here_11 rfl (lv_at hl 0 rfl) ?_
    refine lv_aload_n hx hb dX11_here_12 rfl (lv_at hl 0 rfl) ?_
    refine qf_get hx hb hts inX11 hown hK hP (q0 := 0) (by decide) (hgM_0 ca o) rfl 16 (by decide) wq_1009 (v := .int (z 0 16)) rfl dX11_here_13 ?_
    refine lv_topi (fun x4 e4 => ?_)
    have b4 := iM_0_16 J0 e4
    have k4 : x4.toInt = (z 0 16).toInt := congrArg Int32.toInt e4
    have ag4 : x4.toInt = x1.toInt := congrArg Int32.toInt (e4.trans e1.symm)
    refine qc_Vip (As := [.int x4]) (rest := []) (k0 := 1) (m_octet l D ca o b z y J0 x4 ⟨by omega, by omega⟩) kc_yX11_octet ⟨hx, hb, hml, hown, hts⟩ wq_1237 rfl rfl ⟨Nat.le_of_ble_eq_true rfl, Nat.le_of_ble_eq_true rfl⟩ wq_all hP hK hS qw_Ai (q0 := 0) (by decide) (hgM_0 ca o _ _) rfl rfl hl.1 rfl (Nat.le_of_ble_eq_true rfl) dX11_here_16 ⟨Nat.zero_le _, Nat.zero_le _⟩ (fun r5 H locs h5 hP hS _ _ => ?_)
    have p5_1 : r5 = z 12 x4.toNatClampNeg &&& 255 := h5.2
    have b5 : (0 : Int) ≤ r5.toInt ∧ r5.toInt ≤ 255 := h5.1
    refine lv_goto (tgt := 23) hx hb dX11_here_19 (by decide) ?_
    exact W.iret (v := r5) hx hb hr (fun t ht hW => ⟨⟨r5, (), rfl, ⟨⟨by omega, by omega⟩, (by rw [hereV_lt (by rw [← e1, ← e2]; omega), p5_1, e4]), (Or.inr ⟨by omega, by omega⟩)⟩, by rw [ht]; exact hP, va_K.moved hW.alike hK⟩, hS.F ht⟩) hS.2.2 dX11_here_23
set_option maxRecDepth 100000 in
set_option maxHeartbeats 8000000 in
theorem m_max (l : Launch) (D : va_G) (ca : Nat → ClassId) (o : Nat) (b z : Nat → Nat → Int32) (y : Nat → Nat → Int64) (J0 : qJM b z) (a0 : Int32) (a1 : Int32)  : qM l yX11_max cX11_max 2 (some .int) 1 60 (qPre D vwCl (qT6 ca) o 41 (qG (GM ca o) z y) [.int a0, .int a1]) (va_Qi (fun r (_ : Unit) => True ∧ (r.toInt = max a0.toInt a1.toInt)) (qB D vwCl (qT6 ca) o 41 (fun _ : Unit => qG (GM ca o) z y)) (qw_A o 41)) (qw_A o 41) := by
  refine Met.ofW (cc := cX11_max) (maxL := 2) (ret := (some .int)) (by decide) rfl ?_
  intro p e s m args below meth c s₁ B hml hv
  obtain ⟨rfl, hP, hK⟩ := hv
  have hx := B.exec
  have hb := B.bytes
  have hr := B.returns
  have hts0 := atoms_spec (ws := Cond.code yX11_max cX11_max 2 (some .int) :: qtbl) B.pre
  have hts : ∀ w ∈ qtbl, w.before _ s = true := fun w h => hts0 w (List.mem_cons_of_mem _ h)
  have hown : s.vm.findClass RX11 = some m.cls := findClass_of_methodNamed B.named
  have hlocks := B.notSynchronized
  have hS : va_S (qw_A o 41) s.heap s.heap [] := va_S.rf
  have hl := lv_entry ([.int a0, .int a1]) (n := 2) (Nat.le_of_ble_eq_true rfl)
  rw [lg_entry_eq]
  generalize (lg_sl ([.int a0, .int a1]) ++ List.replicate (2 - (lg_sl ([.int a0, .int a1])).length) Slot.unset).toArray = ls at hl ⊢
  have hl : lv_has ls 2 [(0, .int a0), (1, .int a1)] := hl
  refine lv_iload_n hx hb dX11_max_0 rfl (lv_at hl 0 rfl) ?_
  refine lv_iload_n hx hb dX11_max_1 rfl (lv_at hl 1 rfl) ?_
  refine lv_icmp_le (tgt := 9) hx hb dX11_max_2 (by decide) (fun c1 => ?_) (fun c1 => ?_)
  · have t1 : a0.toInt ≤ a1.toInt := gl_le c1
    refine lv_iload_n hx hb dX11_max_9 rfl (lv_at hl 1 rfl) ?_
    exact W.iret (v := a1) hx hb hr (fun t ht hW => ⟨⟨a1, (), rfl, ⟨trivial, (show a1.toInt = max a0.toInt a1.toInt from by omega)⟩, by rw [ht]; exact hP, va_K.moved hW.alike hK⟩, hS.F ht⟩) hS.2.2 dX11_max_10
  · have t1 : a0.toInt > a1.toInt := gl_nle c1
    refine lv_iload_n hx hb dX11_max_5 rfl (lv_at hl 0 rfl) ?_
    refine lv_goto (tgt := 10) hx hb dX11_max_6 (by decide) ?_
    exact W.iret (v := a0) hx hb hr (fun t ht hW => ⟨⟨a0, (), rfl, ⟨trivial, (show a0.toInt = max a0.toInt a1.toInt from by omega)⟩, by rw [ht]; exact hP, va_K.moved hW.alike hK⟩, hS.F ht⟩) hS.2.2 dX11_max_10
set_option maxRecDepth 100000 in
set_option maxHeartbeats 8000000 in
theorem m_endsTerm (l : Launch) (D : va_G) (ca : Nat → ClassId) (o : Nat) (b z : Nat → Nat → Int32) (y : Nat → Nat → Int64) (J0 : qJM b z)   : qM l yX11_endsTerm cX11_endsTerm 3 none 2 81 (qPre D vwCl (qT6 ca) o 41 (qG (GM ca o) z y) [.ref (o + 0)]) (va_Qv (fun u => qJM b u.1 ∧ ((u.1 0 16).toInt = (z 0 16).toInt) ∧ ((u.1 0 29).toInt = (z 0 29).toInt) ∧ ((u.1 0 33).toInt = (z 0 33).toInt) ∧ ((u.1 0 34).toInt = (z 0 34).toInt)) (qB D vwCl (qT6 ca) o 41 (fun u : qZ => qG (GM ca o) u.1 u.2)) (qw_A o 41)) (qw_A o 41) := by
  refine Met.ofW (cc := cX11_endsTerm) (maxL := 3) (ret := none) (by decide) rfl ?_
  intro p e s m args below meth c s₁ B hml hv
  obtain ⟨rfl, hP, hK⟩ := hv
  have hx := B.exec
  have hb := B.bytes
  have hr := B.returns
  have hts0 := atoms_spec (ws := Cond.code yX11_endsTerm cX11_endsTerm 3 none :: qtbl) B.pre
  have hts : ∀ w ∈ qtbl, w.before _ s = true := fun w h => hts0 w (List.mem_cons_of_mem _ h)
  have hown : s.vm.findClass RX11 = some m.cls := findClass_of_methodNamed B.named
  have hlocks := B.notSynchronized
  have hS : va_S (qw_A o 41) s.heap s.heap [] := va_S.rf
  have hl := lv_entry ([.ref (o + 0)]) (n := 3) (Nat.le_of_ble_eq_true rfl)
  rw [lg_entry_eq]
  generalize (lg_sl ([.ref (o + 0)]) ++ List.replicate (3 - (lg_sl ([.ref (o + 0)])).length) Slot.unset).toArray = ls at hl ⊢
  have hl : lv_has ls 3 [(0, .ref (o + 0))] := hl
  refine lv_bipush (v := 7) hx hb dX11_endsTerm_0 (by decide) ?_
  refine lv_aload_n hx hb dX11_endsTerm_2 rfl (lv_at hl 0 rfl) ?_
  refine qf_get hx hb hts inX11 hown hK hP (q0 := 0) (by decide) (hgM_0 ca o) rfl 29 (by decide) wq_1022 (v := .int (z 0 29)) rfl dX11_endsTerm_3 ?_
  refine lv_topi (fun x1 e1 => ?_)
  have b1 := iM_0_29 J0 e1
  have k1 : x1.toInt = (z 0 29).toInt := congrArg Int32.toInt e1
  refine lv_imul hx hb dX11_endsTerm_6 ?_
  refine lv_topi (fun x2 e2 => ?_)
  have t2 : x2.toInt = (7 : Int) * x1.toInt := ga_mul e2 rfl rfl (by omega) (by omega)
  refine lv_istore_n (lv' := [(1, .int x2), (0, .ref (o + 0))]) hx hb dX11_endsTerm_7 rfl hl (by decide) rfl (fun ls hl => ?_)
  refine lv_iconst (v := 0) hx hb dX11_endsTerm_8 (by decide) ?_
  refine lv_istore_n (lv' := [(2, .int 0), (1, .int x2), (0, .ref (o + 0))]) hx hb dX11_endsTerm_9 rfl hl (by decide) rfl (fun ls hl => ?_)
  have loop3 : ∀ (n : Nat) (w3_2 : Int32) (z3 : Nat → Nat → Int32) (y3 : Nat → Nat → Int64), ((7 - w3_2.toInt : Int) < (n : Int)) → ((0 : Int) ≤ w3_2.toInt ∧ w3_2.toInt ≤ 7) → (qJM b z3) → ((z3 0 16).toInt = (z 0 16).toInt) → ((z3 0 29).toInt = (z 0 29).toInt) → ((z3 0 33).toInt = (z 0 33).toInt) → ((z3 0 34).toInt = (z 0 34).toInt) → ∀ (H : Heap) (locs : List Loc), qw_P D vwCl o 41 (qG (GM ca o) z3 y3) H → va_S (qw_A o 41) s.heap H locs → ∀ (ls : Array Slot), lv_has ls 3 [(2, .int w3_2), (1, .int x2), (0, .ref (o + 0))] → W p l e (headSpec (Cond.code yX11_endsTerm cX11_endsTerm 3 none :: qtbl) ({ frames := 2, cells := 0, slots := 0, locals := 81 })).room s m (([.ref (o + 0)] : List Value).toArray) below meth c H locs 0 0 (MQ below (va_Qv (fun u => qJM b u.1 ∧ ((u.1 0 16).toInt = (z 0 16).toInt) ∧ ((u.1 0 29).toInt = (z 0 29).toInt) ∧ ((u.1 0 33).toInt = (z 0 33).toInt) ∧ ((u.1 0 34).toInt = (z 0 34).toInt)) (qB D vwCl (qT6 ca) o 41 (fun u : qZ => qG (GM ca o) u.1 u.2)) (qw_A o 41)) (([.ref (o + 0)] : List Value).toArray) s 0 0 (qw_A o 41)) (F0 m 10 ls []) := by
    intro n
    induction n with
    | zero => intro w3_2 z3 y3 hb3 hv3_2 J3 v3_0 v3_1 v3_2 v3_3; exfalso; omega
    | succ n3 ih3 =>
      intro w3_2 z3 y3 hb3 hv3_2 J3 v3_0 v3_1 v3_2 v3_3 H locs hP hS ls hl
      refine lv_iload_n hx hb dX11_endsTerm_10 rfl (lv_at hl 0 rfl) ?_
      refine lv_bipush (v := 7) hx hb dX11_endsTerm_11 (by decide) ?_
      refine lv_icmp_ge (tgt := 57) hx hb dX11_endsTerm_13 (by decide) (fun c4 => ?_) (fun c4 => ?_)
      · have t4 : w3_2.toInt ≥ (7 : Int) := gl_le c4
        refine lv_aload_n hx hb dX11_endsTerm_57 rfl (lv_at hl 2 rfl) ?_
        refine qf_get hx hb hts inX11 hown hK hP (q0 := 0) (by decide) (hgM_0 ca o) rfl 23 (by decide) wq_1016 (v := .ref (o + 16)) rfl dX11_endsTerm_58 ?_
        refine lv_aload_n hx hb dX11_endsTerm_61 rfl (lv_at hl 2 rfl) ?_
        refine qf_get hx hb hts inX11 hown hK hP (q0 := 0) (by decide) (hgM_0 ca o) rfl 29 (by decide) wq_1022 (v := .int (z3 0 29)) rfl dX11_endsTerm_62 ?_
        refine lv_topi (fun x5 e5 => ?_)
        have b5 := iM_0_29 J3 e5
        have k5 : x5.toInt = (z3 0 29).toInt := congrArg Int32.toInt e5
        refine lv_aload_n hx hb dX11_endsTerm_65 rfl (lv_at hl 2 rfl) ?_
        refine qf_get hx hb hts inX11 hown hK hP (q0 := 0) (by decide) (hgM_0 ca o) rfl 23 (by decide) wq_1016 (v := .ref (o + 16)) rfl dX11_endsTerm_66 ?_
        refine lv_aload_n hx hb dX11_endsTerm_69 rfl (lv_at hl 2 rfl) ?_
        refine qf_get hx hb hts inX11 hown hK hP (q0 := 0) (by decide) (hgM_0 ca o) rfl 29 (by decide) wq_1022 (v := .int (z3 0 29)) rfl dX11_endsTerm_70 ?_
        refine lv_topi (fun x6 e6 => ?_)
        have b6 := iM_0_29 J3 e6
        have k6 : x6.toInt = (z3 0 29).toInt := congrArg Int32.toInt e6
        have ag6 : x6.toInt = x5.toInt := congrArg Int32.toInt (e6.trans e5.symm)
        refine qa_iald hx hb hK hP (q0 := 16) (by decide) 0 (N := 7) (hgM_16 ca o) rfl (gi_in (by omega) (by omega)) dX11_endsTerm_73 ?_
        refine lv_topi (fun x7 e7 => ?_)
        refine lv_aload_n hx hb dX11_endsTerm_74 rfl (lv_at hl 2 rfl) ?_
        refine qf_get hx hb hts inX11 hown hK hP (q0 := 0) (by decide) (hgM_0 ca o) rfl 24 (by decide) wq_1017 (v := .ref (o + 17)) rfl dX11_endsTerm_75 ?_
        refine lv_aload_n hx hb dX11_endsTerm_78 rfl (lv_at hl 2 rfl) ?_
        refine qf_get hx hb hts inX11 hown hK hP (q0 := 0) (by decide) (hgM_0 ca o) rfl 29 (by decide) wq_1022 (v := .int (z3 0 29)) rfl dX11_endsTerm_79 ?_
        refine lv_topi (fun x8 e8 => ?_)
        have b8 := iM_0_29 J3 e8
        have k8 : x8.toInt = (z3 0 29).toInt := congrArg Int32.toInt e8
        have ag8 : x8.toInt = x5.toInt := congrArg Int32.toInt (e8.trans e5.symm)
        refine qa_iald hx hb hK hP (q0 := 17) (by decide) 0 (N := 7) (hgM_17 ca o) rfl (gi_in (by omega) (by omega)) dX11_endsTerm_82 ?_
        refine lv_topi (fun x9 e9 => ?_)
        refine qc_Sip (As := [.int x7, .int x9]) (rest := [.int x5, .ref (o + 16)]) (k0 := 2) (m_max l D ca o b z3 y3 J3 x7 x9) kc_yX11_max ⟨hx, hb, hml, hown, hts⟩ wq_1273 rfl rfl ⟨Nat.le_of_ble_eq_true rfl, Nat.le_of_ble_eq_true rfl⟩ wq_all hP hK hS qw_Ai rfl hl.1 rfl (Nat.le_of_ble_eq_true rfl) dX11_endsTerm_83 ⟨Nat.zero_le _, Nat.zero_le _⟩ (fun r10 H locs h10 hP hS _ _ => ?_)
        have p10_1 : r10.toInt = max x7.toInt x9.toInt := h10.2
        refine qa_iast2 hx hb hK hP hS qw_Ai (q0 := 16) (by decide) 0 (N := 7) (hgM_16 ca o) rfl (i := x5) (x := r10) (gi_in (by omega) (by omega)) dX11_endsTerm_86 (fun z11 H locs hz11 hP hS => ?_)
        have J11 := jM_16 J3 hz11
        have k11_0 : (z11 0 16).toInt = (z3 0 16).toInt := congrArg Int32.toInt (qt_ne hz11 16 (by decide))
        have k11_1 : (z11 0 29).toInt = (z3 0 29).toInt := congrArg Int32.toInt (qt_ne hz11 29 (by decide))
        have k11_2 : (z11 0 33).toInt = (z3 0 33).toInt := congrArg Int32.toInt (qt_ne hz11 33 (by decide))
        have k11_3 : (z11 0 34).toInt = (z3 0 34).toInt := congrArg Int32.toInt (qt_ne hz11 34 (by decide))
        refine lv_aload_n hx hb dX11_endsTerm_87 rfl (lv_at hl 2 rfl) ?_
        refine qf_get hx hb hts inX11 hown hK hP (q0 := 0) (by decide) (hgM_0 ca o) rfl 26 (by decide) wq_1019 (v := .ref (o + 19)) rfl dX11_endsTerm_88 ?_
        refine lv_aload_n hx hb dX11_endsTerm_91 rfl (lv_at hl 2 rfl) ?_
        refine qf_get hx hb hts inX11 hown hK hP (q0 := 0) (by decide) (hgM_0 ca o) rfl 29 (by decide) wq_1022 (v := .int (z11 0 29)) rfl dX11_endsTerm_92 ?_
        refine lv_topi (fun x12 e12 => ?_)
        have b12 := iM_0_29 J11 e12
        have k12 : x12.toInt = (z11 0 29).toInt := congrArg Int32.toInt e12
        refine lv_iconst (v := (-1)) hx hb dX11_endsTerm_95 (by decide) ?_
        refine qa_iast2 hx hb hK hP hS qw_Ai (q0 := 19) (by decide) 0 (N := 7) (hgM_19 ca o) rfl (i := x12) (x := (-1)) (gi_in (by omega) (by omega)) dX11_endsTerm_96 (fun z13 H locs hz13 hP hS => ?_)
        have J13 := jM_19 J11 hz13
        have k13_0 : (z13 0 16).toInt = (z11 0 16).toInt := congrArg Int32.toInt (qt_ne hz13 16 (by decide))
        have k13_1 : (z13 0 29).toInt = (z11 0 29).toInt := congrArg Int32.toInt (qt_ne hz13 29 (by decide))
        have k13_2 : (z13 0 33).toInt = (z11 0 33).toInt := congrArg Int32.toInt (qt_ne hz13 33 (by decide))
        have k13_3 : (z13 0 34).toInt = (z11 0 34).toInt := congrArg Int32.toInt (qt_ne hz13 34 (by decide))
        exact W.vret hx hb hr (fun t ht hW => ⟨⟨(z13, y3), rfl, ⟨J13, (show (z13 0 16).toInt = (z 0 16).toInt from by omega), (show (z13 0 29).toInt = (z 0 29).toInt from by omega), (show (z13 0 33).toInt = (z 0 33).toInt from by omega), (show (z13 0 34).toInt = (z 0 34).toInt from by omega)⟩, by rw [ht]; exact hP, va_K.moved hW.alike hK⟩, hS.F ht⟩) hS.2.2 dX11_endsTerm_97
      · have t4 : w3_2.toInt < (7 : Int) := gl_nle c4
        refine lv_aload_n hx hb dX11_endsTerm_16 rfl (lv_at hl 2 rfl) ?_
        refine qf_get hx hb hts inX11 hown hK hP (q0 := 0) (by decide) (hgM_0 ca o) rfl 20 (by decide) wq_1013 (v := .ref (o + 13)) rfl dX11_endsTerm_17 ?_
        refine lv_iload_n hx hb dX11_endsTerm_20 rfl (lv_at hl 1 rfl) ?_
        refine lv_iload_n hx hb dX11_endsTerm_21 rfl (lv_at hl 0 rfl) ?_
        refine lv_iadd hx hb dX11_endsTerm_22 ?_
        refine lv_topi (fun x14 e14 => ?_)
        have t14 : x14.toInt = x2.toInt + w3_2.toInt := ga_add e14 rfl rfl (by omega) (by omega)
        refine lv_aload_n hx hb dX11_endsTerm_23 rfl (lv_at hl 2 rfl) ?_
        refine qf_get hx hb hts inX11 hown hK hP (q0 := 0) (by decide) (hgM_0 ca o) rfl 20 (by decide) wq_1013 (v := .ref (o + 13)) rfl dX11_endsTerm_24 ?_
        refine lv_iload_n hx hb dX11_endsTerm_27 rfl (lv_at hl 1 rfl) ?_
        refine lv_iload_n hx hb dX11_endsTerm_28 rfl (lv_at hl 0 rfl) ?_
        refine lv_iadd hx hb dX11_endsTerm_29 ?_
        refine lv_topi (fun x15 e15 => ?_)
        have t15 : x15.toInt = x14.toInt := congrArg Int32.toInt (e15.trans e14.symm)
        refine qa_iald hx hb hK hP (q0 := 13) (by decide) 0 (N := 49) (hgM_13 ca o) rfl (gi_in (by omega) (by omega)) dX11_endsTerm_30 ?_
        refine lv_topi (fun x16 e16 => ?_)
        refine lv_aload_n hx hb dX11_endsTerm_31 rfl (lv_at hl 2 rfl) ?_
        refine qf_get hx hb hts inX11 hown hK hP (q0 := 0) (by decide) (hgM_0 ca o) rfl 25 (by decide) wq_1018 (v := .ref (o + 18)) rfl dX11_endsTerm_32 ?_
        refine lv_aload_n hx hb dX11_endsTerm_35 rfl (lv_at hl 2 rfl) ?_
        refine qf_get hx hb hts inX11 hown hK hP (q0 := 0) (by decide) (hgM_0 ca o) rfl 29 (by decide) wq_1022 (v := .int (z3 0 29)) rfl dX11_endsTerm_36 ?_
        refine lv_topi (fun x17 e17 => ?_)
        have b17 := iM_0_29 J3 e17
        have k17 : x17.toInt = (z3 0 29).toInt := congrArg Int32.toInt e17
        refine qa_iald hx hb hK hP (q0 := 18) (by decide) 0 (N := 7) (hgM_18 ca o) rfl (gi_in (by omega) (by omega)) dX11_endsTerm_39 ?_
        refine lv_topi (fun x18 e18 => ?_)
        refine lv_aload_n hx hb dX11_endsTerm_40 rfl (lv_at hl 2 rfl) ?_
        refine qf_get hx hb hts inX11 hown hK hP (q0 := 0) (by decide) (hgM_0 ca o) rfl 21 (by decide) wq_1014 (v := .ref (o + 14)) rfl dX11_endsTerm_41 ?_
        refine lv_iload_n hx hb dX11_endsTerm_44 rfl (lv_at hl 1 rfl) ?_
        refine lv_iload_n hx hb dX11_endsTerm_45 rfl (lv_at hl 0 rfl) ?_
        refine lv_iadd hx hb dX11_endsTerm_46 ?_
        refine lv_topi (fun x19 e19 => ?_)
        have t19 : x19.toInt = x14.toInt := congrArg Int32.toInt (e19.trans e14.symm)
        refine qa_iald hx hb hK hP (q0 := 14) (by decide) 0 (N := 49) (hgM_14 ca o) rfl (gi_in (by omega) (by omega)) dX11_endsTerm_47 ?_
        refine lv_topi (fun x20 e20 => ?_)
        refine lv_imul hx hb dX11_endsTerm_48 ?_
        refine lv_topi (fun x21 e21 => ?_)
        refine lv_iadd hx hb dX11_endsTerm_49 ?_
        refine lv_topi (fun x22 e22 => ?_)
        refine qa_iast2 hx hb hK hP hS qw_Ai (q0 := 13) (by decide) 0 (N := 49) (hgM_13 ca o) rfl (i := x14) (x := x22) (gi_in (by omega) (by omega)) dX11_endsTerm_50 (fun z23 H locs hz23 hP hS => ?_)
        have J23 := jM_13 J3 hz23
        have k23_0 : (z23 0 16).toInt = (z3 0 16).toInt := congrArg Int32.toInt (qt_ne hz23 16 (by decide))
        have k23_1 : (z23 0 29).toInt = (z3 0 29).toInt := congrArg Int32.toInt (qt_ne hz23 29 (by decide))
        have k23_2 : (z23 0 33).toInt = (z3 0 33).toInt := congrArg Int32.toInt (qt_ne hz23 33 (by decide))
        have k23_3 : (z23 0 34).toInt = (z3 0 34).toInt := congrArg Int32.toInt (qt_ne hz23 34 (by decide))
        obtain ⟨x24, e24⟩ : ∃ t : Int32, t = w3_2 + 1 := ⟨_, rfl⟩
        refine lv_iinc (v := x24) (lv' := [(2, .int x24), (1, .int x2), (0, .ref (o + 0))]) hx hb dX11_endsTerm_51 hl (k := 0) rfl (by rw [e24]; rfl) (by decide) rfl (fun ls hl => ?_)
        have t24 : x24.toInt = w3_2.toInt + (1 : Int) := ga_add e24 rfl rfl (by omega) (by omega)
        refine lv_goto (tgt := 10) hx hb dX11_endsTerm_54 (by decide) ?_
        exact ih3 x24 z23 y3 (show (7 - x24.toInt : Int) < (n3 : Int) from by omega) ⟨by omega, by omega⟩ J23 (show (z23 0 16).toInt = (z 0 16).toInt from by omega) (show (z23 0 29).toInt = (z 0 29).toInt from by omega) (show (z23 0 33).toInt = (z 0 33).toInt from by omega) (show (z23 0 34).toInt = (z 0 34).toInt from by omega) _ _ hP hS _ (lv_sub hl [0, 1, 2] rfl)
  exact loop3 8 0 z y (show (7 - (0 : Int) : Int) < ((8 : Nat) : Int) from by omega) ⟨by decide, by decide⟩ J0 (show (z 0 16).toInt = (z 0 16).toInt from by omega) (show (z 0 29).toInt = (z 0 29).toInt from by omega) (show (z 0 33).toInt = (z 0 33).toInt from by omega) (show (z 0 34).toInt = (z 0 34).toInt from by omega) _ _ hP hS _ (lv_sub hl [0, 1, 2] rfl)
set_option maxRecDepth 100000 in
set_option maxHeartbeats 8000000 in
theorem m_wrongAt (l : Launch) (D : va_G) (ca : Nat → ClassId) (o : Nat) (b z : Nat → Nat → Int32) (y : Nat → Nat → Int64) (J0 : qJM b z) (a0 : Int32) (a1 : Int32)  : qM l yX11_wrongAt cX11_wrongAt 3 (some .boolean) 1 60 (qPre D vwCl (qT6 ca) o 41 (qG (GM ca o) z y) [.ref (o + 0), .int a0, .int a1]) (va_Qi (fun r u => ((0 : Int) ≤ r.toInt ∧ r.toInt ≤ 0) ∧ qJM b u.1 ∧ u.1 12 = z 12 ∧ u.1 20 = z 20 ∧ u.1 21 = z 21 ∧ ((u.1 0 16).toInt = (z 0 16).toInt) ∧ ((u.1 0 29).toInt = (z 0 29).toInt) ∧ ((u.1 0 19).toInt = (z 0 19).toInt) ∧ ((u.1 0 33).toInt = (z 0 33).toInt) ∧ ((u.1 0 34).toInt = (z 0 34).toInt)) (qB D vwCl (qT6 ca) o 41 (fun u : qZ => qG (GM ca o) u.1 u.2)) (qw_A o 41)) (qw_A o 41) := by
  refine Met.ofW (cc := cX11_wrongAt) (maxL := 3) (ret := (some .boolean)) (by decide) rfl ?_
  intro p e s m args below meth c s₁ B hml hv
  obtain ⟨rfl, hP, hK⟩ := hv
  have hx := B.exec
  have hb := B.bytes
  have hr := B.returns
  have hts0 := atoms_spec (ws := Cond.code yX11_wrongAt cX11_wrongAt 3 (some .boolean) :: qtbl) B.pre
  have hts : ∀ w ∈ qtbl, w.before _ s = true := fun w h => hts0 w (List.mem_cons_of_mem _ h)
  have hown : s.vm.findClass RX11 = some m.cls := findClass_of_methodNamed B.named
  have hlocks := B.notSynchronized
  have hS : va_S (qw_A o 41) s.heap s.heap [] := va_S.rf
  have hl := lv_entry ([.ref (o + 0), .int a0, .int a1]) (n := 3) (Nat.le_of_ble_eq_true rfl)
  rw [lg_entry_eq]
  generalize (lg_sl ([.ref (o + 0), .int a0, .int a1]) ++ List.replicate (3 - (lg_sl ([.ref (o + 0), .int a0, .int a1])).length) Slot.unset).toArray = ls at hl ⊢
  have hl : lv_has ls 3 [(0, .ref (o + 0)), (1, .int a0), (2, .int a1)] := hl
  refine lv_aload_n hx hb dX11_wrongAt_0 rfl (lv_at hl 0 rfl) ?_
  refine lv_sipush (v := (-1000)) hx hb dX11_wrongAt_1 (by decide) ?_
  refine lv_iload_n hx hb dX11_wrongAt_4 rfl (lv_at hl 1 rfl) ?_
  refine lv_imul hx hb dX11_wrongAt_5 ?_
  refine lv_topi (fun x1 e1 => ?_)
  refine lv_iload_n hx hb dX11_wrongAt_6 rfl (lv_at hl 2 rfl) ?_
  refine lv_isub hx hb dX11_wrongAt_7 ?_
  refine lv_topi (fun x2 e2 => ?_)
  refine qf_put2 hx hb hts inX11 tyX11 tyX11_ok nmX11 hown hK hP hS qw_Ai (q0 := 0) (by decide) (hgM_0 ca o) rfl 18 (by decide) wq_1011 rfl (x := x2) 18 rfl rfl rfl (Nat.le_of_ble_eq_true rfl) dX11_wrongAt_8 (fun z3 H locs hz3 hP hS => ?_)
  have J3 := jM_0_18 J0 hz3
  have R12_3 : z3 12 = z 12 := (qt_row hz3 (by decide)).trans (rfl)
  have R20_3 : z3 20 = z 20 := (qt_row hz3 (by decide)).trans (rfl)
  have R21_3 : z3 21 = z 21 := (qt_row hz3 (by decide)).trans (rfl)
  have k3_0 : (z3 0 16).toInt = (z 0 16).toInt := congrArg Int32.toInt (qt_off hz3 (by decide))
  have k3_1 : (z3 0 29).toInt = (z 0 29).toInt := congrArg Int32.toInt (qt_off hz3 (by decide))
  have k3_2 : (z3 0 19).toInt = (z 0 19).toInt := congrArg Int32.toInt (qt_off hz3 (by decide))
  have k3_3 : (z3 0 33).toInt = (z 0 33).toInt := congrArg Int32.toInt (qt_off hz3 (by decide))
  have k3_4 : (z3 0 34).toInt = (z 0 34).toInt := congrArg Int32.toInt (qt_off hz3 (by decide))
  refine lv_iconst (v := 0) hx hb dX11_wrongAt_11 (by decide) ?_
  exact W.zret (v := 0) (ty := .boolean) hx hb hr rfl (fun t ht hW => ⟨⟨0, (z3, y), rfl, ⟨⟨by decide, by decide⟩, J3, R12_3, R20_3, R21_3, (show (z3 0 16).toInt = (z 0 16).toInt from by omega), (show (z3 0 29).toInt = (z 0 29).toInt from by omega), (show (z3 0 19).toInt = (z 0 19).toInt from by omega), (show (z3 0 33).toInt = (z 0 33).toInt from by omega), (show (z3 0 34).toInt = (z 0 34).toInt from by omega)⟩, by rw [ht]; exact hP, va_K.moved hW.alike hK⟩, hS.F ht⟩) hS.2.2 dX11_wrongAt_12
set_option maxRecDepth 100000 in
set_option maxHeartbeats 8000000 in
theorem m_takes (l : Launch) (D : va_G) (ca : Nat → ClassId) (o : Nat) (b z : Nat → Nat → Int32) (y : Nat → Nat → Int64) (J0 : qJM b z) (a0 : Int32) (ha0 : (0 : Int) ≤ a0.toInt ∧ a0.toInt ≤ 255) : qM l yX11_takes cX11_takes 2 (some .boolean) 3 101 (qPre D vwCl (qT6 ca) o 41 (qG (GM ca o) z y) [.ref (o + 0), .int a0]) (va_Qi (fun r u => ((r = 1 ∧ ((u.1 0 16).toInt = (z 0 16).toInt + 1)) ∨ (r = 0)) ∧ qJM b u.1 ∧ u.1 20 = z 20 ∧ u.1 21 = z 21 ∧ ((u.1 0 29).toInt = (z 0 29).toInt) ∧ ((u.1 0 33).toInt = (z 0 33).toInt) ∧ ((u.1 0 34).toInt = (z 0 34).toInt)) (qB D vwCl (qT6 ca) o 41 (fun u : qZ => qG (GM ca o) u.1 u.2)) (qw_A o 41)) (qw_A o 41) := by
  refine Met.ofW (cc := cX11_takes) (maxL := 2) (ret := (some .boolean)) (by decide) rfl ?_
  intro p e s m args below meth c s₁ B hml hv
  obtain ⟨rfl, hP, hK⟩ := hv
  have hx := B.exec
  have hb := B.bytes
  have hr := B.returns
  have hts0 := atoms_spec (ws := Cond.code yX11_takes cX11_takes 2 (some .boolean) :: qtbl) B.pre
  have hts : ∀ w ∈ qtbl, w.before _ s = true := fun w h => hts0 w (List.mem_cons_of_mem _ h)
  have hown : s.vm.findClass RX11 = some m.cls := findClass_of_methodNamed B.named
  have hlocks := B.notSynchronized
  have hS : va_S (qw_A o 41) s.heap s.heap [] := va_S.rf
  have hl := lv_entry ([.ref (o + 0), .int a0]) (n := 2) (Nat.le_of_ble_eq_true rfl)
  rw [lg_entry_eq]
  generalize (lg_sl ([.ref (o + 0), .int a0]) ++ List.replicate (2 - (lg_sl ([.ref (o + 0), .int a0])).length) Slot.unset).toArray = ls at hl ⊢
  have hl : lv_has ls 2 [(0, .ref (o + 0)), (1, .int a0)] := hl
  refine lv_aload_n hx hb dX11_takes_0 rfl (lv_at hl 0 rfl) ?_
  refine qc_Vip (As := []) (rest := []) (k0 := 0) (m_here l D ca o b z y J0) kc_yX11_here ⟨hx, hb, hml, hown, hts⟩ wq_1233 rfl rfl ⟨Nat.le_of_ble_eq_true rfl, Nat.le_of_ble_eq_true rfl⟩ wq_all hP hK hS qw_Ai (q0 := 0) (by decide) (hgM_0 ca o _ _) rfl rfl hl.1 rfl (Nat.le_of_ble_eq_true rfl) dX11_takes_1 ⟨Nat.zero_le _, Nat.zero_le _⟩ (fun r1 H locs h1 hP hS _ _ => ?_)
  have p1_1 : r1.toInt = (hereV z).toInt := h1.2.1
  have p1_2 : (r1.toInt = -1 ∨ (0 ≤ r1.toInt ∧ (z 0 16).toInt ≤ 259)) := h1.2.2
  have b1 : (-1 : Int) ≤ r1.toInt ∧ r1.toInt ≤ 255 := h1.1
  refine lv_iload_n hx hb dX11_takes_4 rfl (lv_at hl 1 rfl) ?_
  refine lv_icmp_eq (tgt := 18) hx hb dX11_takes_5 (by decide) (fun c2 => ?_) (fun c2 => ?_)
  · have t2 : r1.toInt = a0.toInt := gl_eq c2
    refine lv_aload_n hx hb dX11_takes_18 rfl (lv_at hl 0 rfl) ?_
    refine lv_aload_n hx hb dX11_takes_19 rfl (lv_at hl 0 rfl) ?_
    refine qf_get hx hb hts inX11 hown hK hP (q0 := 0) (by decide) (hgM_0 ca o) rfl 16 (by decide) wq_1009 (v := .int (z 0 16)) rfl dX11_takes_20 ?_
    refine lv_topi (fun x3 e3 => ?_)
    have b3 := iM_0_16 J0 e3
    have k3 : x3.toInt = (z 0 16).toInt := congrArg Int32.toInt e3
    refine lv_iconst (v := 1) hx hb dX11_takes_23 (by decide) ?_
    refine lv_iadd hx hb dX11_takes_24 ?_
    refine lv_topi (fun x4 e4 => ?_)
    have t4 : x4.toInt = x3.toInt + (1 : Int) := ga_add e4 rfl rfl (by omega) (by omega)
    refine qf_put2 hx hb hts inX11 tyX11 tyX11_ok nmX11 hown hK hP hS qw_Ai (q0 := 0) (by decide) (hgM_0 ca o) rfl 16 (by decide) wq_1009 rfl (x := x4) 16 rfl rfl rfl (Nat.le_of_ble_eq_true rfl) dX11_takes_25 (fun z5 H locs hz5 hP hS => ?_)
    have J5 := jM_0_16 J0 hz5 ⟨by omega, by omega⟩
    have R20_5 : z5 20 = z 20 := (qt_row hz5 (by decide)).trans (rfl)
    have R21_5 : z5 21 = z 21 := (qt_row hz5 (by decide)).trans (rfl)
    have k5_0 : (z5 0 16).toInt = x4.toInt := congrArg Int32.toInt (qt_at hz5)
    have k5_1 : (z5 0 29).toInt = (z 0 29).toInt := congrArg Int32.toInt (qt_off hz5 (by decide))
    have k5_2 : (z5 0 33).toInt = (z 0 33).toInt := congrArg Int32.toInt (qt_off hz5 (by decide))
    have k5_3 : (z5 0 34).toInt = (z 0 34).toInt := congrArg Int32.toInt (qt_off hz5 (by decide))
    refine lv_iconst (v := 1) hx hb dX11_takes_28 (by decide) ?_
    exact W.zret (v := 1) (ty := .boolean) hx hb hr rfl (fun t ht hW => ⟨⟨1, (z5, y), rfl, ⟨Or.inl ⟨rfl, (show (z5 0 16).toInt = (z 0 16).toInt + 1 from by omega)⟩, J5, R20_5, R21_5, (show (z5 0 29).toInt = (z 0 29).toInt from by omega), (show (z5 0 33).toInt = (z 0 33).toInt from by omega), (show (z5 0 34).toInt = (z 0 34).toInt from by omega)⟩, by rw [ht]; exact hP, va_K.moved hW.alike hK⟩, hS.F ht⟩) hS.2.2 dX11_takes_29
  · have t2 : r1.toInt ≠ a0.toInt := gl_ne c2
    refine lv_aload_n hx hb dX11_takes_8 rfl (lv_at hl 0 rfl) ?_
    refine lv_iconst (v := 1) hx hb dX11_takes_9 (by decide) ?_
    refine lv_aload_n hx hb dX11_takes_10 rfl (lv_at hl 0 rfl) ?_
    refine qf_get hx hb hts inX11 hown hK hP (q0 := 0) (by decide) (hgM_0 ca o) rfl 16 (by decide) wq_1009 (v := .int (z 0 16)) rfl dX11_takes_11 ?_
    refine lv_topi (fun x6 e6 => ?_)
    have b6 := iM_0_16 J0 e6
    have k6 : x6.toInt = (z 0 16).toInt := congrArg Int32.toInt e6
    refine qc_Vi2 (As := [.int 1, .int x6]) (rest := []) (k0 := 2) (m_wrongAt l D ca o b z y J0 1 x6) kc_yX11_wrongAt ⟨hx, hb, hml, hown, hts⟩ wq_1249 rfl rfl ⟨Nat.le_of_ble_eq_true rfl, Nat.le_of_ble_eq_true rfl⟩ wq_all hP hK hS qw_Ai (q0 := 0) (by decide) (hgM_0 ca o _ _) rfl rfl hl.1 rfl (Nat.le_of_ble_eq_true rfl) dX11_takes_14 ⟨Nat.zero_le _, Nat.zero_le _⟩ (fun r7 z7 y7 H locs h7 hP hS _ _ => ?_)
    have J7 : qJM b z7 := h7.2.1
    have R20_7 : z7 20 = z 20 := (h7.2.2.2.1).trans (rfl)
    have R21_7 : z7 21 = z 21 := (h7.2.2.2.2.1).trans (rfl)
    have p7_5 : (z7 0 16).toInt = (z 0 16).toInt := h7.2.2.2.2.2.1
    have p7_6 : (z7 0 29).toInt = (z 0 29).toInt := h7.2.2.2.2.2.2.1
    have p7_7 : (z7 0 19).toInt = (z 0 19).toInt := h7.2.2.2.2.2.2.2.1
    have p7_8 : (z7 0 33).toInt = (z 0 33).toInt := h7.2.2.2.2.2.2.2.2.1
    have p7_9 : (z7 0 34).toInt = (z 0 34).toInt := h7.2.2.2.2.2.2.2.2.2
    have b7 : (0 : Int) ≤ r7.toInt ∧ r7.toInt ≤ 0 := h7.1
    obtain rfl : r7 = 0 := lit_eq (k := 0) (K := 0) rfl (by omega) (by omega)
    exact W.zret (v := 0) (ty := .boolean) hx hb hr rfl (fun t ht hW => ⟨⟨0, (z7, y7), rfl, ⟨Or.inr rfl, J7, R20_7, R21_7, (show (z7 0 29).toInt = (z 0 29).toInt from by omega), (show (z7 0 33).toInt = (z 0 33).toInt from by omega), (show (z7 0 34).toInt = (z 0 34).toInt from by omega)⟩, by rw [ht]; exact hP, va_K.moved hW.alike hK⟩, hS.F ht⟩) hS.2.2 dX11_takes_17
set_option maxRecDepth 100000 in
set_option maxHeartbeats 8000000 in
theorem m_endsPart (l : Launch) (D : va_G) (ca : Nat → ClassId) (o : Nat) (b z : Nat → Nat → Int32) (y : Nat → Nat → Int64) (J0 : qJM b z)   : qM l yX11_endsPart cX11_endsPart 4 (some .boolean) 2 82 (qPre D vwCl (qT6 ca) o 41 (qG (GM ca o) z y) [.ref (o + 0)]) (va_Qi (fun r u => ((r = 1) ∨ (r = 0)) ∧ qJM b u.1 ∧ ((u.1 0 16).toInt = (z 0 16).toInt) ∧ ((u.1 0 33).toInt = (z 0 33).toInt) ∧ ((u.1 0 34).toInt = (z 0 34).toInt)) (qB D vwCl (qT6 ca) o 41 (fun u : qZ => qG (GM ca o) u.1 u.2)) (qw_A o 41)) (qw_A o 41) := by
  refine Met.ofW (cc := cX11_endsPart) (maxL := 4) (ret := (some .boolean)) (by decide) rfl ?_
  intro p e s m args below meth c s₁ B hml hv
  obtain ⟨rfl, hP, hK⟩ := hv
  have hx := B.exec
  have hb := B.bytes
  have hr := B.returns
  have hts0 := atoms_spec (ws := Cond.code yX11_endsPart cX11_endsPart 4 (some .boolean) :: qtbl) B.pre
  have hts : ∀ w ∈ qtbl, w.before _ s = true := fun w h => hts0 w (List.mem_cons_of_mem _ h)
  have hown : s.vm.findClass RX11 = some m.cls := findClass_of_methodNamed B.named
  have hlocks := B.notSynchronized
  have hS : va_S (qw_A o 41) s.heap s.heap [] := va_S.rf
  have hl := lv_entry ([.ref (o + 0)]) (n := 4) (Nat.le_of_ble_eq_true rfl)
  rw [lg_entry_eq]
  generalize (lg_sl ([.ref (o + 0)]) ++ List.replicate (4 - (lg_sl ([.ref (o + 0)])).length) Slot.unset).toArray = ls at hl ⊢
  have hl : lv_has ls 4 [(0, .ref (o + 0))] := hl
  refine lv_bipush (v := 7) hx hb dX11_endsPart_0 (by decide) ?_
  refine lv_aload_n hx hb dX11_endsPart_2 rfl (lv_at hl 0 rfl) ?_
  refine qf_get hx hb hts inX11 hown hK hP (q0 := 0) (by decide) (hgM_0 ca o) rfl 29 (by decide) wq_1022 (v := .int (z 0 29)) rfl dX11_endsPart_3 ?_
  refine lv_topi (fun x1 e1 => ?_)
  have b1 := iM_0_29 J0 e1
  have k1 : x1.toInt = (z 0 29).toInt := congrArg Int32.toInt e1
  refine lv_imul hx hb dX11_endsPart_6 ?_
  refine lv_topi (fun x2 e2 => ?_)
  have t2 : x2.toInt = (7 : Int) * x1.toInt := ga_mul e2 rfl rfl (by omega) (by omega)
  refine lv_istore_n (lv' := [(1, .int x2), (0, .ref (o + 0))]) hx hb dX11_endsPart_7 rfl hl (by decide) rfl (fun ls hl => ?_)
  refine lv_aload_n hx hb dX11_endsPart_8 rfl (lv_at hl 1 rfl) ?_
  refine lv_iconst (v := 0) hx hb dX11_endsPart_9 (by decide) ?_
  refine qf_put2 hx hb hts inX11 tyX11 tyX11_ok nmX11 hown hK hP hS qw_Ai (q0 := 0) (by decide) (hgM_0 ca o) rfl 31 (by decide) wq_1024 rfl (x := 0) 31 rfl rfl rfl (Nat.le_of_ble_eq_true rfl) dX11_endsPart_10 (fun z3 H locs hz3 hP hS => ?_)
  have J3 := jM_0_31 J0 hz3
  have k3_0 : (z3 0 29).toInt = (z 0 29).toInt := congrArg Int32.toInt (qt_off hz3 (by decide))
  have k3_1 : (z3 0 16).toInt = (z 0 16).toInt := congrArg Int32.toInt (qt_off hz3 (by decide))
  have k3_2 : (z3 0 33).toInt = (z 0 33).toInt := congrArg Int32.toInt (qt_off hz3 (by decide))
  have k3_3 : (z3 0 34).toInt = (z 0 34).toInt := congrArg Int32.toInt (qt_off hz3 (by decide))
  refine lv_aload_n hx hb dX11_endsPart_13 rfl (lv_at hl 1 rfl) ?_
  refine qf_get hx hb hts inX11 hown hK hP (q0 := 0) (by decide) (hgM_0 ca o) rfl 26 (by decide) wq_1019 (v := .ref (o + 19)) rfl dX11_endsPart_14 ?_
  refine lv_aload_n hx hb dX11_endsPart_17 rfl (lv_at hl 1 rfl) ?_
  refine qf_get hx hb hts inX11 hown hK hP (q0 := 0) (by decide) (hgM_0 ca o) rfl 29 (by decide) wq_1022 (v := .int (z3 0 29)) rfl dX11_endsPart_18 ?_
  refine lv_topi (fun x4 e4 => ?_)
  have b4 := iM_0_29 J3 e4
  have k4 : x4.toInt = (z3 0 29).toInt := congrArg Int32.toInt e4
  refine qa_iald hx hb hK hP (q0 := 19) (by decide) 0 (N := 7) (hgM_19 ca o) rfl (gi_in (by omega) (by omega)) dX11_endsPart_21 ?_
  refine lv_topi (fun x5 e5 => ?_)
  refine lv_iconst (v := (-1)) hx hb dX11_endsPart_22 (by decide) ?_
  refine lv_icmp_ne (tgt := 69) hx hb dX11_endsPart_23 (by decide) (fun c6 => ?_) (fun c6 => ?_)
  · have t6 : x5.toInt ≠ (-1 : Int) := gl_ne c6
    refine lv_aload_n hx hb dX11_endsPart_69 rfl (lv_at hl 1 rfl) ?_
    refine qf_get hx hb hts inX11 hown hK hP (q0 := 0) (by decide) (hgM_0 ca o) rfl 24 (by decide) wq_1017 (v := .ref (o + 17)) rfl dX11_endsPart_70 ?_
    refine lv_aload_n hx hb dX11_endsPart_73 rfl (lv_at hl 1 rfl) ?_
    refine qf_get hx hb hts inX11 hown hK hP (q0 := 0) (by decide) (hgM_0 ca o) rfl 29 (by decide) wq_1022 (v := .int (z3 0 29)) rfl dX11_endsPart_74 ?_
    refine lv_topi (fun x7 e7 => ?_)
    have b7 := iM_0_29 J3 e7
    have k7 : x7.toInt = (z3 0 29).toInt := congrArg Int32.toInt e7
    have ag7 : x7.toInt = x4.toInt := congrArg Int32.toInt (e7.trans e4.symm)
    refine qa_iald hx hb hK hP (q0 := 17) (by decide) 0 (N := 7) (hgM_17 ca o) rfl (gi_in (by omega) (by omega)) dX11_endsPart_77 ?_
    refine lv_topi (fun x8 e8 => ?_)
    refine lv_iconst (v := 1) hx hb dX11_endsPart_78 (by decide) ?_
    refine lv_icmp_ne (tgt := 106) hx hb dX11_endsPart_79 (by decide) (fun c9 => ?_) (fun c9 => ?_)
    · have t9 : x8.toInt ≠ (1 : Int) := gl_ne c9
      refine lv_aload_n hx hb dX11_endsPart_106 rfl (lv_at hl 1 rfl) ?_
      refine qf_get hx hb hts inX11 hown hK hP (q0 := 0) (by decide) (hgM_0 ca o) rfl 30 (by decide) wq_1023 (v := .int (z3 0 30)) rfl dX11_endsPart_107 ?_
      refine lv_topi (fun x10 e10 => ?_)
      refine lv_iconst (v := 1) hx hb dX11_endsPart_110 (by decide) ?_
      refine lv_icmp_ne (tgt := 126) hx hb dX11_endsPart_111 (by decide) (fun c11 => ?_) (fun c11 => ?_)
      · have t11 : x10.toInt ≠ (1 : Int) := gl_ne c11
        refine lv_aload_n hx hb dX11_endsPart_126 rfl (lv_at hl 1 rfl) ?_
        refine qf_get hx hb hts inX11 hown hK hP (q0 := 0) (by decide) (hgM_0 ca o) rfl 22 (by decide) wq_1015 (v := .ref (o + 15)) rfl dX11_endsPart_127 ?_
        refine lv_bipush (v := 6) hx hb dX11_endsPart_130 (by decide) ?_
        refine qa_iald hx hb hK hP (q0 := 15) (by decide) 0 (N := 7) (hgM_15 ca o) rfl (gi_in (by decide) (by decide)) dX11_endsPart_132 ?_
        refine lv_topi (fun x12 e12 => ?_)
        refine lv_istore_n (lv' := [(2, .int x12), (1, .int x2), (0, .ref (o + 0))]) hx hb dX11_endsPart_133 rfl hl (by decide) rfl (fun ls hl => ?_)
        refine lv_iconst (v := 0) hx hb dX11_endsPart_134 (by decide) ?_
        refine lv_istore_n (lv' := [(3, .int 0), (2, .int x12), (1, .int x2), (0, .ref (o + 0))]) hx hb dX11_endsPart_135 rfl hl (by decide) rfl (fun ls hl => ?_)
        have loop13 : ∀ (n : Nat) (w13_3 : Int32) (z13 : Nat → Nat → Int32) (y13 : Nat → Nat → Int64), ((7 - w13_3.toInt : Int) < (n : Int)) → ((0 : Int) ≤ w13_3.toInt ∧ w13_3.toInt ≤ 7) → (qJM b z13) → ((z13 0 29).toInt = (z3 0 29).toInt) → ((z13 0 16).toInt = (z3 0 16).toInt) → ((z13 0 33).toInt = (z3 0 33).toInt) → ((z13 0 34).toInt = (z3 0 34).toInt) → ∀ (H : Heap) (locs : List Loc), qw_P D vwCl o 41 (qG (GM ca o) z13 y13) H → va_S (qw_A o 41) s.heap H locs → ∀ (ls : Array Slot), lv_has ls 4 [(3, .int w13_3), (2, .int x12), (1, .int x2), (0, .ref (o + 0))] → W p l e (headSpec (Cond.code yX11_endsPart cX11_endsPart 4 (some .boolean) :: qtbl) ({ frames := 2, cells := 0, slots := 0, locals := 82 })).room s m (([.ref (o + 0)] : List Value).toArray) below meth c H locs 0 0 (MQ below (va_Qi (fun r u => ((r = 1) ∨ (r = 0)) ∧ qJM b u.1 ∧ ((u.1 0 16).toInt = (z 0 16).toInt) ∧ ((u.1 0 33).toInt = (z 0 33).toInt) ∧ ((u.1 0 34).toInt = (z 0 34).toInt)) (qB D vwCl (qT6 ca) o 41 (fun u : qZ => qG (GM ca o) u.1 u.2)) (qw_A o 41)) (([.ref (o + 0)] : List Value).toArray) s 0 0 (qw_A o 41)) (F0 m 136 ls []) := by
          intro n
          induction n with
          | zero => intro w13_3 z13 y13 hb13 hv13_3 J13 v13_0 v13_1 v13_2 v13_3; exfalso; omega
          | succ n13 ih13 =>
            intro w13_3 z13 y13 hb13 hv13_3 J13 v13_0 v13_1 v13_2 v13_3 H locs hP hS ls hl
            refine lv_iload_n hx hb dX11_endsPart_136 rfl (lv_at hl 0 rfl) ?_
            refine lv_bipush (v := 7) hx hb dX11_endsPart_137 (by decide) ?_
            refine lv_icmp_ge (tgt := 183) hx hb dX11_endsPart_139 (by decide) (fun c14 => ?_) (fun c14 => ?_)
            · have t14 : w13_3.toInt ≥ (7 : Int) := gl_le c14
              refine lv_aload_n hx hb dX11_endsPart_183 rfl (lv_at hl 3 rfl) ?_
              refine qf_get hx hb hts inX11 hown hK hP (q0 := 0) (by decide) (hgM_0 ca o) rfl 24 (by decide) wq_1017 (v := .ref (o + 17)) rfl dX11_endsPart_184 ?_
              refine lv_aload_n hx hb dX11_endsPart_187 rfl (lv_at hl 3 rfl) ?_
              refine qf_get hx hb hts inX11 hown hK hP (q0 := 0) (by decide) (hgM_0 ca o) rfl 29 (by decide) wq_1022 (v := .int (z13 0 29)) rfl dX11_endsPart_188 ?_
              refine lv_topi (fun x15 e15 => ?_)
              have b15 := iM_0_29 J13 e15
              have k15 : x15.toInt = (z13 0 29).toInt := congrArg Int32.toInt e15
              refine lv_aload_n hx hb dX11_endsPart_191 rfl (lv_at hl 3 rfl) ?_
              refine qf_get hx hb hts inX11 hown hK hP (q0 := 0) (by decide) (hgM_0 ca o) rfl 24 (by decide) wq_1017 (v := .ref (o + 17)) rfl dX11_endsPart_192 ?_
              refine lv_aload_n hx hb dX11_endsPart_195 rfl (lv_at hl 3 rfl) ?_
              refine qf_get hx hb hts inX11 hown hK hP (q0 := 0) (by decide) (hgM_0 ca o) rfl 29 (by decide) wq_1022 (v := .int (z13 0 29)) rfl dX11_endsPart_196 ?_
              refine lv_topi (fun x16 e16 => ?_)
              have b16 := iM_0_29 J13 e16
              have k16 : x16.toInt = (z13 0 29).toInt := congrArg Int32.toInt e16
              have ag16 : x16.toInt = x15.toInt := congrArg Int32.toInt (e16.trans e15.symm)
              refine qa_iald hx hb hK hP (q0 := 17) (by decide) 0 (N := 7) (hgM_17 ca o) rfl (gi_in (by omega) (by omega)) dX11_endsPart_199 ?_
              refine lv_topi (fun x17 e17 => ?_)
              refine lv_aload_n hx hb dX11_endsPart_200 rfl (lv_at hl 3 rfl) ?_
              refine qf_get hx hb hts inX11 hown hK hP (q0 := 0) (by decide) (hgM_0 ca o) rfl 30 (by decide) wq_1023 (v := .int (z13 0 30)) rfl dX11_endsPart_201 ?_
              refine lv_topi (fun x18 e18 => ?_)
              refine qc_Sip (As := [.int x17, .int x18]) (rest := [.int x15, .ref (o + 17)]) (k0 := 2) (m_max l D ca o b z13 y13 J13 x17 x18) kc_yX11_max ⟨hx, hb, hml, hown, hts⟩ wq_1273 rfl rfl ⟨Nat.le_of_ble_eq_true rfl, Nat.le_of_ble_eq_true rfl⟩ wq_all hP hK hS qw_Ai rfl hl.1 rfl (Nat.le_of_ble_eq_true rfl) dX11_endsPart_204 ⟨Nat.zero_le _, Nat.zero_le _⟩ (fun r19 H locs h19 hP hS _ _ => ?_)
              have p19_1 : r19.toInt = max x17.toInt x18.toInt := h19.2
              refine qa_iast2 hx hb hK hP hS qw_Ai (q0 := 17) (by decide) 0 (N := 7) (hgM_17 ca o) rfl (i := x15) (x := r19) (gi_in (by omega) (by omega)) dX11_endsPart_207 (fun z20 H locs hz20 hP hS => ?_)
              have J20 := jM_17 J13 hz20
              have k20_0 : (z20 0 29).toInt = (z13 0 29).toInt := congrArg Int32.toInt (qt_ne hz20 29 (by decide))
              have k20_1 : (z20 0 16).toInt = (z13 0 16).toInt := congrArg Int32.toInt (qt_ne hz20 16 (by decide))
              have k20_2 : (z20 0 33).toInt = (z13 0 33).toInt := congrArg Int32.toInt (qt_ne hz20 33 (by decide))
              have k20_3 : (z20 0 34).toInt = (z13 0 34).toInt := congrArg Int32.toInt (qt_ne hz20 34 (by decide))
              refine lv_iconst (v := 1) hx hb dX11_endsPart_208 (by decide) ?_
              exact W.zret (v := 1) (ty := .boolean) hx hb hr rfl (fun t ht hW => ⟨⟨1, (z20, y13), rfl, ⟨Or.inl rfl, J20, (show (z20 0 16).toInt = (z 0 16).toInt from by omega), (show (z20 0 33).toInt = (z 0 33).toInt from by omega), (show (z20 0 34).toInt = (z 0 34).toInt from by omega)⟩, by rw [ht]; exact hP, va_K.moved hW.alike hK⟩, hS.F ht⟩) hS.2.2 dX11_endsPart_209
            · have t14 : w13_3.toInt < (7 : Int) := gl_nle c14
              refine lv_aload_n hx hb dX11_endsPart_142 rfl (lv_at hl 3 rfl) ?_
              refine qf_get hx hb hts inX11 hown hK hP (q0 := 0) (by decide) (hgM_0 ca o) rfl 21 (by decide) wq_1014 (v := .ref (o + 14)) rfl dX11_endsPart_143 ?_
              refine lv_iload_n hx hb dX11_endsPart_146 rfl (lv_at hl 2 rfl) ?_
              refine lv_iload_n hx hb dX11_endsPart_147 rfl (lv_at hl 0 rfl) ?_
              refine lv_iadd hx hb dX11_endsPart_148 ?_
              refine lv_topi (fun x21 e21 => ?_)
              have t21 : x21.toInt = x2.toInt + w13_3.toInt := ga_add e21 rfl rfl (by omega) (by omega)
              refine lv_iload_n hx hb dX11_endsPart_149 rfl (lv_at hl 1 rfl) ?_
              refine lv_aload_n hx hb dX11_endsPart_150 rfl (lv_at hl 3 rfl) ?_
              refine qf_get hx hb hts inX11 hown hK hP (q0 := 0) (by decide) (hgM_0 ca o) rfl 30 (by decide) wq_1023 (v := .int (z13 0 30)) rfl dX11_endsPart_151 ?_
              refine lv_topi (fun x22 e22 => ?_)
              refine lv_iconst (v := 1) hx hb dX11_endsPart_154 (by decide) ?_
              refine lv_icmp_ne (tgt := 167) hx hb dX11_endsPart_155 (by decide) (fun c23 => ?_) (fun c23 => ?_)
              · have t23 : x22.toInt ≠ (1 : Int) := gl_ne c23
                refine lv_aload_n hx hb dX11_endsPart_167 rfl (lv_at hl 3 rfl) ?_
                refine qf_get hx hb hts inX11 hown hK hP (q0 := 0) (by decide) (hgM_0 ca o) rfl 21 (by decide) wq_1014 (v := .ref (o + 14)) rfl dX11_endsPart_168 ?_
                refine lv_iload_n hx hb dX11_endsPart_171 rfl (lv_at hl 2 rfl) ?_
                refine lv_iload_n hx hb dX11_endsPart_172 rfl (lv_at hl 0 rfl) ?_
                refine lv_iadd hx hb dX11_endsPart_173 ?_
                refine lv_topi (fun x24 e24 => ?_)
                have t24 : x24.toInt = x21.toInt := congrArg Int32.toInt (e24.trans e21.symm)
                refine qa_iald hx hb hK hP (q0 := 14) (by decide) 0 (N := 49) (hgM_14 ca o) rfl (gi_in (by omega) (by omega)) dX11_endsPart_174 ?_
                refine lv_topi (fun x25 e25 => ?_)
                refine lv_imul hx hb dX11_endsPart_175 ?_
                refine lv_topi (fun x26 e26 => ?_)
                refine qa_iast2 hx hb hK hP hS qw_Ai (q0 := 14) (by decide) 0 (N := 49) (hgM_14 ca o) rfl (i := x21) (x := x26) (gi_in (by omega) (by omega)) dX11_endsPart_176 (fun z27 H locs hz27 hP hS => ?_)
                have J27 := jM_14 J13 hz27
                have k27_0 : (z27 0 29).toInt = (z13 0 29).toInt := congrArg Int32.toInt (qt_ne hz27 29 (by decide))
                have k27_1 : (z27 0 16).toInt = (z13 0 16).toInt := congrArg Int32.toInt (qt_ne hz27 16 (by decide))
                have k27_2 : (z27 0 33).toInt = (z13 0 33).toInt := congrArg Int32.toInt (qt_ne hz27 33 (by decide))
                have k27_3 : (z27 0 34).toInt = (z13 0 34).toInt := congrArg Int32.toInt (qt_ne hz27 34 (by decide))
                obtain ⟨x28, e28⟩ : ∃ t : Int32, t = w13_3 + 1 := ⟨_, rfl⟩
                refine lv_iinc (v := x28) (lv' := [(3, .int x28), (2, .int x12), (1, .int x2), (0, .ref (o + 0))]) hx hb dX11_endsPart_177 hl (k := 0) rfl (by rw [e28]; rfl) (by decide) rfl (fun ls hl => ?_)
                have t28 : x28.toInt = w13_3.toInt + (1 : Int) := ga_add e28 rfl rfl (by omega) (by omega)
                refine lv_goto (tgt := 136) hx hb dX11_endsPart_180 (by decide) ?_
                exact ih13 x28 z27 y13 (show (7 - x28.toInt : Int) < (n13 : Int) from by omega) ⟨by omega, by omega⟩ J27 (show (z27 0 29).toInt = (z3 0 29).toInt from by omega) (show (z27 0 16).toInt = (z3 0 16).toInt from by omega) (show (z27 0 33).toInt = (z3 0 33).toInt from by omega) (show (z27 0 34).toInt = (z3 0 34).toInt from by omega) _ _ hP hS _ (lv_sub hl [0, 1, 2, 3] rfl)
              · have t23 : x22.toInt = (1 : Int) := gl_eq c23
                refine lv_aload_n hx hb dX11_endsPart_158 rfl (lv_at hl 3 rfl) ?_
                refine qf_get hx hb hts inX11 hown hK hP (q0 := 0) (by decide) (hgM_0 ca o) rfl 22 (by decide) wq_1015 (v := .ref (o + 15)) rfl dX11_endsPart_159 ?_
                refine lv_iload_n hx hb dX11_endsPart_162 rfl (lv_at hl 0 rfl) ?_
                refine qa_iald hx hb hK hP (q0 := 15) (by decide) 0 (N := 7) (hgM_15 ca o) rfl (gi_in (by omega) (by omega)) dX11_endsPart_163 ?_
                refine lv_topi (fun x29 e29 => ?_)
                refine lv_goto (tgt := 175) hx hb dX11_endsPart_164 (by decide) ?_
                refine lv_imul hx hb dX11_endsPart_175 ?_
                refine lv_topi (fun x30 e30 => ?_)
                refine qa_iast2 hx hb hK hP hS qw_Ai (q0 := 14) (by decide) 0 (N := 49) (hgM_14 ca o) rfl (i := x21) (x := x30) (gi_in (by omega) (by omega)) dX11_endsPart_176 (fun z31 H locs hz31 hP hS => ?_)
                have J31 := jM_14 J13 hz31
                have k31_0 : (z31 0 29).toInt = (z13 0 29).toInt := congrArg Int32.toInt (qt_ne hz31 29 (by decide))
                have k31_1 : (z31 0 16).toInt = (z13 0 16).toInt := congrArg Int32.toInt (qt_ne hz31 16 (by decide))
                have k31_2 : (z31 0 33).toInt = (z13 0 33).toInt := congrArg Int32.toInt (qt_ne hz31 33 (by decide))
                have k31_3 : (z31 0 34).toInt = (z13 0 34).toInt := congrArg Int32.toInt (qt_ne hz31 34 (by decide))
                obtain ⟨x32, e32⟩ : ∃ t : Int32, t = w13_3 + 1 := ⟨_, rfl⟩
                refine lv_iinc (v := x32) (lv' := [(3, .int x32), (2, .int x12), (1, .int x2), (0, .ref (o + 0))]) hx hb dX11_endsPart_177 hl (k := 0) rfl (by rw [e32]; rfl) (by decide) rfl (fun ls hl => ?_)
                have t32 : x32.toInt = w13_3.toInt + (1 : Int) := ga_add e32 rfl rfl (by omega) (by omega)
                refine lv_goto (tgt := 136) hx hb dX11_endsPart_180 (by decide) ?_
                exact ih13 x32 z31 y13 (show (7 - x32.toInt : Int) < (n13 : Int) from by omega) ⟨by omega, by omega⟩ J31 (show (z31 0 29).toInt = (z3 0 29).toInt from by omega) (show (z31 0 16).toInt = (z3 0 16).toInt from by omega) (show (z31 0 33).toInt = (z3 0 33).toInt from by omega) (show (z31 0 34).toInt = (z3 0 34).toInt from by omega) _ _ hP hS _ (lv_sub hl [0, 1, 2, 3] rfl)
        exact loop13 8 0 z3 y (show (7 - (0 : Int) : Int) < ((8 : Nat) : Int) from by omega) ⟨by decide, by decide⟩ J3 (show (z3 0 29).toInt = (z3 0 29).toInt from by omega) (show (z3 0 16).toInt = (z3 0 16).toInt from by omega) (show (z3 0 33).toInt = (z3 0 33).toInt from by omega) (show (z3 0 34).toInt = (z3 0 34).toInt from by omega) _ _ hP hS _ (lv_sub hl [0, 1, 2, 3] rfl)
      · have t11 : x10.toInt = (1 : Int) := gl_eq c11
        refine lv_aload_n hx hb dX11_endsPart_114 rfl (lv_at hl 1 rfl) ?_
        refine qf_get hx hb hts inX11 hown hK hP (q0 := 0) (by decide) (hgM_0 ca o) rfl 21 (by decide) wq_1014 (v := .ref (o + 14)) rfl dX11_endsPart_115 ?_
        refine lv_iload_n hx hb dX11_endsPart_118 rfl (lv_at hl 0 rfl) ?_
        refine lv_bipush (v := 6) hx hb dX11_endsPart_119 (by decide) ?_
        refine lv_iadd hx hb dX11_endsPart_121 ?_
        refine lv_topi (fun x33 e33 => ?_)
        have t33 : x33.toInt = x2.toInt + (6 : Int) := ga_add e33 rfl rfl (by omega) (by omega)
        refine qa_iald hx hb hK hP (q0 := 14) (by decide) 0 (N := 49) (hgM_14 ca o) rfl (gi_in (by omega) (by omega)) dX11_endsPart_122 ?_
        refine lv_topi (fun x34 e34 => ?_)
        refine lv_goto (tgt := 133) hx hb dX11_endsPart_123 (by decide) ?_
        refine lv_istore_n (lv' := [(2, .int x34), (1, .int x2), (0, .ref (o + 0))]) hx hb dX11_endsPart_133 rfl hl (by decide) rfl (fun ls hl => ?_)
        refine lv_iconst (v := 0) hx hb dX11_endsPart_134 (by decide) ?_
        refine lv_istore_n (lv' := [(3, .int 0), (2, .int x34), (1, .int x2), (0, .ref (o + 0))]) hx hb dX11_endsPart_135 rfl hl (by decide) rfl (fun ls hl => ?_)
        have loop35 : ∀ (n : Nat) (w35_3 : Int32) (z35 : Nat → Nat → Int32) (y35 : Nat → Nat → Int64), ((7 - w35_3.toInt : Int) < (n : Int)) → ((0 : Int) ≤ w35_3.toInt ∧ w35_3.toInt ≤ 7) → (qJM b z35) → ((z35 0 29).toInt = (z3 0 29).toInt) → ((z35 0 16).toInt = (z3 0 16).toInt) → ((z35 0 33).toInt = (z3 0 33).toInt) → ((z35 0 34).toInt = (z3 0 34).toInt) → ∀ (H : Heap) (locs : List Loc), qw_P D vwCl o 41 (qG (GM ca o) z35 y35) H → va_S (qw_A o 41) s.heap H locs → ∀ (ls : Array Slot), lv_has ls 4 [(3, .int w35_3), (2, .int x34), (1, .int x2), (0, .ref (o + 0))] → W p l e (headSpec (Cond.code yX11_endsPart cX11_endsPart 4 (some .boolean) :: qtbl) ({ frames := 2, cells := 0, slots := 0, locals := 82 })).room s m (([.ref (o + 0)] : List Value).toArray) below meth c H locs 0 0 (MQ below (va_Qi (fun r u => ((r = 1) ∨ (r = 0)) ∧ qJM b u.1 ∧ ((u.1 0 16).toInt = (z 0 16).toInt) ∧ ((u.1 0 33).toInt = (z 0 33).toInt) ∧ ((u.1 0 34).toInt = (z 0 34).toInt)) (qB D vwCl (qT6 ca) o 41 (fun u : qZ => qG (GM ca o) u.1 u.2)) (qw_A o 41)) (([.ref (o + 0)] : List Value).toArray) s 0 0 (qw_A o 41)) (F0 m 136 ls []) := by
          intro n
          induction n with
          | zero => intro w35_3 z35 y35 hb35 hv35_3 J35 v35_0 v35_1 v35_2 v35_3; exfalso; omega
          | succ n35 ih35 =>
            intro w35_3 z35 y35 hb35 hv35_3 J35 v35_0 v35_1 v35_2 v35_3 H locs hP hS ls hl
            refine lv_iload_n hx hb dX11_endsPart_136 rfl (lv_at hl 0 rfl) ?_
            refine lv_bipush (v := 7) hx hb dX11_endsPart_137 (by decide) ?_
            refine lv_icmp_ge (tgt := 183) hx hb dX11_endsPart_139 (by decide) (fun c36 => ?_) (fun c36 => ?_)
            · have t36 : w35_3.toInt ≥ (7 : Int) := gl_le c36
              refine lv_aload_n hx hb dX11_endsPart_183 rfl (lv_at hl 3 rfl) ?_
              refine qf_get hx hb hts inX11 hown hK hP (q0 := 0) (by decide) (hgM_0 ca o) rfl 24 (by decide) wq_1017 (v := .ref (o + 17)) rfl dX11_endsPart_184 ?_
              refine lv_aload_n hx hb dX11_endsPart_187 rfl (lv_at hl 3 rfl) ?_
              refine qf_get hx hb hts inX11 hown hK hP (q0 := 0) (by decide) (hgM_0 ca o) rfl 29 (by decide) wq_1022 (v := .int (z35 0 29)) rfl dX11_endsPart_188 ?_
              refine lv_topi (fun x37 e37 => ?_)
              have b37 := iM_0_29 J35 e37
              have k37 : x37.toInt = (z35 0 29).toInt := congrArg Int32.toInt e37
              refine lv_aload_n hx hb dX11_endsPart_191 rfl (lv_at hl 3 rfl) ?_
              refine qf_get hx hb hts inX11 hown hK hP (q0 := 0) (by decide) (hgM_0 ca o) rfl 24 (by decide) wq_1017 (v := .ref (o + 17)) rfl dX11_endsPart_192 ?_
              refine lv_aload_n hx hb dX11_endsPart_195 rfl (lv_at hl 3 rfl) ?_
              refine qf_get hx hb hts inX11 hown hK hP (q0 := 0) (by decide) (hgM_0 ca o) rfl 29 (by decide) wq_1022 (v := .int (z35 0 29)) rfl dX11_endsPart_196 ?_
              refine lv_topi (fun x38 e38 => ?_)
              have b38 := iM_0_29 J35 e38
              have k38 : x38.toInt = (z35 0 29).toInt := congrArg Int32.toInt e38
              have ag38 : x38.toInt = x37.toInt := congrArg Int32.toInt (e38.trans e37.symm)
              refine qa_iald hx hb hK hP (q0 := 17) (by decide) 0 (N := 7) (hgM_17 ca o) rfl (gi_in (by omega) (by omega)) dX11_endsPart_199 ?_
              refine lv_topi (fun x39 e39 => ?_)
              refine lv_aload_n hx hb dX11_endsPart_200 rfl (lv_at hl 3 rfl) ?_
              refine qf_get hx hb hts inX11 hown hK hP (q0 := 0) (by decide) (hgM_0 ca o) rfl 30 (by decide) wq_1023 (v := .int (z35 0 30)) rfl dX11_endsPart_201 ?_
              refine lv_topi (fun x40 e40 => ?_)
              refine qc_Sip (As := [.int x39, .int x40]) (rest := [.int x37, .ref (o + 17)]) (k0 := 2) (m_max l D ca o b z35 y35 J35 x39 x40) kc_yX11_max ⟨hx, hb, hml, hown, hts⟩ wq_1273 rfl rfl ⟨Nat.le_of_ble_eq_true rfl, Nat.le_of_ble_eq_true rfl⟩ wq_all hP hK hS qw_Ai rfl hl.1 rfl (Nat.le_of_ble_eq_true rfl) dX11_endsPart_204 ⟨Nat.zero_le _, Nat.zero_le _⟩ (fun r41 H locs h41 hP hS _ _ => ?_)
              have p41_1 : r41.toInt = max x39.toInt x40.toInt := h41.2
              refine qa_iast2 hx hb hK hP hS qw_Ai (q0 := 17) (by decide) 0 (N := 7) (hgM_17 ca o) rfl (i := x37) (x := r41) (gi_in (by omega) (by omega)) dX11_endsPart_207 (fun z42 H locs hz42 hP hS => ?_)
              have J42 := jM_17 J35 hz42
              have k42_0 : (z42 0 29).toInt = (z35 0 29).toInt := congrArg Int32.toInt (qt_ne hz42 29 (by decide))
              have k42_1 : (z42 0 16).toInt = (z35 0 16).toInt := congrArg Int32.toInt (qt_ne hz42 16 (by decide))
              have k42_2 : (z42 0 33).toInt = (z35 0 33).toInt := congrArg Int32.toInt (qt_ne hz42 33 (by decide))
              have k42_3 : (z42 0 34).toInt = (z35 0 34).toInt := congrArg Int32.toInt (qt_ne hz42 34 (by decide))
              refine lv_iconst (v := 1) hx hb dX11_endsPart_208 (by decide) ?_
              exact W.zret (v := 1) (ty := .boolean) hx hb hr rfl (fun t ht hW => ⟨⟨1, (z42, y35), rfl, ⟨Or.inl rfl, J42, (show (z42 0 16).toInt = (z 0 16).toInt from by omega), (show (z42 0 33).toInt = (z 0 33).toInt from by omega), (show (z42 0 34).toInt = (z 0 34).toInt from by omega)⟩, by rw [ht]; exact hP, va_K.moved hW.alike hK⟩, hS.F ht⟩) hS.2.2 dX11_endsPart_209
            · have t36 : w35_3.toInt < (7 : Int) := gl_nle c36
              refine lv_aload_n hx hb dX11_endsPart_142 rfl (lv_at hl 3 rfl) ?_
              refine qf_get hx hb hts inX11 hown hK hP (q0 := 0) (by decide) (hgM_0 ca o) rfl 21 (by decide) wq_1014 (v := .ref (o + 14)) rfl dX11_endsPart_143 ?_
              refine lv_iload_n hx hb dX11_endsPart_146 rfl (lv_at hl 2 rfl) ?_
              refine lv_iload_n hx hb dX11_endsPart_147 rfl (lv_at hl 0 rfl) ?_
              refine lv_iadd hx hb dX11_endsPart_148 ?_
              refine lv_topi (fun x43 e43 => ?_)
              have t43 : x43.toInt = x2.toInt + w35_3.toInt := ga_add e43 rfl rfl (by omega) (by omega)
              refine lv_iload_n hx hb dX11_endsPart_149 rfl (lv_at hl 1 rfl) ?_
              refine lv_aload_n hx hb dX11_endsPart_150 rfl (lv_at hl 3 rfl) ?_
              refine qf_get hx hb hts inX11 hown hK hP (q0 := 0) (by decide) (hgM_0 ca o) rfl 30 (by decide) wq_1023 (v := .int (z35 0 30)) rfl dX11_endsPart_151 ?_
              refine lv_topi (fun x44 e44 => ?_)
              refine lv_iconst (v := 1) hx hb dX11_endsPart_154 (by decide) ?_
              refine lv_icmp_ne (tgt := 167) hx hb dX11_endsPart_155 (by decide) (fun c45 => ?_) (fun c45 => ?_)
              · have t45 : x44.toInt ≠ (1 : Int) := gl_ne c45
                refine lv_aload_n hx hb dX11_endsPart_167 rfl (lv_at hl 3 rfl) ?_
                refine qf_get hx hb hts inX11 hown hK hP (q0 := 0) (by decide) (hgM_0 ca o) rfl 21 (by decide) wq_1014 (v := .ref (o + 14)) rfl dX11_endsPart_168 ?_
                refine lv_iload_n hx hb dX11_endsPart_171 rfl (lv_at hl 2 rfl) ?_
                refine lv_iload_n hx hb dX11_endsPart_172 rfl (lv_at hl 0 rfl) ?_
                refine lv_iadd hx hb dX11_endsPart_173 ?_
                refine lv_topi (fun x46 e46 => ?_)
                have t46 : x46.toInt = x43.toInt := congrArg Int32.toInt (e46.trans e43.symm)
                refine qa_iald hx hb hK hP (q0 := 14) (by decide) 0 (N := 49) (hgM_14 ca o) rfl (gi_in (by omega) (by omega)) dX11_endsPart_174 ?_
                refine lv_topi (fun x47 e47 => ?_)
                refine lv_imul hx hb dX11_endsPart_175 ?_
                refine lv_topi (fun x48 e48 => ?_)
                refine qa_iast2 hx hb hK hP hS qw_Ai (q0 := 14) (by decide) 0 (N := 49) (hgM_14 ca o) rfl (i := x43) (x := x48) (gi_in (by omega) (by omega)) dX11_endsPart_176 (fun z49 H locs hz49 hP hS => ?_)
                have J49 := jM_14 J35 hz49
                have k49_0 : (z49 0 29).toInt = (z35 0 29).toInt := congrArg Int32.toInt (qt_ne hz49 29 (by decide))
                have k49_1 : (z49 0 16).toInt = (z35 0 16).toInt := congrArg Int32.toInt (qt_ne hz49 16 (by decide))
                have k49_2 : (z49 0 33).toInt = (z35 0 33).toInt := congrArg Int32.toInt (qt_ne hz49 33 (by decide))
                have k49_3 : (z49 0 34).toInt = (z35 0 34).toInt := congrArg Int32.toInt (qt_ne hz49 34 (by decide))
                obtain ⟨x50, e50⟩ : ∃ t : Int32, t = w35_3 + 1 := ⟨_, rfl⟩
                refine lv_iinc (v := x50) (lv' := [(3, .int x50), (2, .int x34), (1, .int x2), (0, .ref (o + 0))]) hx hb dX11_endsPart_177 hl (k := 0) rfl (by rw [e50]; rfl) (by decide) rfl (fun ls hl => ?_)
                have t50 : x50.toInt = w35_3.toInt + (1 : Int) := ga_add e50 rfl rfl (by omega) (by omega)
                refine lv_goto (tgt := 136) hx hb dX11_endsPart_180 (by decide) ?_
                exact ih35 x50 z49 y35 (show (7 - x50.toInt : Int) < (n35 : Int) from by omega) ⟨by omega, by omega⟩ J49 (show (z49 0 29).toInt = (z3 0 29).toInt from by omega) (show (z49 0 16).toInt = (z3 0 16).toInt from by omega) (show (z49 0 33).toInt = (z3 0 33).toInt from by omega) (show (z49 0 34).toInt = (z3 0 34).toInt from by omega) _ _ hP hS _ (lv_sub hl [0, 1, 2, 3] rfl)
              · have t45 : x44.toInt = (1 : Int) := gl_eq c45
                refine lv_aload_n hx hb dX11_endsPart_158 rfl (lv_at hl 3 rfl) ?_
                refine qf_get hx hb hts inX11 hown hK hP (q0 := 0) (by decide) (hgM_0 ca o) rfl 22 (by decide) wq_1015 (v := .ref (o + 15)) rfl dX11_endsPart_159 ?_
                refine lv_iload_n hx hb dX11_endsPart_162 rfl (lv_at hl 0 rfl) ?_
                refine qa_iald hx hb hK hP (q0 := 15) (by decide) 0 (N := 7) (hgM_15 ca o) rfl (gi_in (by omega) (by omega)) dX11_endsPart_163 ?_
                refine lv_topi (fun x51 e51 => ?_)
                refine lv_goto (tgt := 175) hx hb dX11_endsPart_164 (by decide) ?_
                refine lv_imul hx hb dX11_endsPart_175 ?_
                refine lv_topi (fun x52 e52 => ?_)
                refine qa_iast2 hx hb hK hP hS qw_Ai (q0 := 14) (by decide) 0 (N := 49) (hgM_14 ca o) rfl (i := x43) (x := x52) (gi_in (by omega) (by omega)) dX11_endsPart_176 (fun z53 H locs hz53 hP hS => ?_)
                have J53 := jM_14 J35 hz53
                have k53_0 : (z53 0 29).toInt = (z35 0 29).toInt := congrArg Int32.toInt (qt_ne hz53 29 (by decide))
                have k53_1 : (z53 0 16).toInt = (z35 0 16).toInt := congrArg Int32.toInt (qt_ne hz53 16 (by decide))
                have k53_2 : (z53 0 33).toInt = (z35 0 33).toInt := congrArg Int32.toInt (qt_ne hz53 33 (by decide))
                have k53_3 : (z53 0 34).toInt = (z35 0 34).toInt := congrArg Int32.toInt (qt_ne hz53 34 (by decide))
                obtain ⟨x54, e54⟩ : ∃ t : Int32, t = w35_3 + 1 := ⟨_, rfl⟩
                refine lv_iinc (v := x54) (lv' := [(3, .int x54), (2, .int x34), (1, .int x2), (0, .ref (o + 0))]) hx hb dX11_endsPart_177 hl (k := 0) rfl (by rw [e54]; rfl) (by decide) rfl (fun ls hl => ?_)
                have t54 : x54.toInt = w35_3.toInt + (1 : Int) := ga_add e54 rfl rfl (by omega) (by omega)
                refine lv_goto (tgt := 136) hx hb dX11_endsPart_180 (by decide) ?_
                exact ih35 x54 z53 y35 (show (7 - x54.toInt : Int) < (n35 : Int) from by omega) ⟨by omega, by omega⟩ J53 (show (z53 0 29).toInt = (z3 0 29).toInt from by omega) (show (z53 0 16).toInt = (z3 0 16).toInt from by omega) (show (z53 0 33).toInt = (z3 0 33).toInt from by omega) (show (z53 0 34).toInt = (z3 0 34).toInt from by omega) _ _ hP hS _ (lv_sub hl [0, 1, 2, 3] rfl)
        exact loop35 8 0 z3 y (show (7 - (0 : Int) : Int) < ((8 : Nat) : Int) from by omega) ⟨by decide, by decide⟩ J3 (show (z3 0 29).toInt = (z3 0 29).toInt from by omega) (show (z3 0 16).toInt = (z3 0 16).toInt from by omega) (show (z3 0 33).toInt = (z3 0 33).toInt from by omega) (show (z3 0 34).toInt = (z3 0 34).toInt from by omega) _ _ hP hS _ (lv_sub hl [0, 1, 2, 3] rfl)
    · have t9 : x8.toInt = (1 : Int) := gl_eq c9
      refine lv_aload_n hx hb dX11_endsPart_82 rfl (lv_at hl 1 rfl) ?_
      refine qf_get hx hb hts inX11 hown hK hP (q0 := 0) (by decide) (hgM_0 ca o) rfl 30 (by decide) wq_1023 (v := .int (z3 0 30)) rfl dX11_endsPart_83 ?_
      refine lv_topi (fun x55 e55 => ?_)
      refine lv_iconst (v := 1) hx hb dX11_endsPart_86 (by decide) ?_
      refine lv_icmp_ne (tgt := 106) hx hb dX11_endsPart_87 (by decide) (fun c56 => ?_) (fun c56 => ?_)
      · have t56 : x55.toInt ≠ (1 : Int) := gl_ne c56
        refine lv_aload_n hx hb dX11_endsPart_106 rfl (lv_at hl 1 rfl) ?_
        refine qf_get hx hb hts inX11 hown hK hP (q0 := 0) (by decide) (hgM_0 ca o) rfl 30 (by decide) wq_1023 (v := .int (z3 0 30)) rfl dX11_endsPart_107 ?_
        refine lv_topi (fun x57 e57 => ?_)
        have ag57 : x57.toInt = x55.toInt := congrArg Int32.toInt (e57.trans e55.symm)
        refine lv_iconst (v := 1) hx hb dX11_endsPart_110 (by decide) ?_
        refine lv_icmp_ne (tgt := 126) hx hb dX11_endsPart_111 (by decide) (fun c58 => ?_) (fun c58 => ?_)
        · have t58 : x57.toInt ≠ (1 : Int) := gl_ne c58
          refine lv_aload_n hx hb dX11_endsPart_126 rfl (lv_at hl 1 rfl) ?_
          refine qf_get hx hb hts inX11 hown hK hP (q0 := 0) (by decide) (hgM_0 ca o) rfl 22 (by decide) wq_1015 (v := .ref (o + 15)) rfl dX11_endsPart_127 ?_
          refine lv_bipush (v := 6) hx hb dX11_endsPart_130 (by decide) ?_
          refine qa_iald hx hb hK hP (q0 := 15) (by decide) 0 (N := 7) (hgM_15 ca o) rfl (gi_in (by decide) (by decide)) dX11_endsPart_132 ?_
          refine lv_topi (fun x59 e59 => ?_)
          refine lv_istore_n (lv' := [(2, .int x59), (1, .int x2), (0, .ref (o + 0))]) hx hb dX11_endsPart_133 rfl hl (by decide) rfl (fun ls hl => ?_)
          refine lv_iconst (v := 0) hx hb dX11_endsPart_134 (by decide) ?_
          refine lv_istore_n (lv' := [(3, .int 0), (2, .int x59), (1, .int x2), (0, .ref (o + 0))]) hx hb dX11_endsPart_135 rfl hl (by decide) rfl (fun ls hl => ?_)
          have loop60 : ∀ (n : Nat) (w60_3 : Int32) (z60 : Nat → Nat → Int32) (y60 : Nat → Nat → Int64), ((7 - w60_3.toInt : Int) < (n : Int)) → ((0 : Int) ≤ w60_3.toInt ∧ w60_3.toInt ≤ 7) → (qJM b z60) → ((z60 0 29).toInt = (z3 0 29).toInt) → ((z60 0 16).toInt = (z3 0 16).toInt) → ((z60 0 33).toInt = (z3 0 33).toInt) → ((z60 0 34).toInt = (z3 0 34).toInt) → ∀ (H : Heap) (locs : List Loc), qw_P D vwCl o 41 (qG (GM ca o) z60 y60) H → va_S (qw_A o 41) s.heap H locs → ∀ (ls : Array Slot), lv_has ls 4 [(3, .int w60_3), (2, .int x59), (1, .int x2), (0, .ref (o + 0))] → W p l e (headSpec (Cond.code yX11_endsPart cX11_endsPart 4 (some .boolean) :: qtbl) ({ frames := 2, cells := 0, slots := 0, locals := 82 })).room s m (([.ref (o + 0)] : List Value).toArray) below meth c H locs 0 0 (MQ below (va_Qi (fun r u => ((r = 1) ∨ (r = 0)) ∧ qJM b u.1 ∧ ((u.1 0 16).toInt = (z 0 16).toInt) ∧ ((u.1 0 33).toInt = (z 0 33).toInt) ∧ ((u.1 0 34).toInt = (z 0 34).toInt)) (qB D vwCl (qT6 ca) o 41 (fun u : qZ => qG (GM ca o) u.1 u.2)) (qw_A o 41)) (([.ref (o + 0)] : List Value).toArray) s 0 0 (qw_A o 41)) (F0 m 136 ls []) := by
            intro n
            induction n with
            | zero => intro w60_3 z60 y60 hb60 hv60_3 J60 v60_0 v60_1 v60_2 v60_3; exfalso; omega
            | succ n60 ih60 =>
              intro w60_3 z60 y60 hb60 hv60_3 J60 v60_0 v60_1 v60_2 v60_3 H locs hP hS ls hl
              refine lv_iload_n hx hb dX11_endsPart_136 rfl (lv_at hl 0 rfl) ?_
              refine lv_bipush (v := 7) hx hb dX11_endsPart_137 (by decide) ?_
              refine lv_icmp_ge (tgt := 183) hx hb dX11_endsPart_139 (by decide) (fun c61 => ?_) (fun c61 => ?_)
              · have t61 : w60_3.toInt ≥ (7 : Int) := gl_le c61
                refine lv_aload_n hx hb dX11_endsPart_183 rfl (lv_at hl 3 rfl) ?_
                refine qf_get hx hb hts inX11 hown hK hP (q0 := 0) (by decide) (hgM_0 ca o) rfl 24 (by decide) wq_1017 (v := .ref (o + 17)) rfl dX11_endsPart_184 ?_
                refine lv_aload_n hx hb dX11_endsPart_187 rfl (lv_at hl 3 rfl) ?_
                refine qf_get hx hb hts inX11 hown hK hP (q0 := 0) (by decide) (hgM_0 ca o) rfl 29 (by decide) wq_1022 (v := .int (z60 0 29)) rfl dX11_endsPart_188 ?_
                refine lv_topi (fun x62 e62 => ?_)
                have b62 := iM_0_29 J60 e62
                have k62 : x62.toInt = (z60 0 29).toInt := congrArg Int32.toInt e62
                refine lv_aload_n hx hb dX11_endsPart_191 rfl (lv_at hl 3 rfl) ?_
                refine qf_get hx hb hts inX11 hown hK hP (q0 := 0) (by decide) (hgM_0 ca o) rfl 24 (by decide) wq_1017 (v := .ref (o + 17)) rfl dX11_endsPart_192 ?_
                refine lv_aload_n hx hb dX11_endsPart_195 rfl (lv_at hl 3 rfl) ?_
                refine qf_get hx hb hts inX11 hown hK hP (q0 := 0) (by decide) (hgM_0 ca o) rfl 29 (by decide) wq_1022 (v := .int (z60 0 29)) rfl dX11_endsPart_196 ?_
                refine lv_topi (fun x63 e63 => ?_)
                have b63 := iM_0_29 J60 e63
                have k63 : x63.toInt = (z60 0 29).toInt := congrArg Int32.toInt e63
                have ag63 : x63.toInt = x62.toInt := congrArg Int32.toInt (e63.trans e62.symm)
                refine qa_iald hx hb hK hP (q0 := 17) (by decide) 0 (N := 7) (hgM_17 ca o) rfl (gi_in (by omega) (by omega)) dX11_endsPart_199 ?_
                refine lv_topi (fun x64 e64 => ?_)
                refine lv_aload_n hx hb dX11_endsPart_200 rfl (lv_at hl 3 rfl) ?_
                refine qf_get hx hb hts inX11 hown hK hP (q0 := 0) (by decide) (hgM_0 ca o) rfl 30 (by decide) wq_1023 (v := .int (z60 0 30)) rfl dX11_endsPart_201 ?_
                refine lv_topi (fun x65 e65 => ?_)
                refine qc_Sip (As := [.int x64, .int x65]) (rest := [.int x62, .ref (o + 17)]) (k0 := 2) (m_max l D ca o b z60 y60 J60 x64 x65) kc_yX11_max ⟨hx, hb, hml, hown, hts⟩ wq_1273 rfl rfl ⟨Nat.le_of_ble_eq_true rfl, Nat.le_of_ble_eq_true rfl⟩ wq_all hP hK hS qw_Ai rfl hl.1 rfl (Nat.le_of_ble_eq_true rfl) dX11_endsPart_204 ⟨Nat.zero_le _, Nat.zero_le _⟩ (fun r66 H locs h66 hP hS _ _ => ?_)
                have p66_1 : r66.toInt = max x64.toInt x65.toInt := h66.2
                refine qa_iast2 hx hb hK hP hS qw_Ai (q0 := 17) (by decide) 0 (N := 7) (hgM_17 ca o) rfl (i := x62) (x := r66) (gi_in (by omega) (by omega)) dX11_endsPart_207 (fun z67 H locs hz67 hP hS => ?_)
                have J67 := jM_17 J60 hz67
                have k67_0 : (z67 0 29).toInt = (z60 0 29).toInt := congrArg Int32.toInt (qt_ne hz67 29 (by decide))
                have k67_1 : (z67 0 16).toInt = (z60 0 16).toInt := congrArg Int32.toInt (qt_ne hz67 16 (by decide))
                have k67_2 : (z67 0 33).toInt = (z60 0 33).toInt := congrArg Int32.toInt (qt_ne hz67 33 (by decide))
                have k67_3 : (z67 0 34).toInt = (z60 0 34).toInt := congrArg Int32.toInt (qt_ne hz67 34 (by decide))
                refine lv_iconst (v := 1) hx hb dX11_endsPart_208 (by decide) ?_
                exact W.zret (v := 1) (ty := .boolean) hx hb hr rfl (fun t ht hW => ⟨⟨1, (z67, y60), rfl, ⟨Or.inl rfl, J67, (show (z67 0 16).toInt = (z 0 16).toInt from by omega), (show (z67 0 33).toInt = (z 0 33).toInt from by omega), (show (z67 0 34).toInt = (z 0 34).toInt from by omega)⟩, by rw [ht]; exact hP, va_K.moved hW.alike hK⟩, hS.F ht⟩) hS.2.2 dX11_endsPart_209
              · have t61 : w60_3.toInt < (7 : Int) := gl_nle c61
                refine lv_aload_n hx hb dX11_endsPart_142 rfl (lv_at hl 3 rfl) ?_
                refine qf_get hx hb hts inX11 hown hK hP (q0 := 0) (by decide) (hgM_0 ca o) rfl 21 (by decide) wq_1014 (v := .ref (o + 14)) rfl dX11_endsPart_143 ?_
                refine lv_iload_n hx hb dX11_endsPart_146 rfl (lv_at hl 2 rfl) ?_
                refine lv_iload_n hx hb dX11_endsPart_147 rfl (lv_at hl 0 rfl) ?_
                refine lv_iadd hx hb dX11_endsPart_148 ?_
                refine lv_topi (fun x68 e68 => ?_)
                have t68 : x68.toInt = x2.toInt + w60_3.toInt := ga_add e68 rfl rfl (by omega) (by omega)
                refine lv_iload_n hx hb dX11_endsPart_149 rfl (lv_at hl 1 rfl) ?_
                refine lv_aload_n hx hb dX11_endsPart_150 rfl (lv_at hl 3 rfl) ?_
                refine qf_get hx hb hts inX11 hown hK hP (q0 := 0) (by decide) (hgM_0 ca o) rfl 30 (by decide) wq_1023 (v := .int (z60 0 30)) rfl dX11_endsPart_151 ?_
                refine lv_topi (fun x69 e69 => ?_)
                refine lv_iconst (v := 1) hx hb dX11_endsPart_154 (by decide) ?_
                refine lv_icmp_ne (tgt := 167) hx hb dX11_endsPart_155 (by decide) (fun c70 => ?_) (fun c70 => ?_)
                · have t70 : x69.toInt ≠ (1 : Int) := gl_ne c70
                  refine lv_aload_n hx hb dX11_endsPart_167 rfl (lv_at hl 3 rfl) ?_
                  refine qf_get hx hb hts inX11 hown hK hP (q0 := 0) (by decide) (hgM_0 ca o) rfl 21 (by decide) wq_1014 (v := .ref (o + 14)) rfl dX11_endsPart_168 ?_
                  refine lv_iload_n hx hb dX11_endsPart_171 rfl (lv_at hl 2 rfl) ?_
                  refine lv_iload_n hx hb dX11_endsPart_172 rfl (lv_at hl 0 rfl) ?_
                  refine lv_iadd hx hb dX11_endsPart_173 ?_
                  refine lv_topi (fun x71 e71 => ?_)
                  have t71 : x71.toInt = x68.toInt := congrArg Int32.toInt (e71.trans e68.symm)
                  refine qa_iald hx hb hK hP (q0 := 14) (by decide) 0 (N := 49) (hgM_14 ca o) rfl (gi_in (by omega) (by omega)) dX11_endsPart_174 ?_
                  refine lv_topi (fun x72 e72 => ?_)
                  refine lv_imul hx hb dX11_endsPart_175 ?_
                  refine lv_topi (fun x73 e73 => ?_)
                  refine qa_iast2 hx hb hK hP hS qw_Ai (q0 := 14) (by decide) 0 (N := 49) (hgM_14 ca o) rfl (i := x68) (x := x73) (gi_in (by omega) (by omega)) dX11_endsPart_176 (fun z74 H locs hz74 hP hS => ?_)
                  have J74 := jM_14 J60 hz74
                  have k74_0 : (z74 0 29).toInt = (z60 0 29).toInt := congrArg Int32.toInt (qt_ne hz74 29 (by decide))
                  have k74_1 : (z74 0 16).toInt = (z60 0 16).toInt := congrArg Int32.toInt (qt_ne hz74 16 (by decide))
                  have k74_2 : (z74 0 33).toInt = (z60 0 33).toInt := congrArg Int32.toInt (qt_ne hz74 33 (by decide))
                  have k74_3 : (z74 0 34).toInt = (z60 0 34).toInt := congrArg Int32.toInt (qt_ne hz74 34 (by decide))
                  obtain ⟨x75, e75⟩ : ∃ t : Int32, t = w60_3 + 1 := ⟨_, rfl⟩
                  refine lv_iinc (v := x75) (lv' := [(3, .int x75), (2, .int x59), (1, .int x2), (0, .ref (o + 0))]) hx hb dX11_endsPart_177 hl (k := 0) rfl (by rw [e75]; rfl) (by decide) rfl (fun ls hl => ?_)
                  have t75 : x75.toInt = w60_3.toInt + (1 : Int) := ga_add e75 rfl rfl (by omega) (by omega)
                  refine lv_goto (tgt := 136) hx hb dX11_endsPart_180 (by decide) ?_
                  exact ih60 x75 z74 y60 (show (7 - x75.toInt : Int) < (n60 : Int) from by omega) ⟨by omega, by omega⟩ J74 (show (z74 0 29).toInt = (z3 0 29).toInt from by omega) (show (z74 0 16).toInt = (z3 0 16).toInt from by omega) (show (z74 0 33).toInt = (z3 0 33).toInt from by omega) (show (z74 0 34).toInt = (z3 0 34).toInt from by omega) _ _ hP hS _ (lv_sub hl [0, 1, 2, 3] rfl)
                · have t70 : x69.toInt = (1 : Int) := gl_eq c70
                  refine lv_aload_n hx hb dX11_endsPart_158 rfl (lv_at hl 3 rfl) ?_
                  refine qf_get hx hb hts inX11 hown hK hP (q0 := 0) (by decide) (hgM_0 ca o) rfl 22 (by decide) wq_1015 (v := .ref (o + 15)) rfl dX11_endsPart_159 ?_
                  refine lv_iload_n hx hb dX11_endsPart_162 rfl (lv_at hl 0 rfl) ?_
                  refine qa_iald hx hb hK hP (q0 := 15) (by decide) 0 (N := 7) (hgM_15 ca o) rfl (gi_in (by omega) (by omega)) dX11_endsPart_163 ?_
                  refine lv_topi (fun x76 e76 => ?_)
                  refine lv_goto (tgt := 175) hx hb dX11_endsPart_164 (by decide) ?_
                  refine lv_imul hx hb dX11_endsPart_175 ?_
                  refine lv_topi (fun x77 e77 => ?_)
                  refine qa_iast2 hx hb hK hP hS qw_Ai (q0 := 14) (by decide) 0 (N := 49) (hgM_14 ca o) rfl (i := x68) (x := x77) (gi_in (by omega) (by omega)) dX11_endsPart_176 (fun z78 H locs hz78 hP hS => ?_)
                  have J78 := jM_14 J60 hz78
                  have k78_0 : (z78 0 29).toInt = (z60 0 29).toInt := congrArg Int32.toInt (qt_ne hz78 29 (by decide))
                  have k78_1 : (z78 0 16).toInt = (z60 0 16).toInt := congrArg Int32.toInt (qt_ne hz78 16 (by decide))
                  have k78_2 : (z78 0 33).toInt = (z60 0 33).toInt := congrArg Int32.toInt (qt_ne hz78 33 (by decide))
                  have k78_3 : (z78 0 34).toInt = (z60 0 34).toInt := congrArg Int32.toInt (qt_ne hz78 34 (by decide))
                  obtain ⟨x79, e79⟩ : ∃ t : Int32, t = w60_3 + 1 := ⟨_, rfl⟩
                  refine lv_iinc (v := x79) (lv' := [(3, .int x79), (2, .int x59), (1, .int x2), (0, .ref (o + 0))]) hx hb dX11_endsPart_177 hl (k := 0) rfl (by rw [e79]; rfl) (by decide) rfl (fun ls hl => ?_)
                  have t79 : x79.toInt = w60_3.toInt + (1 : Int) := ga_add e79 rfl rfl (by omega) (by omega)
                  refine lv_goto (tgt := 136) hx hb dX11_endsPart_180 (by decide) ?_
                  exact ih60 x79 z78 y60 (show (7 - x79.toInt : Int) < (n60 : Int) from by omega) ⟨by omega, by omega⟩ J78 (show (z78 0 29).toInt = (z3 0 29).toInt from by omega) (show (z78 0 16).toInt = (z3 0 16).toInt from by omega) (show (z78 0 33).toInt = (z3 0 33).toInt from by omega) (show (z78 0 34).toInt = (z3 0 34).toInt from by omega) _ _ hP hS _ (lv_sub hl [0, 1, 2, 3] rfl)
          exact loop60 8 0 z3 y (show (7 - (0 : Int) : Int) < ((8 : Nat) : Int) from by omega) ⟨by decide, by decide⟩ J3 (show (z3 0 29).toInt = (z3 0 29).toInt from by omega) (show (z3 0 16).toInt = (z3 0 16).toInt from by omega) (show (z3 0 33).toInt = (z3 0 33).toInt from by omega) (show (z3 0 34).toInt = (z3 0 34).toInt from by omega) _ _ hP hS _ (lv_sub hl [0, 1, 2, 3] rfl)
        · have t58 : x57.toInt = (1 : Int) := gl_eq c58
          refine lv_aload_n hx hb dX11_endsPart_114 rfl (lv_at hl 1 rfl) ?_
          refine qf_get hx hb hts inX11 hown hK hP (q0 := 0) (by decide) (hgM_0 ca o) rfl 21 (by decide) wq_1014 (v := .ref (o + 14)) rfl dX11_endsPart_115 ?_
          refine lv_iload_n hx hb dX11_endsPart_118 rfl (lv_at hl 0 rfl) ?_
          refine lv_bipush (v := 6) hx hb dX11_endsPart_119 (by decide) ?_
          refine lv_iadd hx hb dX11_endsPart_121 ?_
          refine lv_topi (fun x80 e80 => ?_)
          have t80 : x80.toInt = x2.toInt + (6 : Int) := ga_add e80 rfl rfl (by omega) (by omega)
          refine qa_iald hx hb hK hP (q0 := 14) (by decide) 0 (N := 49) (hgM_14 ca o) rfl (gi_in (by omega) (by omega)) dX11_endsPart_122 ?_
          refine lv_topi (fun x81 e81 => ?_)
          refine lv_goto (tgt := 133) hx hb dX11_endsPart_123 (by decide) ?_
          refine lv_istore_n (lv' := [(2, .int x81), (1, .int x2), (0, .ref (o + 0))]) hx hb dX11_endsPart_133 rfl hl (by decide) rfl (fun ls hl => ?_)
          refine lv_iconst (v := 0) hx hb dX11_endsPart_134 (by decide) ?_
          refine lv_istore_n (lv' := [(3, .int 0), (2, .int x81), (1, .int x2), (0, .ref (o + 0))]) hx hb dX11_endsPart_135 rfl hl (by decide) rfl (fun ls hl => ?_)
          have loop82 : ∀ (n : Nat) (w82_3 : Int32) (z82 : Nat → Nat → Int32) (y82 : Nat → Nat → Int64), ((7 - w82_3.toInt : Int) < (n : Int)) → ((0 : Int) ≤ w82_3.toInt ∧ w82_3.toInt ≤ 7) → (qJM b z82) → ((z82 0 29).toInt = (z3 0 29).toInt) → ((z82 0 16).toInt = (z3 0 16).toInt) → ((z82 0 33).toInt = (z3 0 33).toInt) → ((z82 0 34).toInt = (z3 0 34).toInt) → ∀ (H : Heap) (locs : List Loc), qw_P D vwCl o 41 (qG (GM ca o) z82 y82) H → va_S (qw_A o 41) s.heap H locs → ∀ (ls : Array Slot), lv_has ls 4 [(3, .int w82_3), (2, .int x81), (1, .int x2), (0, .ref (o + 0))] → W p l e (headSpec (Cond.code yX11_endsPart cX11_endsPart 4 (some .boolean) :: qtbl) ({ frames := 2, cells := 0, slots := 0, locals := 82 })).room s m (([.ref (o + 0)] : List Value).toArray) below meth c H locs 0 0 (MQ below (va_Qi (fun r u => ((r = 1) ∨ (r = 0)) ∧ qJM b u.1 ∧ ((u.1 0 16).toInt = (z 0 16).toInt) ∧ ((u.1 0 33).toInt = (z 0 33).toInt) ∧ ((u.1 0 34).toInt = (z 0 34).toInt)) (qB D vwCl (qT6 ca) o 41 (fun u : qZ => qG (GM ca o) u.1 u.2)) (qw_A o 41)) (([.ref (o + 0)] : List Value).toArray) s 0 0 (qw_A o 41)) (F0 m 136 ls []) := by
            intro n
            induction n with
            | zero => intro w82_3 z82 y82 hb82 hv82_3 J82 v82_0 v82_1 v82_2 v82_3; exfalso; omega
            | succ n82 ih82 =>
              intro w82_3 z82 y82 hb82 hv82_3 J82 v82_0 v82_1 v82_2 v82_3 H locs hP hS ls hl
              refine lv_iload_n hx hb dX11_endsPart_136 rfl (lv_at hl 0 rfl) ?_
              refine lv_bipush (v := 7) hx hb dX11_endsPart_137 (by decide) ?_
              refine lv_icmp_ge (tgt := 183) hx hb dX11_endsPart_139 (by decide) (fun c83 => ?_) (fun c83 => ?_)
              · have t83 : w82_3.toInt ≥ (7 : Int) := gl_le c83
                refine lv_aload_n hx hb dX11_endsPart_183 rfl (lv_at hl 3 rfl) ?_
                refine qf_get hx hb hts inX11 hown hK hP (q0 := 0) (by decide) (hgM_0 ca o) rfl 24 (by decide) wq_1017 (v := .ref (o + 17)) rfl dX11_endsPart_184 ?_
                refine lv_aload_n hx hb dX11_endsPart_187 rfl (lv_at hl 3 rfl) ?_
                refine qf_get hx hb hts inX11 hown hK hP (q0 := 0) (by decide) (hgM_0 ca o) rfl 29 (by decide) wq_1022 (v := .int (z82 0 29)) rfl dX11_endsPart_188 ?_
                refine lv_topi (fun x84 e84 => ?_)
                have b84 := iM_0_29 J82 e84
                have k84 : x84.toInt = (z82 0 29).toInt := congrArg Int32.toInt e84
                refine lv_aload_n hx hb dX11_endsPart_191 rfl (lv_at hl 3 rfl) ?_
                refine qf_get hx hb hts inX11 hown hK hP (q0 := 0) (by decide) (hgM_0 ca o) rfl 24 (by decide) wq_1017 (v := .ref (o + 17)) rfl dX11_endsPart_192 ?_
                refine lv_aload_n hx hb dX11_endsPart_195 rfl (lv_at hl 3 rfl) ?_
                refine qf_get hx hb hts inX11 hown hK hP (q0 := 0) (by decide) (hgM_0 ca o) rfl 29 (by decide) wq_1022 (v := .int (z82 0 29)) rfl dX11_endsPart_196 ?_
                refine lv_topi (fun x85 e85 => ?_)
                have b85 := iM_0_29 J82 e85
                have k85 : x85.toInt = (z82 0 29).toInt := congrArg Int32.toInt e85
                have ag85 : x85.toInt = x84.toInt := congrArg Int32.toInt (e85.trans e84.symm)
                refine qa_iald hx hb hK hP (q0 := 17) (by decide) 0 (N := 7) (hgM_17 ca o) rfl (gi_in (by omega) (by omega)) dX11_endsPart_199 ?_
                refine lv_topi (fun x86 e86 => ?_)
                refine lv_aload_n hx hb dX11_endsPart_200 rfl (lv_at hl 3 rfl) ?_
                refine qf_get hx hb hts inX11 hown hK hP (q0 := 0) (by decide) (hgM_0 ca o) rfl 30 (by decide) wq_1023 (v := .int (z82 0 30)) rfl dX11_endsPart_201 ?_
                refine lv_topi (fun x87 e87 => ?_)
                refine qc_Sip (As := [.int x86, .int x87]) (rest := [.int x84, .ref (o + 17)]) (k0 := 2) (m_max l D ca o b z82 y82 J82 x86 x87) kc_yX11_max ⟨hx, hb, hml, hown, hts⟩ wq_1273 rfl rfl ⟨Nat.le_of_ble_eq_true rfl, Nat.le_of_ble_eq_true rfl⟩ wq_all hP hK hS qw_Ai rfl hl.1 rfl (Nat.le_of_ble_eq_true rfl) dX11_endsPart_204 ⟨Nat.zero_le _, Nat.zero_le _⟩ (fun r88 H locs h88 hP hS _ _ => ?_)
                have p88_1 : r88.toInt = max x86.toInt x87.toInt := h88.2
                refine qa_iast2 hx hb hK hP hS qw_Ai (q0 := 17) (by decide) 0 (N := 7) (hgM_17 ca o) rfl (i := x84) (x := r88) (gi_in (by omega) (by omega)) dX11_endsPart_207 (fun z89 H locs hz89 hP hS => ?_)
                have J89 := jM_17 J82 hz89
                have k89_0 : (z89 0 29).toInt = (z82 0 29).toInt := congrArg Int32.toInt (qt_ne hz89 29 (by decide))
                have k89_1 : (z89 0 16).toInt = (z82 0 16).toInt := congrArg Int32.toInt (qt_ne hz89 16 (by decide))
                have k89_2 : (z89 0 33).toInt = (z82 0 33).toInt := congrArg Int32.toInt (qt_ne hz89 33 (by decide))
                have k89_3 : (z89 0 34).toInt = (z82 0 34).toInt := congrArg Int32.toInt (qt_ne hz89 34 (by decide))
                refine lv_iconst (v := 1) hx hb dX11_endsPart_208 (by decide) ?_
                exact W.zret (v := 1) (ty := .boolean) hx hb hr rfl (fun t ht hW => ⟨⟨1, (z89, y82), rfl, ⟨Or.inl rfl, J89, (show (z89 0 16).toInt = (z 0 16).toInt from by omega), (show (z89 0 33).toInt = (z 0 33).toInt from by omega), (show (z89 0 34).toInt = (z 0 34).toInt from by omega)⟩, by rw [ht]; exact hP, va_K.moved hW.alike hK⟩, hS.F ht⟩) hS.2.2 dX11_endsPart_209
              · have t83 : w82_3.toInt < (7 : Int) := gl_nle c83
                refine lv_aload_n hx hb dX11_endsPart_142 rfl (lv_at hl 3 rfl) ?_
                refine qf_get hx hb hts inX11 hown hK hP (q0 := 0) (by decide) (hgM_0 ca o) rfl 21 (by decide) wq_1014 (v := .ref (o + 14)) rfl dX11_endsPart_143 ?_
                refine lv_iload_n hx hb dX11_endsPart_146 rfl (lv_at hl 2 rfl) ?_
                refine lv_iload_n hx hb dX11_endsPart_147 rfl (lv_at hl 0 rfl) ?_
                refine lv_iadd hx hb dX11_endsPart_148 ?_
                refine lv_topi (fun x90 e90 => ?_)
                have t90 : x90.toInt = x2.toInt + w82_3.toInt := ga_add e90 rfl rfl (by omega) (by omega)
                refine lv_iload_n hx hb dX11_endsPart_149 rfl (lv_at hl 1 rfl) ?_
                refine lv_aload_n hx hb dX11_endsPart_150 rfl (lv_at hl 3 rfl) ?_
                refine qf_get hx hb hts inX11 hown hK hP (q0 := 0) (by decide) (hgM_0 ca o) rfl 30 (by decide) wq_1023 (v := .int (z82 0 30)) rfl dX11_endsPart_151 ?_
                refine lv_topi (fun x91 e91 => ?_)
                refine lv_iconst (v := 1) hx hb dX11_endsPart_154 (by decide) ?_
                refine lv_icmp_ne (tgt := 167) hx hb dX11_endsPart_155 (by decide) (fun c92 => ?_) (fun c92 => ?_)
                · have t92 : x91.toInt ≠ (1 : Int) := gl_ne c92
                  refine lv_aload_n hx hb dX11_endsPart_167 rfl (lv_at hl 3 rfl) ?_
                  refine qf_get hx hb hts inX11 hown hK hP (q0 := 0) (by decide) (hgM_0 ca o) rfl 21 (by decide) wq_1014 (v := .ref (o + 14)) rfl dX11_endsPart_168 ?_
                  refine lv_iload_n hx hb dX11_endsPart_171 rfl (lv_at hl 2 rfl) ?_
                  refine lv_iload_n hx hb dX11_endsPart_172 rfl (lv_at hl 0 rfl) ?_
                  refine lv_iadd hx hb dX11_endsPart_173 ?_
                  refine lv_topi (fun x93 e93 => ?_)
                  have t93 : x93.toInt = x90.toInt := congrArg Int32.toInt (e93.trans e90.symm)
                  refine qa_iald hx hb hK hP (q0 := 14) (by decide) 0 (N := 49) (hgM_14 ca o) rfl (gi_in (by omega) (by omega)) dX11_endsPart_174 ?_
                  refine lv_topi (fun x94 e94 => ?_)
                  refine lv_imul hx hb dX11_endsPart_175 ?_
                  refine lv_topi (fun x95 e95 => ?_)
                  refine qa_iast2 hx hb hK hP hS qw_Ai (q0 := 14) (by decide) 0 (N := 49) (hgM_14 ca o) rfl (i := x90) (x := x95) (gi_in (by omega) (by omega)) dX11_endsPart_176 (fun z96 H locs hz96 hP hS => ?_)
                  have J96 := jM_14 J82 hz96
                  have k96_0 : (z96 0 29).toInt = (z82 0 29).toInt := congrArg Int32.toInt (qt_ne hz96 29 (by decide))
                  have k96_1 : (z96 0 16).toInt = (z82 0 16).toInt := congrArg Int32.toInt (qt_ne hz96 16 (by decide))
                  have k96_2 : (z96 0 33).toInt = (z82 0 33).toInt := congrArg Int32.toInt (qt_ne hz96 33 (by decide))
                  have k96_3 : (z96 0 34).toInt = (z82 0 34).toInt := congrArg Int32.toInt (qt_ne hz96 34 (by decide))
                  obtain ⟨x97, e97⟩ : ∃ t : Int32, t = w82_3 + 1 := ⟨_, rfl⟩
                  refine lv_iinc (v := x97) (lv' := [(3, .int x97), (2, .int x81), (1, .int x2), (0, .ref (o + 0))]) hx hb dX11_endsPart_177 hl (k := 0) rfl (by rw [e97]; rfl) (by decide) rfl (fun ls hl => ?_)
                  have t97 : x97.toInt = w82_3.toInt + (1 : Int) := ga_add e97 rfl rfl (by omega) (by omega)
                  refine lv_goto (tgt := 136) hx hb dX11_endsPart_180 (by decide) ?_
                  exact ih82 x97 z96 y82 (show (7 - x97.toInt : Int) < (n82 : Int) from by omega) ⟨by omega, by omega⟩ J96 (show (z96 0 29).toInt = (z3 0 29).toInt from by omega) (show (z96 0 16).toInt = (z3 0 16).toInt from by omega) (show (z96 0 33).toInt = (z3 0 33).toInt from by omega) (show (z96 0 34).toInt = (z3 0 34).toInt from by omega) _ _ hP hS _ (lv_sub hl [0, 1, 2, 3] rfl)
                · have t92 : x91.toInt = (1 : Int) := gl_eq c92
                  refine lv_aload_n hx hb dX11_endsPart_158 rfl (lv_at hl 3 rfl) ?_
                  refine qf_get hx hb hts inX11 hown hK hP (q0 := 0) (by decide) (hgM_0 ca o) rfl 22 (by decide) wq_1015 (v := .ref (o + 15)) rfl dX11_endsPart_159 ?_
                  refine lv_iload_n hx hb dX11_endsPart_162 rfl (lv_at hl 0 rfl) ?_
                  refine qa_iald hx hb hK hP (q0 := 15) (by decide) 0 (N := 7) (hgM_15 ca o) rfl (gi_in (by omega) (by omega)) dX11_endsPart_163 ?_
                  refine lv_topi (fun x98 e98 => ?_)
                  refine lv_goto (tgt := 175) hx hb dX11_endsPart_164 (by decide) ?_
                  refine lv_imul hx hb dX11_endsPart_175 ?_
                  refine lv_topi (fun x99 e99 => ?_)
                  refine qa_iast2 hx hb hK hP hS qw_Ai (q0 := 14) (by decide) 0 (N := 49) (hgM_14 ca o) rfl (i := x90) (x := x99) (gi_in (by omega) (by omega)) dX11_endsPart_176 (fun z100 H locs hz100 hP hS => ?_)
                  have J100 := jM_14 J82 hz100
                  have k100_0 : (z100 0 29).toInt = (z82 0 29).toInt := congrArg Int32.toInt (qt_ne hz100 29 (by decide))
                  have k100_1 : (z100 0 16).toInt = (z82 0 16).toInt := congrArg Int32.toInt (qt_ne hz100 16 (by decide))
                  have k100_2 : (z100 0 33).toInt = (z82 0 33).toInt := congrArg Int32.toInt (qt_ne hz100 33 (by decide))
                  have k100_3 : (z100 0 34).toInt = (z82 0 34).toInt := congrArg Int32.toInt (qt_ne hz100 34 (by decide))
                  obtain ⟨x101, e101⟩ : ∃ t : Int32, t = w82_3 + 1 := ⟨_, rfl⟩
                  refine lv_iinc (v := x101) (lv' := [(3, .int x101), (2, .int x81), (1, .int x2), (0, .ref (o + 0))]) hx hb dX11_endsPart_177 hl (k := 0) rfl (by rw [e101]; rfl) (by decide) rfl (fun ls hl => ?_)
                  have t101 : x101.toInt = w82_3.toInt + (1 : Int) := ga_add e101 rfl rfl (by omega) (by omega)
                  refine lv_goto (tgt := 136) hx hb dX11_endsPart_180 (by decide) ?_
                  exact ih82 x101 z100 y82 (show (7 - x101.toInt : Int) < (n82 : Int) from by omega) ⟨by omega, by omega⟩ J100 (show (z100 0 29).toInt = (z3 0 29).toInt from by omega) (show (z100 0 16).toInt = (z3 0 16).toInt from by omega) (show (z100 0 33).toInt = (z3 0 33).toInt from by omega) (show (z100 0 34).toInt = (z3 0 34).toInt from by omega) _ _ hP hS _ (lv_sub hl [0, 1, 2, 3] rfl)
          exact loop82 8 0 z3 y (show (7 - (0 : Int) : Int) < ((8 : Nat) : Int) from by omega) ⟨by decide, by decide⟩ J3 (show (z3 0 29).toInt = (z3 0 29).toInt from by omega) (show (z3 0 16).toInt = (z3 0 16).toInt from by omega) (show (z3 0 33).toInt = (z3 0 33).toInt from by omega) (show (z3 0 34).toInt = (z3 0 34).toInt from by omega) _ _ hP hS _ (lv_sub hl [0, 1, 2, 3] rfl)
      · have t56 : x55.toInt = (1 : Int) := gl_eq c56
        refine lv_aload_n hx hb dX11_endsPart_90 rfl (lv_at hl 1 rfl) ?_
        refine lv_bipush (v := 8) hx hb dX11_endsPart_91 (by decide) ?_
        refine lv_aload_n hx hb dX11_endsPart_93 rfl (lv_at hl 1 rfl) ?_
        refine qf_get hx hb hts inX11 hown hK hP (q0 := 0) (by decide) (hgM_0 ca o) rfl 26 (by decide) wq_1019 (v := .ref (o + 19)) rfl dX11_endsPart_94 ?_
        refine lv_aload_n hx hb dX11_endsPart_97 rfl (lv_at hl 1 rfl) ?_
        refine qf_get hx hb hts inX11 hown hK hP (q0 := 0) (by decide) (hgM_0 ca o) rfl 29 (by decide) wq_1022 (v := .int (z3 0 29)) rfl dX11_endsPart_98 ?_
        refine lv_topi (fun x102 e102 => ?_)
        have b102 := iM_0_29 J3 e102
        have k102 : x102.toInt = (z3 0 29).toInt := congrArg Int32.toInt e102
        have ag102 : x102.toInt = x4.toInt := congrArg Int32.toInt (e102.trans e4.symm)
        refine qa_iald hx hb hK hP (q0 := 19) (by decide) 0 (N := 7) (hgM_19 ca o) rfl (gi_in (by omega) (by omega)) dX11_endsPart_101 ?_
        refine lv_topi (fun x103 e103 => ?_)
        refine qc_Vi2 (As := [.int 8, .int x103]) (rest := []) (k0 := 2) (m_wrongAt l D ca o b z3 y J3 8 x103) kc_yX11_wrongAt ⟨hx, hb, hml, hown, hts⟩ wq_1249 rfl rfl ⟨Nat.le_of_ble_eq_true rfl, Nat.le_of_ble_eq_true rfl⟩ wq_all hP hK hS qw_Ai (q0 := 0) (by decide) (hgM_0 ca o _ _) rfl rfl hl.1 rfl (Nat.le_of_ble_eq_true rfl) dX11_endsPart_102 ⟨Nat.zero_le _, Nat.zero_le _⟩ (fun r104 z104 y104 H locs h104 hP hS _ _ => ?_)
        have J104 : qJM b z104 := h104.2.1
        have p104_5 : (z104 0 16).toInt = (z3 0 16).toInt := h104.2.2.2.2.2.1
        have p104_6 : (z104 0 29).toInt = (z3 0 29).toInt := h104.2.2.2.2.2.2.1
        have p104_7 : (z104 0 19).toInt = (z3 0 19).toInt := h104.2.2.2.2.2.2.2.1
        have p104_8 : (z104 0 33).toInt = (z3 0 33).toInt := h104.2.2.2.2.2.2.2.2.1
        have p104_9 : (z104 0 34).toInt = (z3 0 34).toInt := h104.2.2.2.2.2.2.2.2.2
        have b104 : (0 : Int) ≤ r104.toInt ∧ r104.toInt ≤ 0 := h104.1
        obtain rfl : r104 = 0 := lit_eq (k := 0) (K := 0) rfl (by omega) (by omega)
        exact W.zret (v := 0) (ty := .boolean) hx hb hr rfl (fun t ht hW => ⟨⟨0, (z104, y104), rfl, ⟨Or.inr rfl, J104, (show (z104 0 16).toInt = (z 0 16).toInt from by omega), (show (z104 0 33).toInt = (z 0 33).toInt from by omega), (show (z104 0 34).toInt = (z 0 34).toInt from by omega)⟩, by rw [ht]; exact hP, va_K.moved hW.alike hK⟩, hS.F ht⟩) hS.2.2 dX11_endsPart_105
  · have t6 : x5.toInt = (-1 : Int) := gl_eq c6
    refine lv_iconst (v := 0) hx hb dX11_endsPart_26 (by decide) ?_
    refine lv_istore_n (lv' := [(2, .int 0), (1, .int x2), (0, .ref (o + 0))]) hx hb dX11_endsPart_27 rfl hl (by decide) rfl (fun ls hl => ?_)
    have loop105 : ∀ (n : Nat) (w105_2 : Int32) (z105 : Nat → Nat → Int32) (y105 : Nat → Nat → Int64), ((7 - w105_2.toInt : Int) < (n : Int)) → ((0 : Int) ≤ w105_2.toInt ∧ w105_2.toInt ≤ 7) → (qJM b z105) → ((z105 0 29).toInt = (z3 0 29).toInt) → ((z105 0 16).toInt = (z3 0 16).toInt) → ((z105 0 33).toInt = (z3 0 33).toInt) → ((z105 0 34).toInt = (z3 0 34).toInt) → ∀ (H : Heap) (locs : List Loc), qw_P D vwCl o 41 (qG (GM ca o) z105 y105) H → va_S (qw_A o 41) s.heap H locs → ∀ (ls : Array Slot), lv_has ls 4 [(2, .int w105_2), (1, .int x2), (0, .ref (o + 0))] → W p l e (headSpec (Cond.code yX11_endsPart cX11_endsPart 4 (some .boolean) :: qtbl) ({ frames := 2, cells := 0, slots := 0, locals := 82 })).room s m (([.ref (o + 0)] : List Value).toArray) below meth c H locs 0 0 (MQ below (va_Qi (fun r u => ((r = 1) ∨ (r = 0)) ∧ qJM b u.1 ∧ ((u.1 0 16).toInt = (z 0 16).toInt) ∧ ((u.1 0 33).toInt = (z 0 33).toInt) ∧ ((u.1 0 34).toInt = (z 0 34).toInt)) (qB D vwCl (qT6 ca) o 41 (fun u : qZ => qG (GM ca o) u.1 u.2)) (qw_A o 41)) (([.ref (o + 0)] : List Value).toArray) s 0 0 (qw_A o 41)) (F0 m 28 ls []) := by
      intro n
      induction n with
      | zero => intro w105_2 z105 y105 hb105 hv105_2 J105 v105_0 v105_1 v105_2 v105_3; exfalso; omega
      | succ n105 ih105 =>
        intro w105_2 z105 y105 hb105 hv105_2 J105 v105_0 v105_1 v105_2 v105_3 H locs hP hS ls hl
        refine lv_iload_n hx hb dX11_endsPart_28 rfl (lv_at hl 0 rfl) ?_
        refine lv_bipush (v := 7) hx hb dX11_endsPart_29 (by decide) ?_
        refine lv_icmp_ge (tgt := 54) hx hb dX11_endsPart_31 (by decide) (fun c106 => ?_) (fun c106 => ?_)
        · have t106 : w105_2.toInt ≥ (7 : Int) := gl_le c106
          refine lv_aload_n hx hb dX11_endsPart_54 rfl (lv_at hl 2 rfl) ?_
          refine qf_get hx hb hts inX11 hown hK hP (q0 := 0) (by decide) (hgM_0 ca o) rfl 24 (by decide) wq_1017 (v := .ref (o + 17)) rfl dX11_endsPart_55 ?_
          refine lv_aload_n hx hb dX11_endsPart_58 rfl (lv_at hl 2 rfl) ?_
          refine qf_get hx hb hts inX11 hown hK hP (q0 := 0) (by decide) (hgM_0 ca o) rfl 29 (by decide) wq_1022 (v := .int (z105 0 29)) rfl dX11_endsPart_59 ?_
          refine lv_topi (fun x107 e107 => ?_)
          have b107 := iM_0_29 J105 e107
          have k107 : x107.toInt = (z105 0 29).toInt := congrArg Int32.toInt e107
          refine lv_aload_n hx hb dX11_endsPart_62 rfl (lv_at hl 2 rfl) ?_
          refine qf_get hx hb hts inX11 hown hK hP (q0 := 0) (by decide) (hgM_0 ca o) rfl 30 (by decide) wq_1023 (v := .int (z105 0 30)) rfl dX11_endsPart_63 ?_
          refine lv_topi (fun x108 e108 => ?_)
          refine qa_iast2 hx hb hK hP hS qw_Ai (q0 := 17) (by decide) 0 (N := 7) (hgM_17 ca o) rfl (i := x107) (x := x108) (gi_in (by omega) (by omega)) dX11_endsPart_66 (fun z109 H locs hz109 hP hS => ?_)
          have J109 := jM_17 J105 hz109
          have k109_0 : (z109 0 29).toInt = (z105 0 29).toInt := congrArg Int32.toInt (qt_ne hz109 29 (by decide))
          have k109_1 : (z109 0 16).toInt = (z105 0 16).toInt := congrArg Int32.toInt (qt_ne hz109 16 (by decide))
          have k109_2 : (z109 0 33).toInt = (z105 0 33).toInt := congrArg Int32.toInt (qt_ne hz109 33 (by decide))
          have k109_3 : (z109 0 34).toInt = (z105 0 34).toInt := congrArg Int32.toInt (qt_ne hz109 34 (by decide))
          refine lv_iconst (v := 1) hx hb dX11_endsPart_67 (by decide) ?_
          exact W.zret (v := 1) (ty := .boolean) hx hb hr rfl (fun t ht hW => ⟨⟨1, (z109, y105), rfl, ⟨Or.inl rfl, J109, (show (z109 0 16).toInt = (z 0 16).toInt from by omega), (show (z109 0 33).toInt = (z 0 33).toInt from by omega), (show (z109 0 34).toInt = (z 0 34).toInt from by omega)⟩, by rw [ht]; exact hP, va_K.moved hW.alike hK⟩, hS.F ht⟩) hS.2.2 dX11_endsPart_68
        · have t106 : w105_2.toInt < (7 : Int) := gl_nle c106
          refine lv_aload_n hx hb dX11_endsPart_34 rfl (lv_at hl 2 rfl) ?_
          refine qf_get hx hb hts inX11 hown hK hP (q0 := 0) (by decide) (hgM_0 ca o) rfl 21 (by decide) wq_1014 (v := .ref (o + 14)) rfl dX11_endsPart_35 ?_
          refine lv_iload_n hx hb dX11_endsPart_38 rfl (lv_at hl 1 rfl) ?_
          refine lv_iload_n hx hb dX11_endsPart_39 rfl (lv_at hl 0 rfl) ?_
          refine lv_iadd hx hb dX11_endsPart_40 ?_
          refine lv_topi (fun x110 e110 => ?_)
          have t110 : x110.toInt = x2.toInt + w105_2.toInt := ga_add e110 rfl rfl (by omega) (by omega)
          refine lv_aload_n hx hb dX11_endsPart_41 rfl (lv_at hl 2 rfl) ?_
          refine qf_get hx hb hts inX11 hown hK hP (q0 := 0) (by decide) (hgM_0 ca o) rfl 22 (by decide) wq_1015 (v := .ref (o + 15)) rfl dX11_endsPart_42 ?_
          refine lv_iload_n hx hb dX11_endsPart_45 rfl (lv_at hl 0 rfl) ?_
          refine qa_iald hx hb hK hP (q0 := 15) (by decide) 0 (N := 7) (hgM_15 ca o) rfl (gi_in (by omega) (by omega)) dX11_endsPart_46 ?_
          refine lv_topi (fun x111 e111 => ?_)
          refine qa_iast2 hx hb hK hP hS qw_Ai (q0 := 14) (by decide) 0 (N := 49) (hgM_14 ca o) rfl (i := x110) (x := x111) (gi_in (by omega) (by omega)) dX11_endsPart_47 (fun z112 H locs hz112 hP hS => ?_)
          have J112 := jM_14 J105 hz112
          have k112_0 : (z112 0 29).toInt = (z105 0 29).toInt := congrArg Int32.toInt (qt_ne hz112 29 (by decide))
          have k112_1 : (z112 0 16).toInt = (z105 0 16).toInt := congrArg Int32.toInt (qt_ne hz112 16 (by decide))
          have k112_2 : (z112 0 33).toInt = (z105 0 33).toInt := congrArg Int32.toInt (qt_ne hz112 33 (by decide))
          have k112_3 : (z112 0 34).toInt = (z105 0 34).toInt := congrArg Int32.toInt (qt_ne hz112 34 (by decide))
          obtain ⟨x113, e113⟩ : ∃ t : Int32, t = w105_2 + 1 := ⟨_, rfl⟩
          refine lv_iinc (v := x113) (lv' := [(2, .int x113), (1, .int x2), (0, .ref (o + 0))]) hx hb dX11_endsPart_48 hl (k := 0) rfl (by rw [e113]; rfl) (by decide) rfl (fun ls hl => ?_)
          have t113 : x113.toInt = w105_2.toInt + (1 : Int) := ga_add e113 rfl rfl (by omega) (by omega)
          refine lv_goto (tgt := 28) hx hb dX11_endsPart_51 (by decide) ?_
          exact ih105 x113 z112 y105 (show (7 - x113.toInt : Int) < (n105 : Int) from by omega) ⟨by omega, by omega⟩ J112 (show (z112 0 29).toInt = (z3 0 29).toInt from by omega) (show (z112 0 16).toInt = (z3 0 16).toInt from by omega) (show (z112 0 33).toInt = (z3 0 33).toInt from by omega) (show (z112 0 34).toInt = (z3 0 34).toInt from by omega) _ _ hP hS _ (lv_sub hl [0, 1, 2] rfl)
    exact loop105 8 0 z3 y (show (7 - (0 : Int) : Int) < ((8 : Nat) : Int) from by omega) ⟨by decide, by decide⟩ J3 (show (z3 0 29).toInt = (z3 0 29).toInt from by omega) (show (z3 0 16).toInt = (z3 0 16).toInt from by omega) (show (z3 0 33).toInt = (z3 0 33).toInt from by omega) (show (z3 0 34).toInt = (z3 0 34).toInt from by omega) _ _ hP hS _ (lv_sub hl [0, 1, 2] rfl)
