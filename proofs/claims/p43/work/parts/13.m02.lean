set_option maxRecDepth 100000 in
set_option maxHeartbeats 8000000 in
theorem m_readsText (l : Launch) (D : va_G) (ca : Nat → ClassId) (o : Nat) (b z : Nat → Nat → Int32) (y : Nat → Nat → Int64) (J0 : qJM b z) (a0 : Int32) (a1 : Int32) (ha0 : (1 : Int) ≤ a0.toInt ∧ a0.toInt ≤ 60) : qM l yX11_readsText cX11_readsText 4 (some .boolean) 8 213 (qPre D vwCl (qT6 ca) o 41 (qG (GM ca o) z y) [.ref (o + 0), .int a0, .int a1]) (va_Qi (fun r u => ((r = 1 ∧ (0 ≤ (u.1 0 33).toInt ∧ (u.1 0 33).toInt ≤ 3 ∧ ((u.1 0 33).toInt ≠ 3 ∨ (u.1 0 34).toInt ≠ 0))) ∨ (r = 0)) ∧ qJM b u.1) (qB D vwCl (qT6 ca) o 41 (fun u : qZ => qG (GM ca o) u.1 u.2)) (qw_A o 41)) (qw_A o 41) := by
  refine Met.ofW (cc := cX11_readsText) (maxL := 4) (ret := (some .boolean)) (by decide) rfl ?_
  intro p e s m args below meth c s₁ B hml hv
  obtain ⟨rfl, hP, hK⟩ := hv
  have hx := B.exec
  have hb := B.bytes
  have hr := B.returns
  have hts0 := atoms_spec (ws := Cond.code yX11_readsText cX11_readsText 4 (some .boolean) :: qtbl) B.pre
  have hts : ∀ w ∈ qtbl, w.before _ s = true := fun w h => hts0 w (List.mem_cons_of_mem _ h)
  have hown : s.vm.findClass RX11 = some m.cls := findClass_of_methodNamed B.named
  have hlocks := B.notSynchronized
  have hS : va_S (qw_A o 41) s.heap s.heap [] := va_S.rf
  have hl := lv_entry ([.ref (o + 0), .int a0, .int a1]) (n := 4) (Nat.le_of_ble_eq_true rfl)
  rw [lg_entry_eq]
  generalize (lg_sl ([.ref (o + 0), .int a0, .int a1]) ++ List.replicate (4 - (lg_sl ([.ref (o + 0), .int a0, .int a1])).length) Slot.unset).toArray = ls at hl ⊢
  have hl : lv_has ls 4 [(0, .ref (o + 0)), (1, .int a0), (2, .int a1)] := hl
  refine lv_aload_n hx hb dX11_readsText_0 rfl (lv_at hl 0 rfl) ?_
  refine lv_iconst (v := 0) hx hb dX11_readsText_1 (by decide) ?_
  refine qf_put2 hx hb hts inX11 tyX11 tyX11_ok nmX11 hown hK hP hS qw_Ai (q0 := 0) (by decide) (hgM_0 ca o) rfl 16 (by decide) wq_1009 rfl (x := 0) 16 rfl rfl rfl (Nat.le_of_ble_eq_true rfl) dX11_readsText_2 (fun z1 H locs hz1 hP hS => ?_)
  have J1 := jM_0_16 J0 hz1 ⟨by decide, by decide⟩
  have k1_0 : (z1 0 33).toInt = (z 0 33).toInt := congrArg Int32.toInt (qt_off hz1 (by decide))
  have k1_1 : (z1 0 34).toInt = (z 0 34).toInt := congrArg Int32.toInt (qt_off hz1 (by decide))
  refine lv_aload_n hx hb dX11_readsText_5 rfl (lv_at hl 0 rfl) ?_
  refine lv_iload_n hx hb dX11_readsText_6 rfl (lv_at hl 1 rfl) ?_
  refine qf_put2 hx hb hts inX11 tyX11 tyX11_ok nmX11 hown hK hP hS qw_Ai (q0 := 0) (by decide) (hgM_0 ca o) rfl 17 (by decide) wq_1010 rfl (x := a0) 17 rfl rfl rfl (Nat.le_of_ble_eq_true rfl) dX11_readsText_7 (fun z2 H locs hz2 hP hS => ?_)
  have J2 := jM_0_17 J1 hz2 ⟨by omega, by omega⟩
  have k2_0 : (z2 0 33).toInt = (z1 0 33).toInt := congrArg Int32.toInt (qt_off hz2 (by decide))
  have k2_1 : (z2 0 34).toInt = (z1 0 34).toInt := congrArg Int32.toInt (qt_off hz2 (by decide))
  refine lv_aload_n hx hb dX11_readsText_10 rfl (lv_at hl 0 rfl) ?_
  refine lv_iconst (v := 0) hx hb dX11_readsText_11 (by decide) ?_
  refine qf_put2 hx hb hts inX11 tyX11 tyX11_ok nmX11 hown hK hP hS qw_Ai (q0 := 0) (by decide) (hgM_0 ca o) rfl 33 (by decide) wq_1026 rfl (x := 0) 33 rfl rfl rfl (Nat.le_of_ble_eq_true rfl) dX11_readsText_12 (fun z3 H locs hz3 hP hS => ?_)
  have J3 := jM_0_33 J2 hz3
  have k3_0 : (z3 0 33).toInt = (0 : Int) := congrArg Int32.toInt (qt_at hz3)
  have k3_1 : (z3 0 34).toInt = (z2 0 34).toInt := congrArg Int32.toInt (qt_off hz3 (by decide))
  refine lv_aload_n hx hb dX11_readsText_15 rfl (lv_at hl 0 rfl) ?_
  refine lv_iconst (v := 0) hx hb dX11_readsText_16 (by decide) ?_
  refine qf_put2 hx hb hts inX11 tyX11 tyX11_ok nmX11 hown hK hP hS qw_Ai (q0 := 0) (by decide) (hgM_0 ca o) rfl 34 (by decide) wq_1027 rfl (x := 0) 34 rfl rfl rfl (Nat.le_of_ble_eq_true rfl) dX11_readsText_17 (fun z4 H locs hz4 hP hS => ?_)
  have J4 := jM_0_34 J3 hz4
  have k4_0 : (z4 0 33).toInt = (z3 0 33).toInt := congrArg Int32.toInt (qt_off hz4 (by decide))
  have k4_1 : (z4 0 34).toInt = (0 : Int) := congrArg Int32.toInt (qt_at hz4)
  refine lv_aload_n hx hb dX11_readsText_20 rfl (lv_at hl 0 rfl) ?_
  refine qc_Vi2 (As := []) (rest := []) (k0 := 0) (m_readsSide l D ca o b z4 y J4) kc_yX11_readsSide ⟨hx, hb, hml, hown, hts⟩ wq_1225 rfl rfl ⟨Nat.le_of_ble_eq_true rfl, Nat.le_of_ble_eq_true rfl⟩ wq_all hP hK hS qw_Ai (q0 := 0) (by decide) (hgM_0 ca o _ _) rfl rfl hl.1 rfl (Nat.le_of_ble_eq_true rfl) dX11_readsText_21 ⟨Nat.zero_le _, Nat.zero_le _⟩ (fun r5 z5 y5 H locs h5 hP hS _ _ => ?_)
  have J5 : qJM b z5 := h5.2.1
  have p5_2 : (z5 0 33).toInt = (z4 0 33).toInt := h5.2.2.1
  have p5_3 : (z5 0 34).toInt = (z4 0 34).toInt := h5.2.2.2
  have b5 : (0 : Int) ≤ r5.toInt ∧ r5.toInt ≤ 1 := h5.1
  refine lv_if_ne (tgt := 29) hx hb dX11_readsText_24 (by decide) (fun c6 => ?_) (fun c6 => ?_)
  · have t6 : r5.toInt ≠ (0 : Int) := gl_ne c6
    refine lv_iconst (v := 0) hx hb dX11_readsText_29 (by decide) ?_
    refine lv_istore_n (lv' := [(3, .int 0), (0, .ref (o + 0)), (1, .int a0), (2, .int a1)]) hx hb dX11_readsText_30 rfl hl (by decide) rfl (fun ls hl => ?_)
    have loop7 : ∀ (n : Nat) (w7_3 : Int32) (z7 : Nat → Nat → Int32) (y7 : Nat → Nat → Int64), ((7 - w7_3.toInt : Int) < (n : Int)) → ((0 : Int) ≤ w7_3.toInt ∧ w7_3.toInt ≤ 7) → (qJM b z7) → ((z7 0 33).toInt = (z5 0 33).toInt) → ((z7 0 34).toInt = (z5 0 34).toInt) → ∀ (H : Heap) (locs : List Loc), qw_P D vwCl o 41 (qG (GM ca o) z7 y7) H → va_S (qw_A o 41) s.heap H locs → ∀ (ls : Array Slot), lv_has ls 4 [(3, .int w7_3), (0, .ref (o + 0)), (1, .int a0), (2, .int a1)] → W p l e (headSpec (Cond.code yX11_readsText cX11_readsText 4 (some .boolean) :: qtbl) ({ frames := 8, cells := 0, slots := 0, locals := 213 })).room s m (([.ref (o + 0), .int a0, .int a1] : List Value).toArray) below meth c H locs 0 0 (MQ below (va_Qi (fun r u => ((r = 1 ∧ (0 ≤ (u.1 0 33).toInt ∧ (u.1 0 33).toInt ≤ 3 ∧ ((u.1 0 33).toInt ≠ 3 ∨ (u.1 0 34).toInt ≠ 0))) ∨ (r = 0)) ∧ qJM b u.1) (qB D vwCl (qT6 ca) o 41 (fun u : qZ => qG (GM ca o) u.1 u.2)) (qw_A o 41)) (([.ref (o + 0), .int a0, .int a1] : List Value).toArray) s 0 0 (qw_A o 41)) (F0 m 31 ls []) := by
      intro n
      induction n with
      | zero => intro w7_3 z7 y7 hb7 hv7_3 J7 v7_0 v7_1; exfalso; omega
      | succ n7 ih7 =>
        intro w7_3 z7 y7 hb7 hv7_3 J7 v7_0 v7_1 H locs hP hS ls hl
        refine lv_iload_n hx hb dX11_readsText_31 rfl (lv_at hl 0 rfl) ?_
        refine lv_bipush (v := 7) hx hb dX11_readsText_32 (by decide) ?_
        refine lv_icmp_ge (tgt := 55) hx hb dX11_readsText_34 (by decide) (fun c8 => ?_) (fun c8 => ?_)
        · have t8 : w7_3.toInt ≥ (7 : Int) := gl_le c8
          refine lv_iload_n hx hb dX11_readsText_55 rfl (lv_at hl 3 rfl) ?_
          refine lv_if_eq (tgt := 68) hx hb dX11_readsText_56 (by decide) (fun c9 => ?_) (fun c9 => ?_)
          · have t9 : a1.toInt = (0 : Int) := gl_eq c9
            refine lv_aload_n hx hb dX11_readsText_68 rfl (lv_at hl 1 rfl) ?_
            refine qf_get hx hb hts inX11 hown hK hP (q0 := 0) (by decide) (hgM_0 ca o) rfl 16 (by decide) wq_1009 (v := .int (z7 0 16)) rfl dX11_readsText_69 ?_
            refine lv_topi (fun x10 e10 => ?_)
            have b10 := iM_0_16 J7 e10
            refine lv_aload_n hx hb dX11_readsText_72 rfl (lv_at hl 1 rfl) ?_
            refine qf_get hx hb hts inX11 hown hK hP (q0 := 0) (by decide) (hgM_0 ca o) rfl 17 (by decide) wq_1010 (v := .int (z7 0 17)) rfl dX11_readsText_73 ?_
            refine lv_topi (fun x11 e11 => ?_)
            have b11 := iM_0_17 J7 e11
            refine lv_icmp_eq (tgt := 91) hx hb dX11_readsText_76 (by decide) (fun c12 => ?_) (fun c12 => ?_)
            · have t12 : x10.toInt = x11.toInt := gl_eq c12
              refine lv_iconst (v := 1) hx hb dX11_readsText_91 (by decide) ?_
              refine lv_goto (tgt := 96) hx hb dX11_readsText_92 (by decide) ?_
              exact W.zret (v := 1) (ty := .boolean) hx hb hr rfl (fun t ht hW => ⟨⟨1, (z7, y7), rfl, ⟨Or.inl ⟨rfl, (show 0 ≤ (z7 0 33).toInt ∧ (z7 0 33).toInt ≤ 3 ∧ ((z7 0 33).toInt ≠ 3 ∨ (z7 0 34).toInt ≠ 0) from by omega)⟩, J7⟩, by rw [ht]; exact hP, va_K.moved hW.alike hK⟩, hS.F ht⟩) hS.2.2 dX11_readsText_96
            · have t12 : x10.toInt ≠ x11.toInt := gl_ne c12
              refine lv_aload_n hx hb dX11_readsText_79 rfl (lv_at hl 1 rfl) ?_
              refine lv_iconst (v := 1) hx hb dX11_readsText_80 (by decide) ?_
              refine lv_aload_n hx hb dX11_readsText_81 rfl (lv_at hl 1 rfl) ?_
              refine qf_get hx hb hts inX11 hown hK hP (q0 := 0) (by decide) (hgM_0 ca o) rfl 16 (by decide) wq_1009 (v := .int (z7 0 16)) rfl dX11_readsText_82 ?_
              refine lv_topi (fun x13 e13 => ?_)
              have b13 := iM_0_16 J7 e13
              have ag13 : x13.toInt = x10.toInt := congrArg Int32.toInt (e13.trans e10.symm)
              refine qc_Vi2 (As := [.int 1, .int x13]) (rest := []) (k0 := 2) (m_wrongAt l D ca o b z7 y7 J7 1 x13) kc_yX11_wrongAt ⟨hx, hb, hml, hown, hts⟩ wq_1249 rfl rfl ⟨Nat.le_of_ble_eq_true rfl, Nat.le_of_ble_eq_true rfl⟩ wq_all hP hK hS qw_Ai (q0 := 0) (by decide) (hgM_0 ca o _ _) rfl rfl hl.1 rfl (Nat.le_of_ble_eq_true rfl) dX11_readsText_85 ⟨Nat.zero_le _, Nat.zero_le _⟩ (fun r14 z14 y14 H locs h14 hP hS _ _ => ?_)
              have J14 : qJM b z14 := h14.2.1
              have p14_5 : (z14 0 16).toInt = (z7 0 16).toInt := h14.2.2.2.2.2.1
              have p14_6 : (z14 0 29).toInt = (z7 0 29).toInt := h14.2.2.2.2.2.2.1
              have p14_7 : (z14 0 19).toInt = (z7 0 19).toInt := h14.2.2.2.2.2.2.2.1
              have p14_8 : (z14 0 33).toInt = (z7 0 33).toInt := h14.2.2.2.2.2.2.2.2.1
              have p14_9 : (z14 0 34).toInt = (z7 0 34).toInt := h14.2.2.2.2.2.2.2.2.2
              have b14 : (0 : Int) ≤ r14.toInt ∧ r14.toInt ≤ 0 := h14.1
              obtain rfl : r14 = 0 := lit_eq (k := 0) (K := 0) rfl (by omega) (by omega)
              refine lv_if_eq (tgt := 95) hx hb dX11_readsText_88 (by decide) (fun _ => ?_) (fun q => absurd (by decide) q)
              refine lv_iconst (v := 0) hx hb dX11_readsText_95 (by decide) ?_
              exact W.zret (v := 0) (ty := .boolean) hx hb hr rfl (fun t ht hW => ⟨⟨0, (z14, y14), rfl, ⟨Or.inr rfl, J14⟩, by rw [ht]; exact hP, va_K.moved hW.alike hK⟩, hS.F ht⟩) hS.2.2 dX11_readsText_96
          · have t9 : a1.toInt ≠ (0 : Int) := gl_ne c9
            refine lv_aload_n hx hb dX11_readsText_59 rfl (lv_at hl 1 rfl) ?_
            refine qc_Vi2 (As := []) (rest := []) (k0 := 0) (m_readsRight l D ca o b z7 y7 J7) kc_yX11_readsRight ⟨hx, hb, hml, hown, hts⟩ wq_1284 rfl rfl ⟨Nat.le_of_ble_eq_true rfl, Nat.le_of_ble_eq_true rfl⟩ wq_all hP hK hS qw_Ai (q0 := 0) (by decide) (hgM_0 ca o _ _) rfl rfl hl.1 rfl (Nat.le_of_ble_eq_true rfl) dX11_readsText_60 ⟨Nat.zero_le _, Nat.zero_le _⟩ (fun r15 z15 y15 H locs h15 hP hS _ _ => ?_)
            have J15 : qJM b z15 := h15.2
            rcases h15.1 with ⟨hr15, hf15_0⟩ | hr15
            · subst hr15
              have hg15_0 : 0 ≤ (z15 0 33).toInt ∧ (z15 0 33).toInt ≤ 3 ∧ ((z15 0 33).toInt ≠ 3 ∨ (z15 0 34).toInt ≠ 0) := hf15_0
              refine lv_if_ne (tgt := 68) hx hb dX11_readsText_63 (by decide) (fun _ => ?_) (fun q => absurd q (by decide))
              refine lv_aload_n hx hb dX11_readsText_68 rfl (lv_at hl 1 rfl) ?_
              refine qf_get hx hb hts inX11 hown hK hP (q0 := 0) (by decide) (hgM_0 ca o) rfl 16 (by decide) wq_1009 (v := .int (z15 0 16)) rfl dX11_readsText_69 ?_
              refine lv_topi (fun x16 e16 => ?_)
              have b16 := iM_0_16 J15 e16
              refine lv_aload_n hx hb dX11_readsText_72 rfl (lv_at hl 1 rfl) ?_
              refine qf_get hx hb hts inX11 hown hK hP (q0 := 0) (by decide) (hgM_0 ca o) rfl 17 (by decide) wq_1010 (v := .int (z15 0 17)) rfl dX11_readsText_73 ?_
              refine lv_topi (fun x17 e17 => ?_)
              have b17 := iM_0_17 J15 e17
              refine lv_icmp_eq (tgt := 91) hx hb dX11_readsText_76 (by decide) (fun c18 => ?_) (fun c18 => ?_)
              · have t18 : x16.toInt = x17.toInt := gl_eq c18
                refine lv_iconst (v := 1) hx hb dX11_readsText_91 (by decide) ?_
                refine lv_goto (tgt := 96) hx hb dX11_readsText_92 (by decide) ?_
                exact W.zret (v := 1) (ty := .boolean) hx hb hr rfl (fun t ht hW => ⟨⟨1, (z15, y15), rfl, ⟨Or.inl ⟨rfl, (show 0 ≤ (z15 0 33).toInt ∧ (z15 0 33).toInt ≤ 3 ∧ ((z15 0 33).toInt ≠ 3 ∨ (z15 0 34).toInt ≠ 0) from by omega)⟩, J15⟩, by rw [ht]; exact hP, va_K.moved hW.alike hK⟩, hS.F ht⟩) hS.2.2 dX11_readsText_96
              · have t18 : x16.toInt ≠ x17.toInt := gl_ne c18
                refine lv_aload_n hx hb dX11_readsText_79 rfl (lv_at hl 1 rfl) ?_
                refine lv_iconst (v := 1) hx hb dX11_readsText_80 (by decide) ?_
                refine lv_aload_n hx hb dX11_readsText_81 rfl (lv_at hl 1 rfl) ?_
                refine qf_get hx hb hts inX11 hown hK hP (q0 := 0) (by decide) (hgM_0 ca o) rfl 16 (by decide) wq_1009 (v := .int (z15 0 16)) rfl dX11_readsText_82 ?_
                refine lv_topi (fun x19 e19 => ?_)
                have b19 := iM_0_16 J15 e19
                have ag19 : x19.toInt = x16.toInt := congrArg Int32.toInt (e19.trans e16.symm)
                refine qc_Vi2 (As := [.int 1, .int x19]) (rest := []) (k0 := 2) (m_wrongAt l D ca o b z15 y15 J15 1 x19) kc_yX11_wrongAt ⟨hx, hb, hml, hown, hts⟩ wq_1249 rfl rfl ⟨Nat.le_of_ble_eq_true rfl, Nat.le_of_ble_eq_true rfl⟩ wq_all hP hK hS qw_Ai (q0 := 0) (by decide) (hgM_0 ca o _ _) rfl rfl hl.1 rfl (Nat.le_of_ble_eq_true rfl) dX11_readsText_85 ⟨Nat.zero_le _, Nat.zero_le _⟩ (fun r20 z20 y20 H locs h20 hP hS _ _ => ?_)
                have J20 : qJM b z20 := h20.2.1
                have p20_5 : (z20 0 16).toInt = (z15 0 16).toInt := h20.2.2.2.2.2.1
                have p20_6 : (z20 0 29).toInt = (z15 0 29).toInt := h20.2.2.2.2.2.2.1
                have p20_7 : (z20 0 19).toInt = (z15 0 19).toInt := h20.2.2.2.2.2.2.2.1
                have p20_8 : (z20 0 33).toInt = (z15 0 33).toInt := h20.2.2.2.2.2.2.2.2.1
                have p20_9 : (z20 0 34).toInt = (z15 0 34).toInt := h20.2.2.2.2.2.2.2.2.2
                have b20 : (0 : Int) ≤ r20.toInt ∧ r20.toInt ≤ 0 := h20.1
                obtain rfl : r20 = 0 := lit_eq (k := 0) (K := 0) rfl (by omega) (by omega)
                refine lv_if_eq (tgt := 95) hx hb dX11_readsText_88 (by decide) (fun _ => ?_) (fun q => absurd (by decide) q)
                refine lv_iconst (v := 0) hx hb dX11_readsText_95 (by decide) ?_
                exact W.zret (v := 0) (ty := .boolean) hx hb hr rfl (fun t ht hW => ⟨⟨0, (z20, y20), rfl, ⟨Or.inr rfl, J20⟩, by rw [ht]; exact hP, va_K.moved hW.alike hK⟩, hS.F ht⟩) hS.2.2 dX11_readsText_96
            · subst hr15
              refine lv_if_ne (tgt := 68) hx hb dX11_readsText_63 (by decide) (fun q => absurd q (by decide)) (fun _ => ?_)
              refine lv_iconst (v := 0) hx hb dX11_readsText_66 (by decide) ?_
              exact W.zret (v := 0) (ty := .boolean) hx hb hr rfl (fun t ht hW => ⟨⟨0, (z15, y15), rfl, ⟨Or.inr rfl, J15⟩, by rw [ht]; exact hP, va_K.moved hW.alike hK⟩, hS.F ht⟩) hS.2.2 dX11_readsText_67
        · have t8 : w7_3.toInt < (7 : Int) := gl_nle c8
          refine lv_aload_n hx hb dX11_readsText_37 rfl (lv_at hl 1 rfl) ?_
          refine qf_get hx hb hts inX11 hown hK hP (q0 := 0) (by decide) (hgM_0 ca o) rfl 32 (by decide) wq_1025 (v := .ref (o + 22)) rfl dX11_readsText_38 ?_
          refine lv_iload_n hx hb dX11_readsText_41 rfl (lv_at hl 0 rfl) ?_
          refine lv_aload_n hx hb dX11_readsText_42 rfl (lv_at hl 1 rfl) ?_
          refine qf_get hx hb hts inX11 hown hK hP (q0 := 0) (by decide) (hgM_0 ca o) rfl 20 (by decide) wq_1013 (v := .ref (o + 13)) rfl dX11_readsText_43 ?_
          refine lv_iload_n hx hb dX11_readsText_46 rfl (lv_at hl 0 rfl) ?_
          refine qa_iald hx hb hK hP (q0 := 13) (by decide) 0 (N := 49) (hgM_13 ca o) rfl (gi_in (by omega) (by omega)) dX11_readsText_47 ?_
          refine lv_topi (fun x21 e21 => ?_)
          refine qa_iast2 hx hb hK hP hS qw_Ai (q0 := 22) (by decide) 0 (N := 7) (hgM_22 ca o) rfl (i := w7_3) (x := x21) (gi_in (by omega) (by omega)) dX11_readsText_48 (fun z22 H locs hz22 hP hS => ?_)
          have J22 := jM_22 J7 hz22
          have k22_0 : (z22 0 33).toInt = (z7 0 33).toInt := congrArg Int32.toInt (qt_ne hz22 33 (by decide))
          have k22_1 : (z22 0 34).toInt = (z7 0 34).toInt := congrArg Int32.toInt (qt_ne hz22 34 (by decide))
          obtain ⟨x23, e23⟩ : ∃ t : Int32, t = w7_3 + 1 := ⟨_, rfl⟩
          refine lv_iinc (v := x23) (lv' := [(3, .int x23), (0, .ref (o + 0)), (1, .int a0), (2, .int a1)]) hx hb dX11_readsText_49 hl (k := 0) rfl (by rw [e23]; rfl) (by decide) rfl (fun ls hl => ?_)
          have t23 : x23.toInt = w7_3.toInt + (1 : Int) := ga_add e23 rfl rfl (by omega) (by omega)
          refine lv_goto (tgt := 31) hx hb dX11_readsText_52 (by decide) ?_
          exact ih7 x23 z22 y7 (show (7 - x23.toInt : Int) < (n7 : Int) from by omega) ⟨by omega, by omega⟩ J22 (show (z22 0 33).toInt = (z5 0 33).toInt from by omega) (show (z22 0 34).toInt = (z5 0 34).toInt from by omega) _ _ hP hS _ (lv_sub hl [0, 1, 2, 3] rfl)
    exact loop7 8 0 z5 y5 (show (7 - (0 : Int) : Int) < ((8 : Nat) : Int) from by omega) ⟨by decide, by decide⟩ J5 (show (z5 0 33).toInt = (z5 0 33).toInt from by omega) (show (z5 0 34).toInt = (z5 0 34).toInt from by omega) _ _ hP hS _ (lv_sub hl [0, 1, 2, 3] rfl)
  · have t6 : r5.toInt = (0 : Int) := gl_eq c6
    refine lv_iconst (v := 0) hx hb dX11_readsText_27 (by decide) ?_
    exact W.zret (v := 0) (ty := .boolean) hx hb hr rfl (fun t ht hW => ⟨⟨0, (z5, y5), rfl, ⟨Or.inr rfl, J5⟩, by rw [ht]; exact hP, va_K.moved hW.alike hK⟩, hS.F ht⟩) hS.2.2 dX11_readsText_28
set_option maxRecDepth 100000 in
set_option maxHeartbeats 8000000 in
theorem m_whoStands (l : Launch) (D : va_G) (ca : Nat → ClassId) (o : Nat) (b z : Nat → Nat → Int32) (y : Nat → Nat → Int64) (J0 : qJM b z)   : qM l yX11_whoStands cX11_whoStands 3 (some .int) 2 82 (qPre D vwCl (qT6 ca) o 41 (qG (GM ca o) z y) [.ref (o + 0)]) (va_Qi (fun r (_ : Unit) => True) (qB D vwCl (qT6 ca) o 41 (fun _ : Unit => qG (GM ca o) z y)) (qw_A o 41)) (qw_A o 41) := by
  refine Met.ofW (cc := cX11_whoStands) (maxL := 3) (ret := (some .int)) (by decide) rfl ?_
  intro p e s m args below meth c s₁ B hml hv
  obtain ⟨rfl, hP, hK⟩ := hv
  have hx := B.exec
  have hb := B.bytes
  have hr := B.returns
  have hts0 := atoms_spec (ws := Cond.code yX11_whoStands cX11_whoStands 3 (some .int) :: qtbl) B.pre
  have hts : ∀ w ∈ qtbl, w.before _ s = true := fun w h => hts0 w (List.mem_cons_of_mem _ h)
  have hown : s.vm.findClass RX11 = some m.cls := findClass_of_methodNamed B.named
  have hlocks := B.notSynchronized
  have hS : va_S (qw_A o 41) s.heap s.heap [] := va_S.rf
  have hl := lv_entry ([.ref (o + 0)]) (n := 3) (Nat.le_of_ble_eq_true rfl)
  rw [lg_entry_eq]
  generalize (lg_sl ([.ref (o + 0)]) ++ List.replicate (3 - (lg_sl ([.ref (o + 0)])).length) Slot.unset).toArray = ls at hl ⊢
  have hl : lv_has ls 3 [(0, .ref (o + 0))] := hl
  refine lv_iconst (v := 0) hx hb dX11_whoStands_0 (by decide) ?_
  refine lv_istore_n (lv' := [(1, .int 0), (0, .ref (o + 0))]) hx hb dX11_whoStands_1 rfl hl (by decide) rfl (fun ls hl => ?_)
  refine lv_iconst (v := 0) hx hb dX11_whoStands_2 (by decide) ?_
  refine lv_istore_n (lv' := [(2, .int 0), (1, .int 0), (0, .ref (o + 0))]) hx hb dX11_whoStands_3 rfl hl (by decide) rfl (fun ls hl => ?_)
  have loop1 : ∀ (n : Nat) (w1_2 : Int32) (w1_1 : Int32), ((260 - w1_2.toInt : Int) < (n : Int)) → ((0 : Int) ≤ w1_2.toInt ∧ w1_2.toInt ≤ 260) → ∀ (H : Heap) (locs : List Loc), qw_P D vwCl o 41 (qG (GM ca o) z y) H → va_S (qw_A o 41) s.heap H locs → ∀ (ls : Array Slot), lv_has ls 3 [(2, .int w1_2), (1, .int w1_1), (0, .ref (o + 0))] → W p l e (headSpec (Cond.code yX11_whoStands cX11_whoStands 3 (some .int) :: qtbl) ({ frames := 2, cells := 0, slots := 0, locals := 82 })).room s m (([.ref (o + 0)] : List Value).toArray) below meth c H locs 0 0 (MQ below (va_Qi (fun r (_ : Unit) => True) (qB D vwCl (qT6 ca) o 41 (fun _ : Unit => qG (GM ca o) z y)) (qw_A o 41)) (([.ref (o + 0)] : List Value).toArray) s 0 0 (qw_A o 41)) (F0 m 4 ls []) := by
    intro n
    induction n with
    | zero => intro w1_2 w1_1 hb1 hv1_2; exfalso; omega
    | succ n1 ih1 =>
      intro w1_2 w1_1 hb1 hv1_2 H locs hP hS ls hl
      refine lv_iload_n hx hb dX11_whoStands_4 rfl (lv_at hl 0 rfl) ?_
      refine lv_aload_n hx hb dX11_whoStands_5 rfl (lv_at hl 2 rfl) ?_
      refine qf_get hx hb hts inX11 hown hK hP (q0 := 0) (by decide) (hgM_0 ca o) rfl 17 (by decide) wq_1010 (v := .int (z 0 17)) rfl dX11_whoStands_6 ?_
      refine lv_topi (fun x2 e2 => ?_)
      have b2 := iM_0_17 J0 e2
      refine lv_icmp_ge (tgt := 46) hx hb dX11_whoStands_9 (by decide) (fun c3 => ?_) (fun c3 => ?_)
      · have t3 : w1_2.toInt ≥ x2.toInt := gl_le c3
        refine lv_iload_n hx hb dX11_whoStands_46 rfl (lv_at hl 1 rfl) ?_
        exact W.iret (v := w1_1) hx hb hr (fun t ht hW => ⟨⟨w1_1, (), rfl, trivial, by rw [ht]; exact hP, va_K.moved hW.alike hK⟩, hS.F ht⟩) hS.2.2 dX11_whoStands_47
      · have t3 : w1_2.toInt < x2.toInt := gl_nle c3
        refine lv_aload_n hx hb dX11_whoStands_12 rfl (lv_at hl 2 rfl) ?_
        refine lv_iload_n hx hb dX11_whoStands_13 rfl (lv_at hl 0 rfl) ?_
        refine qc_Vip (As := [.int w1_2]) (rest := []) (k0 := 1) (m_octet l D ca o b z y J0 w1_2 ⟨by omega, by omega⟩) kc_yX11_octet ⟨hx, hb, hml, hown, hts⟩ wq_1237 rfl rfl ⟨Nat.le_of_ble_eq_true rfl, Nat.le_of_ble_eq_true rfl⟩ wq_all hP hK hS qw_Ai (q0 := 0) (by decide) (hgM_0 ca o _ _) rfl rfl hl.1 rfl (Nat.le_of_ble_eq_true rfl) dX11_whoStands_14 ⟨Nat.zero_le _, Nat.zero_le _⟩ (fun r4 H locs h4 hP hS _ _ => ?_)
        have p4_1 : r4 = z 12 w1_2.toNatClampNeg &&& 255 := h4.2
        have b4 : (0 : Int) ≤ r4.toInt ∧ r4.toInt ≤ 255 := h4.1
        refine lv_bipush (v := 97) hx hb dX11_whoStands_17 (by decide) ?_
        refine lv_bipush (v := 102) hx hb dX11_whoStands_19 (by decide) ?_
        refine qc_Sip (As := [.int r4, .int 97, .int 102]) (rest := []) (k0 := 3) (m_in l D ca o b z y J0 r4 97 102) kc_yX11_in ⟨hx, hb, hml, hown, hts⟩ wq_1187 rfl rfl ⟨Nat.le_of_ble_eq_true rfl, Nat.le_of_ble_eq_true rfl⟩ wq_all hP hK hS qw_Ai rfl hl.1 rfl (Nat.le_of_ble_eq_true rfl) dX11_whoStands_21 ⟨Nat.zero_le _, Nat.zero_le _⟩ (fun r5 H locs h5 hP hS _ _ => ?_)
        rcases h5 with ⟨hr5, hf5_0⟩ | ⟨hr5, hf5_0⟩
        · subst hr5
          have hg5_0 : (97 : Int) ≤ r4.toInt ∧ r4.toInt ≤ (102 : Int) := hf5_0
          refine lv_if_eq (tgt := 40) hx hb dX11_whoStands_24 (by decide) (fun q => absurd q (by decide)) (fun _ => ?_)
          refine lv_iload_n hx hb dX11_whoStands_27 rfl (lv_at hl 1 rfl) ?_
          refine lv_iconst (v := 1) hx hb dX11_whoStands_28 (by decide) ?_
          refine lv_aload_n hx hb dX11_whoStands_29 rfl (lv_at hl 2 rfl) ?_
          refine lv_iload_n hx hb dX11_whoStands_30 rfl (lv_at hl 0 rfl) ?_
          refine qc_Vip (As := [.int w1_2]) (rest := [.int 1, .int w1_1]) (k0 := 1) (m_octet l D ca o b z y J0 w1_2 ⟨by omega, by omega⟩) kc_yX11_octet ⟨hx, hb, hml, hown, hts⟩ wq_1237 rfl rfl ⟨Nat.le_of_ble_eq_true rfl, Nat.le_of_ble_eq_true rfl⟩ wq_all hP hK hS qw_Ai (q0 := 0) (by decide) (hgM_0 ca o _ _) rfl rfl hl.1 rfl (Nat.le_of_ble_eq_true rfl) dX11_whoStands_31 ⟨Nat.zero_le _, Nat.zero_le _⟩ (fun r6 H locs h6 hP hS _ _ => ?_)
          have p6_1 : r6 = z 12 w1_2.toNatClampNeg &&& 255 := h6.2
          have b6 : (0 : Int) ≤ r6.toInt ∧ r6.toInt ≤ 255 := h6.1
          refine lv_bipush (v := 97) hx hb dX11_whoStands_34 (by decide) ?_
          refine lv_isub hx hb dX11_whoStands_36 ?_
          refine lv_topi (fun x7 e7 => ?_)
          have t7 : x7.toInt = r6.toInt - (97 : Int) := ga_sub e7 rfl rfl (by omega) (by omega)
          refine lv_ishl hx hb dX11_whoStands_37 ?_
          refine lv_topi (fun x8 e8 => ?_)
          refine lv_ior hx hb dX11_whoStands_38 ?_
          refine lv_topi (fun x9 e9 => ?_)
          refine lv_istore_n (lv' := [(1, .int x9), (2, .int w1_2), (0, .ref (o + 0))]) hx hb dX11_whoStands_39 rfl hl (by decide) rfl (fun ls hl => ?_)
          obtain ⟨x10, e10⟩ : ∃ t : Int32, t = w1_2 + 1 := ⟨_, rfl⟩
          refine lv_iinc (v := x10) (lv' := [(2, .int x10), (1, .int x9), (0, .ref (o + 0))]) hx hb dX11_whoStands_40 hl (k := 1) rfl (by rw [e10]; rfl) (by decide) rfl (fun ls hl => ?_)
          have t10 : x10.toInt = w1_2.toInt + (1 : Int) := ga_add e10 rfl rfl (by omega) (by omega)
          refine lv_goto (tgt := 4) hx hb dX11_whoStands_43 (by decide) ?_
          exact ih1 x10 x9 (show (260 - x10.toInt : Int) < (n1 : Int) from by omega) ⟨by omega, by omega⟩ _ _ hP hS _ (lv_sub hl [0, 1, 2] rfl)
        · subst hr5
          have hg5_0 : ¬ ((97 : Int) ≤ r4.toInt ∧ r4.toInt ≤ (102 : Int)) := hf5_0
          refine lv_if_eq (tgt := 40) hx hb dX11_whoStands_24 (by decide) (fun _ => ?_) (fun q => absurd (by decide) q)
          obtain ⟨x11, e11⟩ : ∃ t : Int32, t = w1_2 + 1 := ⟨_, rfl⟩
          refine lv_iinc (v := x11) (lv' := [(2, .int x11), (1, .int w1_1), (0, .ref (o + 0))]) hx hb dX11_whoStands_40 hl (k := 0) rfl (by rw [e11]; rfl) (by decide) rfl (fun ls hl => ?_)
          have t11 : x11.toInt = w1_2.toInt + (1 : Int) := ga_add e11 rfl rfl (by omega) (by omega)
          refine lv_goto (tgt := 4) hx hb dX11_whoStands_43 (by decide) ?_
          exact ih1 x11 w1_1 (show (260 - x11.toInt : Int) < (n1 : Int) from by omega) ⟨by omega, by omega⟩ _ _ hP hS _ (lv_sub hl [0, 1, 2] rfl)
  exact loop1 261 0 0 (show (260 - (0 : Int) : Int) < ((261 : Nat) : Int) from by omega) ⟨by decide, by decide⟩ _ _ hP hS _ (lv_sub hl [0, 1, 2] rfl)
set_option maxRecDepth 100000 in
set_option maxHeartbeats 8000000 in
theorem m_sinceOf (l : Launch) (D : va_G) (ca : Nat → ClassId) (o : Nat) (b z : Nat → Nat → Int32) (y : Nat → Nat → Int64) (J0 : qJM b z) (a0 : Int32) (ha0 : (0 : Int) ≤ a0.toInt ∧ a0.toInt ≤ 5) : qM l yX11_sinceOf cX11_sinceOf 2 (some .int) 1 60 (qPre D vwCl (qT6 ca) o 41 (qG (GM ca o) z y) [.ref (o + 0), .int a0]) (va_Qi (fun r (_ : Unit) => True) (qB D vwCl (qT6 ca) o 41 (fun _ : Unit => qG (GM ca o) z y)) (qw_A o 41)) (qw_A o 41) := by
  refine Met.ofW (cc := cX11_sinceOf) (maxL := 2) (ret := (some .int)) (by decide) rfl ?_
  intro p e s m args below meth c s₁ B hml hv
  obtain ⟨rfl, hP, hK⟩ := hv
  have hx := B.exec
  have hb := B.bytes
  have hr := B.returns
  have hts0 := atoms_spec (ws := Cond.code yX11_sinceOf cX11_sinceOf 2 (some .int) :: qtbl) B.pre
  have hts : ∀ w ∈ qtbl, w.before _ s = true := fun w h => hts0 w (List.mem_cons_of_mem _ h)
  have hown : s.vm.findClass RX11 = some m.cls := findClass_of_methodNamed B.named
  have hlocks := B.notSynchronized
  have hS : va_S (qw_A o 41) s.heap s.heap [] := va_S.rf
  have hl := lv_entry ([.ref (o + 0), .int a0]) (n := 2) (Nat.le_of_ble_eq_true rfl)
  rw [lg_entry_eq]
  generalize (lg_sl ([.ref (o + 0), .int a0]) ++ List.replicate (2 - (lg_sl ([.ref (o + 0), .int a0])).length) Slot.unset).toArray = ls at hl ⊢
  have hl : lv_has ls 2 [(0, .ref (o + 0)), (1, .int a0)] := hl
  refine lv_aload_n hx hb dX11_sinceOf_0 rfl (lv_at hl 0 rfl) ?_
  refine qf_get hx hb hts inX11 hown hK hP (q0 := 0) (by decide) (hgM_0 ca o) rfl 2 (by decide) wq_995 (v := .ref (o + 3)) rfl dX11_sinceOf_1 ?_
  refine lv_iload_n hx hb dX11_sinceOf_4 rfl (lv_at hl 1 rfl) ?_
  refine qa_iald hx hb hK hP (q0 := 3) (by decide) 0 (N := 6) (hgM_3 ca o) rfl (gi_in (by omega) (by omega)) dX11_sinceOf_5 ?_
  refine lv_topi (fun x1 e1 => ?_)
  refine lv_aload_n hx hb dX11_sinceOf_6 rfl (lv_at hl 0 rfl) ?_
  refine qf_get hx hb hts inX11 hown hK hP (q0 := 0) (by decide) (hgM_0 ca o) rfl 5 (by decide) wq_998 (v := .int (z 0 5)) rfl dX11_sinceOf_7 ?_
  refine lv_topi (fun x2 e2 => ?_)
  have b2 := iM_0_5 J0 e2
  refine lv_icmp_ge (tgt := 22) hx hb dX11_sinceOf_10 (by decide) (fun c3 => ?_) (fun c3 => ?_)
  · have t3 : x1.toInt ≥ x2.toInt := gl_le c3
    refine lv_aload_n hx hb dX11_sinceOf_22 rfl (lv_at hl 0 rfl) ?_
    refine qf_get hx hb hts inX11 hown hK hP (q0 := 0) (by decide) (hgM_0 ca o) rfl 5 (by decide) wq_998 (v := .int (z 0 5)) rfl dX11_sinceOf_23 ?_
    refine lv_topi (fun x4 e4 => ?_)
    have b4 := iM_0_5 J0 e4
    have ag4 : x4.toInt = x2.toInt := congrArg Int32.toInt (e4.trans e2.symm)
    exact W.iret (v := x4) hx hb hr (fun t ht hW => ⟨⟨x4, (), rfl, trivial, by rw [ht]; exact hP, va_K.moved hW.alike hK⟩, hS.F ht⟩) hS.2.2 dX11_sinceOf_26
  · have t3 : x1.toInt < x2.toInt := gl_nle c3
    refine lv_aload_n hx hb dX11_sinceOf_13 rfl (lv_at hl 0 rfl) ?_
    refine qf_get hx hb hts inX11 hown hK hP (q0 := 0) (by decide) (hgM_0 ca o) rfl 2 (by decide) wq_995 (v := .ref (o + 3)) rfl dX11_sinceOf_14 ?_
    refine lv_iload_n hx hb dX11_sinceOf_17 rfl (lv_at hl 1 rfl) ?_
    refine qa_iald hx hb hK hP (q0 := 3) (by decide) 0 (N := 6) (hgM_3 ca o) rfl (gi_in (by omega) (by omega)) dX11_sinceOf_18 ?_
    refine lv_topi (fun x5 e5 => ?_)
    have ag5 : x5.toInt = x1.toInt := congrArg Int32.toInt (e5.trans e1.symm)
    refine lv_goto (tgt := 26) hx hb dX11_sinceOf_19 (by decide) ?_
    exact W.iret (v := x5) hx hb hr (fun t ht hW => ⟨⟨x5, (), rfl, trivial, by rw [ht]; exact hP, va_K.moved hW.alike hK⟩, hS.F ht⟩) hS.2.2 dX11_sinceOf_26
set_option maxRecDepth 100000 in
set_option maxHeartbeats 8000000 in
theorem m_bits (l : Launch) (D : va_G) (ca : Nat → ClassId) (o : Nat) (b z : Nat → Nat → Int32) (y : Nat → Nat → Int64) (J0 : qJM b z) (a0 : Int32)  : qM l yX11_bits cX11_bits 3 (some .int) 1 60 (qPre D vwCl (qT6 ca) o 41 (qG (GM ca o) z y) [.int a0]) (va_Qi (fun r (_ : Unit) => True ∧ (r = bsum a0 16)) (qB D vwCl (qT6 ca) o 41 (fun _ : Unit => qG (GM ca o) z y)) (qw_A o 41)) (qw_A o 41) := by
  refine Met.ofW (cc := cX11_bits) (maxL := 3) (ret := (some .int)) (by decide) rfl ?_
  intro p e s m args below meth c s₁ B hml hv
  obtain ⟨rfl, hP, hK⟩ := hv
  have hx := B.exec
  have hb := B.bytes
  have hr := B.returns
  have hts0 := atoms_spec (ws := Cond.code yX11_bits cX11_bits 3 (some .int) :: qtbl) B.pre
  have hts : ∀ w ∈ qtbl, w.before _ s = true := fun w h => hts0 w (List.mem_cons_of_mem _ h)
  have hown : s.vm.findClass RX11 = some m.cls := findClass_of_methodNamed B.named
  have hlocks := B.notSynchronized
  have hS : va_S (qw_A o 41) s.heap s.heap [] := va_S.rf
  have hl := lv_entry ([.int a0]) (n := 3) (Nat.le_of_ble_eq_true rfl)
  rw [lg_entry_eq]
  generalize (lg_sl ([.int a0]) ++ List.replicate (3 - (lg_sl ([.int a0])).length) Slot.unset).toArray = ls at hl ⊢
  have hl : lv_has ls 3 [(0, .int a0)] := hl
  refine lv_iconst (v := 0) hx hb dX11_bits_0 (by decide) ?_
  refine lv_istore_n (lv' := [(1, .int 0), (0, .int a0)]) hx hb dX11_bits_1 rfl hl (by decide) rfl (fun ls hl => ?_)
  refine lv_iconst (v := 0) hx hb dX11_bits_2 (by decide) ?_
  refine lv_istore_n (lv' := [(2, .int 0), (1, .int 0), (0, .int a0)]) hx hb dX11_bits_3 rfl hl (by decide) rfl (fun ls hl => ?_)
  have loop1 : ∀ (n : Nat) (w1_2 : Int32) (w1_1 : Int32), ((16 - w1_2.toInt : Int) < (n : Int)) → ((0 : Int) ≤ w1_2.toInt ∧ w1_2.toInt ≤ 16) → (w1_1 = bsum a0 w1_2.toNatClampNeg) → ∀ (H : Heap) (locs : List Loc), qw_P D vwCl o 41 (qG (GM ca o) z y) H → va_S (qw_A o 41) s.heap H locs → ∀ (ls : Array Slot), lv_has ls 3 [(2, .int w1_2), (1, .int w1_1), (0, .int a0)] → W p l e (headSpec (Cond.code yX11_bits cX11_bits 3 (some .int) :: qtbl) ({ frames := 1, cells := 0, slots := 0, locals := 60 })).room s m (([.int a0] : List Value).toArray) below meth c H locs 0 0 (MQ below (va_Qi (fun r (_ : Unit) => True ∧ (r = bsum a0 16)) (qB D vwCl (qT6 ca) o 41 (fun _ : Unit => qG (GM ca o) z y)) (qw_A o 41)) (([.int a0] : List Value).toArray) s 0 0 (qw_A o 41)) (F0 m 4 ls []) := by
    intro n
    induction n with
    | zero => intro w1_2 w1_1 hb1 hv1_2 v1_0; exfalso; omega
    | succ n1 ih1 =>
      intro w1_2 w1_1 hb1 hv1_2 v1_0 H locs hP hS ls hl
      have vb1 := v1_0
      refine lv_iload_n hx hb dX11_bits_4 rfl (lv_at hl 0 rfl) ?_
      refine lv_bipush (v := 16) hx hb dX11_bits_5 (by decide) ?_
      refine lv_icmp_ge (tgt := 24) hx hb dX11_bits_7 (by decide) (fun c2 => ?_) (fun c2 => ?_)
      · have t2 : w1_2.toInt ≥ (16 : Int) := gl_le c2
        refine lv_iload_n hx hb dX11_bits_24 rfl (lv_at hl 1 rfl) ?_
        exact W.iret (v := w1_1) hx hb hr (fun t ht hW => ⟨⟨w1_1, (), rfl, ⟨trivial, (by rw [vb1]; congr 1; show _ = (16 : Int).toNat; show w1_2.toInt.toNat = _; congr 1; omega)⟩, by rw [ht]; exact hP, va_K.moved hW.alike hK⟩, hS.F ht⟩) hS.2.2 dX11_bits_25
      · have t2 : w1_2.toInt < (16 : Int) := gl_nle c2
        refine lv_iload_n hx hb dX11_bits_10 rfl (lv_at hl 1 rfl) ?_
        refine lv_iload_n hx hb dX11_bits_11 rfl (lv_at hl 2 rfl) ?_
        refine lv_iload_n hx hb dX11_bits_12 rfl (lv_at hl 0 rfl) ?_
        refine lv_ishr hx hb dX11_bits_13 ?_
        refine lv_topi (fun x3 e3 => ?_)
        refine lv_iconst (v := 1) hx hb dX11_bits_14 (by decide) ?_
        refine lv_iand hx hb dX11_bits_15 ?_
        refine lv_topi (fun x4 e4 => ?_)
        have t4 : 0 ≤ x4.toInt ∧ x4.toInt ≤ (1 : Int) := ga_and e4 rfl (by omega)
        refine lv_iadd hx hb dX11_bits_16 ?_
        refine lv_topi (fun x5 e5 => ?_)
        refine lv_istore_n (lv' := [(1, .int x5), (2, .int w1_2), (0, .int a0)]) hx hb dX11_bits_17 rfl hl (by decide) rfl (fun ls hl => ?_)
        obtain ⟨x6, e6⟩ : ∃ t : Int32, t = w1_2 + 1 := ⟨_, rfl⟩
        refine lv_iinc (v := x6) (lv' := [(2, .int x6), (1, .int x5), (0, .int a0)]) hx hb dX11_bits_18 hl (k := 1) rfl (by rw [e6]; rfl) (by decide) rfl (fun ls hl => ?_)
        have t6 : x6.toInt = w1_2.toInt + (1 : Int) := ga_add e6 rfl rfl (by omega) (by omega)
        refine lv_goto (tgt := 4) hx hb dX11_bits_21 (by decide) ?_
        exact ih1 x6 x5 (show (16 - x6.toInt : Int) < (n1 : Int) from by omega) ⟨by omega, by omega⟩ (by rw [gn_succ (x := w1_2) (by omega) (by omega)]; rw [e5, e4, e3, vb1]; show _ = bsum a0 _ + bitAt a0 (nI _); rw [gn_nI (by omega)]; rfl) _ _ hP hS _ (lv_sub hl [0, 1, 2] rfl)
  exact loop1 17 0 0 (show (16 - (0 : Int) : Int) < ((17 : Nat) : Int) from by omega) ⟨by decide, by decide⟩ (rfl) _ _ hP hS _ (lv_sub hl [0, 1, 2] rfl)
set_option maxRecDepth 100000 in
set_option maxHeartbeats 8000000 in
theorem m_textOf (l : Launch) (D : va_G) (ca : Nat → ClassId) (o : Nat) (b z : Nat → Nat → Int32) (y : Nat → Nat → Int64) (J0 : qJM b z) (a0 : Int32) (a1 : Int32) (a2 : Int32) (ha0 : (0 : Int) ≤ a0.toInt ∧ a0.toInt ≤ 15) : qM l yX11_textOf cX11_textOf 7 (some .int) 9 236 (qPre D vwCl (qT6 ca) o 41 (qG (GM ca o) z y) [.ref (o + 0), .int a0, .int a1, .int a2]) (va_Qi (fun r u => True ∧ qJM b u.1) (qB D vwCl (qT6 ca) o 41 (fun u : qZ => qG (GM ca o) u.1 u.2)) (qw_A o 41)) (qw_A o 41) := by
  refine Met.ofW (cc := cX11_textOf) (maxL := 7) (ret := (some .int)) (by decide) rfl ?_
  intro p e s m args below meth c s₁ B hml hv
  obtain ⟨rfl, hP, hK⟩ := hv
  have hx := B.exec
  have hb := B.bytes
  have hr := B.returns
  have hts0 := atoms_spec (ws := Cond.code yX11_textOf cX11_textOf 7 (some .int) :: qtbl) B.pre
  have hts : ∀ w ∈ qtbl, w.before _ s = true := fun w h => hts0 w (List.mem_cons_of_mem _ h)
  have hown : s.vm.findClass RX11 = some m.cls := findClass_of_methodNamed B.named
  have hlocks := B.notSynchronized
  have hS : va_S (qw_A o 41) s.heap s.heap [] := va_S.rf
  have hl := lv_entry ([.ref (o + 0), .int a0, .int a1, .int a2]) (n := 7) (Nat.le_of_ble_eq_true rfl)
  rw [lg_entry_eq]
  generalize (lg_sl ([.ref (o + 0), .int a0, .int a1, .int a2]) ++ List.replicate (7 - (lg_sl ([.ref (o + 0), .int a0, .int a1, .int a2])).length) Slot.unset).toArray = ls at hl ⊢
  have hl : lv_has ls 7 [(0, .ref (o + 0)), (1, .int a0), (2, .int a1), (3, .int a2)] := hl
  refine lv_iload_n hx hb dX11_textOf_0 rfl (lv_at hl 2 rfl) ?_
  refine lv_iconst (v := 1) hx hb dX11_textOf_1 (by decide) ?_
  refine lv_bipush (v := 60) hx hb dX11_textOf_2 (by decide) ?_
  refine qc_Sip (As := [.int a1, .int 1, .int 60]) (rest := []) (k0 := 3) (m_in l D ca o b z y J0 a1 1 60) kc_yX11_in ⟨hx, hb, hml, hown, hts⟩ wq_1187 rfl rfl ⟨Nat.le_of_ble_eq_true rfl, Nat.le_of_ble_eq_true rfl⟩ wq_all hP hK hS qw_Ai rfl hl.1 rfl (Nat.le_of_ble_eq_true rfl) dX11_textOf_4 ⟨Nat.zero_le _, Nat.zero_le _⟩ (fun r1 H locs h1 hP hS _ _ => ?_)
  rcases h1 with ⟨hr1, hf1_0⟩ | ⟨hr1, hf1_0⟩
  · subst hr1
    have hg1_0 : (1 : Int) ≤ a1.toInt ∧ a1.toInt ≤ (60 : Int) := hf1_0
    refine lv_if_eq (tgt := 18) hx hb dX11_textOf_7 (by decide) (fun q => absurd q (by decide)) (fun _ => ?_)
    refine lv_iload_n hx hb dX11_textOf_10 rfl (lv_at hl 2 rfl) ?_
    refine lv_aload_n hx hb dX11_textOf_11 rfl (lv_at hl 0 rfl) ?_
    refine qf_get hx hb hts inX11 hown hK hP (q0 := 0) (by decide) (hgM_0 ca o) rfl 15 (by decide) wq_1008 (v := .int (z 0 15)) rfl dX11_textOf_12 ?_
    refine lv_topi (fun x2 e2 => ?_)
    have b2 := iM_0_15 J0 e2
    refine lv_icmp_le (tgt := 20) hx hb dX11_textOf_15 (by decide) (fun c3 => ?_) (fun c3 => ?_)
    · have t3 : a1.toInt ≤ x2.toInt := gl_le c3
      refine lv_aload_n hx hb dX11_textOf_20 rfl (lv_at hl 0 rfl) ?_
      refine lv_iload_n hx hb dX11_textOf_21 rfl (lv_at hl 2 rfl) ?_
      refine lv_iload_n hx hb dX11_textOf_22 rfl (lv_at hl 3 rfl) ?_
      refine qc_Vi2 (As := [.int a1, .int a2]) (rest := []) (k0 := 2) (m_readsText l D ca o b z y J0 a1 a2 ⟨by omega, by omega⟩) kc_yX11_readsText ⟨hx, hb, hml, hown, hts⟩ wq_1221 rfl rfl ⟨Nat.le_of_ble_eq_true rfl, Nat.le_of_ble_eq_true rfl⟩ wq_all hP hK hS qw_Ai (q0 := 0) (by decide) (hgM_0 ca o _ _) rfl rfl hl.1 rfl (Nat.le_of_ble_eq_true rfl) dX11_textOf_23 ⟨Nat.zero_le _, Nat.zero_le _⟩ (fun r4 z4 y4 H locs h4 hP hS _ _ => ?_)
      have J4 : qJM b z4 := h4.2
      rcases h4.1 with ⟨hr4, hf4_0⟩ | hr4
      · subst hr4
        have hg4_0 : 0 ≤ (z4 0 33).toInt ∧ (z4 0 33).toInt ≤ 3 ∧ ((z4 0 33).toInt ≠ 3 ∨ (z4 0 34).toInt ≠ 0) := hf4_0
        refine lv_istore (lv' := [(4, .int 1), (0, .ref (o + 0)), (1, .int a0), (2, .int a1), (3, .int a2)]) hx hb dX11_textOf_26 hl (by decide) rfl (fun ls hl => ?_)
        refine lv_aload_n hx hb dX11_textOf_28 rfl (lv_at hl 1 rfl) ?_
        refine qc_Vip (As := []) (rest := []) (k0 := 0) (m_whoStands l D ca o b z4 y4 J4) kc_yX11_whoStands ⟨hx, hb, hml, hown, hts⟩ wq_1288 rfl rfl ⟨Nat.le_of_ble_eq_true rfl, Nat.le_of_ble_eq_true rfl⟩ wq_all hP hK hS qw_Ai (q0 := 0) (by decide) (hgM_0 ca o _ _) rfl rfl hl.1 rfl (Nat.le_of_ble_eq_true rfl) dX11_textOf_29 ⟨Nat.zero_le _, Nat.zero_le _⟩ (fun r5 H locs h5 hP hS _ _ => ?_)
        refine lv_istore (lv' := [(5, .int r5), (4, .int 1), (0, .ref (o + 0)), (1, .int a0), (2, .int a1), (3, .int a2)]) hx hb dX11_textOf_32 hl (by decide) rfl (fun ls hl => ?_)
        refine lv_aload_n hx hb dX11_textOf_34 rfl (lv_at hl 2 rfl) ?_
        refine lv_iconst (v := 0) hx hb dX11_textOf_35 (by decide) ?_
        refine qf_put2 hx hb hts inX11 tyX11 tyX11_ok nmX11 hown hK hP hS qw_Ai (q0 := 0) (by decide) (hgM_0 ca o) rfl 15 (by decide) wq_1008 rfl (x := 0) 15 rfl rfl rfl (Nat.le_of_ble_eq_true rfl) dX11_textOf_36 (fun z6 H locs hz6 hP hS => ?_)
        have J6 := jM_0_15 J4 hz6 ⟨by decide, by decide⟩
        have k6_0 : (z6 0 33).toInt = (z4 0 33).toInt := congrArg Int32.toInt (qt_off hz6 (by decide))
        have k6_1 : (z6 0 34).toInt = (z4 0 34).toInt := congrArg Int32.toInt (qt_off hz6 (by decide))
        refine lv_iload hx hb dX11_textOf_39 (lv_at hl 1 rfl) ?_
        refine lv_if_ne (tgt := 49) hx hb dX11_textOf_41 (by decide) (fun _ => ?_) (fun q => absurd q (by decide))
        refine lv_aload_n hx hb dX11_textOf_49 rfl (lv_at hl 2 rfl) ?_
        refine lv_aload_n hx hb dX11_textOf_50 rfl (lv_at hl 2 rfl) ?_
        refine qf_get hx hb hts inX11 hown hK hP (q0 := 0) (by decide) (hgM_0 ca o) rfl 6 (by decide) wq_999 (v := .int (z6 0 6)) rfl dX11_textOf_51 ?_
        refine lv_topi (fun x7 e7 => ?_)
        refine lv_iconst (v := 1) hx hb dX11_textOf_54 (by decide) ?_
        refine lv_iload_n hx hb dX11_textOf_55 rfl (lv_at hl 3 rfl) ?_
        refine lv_ishl hx hb dX11_textOf_56 ?_
        refine lv_topi (fun x8 e8 => ?_)
        have t8 : 1 ≤ x8.toInt ∧ x8.toInt ≤ 32768 := ga_shl 15 32768 e8 (by decide) (by decide) (by omega) (by omega)
        refine lv_ior hx hb dX11_textOf_57 ?_
        refine lv_topi (fun x9 e9 => ?_)
        refine qf_put2 hx hb hts inX11 tyX11 tyX11_ok nmX11 hown hK hP hS qw_Ai (q0 := 0) (by decide) (hgM_0 ca o) rfl 6 (by decide) wq_999 rfl (x := x9) 6 rfl rfl rfl (Nat.le_of_ble_eq_true rfl) dX11_textOf_58 (fun z10 H locs hz10 hP hS => ?_)
        have J10 := jM_0_6 J6 hz10
        have k10_0 : (z10 0 33).toInt = (z6 0 33).toInt := congrArg Int32.toInt (qt_off hz10 (by decide))
        have k10_1 : (z10 0 34).toInt = (z6 0 34).toInt := congrArg Int32.toInt (qt_off hz10 (by decide))
        refine lv_aload_n hx hb dX11_textOf_61 rfl (lv_at hl 2 rfl) ?_
        refine qf_get hx hb hts inX11 hown hK hP (q0 := 0) (by decide) (hgM_0 ca o) rfl 8 (by decide) wq_1001 (v := .ref (o + 6)) rfl dX11_textOf_62 ?_
        refine lv_iload_n hx hb dX11_textOf_65 rfl (lv_at hl 3 rfl) ?_
        refine lv_aload_n hx hb dX11_textOf_66 rfl (lv_at hl 2 rfl) ?_
        refine qf_get hx hb hts inX11 hown hK hP (q0 := 0) (by decide) (hgM_0 ca o) rfl 32 (by decide) wq_1025 (v := .ref (o + 22)) rfl dX11_textOf_67 ?_
        refine lv_bipush (v := 6) hx hb dX11_textOf_70 (by decide) ?_
        refine qa_iald hx hb hK hP (q0 := 22) (by decide) 0 (N := 7) (hgM_22 ca o) rfl (gi_in (by decide) (by decide)) dX11_textOf_72 ?_
        refine lv_topi (fun x11 e11 => ?_)
        refine qa_iast2 hx hb hK hP hS qw_Ai (q0 := 6) (by decide) 0 (N := 16) (hgM_6 ca o) rfl (i := a0) (x := x11) (gi_in (by omega) (by omega)) dX11_textOf_73 (fun z12 H locs hz12 hP hS => ?_)
        have J12 := jM_6 J10 hz12
        have k12_0 : (z12 0 33).toInt = (z10 0 33).toInt := congrArg Int32.toInt (qt_ne hz12 33 (by decide))
        have k12_1 : (z12 0 34).toInt = (z10 0 34).toInt := congrArg Int32.toInt (qt_ne hz12 34 (by decide))
        refine lv_aload_n hx hb dX11_textOf_74 rfl (lv_at hl 2 rfl) ?_
        refine qf_get hx hb hts inX11 hown hK hP (q0 := 0) (by decide) (hgM_0 ca o) rfl 9 (by decide) wq_1002 (v := .ref (o + 7)) rfl dX11_textOf_75 ?_
        refine lv_iload_n hx hb dX11_textOf_78 rfl (lv_at hl 3 rfl) ?_
        refine lv_aload_n hx hb dX11_textOf_79 rfl (lv_at hl 2 rfl) ?_
        refine qf_get hx hb hts inX11 hown hK hP (q0 := 0) (by decide) (hgM_0 ca o) rfl 32 (by decide) wq_1025 (v := .ref (o + 22)) rfl dX11_textOf_80 ?_
        refine lv_bipush (v := 6) hx hb dX11_textOf_83 (by decide) ?_
        refine qa_iald hx hb hK hP (q0 := 22) (by decide) 0 (N := 7) (hgM_22 ca o) rfl (gi_in (by decide) (by decide)) dX11_textOf_85 ?_
        refine lv_topi (fun x13 e13 => ?_)
        refine qa_iast2 hx hb hK hP hS qw_Ai (q0 := 7) (by decide) 0 (N := 16) (hgM_7 ca o) rfl (i := a0) (x := x13) (gi_in (by omega) (by omega)) dX11_textOf_86 (fun z14 H locs hz14 hP hS => ?_)
        have J14 := jM_7 J12 hz14
        have k14_0 : (z14 0 33).toInt = (z12 0 33).toInt := congrArg Int32.toInt (qt_ne hz14 33 (by decide))
        have k14_1 : (z14 0 34).toInt = (z12 0 34).toInt := congrArg Int32.toInt (qt_ne hz14 34 (by decide))
        refine lv_iconst (v := 0) hx hb dX11_textOf_87 (by decide) ?_
        refine lv_istore (lv' := [(6, .int 0), (5, .int r5), (4, .int 1), (0, .ref (o + 0)), (1, .int a0), (2, .int a1), (3, .int a2)]) hx hb dX11_textOf_88 hl (by decide) rfl (fun ls hl => ?_)
        have loop15 : ∀ (n : Nat) (w15_6 : Int32) (z15 : Nat → Nat → Int32) (y15 : Nat → Nat → Int64), ((6 - w15_6.toInt : Int) < (n : Int)) → ((0 : Int) ≤ w15_6.toInt ∧ w15_6.toInt ≤ 6) → (qJM b z15) → ((z15 0 33).toInt = (z14 0 33).toInt) → ((z15 0 34).toInt = (z14 0 34).toInt) → ∀ (H : Heap) (locs : List Loc), qw_P D vwCl o 41 (qG (GM ca o) z15 y15) H → va_S (qw_A o 41) s.heap H locs → ∀ (ls : Array Slot), lv_has ls 7 [(6, .int w15_6), (5, .int r5), (4, .int 1), (0, .ref (o + 0)), (1, .int a0), (2, .int a1), (3, .int a2)] → W p l e (headSpec (Cond.code yX11_textOf cX11_textOf 7 (some .int) :: qtbl) ({ frames := 9, cells := 0, slots := 0, locals := 236 })).room s m (([.ref (o + 0), .int a0, .int a1, .int a2] : List Value).toArray) below meth c H locs 0 0 (MQ below (va_Qi (fun r u => True ∧ qJM b u.1) (qB D vwCl (qT6 ca) o 41 (fun u : qZ => qG (GM ca o) u.1 u.2)) (qw_A o 41)) (([.ref (o + 0), .int a0, .int a1, .int a2] : List Value).toArray) s 0 0 (qw_A o 41)) (F0 m 90 ls []) := by
          intro n
          induction n with
          | zero => intro w15_6 z15 y15 hb15 hv15_6 J15 v15_0 v15_1; exfalso; omega
          | succ n15 ih15 =>
            intro w15_6 z15 y15 hb15 hv15_6 J15 v15_0 v15_1 H locs hP hS ls hl
            refine lv_iload hx hb dX11_textOf_90 (lv_at hl 0 rfl) ?_
            refine lv_bipush (v := 6) hx hb dX11_textOf_92 (by decide) ?_
            refine lv_icmp_ge (tgt := 149) hx hb dX11_textOf_94 (by decide) (fun c16 => ?_) (fun c16 => ?_)
            · have t16 : w15_6.toInt ≥ (6 : Int) := gl_le c16
              refine lv_aload_n hx hb dX11_textOf_149 rfl (lv_at hl 3 rfl) ?_
              refine qf_get hx hb hts inX11 hown hK hP (q0 := 0) (by decide) (hgM_0 ca o) rfl 10 (by decide) wq_1003 (v := .ref (o + 8)) rfl dX11_textOf_150 ?_
              refine lv_iload_n hx hb dX11_textOf_153 rfl (lv_at hl 4 rfl) ?_
              refine lv_aload_n hx hb dX11_textOf_154 rfl (lv_at hl 3 rfl) ?_
              refine qf_get hx hb hts inX11 hown hK hP (q0 := 0) (by decide) (hgM_0 ca o) rfl 33 (by decide) wq_1026 (v := .int (z15 0 33)) rfl dX11_textOf_155 ?_
              refine lv_topi (fun x17 e17 => ?_)
              have k17 : x17.toInt = (z15 0 33).toInt := congrArg Int32.toInt e17
              refine qa_iast2 hx hb hK hP hS qw_Ai (q0 := 8) (by decide) 0 (N := 16) (hgM_8 ca o) rfl (i := a0) (x := x17) (gi_in (by omega) (by omega)) dX11_textOf_158 (fun z18 H locs hz18 hP hS => ?_)
              have k18_0 : (z18 0 33).toInt = (z15 0 33).toInt := congrArg Int32.toInt (qt_ne hz18 33 (by decide))
              have k18_1 : (z18 0 34).toInt = (z15 0 34).toInt := congrArg Int32.toInt (qt_ne hz18 34 (by decide))
              refine lv_aload_n hx hb dX11_textOf_159 rfl (lv_at hl 3 rfl) ?_
              refine qf_get hx hb hts inX11 hown hK hP (q0 := 0) (by decide) (hgM_0 ca o) rfl 11 (by decide) wq_1004 (v := .ref (o + 9)) rfl dX11_textOf_160 ?_
              refine lv_iload_n hx hb dX11_textOf_163 rfl (lv_at hl 4 rfl) ?_
              refine lv_aload_n hx hb dX11_textOf_164 rfl (lv_at hl 3 rfl) ?_
              refine qf_get hx hb hts inX11 hown hK hP (q0 := 0) (by decide) (hgM_0 ca o) rfl 34 (by decide) wq_1027 (v := .int (z18 0 34)) rfl dX11_textOf_165 ?_
              refine lv_topi (fun x19 e19 => ?_)
              have k19 : x19.toInt = (z18 0 34).toInt := congrArg Int32.toInt e19
              refine qa_iast2 hx hb hK hP hS qw_Ai (q0 := 9) (by decide) 0 (N := 16) (hgM_9 ca o) rfl (i := a0) (x := x19) (gi_in (by omega) (by omega)) dX11_textOf_168 (fun z20 H locs hz20 hP hS => ?_)
              have J20 := jM_sr J15 hz18 hz20 ⟨by omega, by omega⟩ (by omega)
              have k20_0 : (z20 0 33).toInt = (z18 0 33).toInt := congrArg Int32.toInt (qt_ne hz20 33 (by decide))
              have k20_1 : (z20 0 34).toInt = (z18 0 34).toInt := congrArg Int32.toInt (qt_ne hz20 34 (by decide))
              refine lv_aload_n hx hb dX11_textOf_169 rfl (lv_at hl 3 rfl) ?_
              refine qf_get hx hb hts inX11 hown hK hP (q0 := 0) (by decide) (hgM_0 ca o) rfl 12 (by decide) wq_1005 (v := .ref (o + 10)) rfl dX11_textOf_170 ?_
              refine lv_iload_n hx hb dX11_textOf_173 rfl (lv_at hl 4 rfl) ?_
              refine lv_aload_n hx hb dX11_textOf_174 rfl (lv_at hl 3 rfl) ?_
              refine qf_get hx hb hts inX11 hown hK hP (q0 := 0) (by decide) (hgM_0 ca o) rfl 5 (by decide) wq_998 (v := .int (z20 0 5)) rfl dX11_textOf_175 ?_
              refine lv_topi (fun x21 e21 => ?_)
              have b21 := iM_0_5 J20 e21
              refine qa_iast2 hx hb hK hP hS qw_Ai (q0 := 10) (by decide) 0 (N := 16) (hgM_10 ca o) rfl (i := a0) (x := x21) (gi_in (by omega) (by omega)) dX11_textOf_178 (fun z22 H locs hz22 hP hS => ?_)
              have J22 := jM_10 J20 hz22
              have k22_0 : (z22 0 33).toInt = (z20 0 33).toInt := congrArg Int32.toInt (qt_ne hz22 33 (by decide))
              have k22_1 : (z22 0 34).toInt = (z20 0 34).toInt := congrArg Int32.toInt (qt_ne hz22 34 (by decide))
              refine lv_aload_n hx hb dX11_textOf_179 rfl (lv_at hl 3 rfl) ?_
              refine qf_get hx hb hts inX11 hown hK hP (q0 := 0) (by decide) (hgM_0 ca o) rfl 13 (by decide) wq_1006 (v := .ref (o + 11)) rfl dX11_textOf_180 ?_
              refine lv_iload_n hx hb dX11_textOf_183 rfl (lv_at hl 4 rfl) ?_
              refine lv_iload hx hb dX11_textOf_184 (lv_at hl 1 rfl) ?_
              refine qa_iast2 hx hb hK hP hS qw_Ai (q0 := 11) (by decide) 0 (N := 16) (hgM_11 ca o) rfl (i := a0) (x := r5) (gi_in (by omega) (by omega)) dX11_textOf_186 (fun z23 H locs hz23 hP hS => ?_)
              have J23 := jM_11 J22 hz23
              have k23_0 : (z23 0 33).toInt = (z22 0 33).toInt := congrArg Int32.toInt (qt_ne hz23 33 (by decide))
              have k23_1 : (z23 0 34).toInt = (z22 0 34).toInt := congrArg Int32.toInt (qt_ne hz23 34 (by decide))
              refine lv_iload hx hb dX11_textOf_187 (lv_at hl 1 rfl) ?_
              refine qc_Sip (As := [.int r5]) (rest := []) (k0 := 1) (m_bits l D ca o b z23 y15 J23 r5) kc_yX11_bits ⟨hx, hb, hml, hown, hts⟩ wq_1296 rfl rfl ⟨Nat.le_of_ble_eq_true rfl, Nat.le_of_ble_eq_true rfl⟩ wq_all hP hK hS qw_Ai rfl hl.1 rfl (Nat.le_of_ble_eq_true rfl) dX11_textOf_189 ⟨Nat.zero_le _, Nat.zero_le _⟩ (fun r24 H locs h24 hP hS _ _ => ?_)
              have p24_1 : r24 = bsum r5 16 := h24.2
              exact W.iret (v := r24) hx hb hr (fun t ht hW => ⟨⟨r24, (z23, y15), rfl, ⟨trivial, J23⟩, by rw [ht]; exact hP, va_K.moved hW.alike hK⟩, hS.F ht⟩) hS.2.2 dX11_textOf_192
            · have t16 : w15_6.toInt < (6 : Int) := gl_nle c16
              refine lv_aload_n hx hb dX11_textOf_97 rfl (lv_at hl 3 rfl) ?_
              refine qf_get hx hb hts inX11 hown hK hP (q0 := 0) (by decide) (hgM_0 ca o) rfl 7 (by decide) wq_1000 (v := .ref (o + 5)) rfl dX11_textOf_98 ?_
              refine lv_bipush (v := 6) hx hb dX11_textOf_101 (by decide) ?_
              refine lv_iload_n hx hb dX11_textOf_103 rfl (lv_at hl 4 rfl) ?_
              refine lv_imul hx hb dX11_textOf_104 ?_
              refine lv_topi (fun x25 e25 => ?_)
              have t25 : x25.toInt = (6 : Int) * a0.toInt := ga_mul e25 rfl rfl (by omega) (by omega)
              refine lv_iload hx hb dX11_textOf_105 (lv_at hl 0 rfl) ?_
              refine lv_iadd hx hb dX11_textOf_107 ?_
              refine lv_topi (fun x26 e26 => ?_)
              have t26 : x26.toInt = x25.toInt + w15_6.toInt := ga_add e26 rfl rfl (by omega) (by omega)
              refine lv_aload_n hx hb dX11_textOf_108 rfl (lv_at hl 3 rfl) ?_
              refine qf_get hx hb hts inX11 hown hK hP (q0 := 0) (by decide) (hgM_0 ca o) rfl 32 (by decide) wq_1025 (v := .ref (o + 22)) rfl dX11_textOf_109 ?_
              refine lv_iload hx hb dX11_textOf_112 (lv_at hl 0 rfl) ?_
              refine qa_iald hx hb hK hP (q0 := 22) (by decide) 0 (N := 7) (hgM_22 ca o) rfl (gi_in (by omega) (by omega)) dX11_textOf_114 ?_
              refine lv_topi (fun x27 e27 => ?_)
              refine qa_iast2 hx hb hK hP hS qw_Ai (q0 := 5) (by decide) 0 (N := 96) (hgM_5 ca o) rfl (i := x26) (x := x27) (gi_in (by omega) (by omega)) dX11_textOf_115 (fun z28 H locs hz28 hP hS => ?_)
              have J28 := jM_5 J15 hz28
              have k28_0 : (z28 0 33).toInt = (z15 0 33).toInt := congrArg Int32.toInt (qt_ne hz28 33 (by decide))
              have k28_1 : (z28 0 34).toInt = (z15 0 34).toInt := congrArg Int32.toInt (qt_ne hz28 34 (by decide))
              refine lv_aload_n hx hb dX11_textOf_116 rfl (lv_at hl 3 rfl) ?_
              refine qf_get hx hb hts inX11 hown hK hP (q0 := 0) (by decide) (hgM_0 ca o) rfl 9 (by decide) wq_1002 (v := .ref (o + 7)) rfl dX11_textOf_117 ?_
              refine lv_iload_n hx hb dX11_textOf_120 rfl (lv_at hl 4 rfl) ?_
              refine lv_aload_n hx hb dX11_textOf_121 rfl (lv_at hl 3 rfl) ?_
              refine qf_get hx hb hts inX11 hown hK hP (q0 := 0) (by decide) (hgM_0 ca o) rfl 9 (by decide) wq_1002 (v := .ref (o + 7)) rfl dX11_textOf_122 ?_
              refine lv_iload_n hx hb dX11_textOf_125 rfl (lv_at hl 4 rfl) ?_
              refine qa_iald hx hb hK hP (q0 := 7) (by decide) 0 (N := 16) (hgM_7 ca o) rfl (gi_in (by omega) (by omega)) dX11_textOf_126 ?_
              refine lv_topi (fun x29 e29 => ?_)
              refine lv_aload_n hx hb dX11_textOf_127 rfl (lv_at hl 3 rfl) ?_
              refine qf_get hx hb hts inX11 hown hK hP (q0 := 0) (by decide) (hgM_0 ca o) rfl 32 (by decide) wq_1025 (v := .ref (o + 22)) rfl dX11_textOf_128 ?_
              refine lv_iload hx hb dX11_textOf_131 (lv_at hl 0 rfl) ?_
              refine qa_iald hx hb hK hP (q0 := 22) (by decide) 0 (N := 7) (hgM_22 ca o) rfl (gi_in (by omega) (by omega)) dX11_textOf_133 ?_
              refine lv_topi (fun x30 e30 => ?_)
              refine lv_aload_n hx hb dX11_textOf_134 rfl (lv_at hl 3 rfl) ?_
              refine lv_iload hx hb dX11_textOf_135 (lv_at hl 0 rfl) ?_
              refine qc_Vip (As := [.int w15_6]) (rest := [.int x30, .int x29, .int a0, .ref (o + 7)]) (k0 := 1) (m_sinceOf l D ca o b z28 y15 J28 w15_6 ⟨by omega, by omega⟩) kc_yX11_sinceOf ⟨hx, hb, hml, hown, hts⟩ wq_1292 rfl rfl ⟨Nat.le_of_ble_eq_true rfl, Nat.le_of_ble_eq_true rfl⟩ wq_all hP hK hS qw_Ai (q0 := 0) (by decide) (hgM_0 ca o _ _) rfl rfl hl.1 rfl (Nat.le_of_ble_eq_true rfl) dX11_textOf_137 ⟨Nat.zero_le _, Nat.zero_le _⟩ (fun r31 H locs h31 hP hS _ _ => ?_)
              refine lv_imul hx hb dX11_textOf_140 ?_
              refine lv_topi (fun x32 e32 => ?_)
              refine lv_iadd hx hb dX11_textOf_141 ?_
              refine lv_topi (fun x33 e33 => ?_)
              refine qa_iast2 hx hb hK hP hS qw_Ai (q0 := 7) (by decide) 0 (N := 16) (hgM_7 ca o) rfl (i := a0) (x := x33) (gi_in (by omega) (by omega)) dX11_textOf_142 (fun z34 H locs hz34 hP hS => ?_)
              have J34 := jM_7 J28 hz34
              have k34_0 : (z34 0 33).toInt = (z28 0 33).toInt := congrArg Int32.toInt (qt_ne hz34 33 (by decide))
              have k34_1 : (z34 0 34).toInt = (z28 0 34).toInt := congrArg Int32.toInt (qt_ne hz34 34 (by decide))
              obtain ⟨x35, e35⟩ : ∃ t : Int32, t = w15_6 + 1 := ⟨_, rfl⟩
              refine lv_iinc (v := x35) (lv' := [(6, .int x35), (5, .int r5), (4, .int 1), (0, .ref (o + 0)), (1, .int a0), (2, .int a1), (3, .int a2)]) hx hb dX11_textOf_143 hl (k := 0) rfl (by rw [e35]; rfl) (by decide) rfl (fun ls hl => ?_)
              have t35 : x35.toInt = w15_6.toInt + (1 : Int) := ga_add e35 rfl rfl (by omega) (by omega)
              refine lv_goto (tgt := 90) hx hb dX11_textOf_146 (by decide) ?_
              exact ih15 x35 z34 y15 (show (6 - x35.toInt : Int) < (n15 : Int) from by omega) ⟨by omega, by omega⟩ J34 (show (z34 0 33).toInt = (z14 0 33).toInt from by omega) (show (z34 0 34).toInt = (z14 0 34).toInt from by omega) _ _ hP hS _ (lv_sub hl [0, 1, 2, 3, 4, 5, 6] rfl)
        exact loop15 7 0 z14 y4 (show (6 - (0 : Int) : Int) < ((7 : Nat) : Int) from by omega) ⟨by decide, by decide⟩ J14 (show (z14 0 33).toInt = (z14 0 33).toInt from by omega) (show (z14 0 34).toInt = (z14 0 34).toInt from by omega) _ _ hP hS _ (lv_sub hl [0, 1, 2, 3, 4, 5, 6] rfl)
      · subst hr4
        refine lv_istore (lv' := [(4, .int 0), (0, .ref (o + 0)), (1, .int a0), (2, .int a1), (3, .int a2)]) hx hb dX11_textOf_26 hl (by decide) rfl (fun ls hl => ?_)
        refine lv_aload_n hx hb dX11_textOf_28 rfl (lv_at hl 1 rfl) ?_
        refine qc_Vip (As := []) (rest := []) (k0 := 0) (m_whoStands l D ca o b z4 y4 J4) kc_yX11_whoStands ⟨hx, hb, hml, hown, hts⟩ wq_1288 rfl rfl ⟨Nat.le_of_ble_eq_true rfl, Nat.le_of_ble_eq_true rfl⟩ wq_all hP hK hS qw_Ai (q0 := 0) (by decide) (hgM_0 ca o _ _) rfl rfl hl.1 rfl (Nat.le_of_ble_eq_true rfl) dX11_textOf_29 ⟨Nat.zero_le _, Nat.zero_le _⟩ (fun r36 H locs h36 hP hS _ _ => ?_)
        refine lv_istore (lv' := [(5, .int r36), (4, .int 0), (0, .ref (o + 0)), (1, .int a0), (2, .int a1), (3, .int a2)]) hx hb dX11_textOf_32 hl (by decide) rfl (fun ls hl => ?_)
        refine lv_aload_n hx hb dX11_textOf_34 rfl (lv_at hl 2 rfl) ?_
        refine lv_iconst (v := 0) hx hb dX11_textOf_35 (by decide) ?_
        refine qf_put2 hx hb hts inX11 tyX11 tyX11_ok nmX11 hown hK hP hS qw_Ai (q0 := 0) (by decide) (hgM_0 ca o) rfl 15 (by decide) wq_1008 rfl (x := 0) 15 rfl rfl rfl (Nat.le_of_ble_eq_true rfl) dX11_textOf_36 (fun z37 H locs hz37 hP hS => ?_)
        have J37 := jM_0_15 J4 hz37 ⟨by decide, by decide⟩
        have k37_0 : (z37 0 33).toInt = (z4 0 33).toInt := congrArg Int32.toInt (qt_off hz37 (by decide))
        have k37_1 : (z37 0 34).toInt = (z4 0 34).toInt := congrArg Int32.toInt (qt_off hz37 (by decide))
        refine lv_iload hx hb dX11_textOf_39 (lv_at hl 1 rfl) ?_
        refine lv_if_ne (tgt := 49) hx hb dX11_textOf_41 (by decide) (fun q => absurd q (by decide)) (fun _ => ?_)
        refine lv_aload_n hx hb dX11_textOf_44 rfl (lv_at hl 2 rfl) ?_
        refine qf_get hx hb hts inX11 hown hK hP (q0 := 0) (by decide) (hgM_0 ca o) rfl 18 (by decide) wq_1011 (v := .int (z37 0 18)) rfl dX11_textOf_45 ?_
        refine lv_topi (fun x38 e38 => ?_)
        exact W.iret (v := x38) hx hb hr (fun t ht hW => ⟨⟨x38, (z37, y4), rfl, ⟨trivial, J37⟩, by rw [ht]; exact hP, va_K.moved hW.alike hK⟩, hS.F ht⟩) hS.2.2 dX11_textOf_48
    · have t3 : a1.toInt > x2.toInt := gl_nle c3
      refine lv_iconst (v := (-1)) hx hb dX11_textOf_18 (by decide) ?_
      exact W.iret (v := (-1)) hx hb hr (fun t ht hW => ⟨⟨(-1), (z, y), rfl, ⟨trivial, J0⟩, by rw [ht]; exact hP, va_K.moved hW.alike hK⟩, hS.F ht⟩) hS.2.2 dX11_textOf_19
  · subst hr1
    have hg1_0 : ¬ ((1 : Int) ≤ a1.toInt ∧ a1.toInt ≤ (60 : Int)) := hf1_0
    refine lv_if_eq (tgt := 18) hx hb dX11_textOf_7 (by decide) (fun _ => ?_) (fun q => absurd (by decide) q)
    refine lv_iconst (v := (-1)) hx hb dX11_textOf_18 (by decide) ?_
    exact W.iret (v := (-1)) hx hb hr (fun t ht hW => ⟨⟨(-1), (z, y), rfl, ⟨trivial, J0⟩, by rw [ht]; exact hP, va_K.moved hW.alike hK⟩, hS.F ht⟩) hS.2.2 dX11_textOf_19
set_option maxRecDepth 100000 in
set_option maxHeartbeats 8000000 in
theorem m_remark (l : Launch) (D : va_G) (ca : Nat → ClassId) (o : Nat) (b z : Nat → Nat → Int32) (y : Nat → Nat → Int64) (J0 : qJM b z) (a0 : Int32) (a1 : Int32)  : qM l yX11_remark cX11_remark 3 (some .int) 10 262 (qPre D vwCl (qT6 ca) o 41 (qG (GM ca o) z y) [.ref (o + 0), .int a0, .int a1]) (va_Qi (fun r u => True ∧ qJM b u.1) (qB D vwCl (qT6 ca) o 41 (fun u : qZ => qG (GM ca o) u.1 u.2)) (qw_A o 41)) (qw_A o 41) := by
  refine Met.ofW (cc := cX11_remark) (maxL := 3) (ret := (some .int)) (by decide) rfl ?_
  intro p e s m args below meth c s₁ B hml hv
  obtain ⟨rfl, hP, hK⟩ := hv
  have hx := B.exec
  have hb := B.bytes
  have hr := B.returns
  have hts0 := atoms_spec (ws := Cond.code yX11_remark cX11_remark 3 (some .int) :: qtbl) B.pre
  have hts : ∀ w ∈ qtbl, w.before _ s = true := fun w h => hts0 w (List.mem_cons_of_mem _ h)
  have hown : s.vm.findClass RX11 = some m.cls := findClass_of_methodNamed B.named
  have hlocks := B.notSynchronized
  have hS : va_S (qw_A o 41) s.heap s.heap [] := va_S.rf
  have hl := lv_entry ([.ref (o + 0), .int a0, .int a1]) (n := 3) (Nat.le_of_ble_eq_true rfl)
  rw [lg_entry_eq]
  generalize (lg_sl ([.ref (o + 0), .int a0, .int a1]) ++ List.replicate (3 - (lg_sl ([.ref (o + 0), .int a0, .int a1])).length) Slot.unset).toArray = ls at hl ⊢
  have hl : lv_has ls 3 [(0, .ref (o + 0)), (1, .int a0), (2, .int a1)] := hl
  refine lv_iload_n hx hb dX11_remark_0 rfl (lv_at hl 1 rfl) ?_
  refine lv_iconst (v := 0) hx hb dX11_remark_1 (by decide) ?_
  refine lv_bipush (v := 9) hx hb dX11_remark_2 (by decide) ?_
  refine qc_Sip (As := [.int a0, .int 0, .int 9]) (rest := []) (k0 := 3) (m_in l D ca o b z y J0 a0 0 9) kc_yX11_in ⟨hx, hb, hml, hown, hts⟩ wq_1187 rfl rfl ⟨Nat.le_of_ble_eq_true rfl, Nat.le_of_ble_eq_true rfl⟩ wq_all hP hK hS qw_Ai rfl hl.1 rfl (Nat.le_of_ble_eq_true rfl) dX11_remark_4 ⟨Nat.zero_le _, Nat.zero_le _⟩ (fun r1 H locs h1 hP hS _ _ => ?_)
  rcases h1 with ⟨hr1, hf1_0⟩ | ⟨hr1, hf1_0⟩
  · subst hr1
    have hg1_0 : (0 : Int) ≤ a0.toInt ∧ a0.toInt ≤ (9 : Int) := hf1_0
    refine lv_if_eq (tgt := 20) hx hb dX11_remark_7 (by decide) (fun q => absurd q (by decide)) (fun _ => ?_)
    refine lv_aload_n hx hb dX11_remark_10 rfl (lv_at hl 0 rfl) ?_
    refine lv_iload_n hx hb dX11_remark_11 rfl (lv_at hl 1 rfl) ?_
    refine lv_iload_n hx hb dX11_remark_12 rfl (lv_at hl 2 rfl) ?_
    refine lv_iconst (v := 1) hx hb dX11_remark_13 (by decide) ?_
    refine qc_Vi2 (As := [.int a0, .int a1, .int 1]) (rest := []) (k0 := 3) (m_textOf l D ca o b z y J0 a0 a1 1 ⟨by omega, by omega⟩) kc_yX11_textOf ⟨hx, hb, hml, hown, hts⟩ wq_1217 rfl rfl ⟨Nat.le_of_ble_eq_true rfl, Nat.le_of_ble_eq_true rfl⟩ wq_all hP hK hS qw_Ai (q0 := 0) (by decide) (hgM_0 ca o _ _) rfl rfl hl.1 rfl (Nat.le_of_ble_eq_true rfl) dX11_remark_14 ⟨Nat.zero_le _, Nat.zero_le _⟩ (fun r2 z2 y2 H locs h2 hP hS _ _ => ?_)
    have J2 : qJM b z2 := h2.2
    refine lv_goto (tgt := 21) hx hb dX11_remark_17 (by decide) ?_
    exact W.iret (v := r2) hx hb hr (fun t ht hW => ⟨⟨r2, (z2, y2), rfl, ⟨trivial, J2⟩, by rw [ht]; exact hP, va_K.moved hW.alike hK⟩, hS.F ht⟩) hS.2.2 dX11_remark_21
  · subst hr1
    have hg1_0 : ¬ ((0 : Int) ≤ a0.toInt ∧ a0.toInt ≤ (9 : Int)) := hf1_0
    refine lv_if_eq (tgt := 20) hx hb dX11_remark_7 (by decide) (fun _ => ?_) (fun q => absurd (by decide) q)
    refine lv_iconst (v := (-1)) hx hb dX11_remark_20 (by decide) ?_
    exact W.iret (v := (-1)) hx hb hr (fun t ht hW => ⟨⟨(-1), (z, y), rfl, ⟨trivial, J0⟩, by rw [ht]; exact hP, va_K.moved hW.alike hK⟩, hS.F ht⟩) hS.2.2 dX11_remark_21
set_option maxRecDepth 100000 in
set_option maxHeartbeats 8000000 in
theorem m_form (l : Launch) (D : va_G) (ca : Nat → ClassId) (o : Nat) (b z : Nat → Nat → Int32) (y : Nat → Nat → Int64) (J0 : qJM b z) (a0 : Int32) (a1 : Int32)  : qM l yX11_form cX11_form 3 (some .int) 10 262 (qPre D vwCl (qT6 ca) o 41 (qG (GM ca o) z y) [.ref (o + 0), .int a0, .int a1]) (va_Qi (fun r u => True ∧ qJM b u.1) (qB D vwCl (qT6 ca) o 41 (fun u : qZ => qG (GM ca o) u.1 u.2)) (qw_A o 41)) (qw_A o 41) := by
  refine Met.ofW (cc := cX11_form) (maxL := 3) (ret := (some .int)) (by decide) rfl ?_
  intro p e s m args below meth c s₁ B hml hv
  obtain ⟨rfl, hP, hK⟩ := hv
  have hx := B.exec
  have hb := B.bytes
  have hr := B.returns
  have hts0 := atoms_spec (ws := Cond.code yX11_form cX11_form 3 (some .int) :: qtbl) B.pre
  have hts : ∀ w ∈ qtbl, w.before _ s = true := fun w h => hts0 w (List.mem_cons_of_mem _ h)
  have hown : s.vm.findClass RX11 = some m.cls := findClass_of_methodNamed B.named
  have hlocks := B.notSynchronized
  have hS : va_S (qw_A o 41) s.heap s.heap [] := va_S.rf
  have hl := lv_entry ([.ref (o + 0), .int a0, .int a1]) (n := 3) (Nat.le_of_ble_eq_true rfl)
  rw [lg_entry_eq]
  generalize (lg_sl ([.ref (o + 0), .int a0, .int a1]) ++ List.replicate (3 - (lg_sl ([.ref (o + 0), .int a0, .int a1])).length) Slot.unset).toArray = ls at hl ⊢
  have hl : lv_has ls 3 [(0, .ref (o + 0)), (1, .int a0), (2, .int a1)] := hl
  refine lv_iload_n hx hb dX11_form_0 rfl (lv_at hl 1 rfl) ?_
  refine lv_iconst (v := 0) hx hb dX11_form_1 (by decide) ?_
  refine lv_iconst (v := 5) hx hb dX11_form_2 (by decide) ?_
  refine qc_Sip (As := [.int a0, .int 0, .int 5]) (rest := []) (k0 := 3) (m_in l D ca o b z y J0 a0 0 5) kc_yX11_in ⟨hx, hb, hml, hown, hts⟩ wq_1187 rfl rfl ⟨Nat.le_of_ble_eq_true rfl, Nat.le_of_ble_eq_true rfl⟩ wq_all hP hK hS qw_Ai rfl hl.1 rfl (Nat.le_of_ble_eq_true rfl) dX11_form_3 ⟨Nat.zero_le _, Nat.zero_le _⟩ (fun r1 H locs h1 hP hS _ _ => ?_)
  rcases h1 with ⟨hr1, hf1_0⟩ | ⟨hr1, hf1_0⟩
  · subst hr1
    have hg1_0 : (0 : Int) ≤ a0.toInt ∧ a0.toInt ≤ (5 : Int) := hf1_0
    refine lv_if_eq (tgt := 22) hx hb dX11_form_6 (by decide) (fun q => absurd q (by decide)) (fun _ => ?_)
    refine lv_aload_n hx hb dX11_form_9 rfl (lv_at hl 0 rfl) ?_
    refine lv_bipush (v := 10) hx hb dX11_form_10 (by decide) ?_
    refine lv_iload_n hx hb dX11_form_12 rfl (lv_at hl 1 rfl) ?_
    refine lv_iadd hx hb dX11_form_13 ?_
    refine lv_topi (fun x2 e2 => ?_)
    have t2 : x2.toInt = (10 : Int) + a0.toInt := ga_add e2 rfl rfl (by omega) (by omega)
    refine lv_iload_n hx hb dX11_form_14 rfl (lv_at hl 2 rfl) ?_
    refine lv_iconst (v := 0) hx hb dX11_form_15 (by decide) ?_
    refine qc_Vi2 (As := [.int x2, .int a1, .int 0]) (rest := []) (k0 := 3) (m_textOf l D ca o b z y J0 x2 a1 0 ⟨by omega, by omega⟩) kc_yX11_textOf ⟨hx, hb, hml, hown, hts⟩ wq_1217 rfl rfl ⟨Nat.le_of_ble_eq_true rfl, Nat.le_of_ble_eq_true rfl⟩ wq_all hP hK hS qw_Ai (q0 := 0) (by decide) (hgM_0 ca o _ _) rfl rfl hl.1 rfl (Nat.le_of_ble_eq_true rfl) dX11_form_16 ⟨Nat.zero_le _, Nat.zero_le _⟩ (fun r3 z3 y3 H locs h3 hP hS _ _ => ?_)
    have J3 : qJM b z3 := h3.2
    refine lv_goto (tgt := 23) hx hb dX11_form_19 (by decide) ?_
    exact W.iret (v := r3) hx hb hr (fun t ht hW => ⟨⟨r3, (z3, y3), rfl, ⟨trivial, J3⟩, by rw [ht]; exact hP, va_K.moved hW.alike hK⟩, hS.F ht⟩) hS.2.2 dX11_form_23
  · subst hr1
    have hg1_0 : ¬ ((0 : Int) ≤ a0.toInt ∧ a0.toInt ≤ (5 : Int)) := hf1_0
    refine lv_if_eq (tgt := 22) hx hb dX11_form_6 (by decide) (fun _ => ?_) (fun q => absurd (by decide) q)
    refine lv_iconst (v := (-1)) hx hb dX11_form_22 (by decide) ?_
    exact W.iret (v := (-1)) hx hb hr (fun t ht hW => ⟨⟨(-1), (z, y), rfl, ⟨trivial, J0⟩, by rw [ht]; exact hP, va_K.moved hW.alike hK⟩, hS.F ht⟩) hS.2.2 dX11_form_23
set_option maxRecDepth 100000 in
set_option maxHeartbeats 8000000 in
theorem m_isRemark (l : Launch) (D : va_G) (ca : Nat → ClassId) (o : Nat) (b z : Nat → Nat → Int32) (y : Nat → Nat → Int64) (J0 : qJM b z) (a0 : Int32)  : qM l yX11_isRemark cX11_isRemark 2 (some .boolean) 2 82 (qPre D vwCl (qT6 ca) o 41 (qG (GM ca o) z y) [.ref (o + 0), .int a0]) (va_Qi (fun r (_ : Unit) => ((r = 1 ∧ (0 ≤ a0.toInt ∧ a0.toInt ≤ 9)) ∨ (r = 0))) (qB D vwCl (qT6 ca) o 41 (fun _ : Unit => qG (GM ca o) z y)) (qw_A o 41)) (qw_A o 41) := by
  refine Met.ofW (cc := cX11_isRemark) (maxL := 2) (ret := (some .boolean)) (by decide) rfl ?_
  intro p e s m args below meth c s₁ B hml hv
  obtain ⟨rfl, hP, hK⟩ := hv
  have hx := B.exec
  have hb := B.bytes
  have hr := B.returns
  have hts0 := atoms_spec (ws := Cond.code yX11_isRemark cX11_isRemark 2 (some .boolean) :: qtbl) B.pre
  have hts : ∀ w ∈ qtbl, w.before _ s = true := fun w h => hts0 w (List.mem_cons_of_mem _ h)
  have hown : s.vm.findClass RX11 = some m.cls := findClass_of_methodNamed B.named
  have hlocks := B.notSynchronized
  have hS : va_S (qw_A o 41) s.heap s.heap [] := va_S.rf
  have hl := lv_entry ([.ref (o + 0), .int a0]) (n := 2) (Nat.le_of_ble_eq_true rfl)
  rw [lg_entry_eq]
  generalize (lg_sl ([.ref (o + 0), .int a0]) ++ List.replicate (2 - (lg_sl ([.ref (o + 0), .int a0])).length) Slot.unset).toArray = ls at hl ⊢
  have hl : lv_has ls 2 [(0, .ref (o + 0)), (1, .int a0)] := hl
  refine lv_iload_n hx hb dX11_isRemark_0 rfl (lv_at hl 1 rfl) ?_
  refine lv_iconst (v := 0) hx hb dX11_isRemark_1 (by decide) ?_
  refine lv_bipush (v := 9) hx hb dX11_isRemark_2 (by decide) ?_
  refine qc_Sip (As := [.int a0, .int 0, .int 9]) (rest := []) (k0 := 3) (m_in l D ca o b z y J0 a0 0 9) kc_yX11_in ⟨hx, hb, hml, hown, hts⟩ wq_1187 rfl rfl ⟨Nat.le_of_ble_eq_true rfl, Nat.le_of_ble_eq_true rfl⟩ wq_all hP hK hS qw_Ai rfl hl.1 rfl (Nat.le_of_ble_eq_true rfl) dX11_isRemark_4 ⟨Nat.zero_le _, Nat.zero_le _⟩ (fun r1 H locs h1 hP hS _ _ => ?_)
  rcases h1 with ⟨hr1, hf1_0⟩ | ⟨hr1, hf1_0⟩
  · subst hr1
    have hg1_0 : (0 : Int) ≤ a0.toInt ∧ a0.toInt ≤ (9 : Int) := hf1_0
    refine lv_if_eq (tgt := 25) hx hb dX11_isRemark_7 (by decide) (fun q => absurd q (by decide)) (fun _ => ?_)
    refine lv_aload_n hx hb dX11_isRemark_10 rfl (lv_at hl 0 rfl) ?_
    refine qf_get hx hb hts inX11 hown hK hP (q0 := 0) (by decide) (hgM_0 ca o) rfl 6 (by decide) wq_999 (v := .int (z 0 6)) rfl dX11_isRemark_11 ?_
    refine lv_topi (fun x2 e2 => ?_)
    refine lv_iload_n hx hb dX11_isRemark_14 rfl (lv_at hl 1 rfl) ?_
    refine qc_Sip (As := [.int x2, .int a0]) (rest := []) (k0 := 2) (m_has l D ca o b z y J0 x2 a0) kc_yX11_has ⟨hx, hb, hml, hown, hts⟩ wq_1198 rfl rfl ⟨Nat.le_of_ble_eq_true rfl, Nat.le_of_ble_eq_true rfl⟩ wq_all hP hK hS qw_Ai rfl hl.1 rfl (Nat.le_of_ble_eq_true rfl) dX11_isRemark_15 ⟨Nat.zero_le _, Nat.zero_le _⟩ (fun r3 H locs h3 hP hS _ _ => ?_)
    rcases h3 with ⟨hr3, hf3_0⟩ | ⟨hr3, hf3_0⟩
    · subst hr3
      have hg3_0 : bitAt x2 a0 ≠ 0 := hf3_0
      refine lv_if_eq (tgt := 25) hx hb dX11_isRemark_18 (by decide) (fun q => absurd q (by decide)) (fun _ => ?_)
      refine lv_iconst (v := 1) hx hb dX11_isRemark_21 (by decide) ?_
      refine lv_goto (tgt := 26) hx hb dX11_isRemark_22 (by decide) ?_
      exact W.zret (v := 1) (ty := .boolean) hx hb hr rfl (fun t ht hW => ⟨⟨1, (), rfl, Or.inl ⟨rfl, ⟨by omega, by omega⟩⟩, by rw [ht]; exact hP, va_K.moved hW.alike hK⟩, hS.F ht⟩) hS.2.2 dX11_isRemark_26
    · subst hr3
      have hg3_0 : bitAt x2 a0 = 0 := hf3_0
      refine lv_if_eq (tgt := 25) hx hb dX11_isRemark_18 (by decide) (fun _ => ?_) (fun q => absurd (by decide) q)
      refine lv_iconst (v := 0) hx hb dX11_isRemark_25 (by decide) ?_
      exact W.zret (v := 0) (ty := .boolean) hx hb hr rfl (fun t ht hW => ⟨⟨0, (), rfl, Or.inr rfl, by rw [ht]; exact hP, va_K.moved hW.alike hK⟩, hS.F ht⟩) hS.2.2 dX11_isRemark_26
  · subst hr1
    have hg1_0 : ¬ ((0 : Int) ≤ a0.toInt ∧ a0.toInt ≤ (9 : Int)) := hf1_0
    refine lv_if_eq (tgt := 25) hx hb dX11_isRemark_7 (by decide) (fun _ => ?_) (fun q => absurd (by decide) q)
    refine lv_iconst (v := 0) hx hb dX11_isRemark_25 (by decide) ?_
    exact W.zret (v := 0) (ty := .boolean) hx hb hr rfl (fun t ht hW => ⟨⟨0, (), rfl, Or.inr rfl, by rw [ht]; exact hP, va_K.moved hW.alike hK⟩, hS.F ht⟩) hS.2.2 dX11_isRemark_26
set_option maxRecDepth 100000 in
set_option maxHeartbeats 8000000 in
theorem m_takeBack (l : Launch) (D : va_G) (ca : Nat → ClassId) (o : Nat) (b z : Nat → Nat → Int32) (y : Nat → Nat → Int64) (J0 : qJM b z) (a0 : Int32)  : qM l yX11_takeBack cX11_takeBack 2 (some .boolean) 3 103 (qPre D vwCl (qT6 ca) o 41 (qG (GM ca o) z y) [.ref (o + 0), .int a0]) (va_Qi (fun r u => ((0 : Int) ≤ r.toInt ∧ r.toInt ≤ 1) ∧ qJM b u.1) (qB D vwCl (qT6 ca) o 41 (fun u : qZ => qG (GM ca o) u.1 u.2)) (qw_A o 41)) (qw_A o 41) := by
  refine Met.ofW (cc := cX11_takeBack) (maxL := 2) (ret := (some .boolean)) (by decide) rfl ?_
  intro p e s m args below meth c s₁ B hml hv
  obtain ⟨rfl, hP, hK⟩ := hv
  have hx := B.exec
  have hb := B.bytes
  have hr := B.returns
  have hts0 := atoms_spec (ws := Cond.code yX11_takeBack cX11_takeBack 2 (some .boolean) :: qtbl) B.pre
  have hts : ∀ w ∈ qtbl, w.before _ s = true := fun w h => hts0 w (List.mem_cons_of_mem _ h)
  have hown : s.vm.findClass RX11 = some m.cls := findClass_of_methodNamed B.named
  have hlocks := B.notSynchronized
  have hS : va_S (qw_A o 41) s.heap s.heap [] := va_S.rf
  have hl := lv_entry ([.ref (o + 0), .int a0]) (n := 2) (Nat.le_of_ble_eq_true rfl)
  rw [lg_entry_eq]
  generalize (lg_sl ([.ref (o + 0), .int a0]) ++ List.replicate (2 - (lg_sl ([.ref (o + 0), .int a0])).length) Slot.unset).toArray = ls at hl ⊢
  have hl : lv_has ls 2 [(0, .ref (o + 0)), (1, .int a0)] := hl
  refine lv_aload_n hx hb dX11_takeBack_0 rfl (lv_at hl 0 rfl) ?_
  refine lv_iload_n hx hb dX11_takeBack_1 rfl (lv_at hl 1 rfl) ?_
  refine qc_Vip (As := [.int a0]) (rest := []) (k0 := 1) (m_isRemark l D ca o b z y J0 a0) kc_yX11_isRemark ⟨hx, hb, hml, hown, hts⟩ wq_1307 rfl rfl ⟨Nat.le_of_ble_eq_true rfl, Nat.le_of_ble_eq_true rfl⟩ wq_all hP hK hS qw_Ai (q0 := 0) (by decide) (hgM_0 ca o _ _) rfl rfl hl.1 rfl (Nat.le_of_ble_eq_true rfl) dX11_takeBack_2 ⟨Nat.zero_le _, Nat.zero_le _⟩ (fun r1 H locs h1 hP hS _ _ => ?_)
  rcases h1 with ⟨hr1, hf1_0⟩ | hr1
  · subst hr1
    have hg1_0 : 0 ≤ a0.toInt ∧ a0.toInt ≤ 9 := hf1_0
    refine lv_if_ne (tgt := 10) hx hb dX11_takeBack_5 (by decide) (fun _ => ?_) (fun q => absurd q (by decide))
    refine lv_aload_n hx hb dX11_takeBack_10 rfl (lv_at hl 0 rfl) ?_
    refine lv_aload_n hx hb dX11_takeBack_11 rfl (lv_at hl 0 rfl) ?_
    refine qf_get hx hb hts inX11 hown hK hP (q0 := 0) (by decide) (hgM_0 ca o) rfl 6 (by decide) wq_999 (v := .int (z 0 6)) rfl dX11_takeBack_12 ?_
    refine lv_topi (fun x2 e2 => ?_)
    refine lv_iconst (v := 1) hx hb dX11_takeBack_15 (by decide) ?_
    refine lv_iload_n hx hb dX11_takeBack_16 rfl (lv_at hl 1 rfl) ?_
    refine lv_ishl hx hb dX11_takeBack_17 ?_
    refine lv_topi (fun x3 e3 => ?_)
    have t3 : 1 ≤ x3.toInt ∧ x3.toInt ≤ 512 := ga_shl 9 512 e3 (by decide) (by decide) (by omega) (by omega)
    refine lv_iconst (v := (-1)) hx hb dX11_takeBack_18 (by decide) ?_
    refine lv_ixor hx hb dX11_takeBack_19 ?_
    refine lv_topi (fun x4 e4 => ?_)
    refine lv_iand hx hb dX11_takeBack_20 ?_
    refine lv_topi (fun x5 e5 => ?_)
    refine qf_put2 hx hb hts inX11 tyX11 tyX11_ok nmX11 hown hK hP hS qw_Ai (q0 := 0) (by decide) (hgM_0 ca o) rfl 6 (by decide) wq_999 rfl (x := x5) 6 rfl rfl rfl (Nat.le_of_ble_eq_true rfl) dX11_takeBack_21 (fun z6 H locs hz6 hP hS => ?_)
    have J6 := jM_0_6 J0 hz6
    refine lv_iconst (v := 1) hx hb dX11_takeBack_24 (by decide) ?_
    exact W.zret (v := 1) (ty := .boolean) hx hb hr rfl (fun t ht hW => ⟨⟨1, (z6, y), rfl, ⟨⟨by decide, by decide⟩, J6⟩, by rw [ht]; exact hP, va_K.moved hW.alike hK⟩, hS.F ht⟩) hS.2.2 dX11_takeBack_25
  · subst hr1
    refine lv_if_ne (tgt := 10) hx hb dX11_takeBack_5 (by decide) (fun q => absurd q (by decide)) (fun _ => ?_)
    refine lv_iconst (v := 0) hx hb dX11_takeBack_8 (by decide) ?_
    exact W.zret (v := 0) (ty := .boolean) hx hb hr rfl (fun t ht hW => ⟨⟨0, (z, y), rfl, ⟨⟨by decide, by decide⟩, J0⟩, by rw [ht]; exact hP, va_K.moved hW.alike hK⟩, hS.F ht⟩) hS.2.2 dX11_takeBack_9
set_option maxRecDepth 100000 in
set_option maxHeartbeats 8000000 in
theorem m_rowMany (l : Launch) (D : va_G) (ca : Nat → ClassId) (o : Nat) (b z : Nat → Nat → Int32) (y : Nat → Nat → Int64) (J0 : qJM b z)   : qM l yX11_rowMany cX11_rowMany 3 (some .int) 3 103 (qPre D vwCl (qT6 ca) o 41 (qG (GM ca o) z y) [.ref (o + 0)]) (va_Qi (fun r (_ : Unit) => True ∧ (rmI z 6 r)) (qB D vwCl (qT6 ca) o 41 (fun _ : Unit => qG (GM ca o) z y)) (qw_A o 41)) (qw_A o 41) := by
  refine Met.ofW (cc := cX11_rowMany) (maxL := 3) (ret := (some .int)) (by decide) rfl ?_
  intro p e s m args below meth c s₁ B hml hv
  obtain ⟨rfl, hP, hK⟩ := hv
  have hx := B.exec
  have hb := B.bytes
  have hr := B.returns
  have hts0 := atoms_spec (ws := Cond.code yX11_rowMany cX11_rowMany 3 (some .int) :: qtbl) B.pre
  have hts : ∀ w ∈ qtbl, w.before _ s = true := fun w h => hts0 w (List.mem_cons_of_mem _ h)
  have hown : s.vm.findClass RX11 = some m.cls := findClass_of_methodNamed B.named
  have hlocks := B.notSynchronized
  have hS : va_S (qw_A o 41) s.heap s.heap [] := va_S.rf
  have hl := lv_entry ([.ref (o + 0)]) (n := 3) (Nat.le_of_ble_eq_true rfl)
  rw [lg_entry_eq]
  generalize (lg_sl ([.ref (o + 0)]) ++ List.replicate (3 - (lg_sl ([.ref (o + 0)])).length) Slot.unset).toArray = ls at hl ⊢
  have hl : lv_has ls 3 [(0, .ref (o + 0))] := hl
  refine lv_iconst (v := 1) hx hb dX11_rowMany_0 (by decide) ?_
  refine lv_istore_n (lv' := [(1, .int 1), (0, .ref (o + 0))]) hx hb dX11_rowMany_1 rfl hl (by decide) rfl (fun ls hl => ?_)
  refine lv_iconst (v := 0) hx hb dX11_rowMany_2 (by decide) ?_
  refine lv_istore_n (lv' := [(2, .int 0), (1, .int 1), (0, .ref (o + 0))]) hx hb dX11_rowMany_3 rfl hl (by decide) rfl (fun ls hl => ?_)
  have loop1 : ∀ (n : Nat) (w1_2 : Int32) (w1_1 : Int32), ((6 - w1_2.toInt : Int) < (n : Int)) → ((0 : Int) ≤ w1_2.toInt ∧ w1_2.toInt ≤ 6) → (rmI z w1_2 w1_1) → ∀ (H : Heap) (locs : List Loc), qw_P D vwCl o 41 (qG (GM ca o) z y) H → va_S (qw_A o 41) s.heap H locs → ∀ (ls : Array Slot), lv_has ls 3 [(2, .int w1_2), (1, .int w1_1), (0, .ref (o + 0))] → W p l e (headSpec (Cond.code yX11_rowMany cX11_rowMany 3 (some .int) :: qtbl) ({ frames := 3, cells := 0, slots := 0, locals := 103 })).room s m (([.ref (o + 0)] : List Value).toArray) below meth c H locs 0 0 (MQ below (va_Qi (fun r (_ : Unit) => True ∧ (rmI z 6 r)) (qB D vwCl (qT6 ca) o 41 (fun _ : Unit => qG (GM ca o) z y)) (qw_A o 41)) (([.ref (o + 0)] : List Value).toArray) s 0 0 (qw_A o 41)) (F0 m 4 ls []) := by
    intro n
    induction n with
    | zero => intro w1_2 w1_1 hb1 hv1_2 v1_0; exfalso; omega
    | succ n1 ih1 =>
      intro w1_2 w1_1 hb1 hv1_2 v1_0 H locs hP hS ls hl
      refine lv_iload_n hx hb dX11_rowMany_4 rfl (lv_at hl 0 rfl) ?_
      refine lv_bipush (v := 6) hx hb dX11_rowMany_5 (by decide) ?_
      refine lv_icmp_ge (tgt := 49) hx hb dX11_rowMany_7 (by decide) (fun c2 => ?_) (fun c2 => ?_)
      · have t2 : w1_2.toInt ≥ (6 : Int) := gl_le c2
        refine lv_iload_n hx hb dX11_rowMany_49 rfl (lv_at hl 1 rfl) ?_
        exact W.iret (v := w1_1) hx hb hr (fun t ht hW => ⟨⟨w1_1, (), rfl, ⟨trivial, (by have h := v1_0; rw [gr_eq (y := 6) (show w1_2.toInt = (6 : Int) from by omega)] at h; exact h)⟩, by rw [ht]; exact hP, va_K.moved hW.alike hK⟩, hS.F ht⟩) hS.2.2 dX11_rowMany_50
      · have t2 : w1_2.toInt < (6 : Int) := gl_nle c2
        refine lv_aload_n hx hb dX11_rowMany_10 rfl (lv_at hl 2 rfl) ?_
        refine lv_iload_n hx hb dX11_rowMany_11 rfl (lv_at hl 0 rfl) ?_
        refine qc_Vip (As := [.int w1_2]) (rest := []) (k0 := 1) (m_isPerson l D ca o b z y J0 w1_2) kc_yX11_isPerson ⟨hx, hb, hml, hown, hts⟩ wq_1194 rfl rfl ⟨Nat.le_of_ble_eq_true rfl, Nat.le_of_ble_eq_true rfl⟩ wq_all hP hK hS qw_Ai (q0 := 0) (by decide) (hgM_0 ca o _ _) rfl rfl hl.1 rfl (Nat.le_of_ble_eq_true rfl) dX11_rowMany_12 ⟨Nat.zero_le _, Nat.zero_le _⟩ (fun r3 H locs h3 hP hS _ _ => ?_)
        rcases h3 with ⟨hr3, hf3_0, hf3_1⟩ | ⟨hr3, hf3_0⟩
        · subst hr3
          have hg3_0 : pHas (z 0 4) w1_2 := hf3_0
          have hg3_1 : 0 ≤ w1_2.toInt ∧ w1_2.toInt ≤ 5 := hf3_1
          refine lv_if_eq (tgt := 43) hx hb dX11_rowMany_15 (by decide) (fun q => absurd q (by decide)) (fun _ => ?_)
          refine lv_iload_n hx hb dX11_rowMany_18 rfl (lv_at hl 1 rfl) ?_
          refine lv_ldcw (v := 200000) hx hb hown (hts _ wq_1319) dX11_rowMany_19 ?_
          refine lv_icmp_gt (tgt := 43) hx hb dX11_rowMany_22 (by decide) (fun c4 => ?_) (fun c4 => ?_)
          · have t4 : w1_1.toInt > (200000 : Int) := gl_lt c4
            obtain ⟨x5, e5⟩ : ∃ t : Int32, t = w1_2 + 1 := ⟨_, rfl⟩
            refine lv_iinc (v := x5) (lv' := [(2, .int x5), (1, .int w1_1), (0, .ref (o + 0))]) hx hb dX11_rowMany_43 hl (k := 0) rfl (by rw [e5]; rfl) (by decide) rfl (fun ls hl => ?_)
            have t5 : x5.toInt = w1_2.toInt + (1 : Int) := ga_add e5 rfl rfl (by omega) (by omega)
            refine lv_goto (tgt := 4) hx hb dX11_rowMany_46 (by decide) ?_
            exact ih1 x5 w1_1 (show (6 - x5.toInt : Int) < (n1 : Int) from by omega) ⟨by omega, by omega⟩ (rm_many (p := w1_2) (by omega) (by omega) (by omega) v1_0) _ _ hP hS _ (lv_sub hl [0, 1, 2] rfl)
          · have t4 : w1_1.toInt ≤ (200000 : Int) := gl_nlt c4
            refine lv_iload_n hx hb dX11_rowMany_25 rfl (lv_at hl 1 rfl) ?_
            refine lv_aload_n hx hb dX11_rowMany_26 rfl (lv_at hl 2 rfl) ?_
            refine qf_get hx hb hts inX11 hown hK hP (q0 := 0) (by decide) (hgM_0 ca o) rfl 1 (by decide) wq_994 (v := .ref (o + 2)) rfl dX11_rowMany_27 ?_
            refine lv_iload_n hx hb dX11_rowMany_30 rfl (lv_at hl 0 rfl) ?_
            refine qa_iald hx hb hK hP (q0 := 2) (by decide) 0 (N := 6) (hgM_2 ca o) rfl (gi_in (by omega) (by omega)) dX11_rowMany_31 ?_
            refine lv_topi (fun x6 e6 => ?_)
            have b6 := iM_2 J0 e6
            refine lv_aload_n hx hb dX11_rowMany_32 rfl (lv_at hl 2 rfl) ?_
            refine qf_get hx hb hts inX11 hown hK hP (q0 := 0) (by decide) (hgM_0 ca o) rfl 0 (by decide) wq_993 (v := .ref (o + 1)) rfl dX11_rowMany_33 ?_
            refine lv_iload_n hx hb dX11_rowMany_36 rfl (lv_at hl 0 rfl) ?_
            refine qa_iald hx hb hK hP (q0 := 1) (by decide) 0 (N := 6) (hgM_1 ca o) rfl (gi_in (by omega) (by omega)) dX11_rowMany_37 ?_
            refine lv_topi (fun x7 e7 => ?_)
            have b7 := iM_1 J0 e7
            refine lv_isub hx hb dX11_rowMany_38 ?_
            refine lv_topi (fun x8 e8 => ?_)
            have t8 : x8.toInt = x6.toInt - x7.toInt := ga_sub e8 rfl rfl (by omega) (by omega)
            refine lv_iconst (v := 1) hx hb dX11_rowMany_39 (by decide) ?_
            refine lv_iadd hx hb dX11_rowMany_40 ?_
            refine lv_topi (fun x9 e9 => ?_)
            have t9 : x9.toInt = x8.toInt + (1 : Int) := ga_add e9 rfl rfl (by omega) (by omega)
            refine lv_imul hx hb dX11_rowMany_41 ?_
            refine lv_topi (fun x10 e10 => ?_)
            refine lv_istore_n (lv' := [(1, .int x10), (2, .int w1_2), (0, .ref (o + 0))]) hx hb dX11_rowMany_42 rfl hl (by decide) rfl (fun ls hl => ?_)
            obtain ⟨x11, e11⟩ : ∃ t : Int32, t = w1_2 + 1 := ⟨_, rfl⟩
            refine lv_iinc (v := x11) (lv' := [(2, .int x11), (1, .int x10), (0, .ref (o + 0))]) hx hb dX11_rowMany_43 hl (k := 1) rfl (by rw [e11]; rfl) (by decide) rfl (fun ls hl => ?_)
            have t11 : x11.toInt = w1_2.toInt + (1 : Int) := ga_add e11 rfl rfl (by omega) (by omega)
            refine lv_goto (tgt := 4) hx hb dX11_rowMany_46 (by decide) ?_
            exact ih1 x11 x10 (show (6 - x11.toInt : Int) < (n1 : Int) from by omega) ⟨by omega, by omega⟩ (rm_mul (p := w1_2) J0 (by omega) (by omega) (by omega) hg3_0 (by omega) e6 e7 t8 t9 e10 v1_0) _ _ hP hS _ (lv_sub hl [0, 1, 2] rfl)
        · subst hr3
          have hg3_0 : ¬ pHas (z 0 4) w1_2 := hf3_0
          refine lv_if_eq (tgt := 43) hx hb dX11_rowMany_15 (by decide) (fun _ => ?_) (fun q => absurd (by decide) q)
          obtain ⟨x12, e12⟩ : ∃ t : Int32, t = w1_2 + 1 := ⟨_, rfl⟩
          refine lv_iinc (v := x12) (lv' := [(2, .int x12), (1, .int w1_1), (0, .ref (o + 0))]) hx hb dX11_rowMany_43 hl (k := 0) rfl (by rw [e12]; rfl) (by decide) rfl (fun ls hl => ?_)
          have t12 : x12.toInt = w1_2.toInt + (1 : Int) := ga_add e12 rfl rfl (by omega) (by omega)
          refine lv_goto (tgt := 4) hx hb dX11_rowMany_46 (by decide) ?_
          exact ih1 x12 w1_1 (show (6 - x12.toInt : Int) < (n1 : Int) from by omega) ⟨by omega, by omega⟩ (rm_no (p := w1_2) (by omega) (by omega) (by omega) hg3_0 v1_0) _ _ hP hS _ (lv_sub hl [0, 1, 2] rfl)
  exact loop1 7 0 1 (show (6 - (0 : Int) : Int) < ((7 : Nat) : Int) from by omega) ⟨by decide, by decide⟩ (Or.inl rfl) _ _ hP hS _ (lv_sub hl [0, 1, 2] rfl)
set_option maxRecDepth 100000 in
set_option maxHeartbeats 8000000 in
theorem m_rows (l : Launch) (D : va_G) (ca : Nat → ClassId) (o : Nat) (b z : Nat → Nat → Int32) (y : Nat → Nat → Int64) (J0 : qJM b z)   : qM l yX11_rows cX11_rows 1 (some .int) 4 125 (qPre D vwCl (qT6 ca) o 41 (qG (GM ca o) z y) [.ref (o + 0)]) (va_Qi (fun r (_ : Unit) => True) (qB D vwCl (qT6 ca) o 41 (fun _ : Unit => qG (GM ca o) z y)) (qw_A o 41)) (qw_A o 41) := by
  refine Met.ofW (cc := cX11_rows) (maxL := 1) (ret := (some .int)) (by decide) rfl ?_
  intro p e s m args below meth c s₁ B hml hv
  obtain ⟨rfl, hP, hK⟩ := hv
  have hx := B.exec
  have hb := B.bytes
  have hr := B.returns
  have hts0 := atoms_spec (ws := Cond.code yX11_rows cX11_rows 1 (some .int) :: qtbl) B.pre
  have hts : ∀ w ∈ qtbl, w.before _ s = true := fun w h => hts0 w (List.mem_cons_of_mem _ h)
  have hown : s.vm.findClass RX11 = some m.cls := findClass_of_methodNamed B.named
  have hlocks := B.notSynchronized
  have hS : va_S (qw_A o 41) s.heap s.heap [] := va_S.rf
  have hl := lv_entry ([.ref (o + 0)]) (n := 1) (Nat.le_of_ble_eq_true rfl)
  rw [lg_entry_eq]
  generalize (lg_sl ([.ref (o + 0)]) ++ List.replicate (1 - (lg_sl ([.ref (o + 0)])).length) Slot.unset).toArray = ls at hl ⊢
  have hl : lv_has ls 1 [(0, .ref (o + 0))] := hl
  refine lv_aload_n hx hb dX11_rows_0 rfl (lv_at hl 0 rfl) ?_
  refine qc_Vip (As := []) (rest := []) (k0 := 0) (m_rowMany l D ca o b z y J0) kc_yX11_rowMany ⟨hx, hb, hml, hown, hts⟩ wq_1315 rfl rfl ⟨Nat.le_of_ble_eq_true rfl, Nat.le_of_ble_eq_true rfl⟩ wq_all hP hK hS qw_Ai (q0 := 0) (by decide) (hgM_0 ca o _ _) rfl rfl hl.1 rfl (Nat.le_of_ble_eq_true rfl) dX11_rows_1 ⟨Nat.zero_le _, Nat.zero_le _⟩ (fun r1 H locs h1 hP hS _ _ => ?_)
  have p1_1 : rmI z 6 r1 := h1.2
  refine lv_ldcw (v := 200000) hx hb hown (hts _ wq_1319) dX11_rows_4 ?_
  refine lv_icmp_le (tgt := 15) hx hb dX11_rows_7 (by decide) (fun c2 => ?_) (fun c2 => ?_)
  · have t2 : r1.toInt ≤ (200000 : Int) := gl_le c2
    refine lv_aload_n hx hb dX11_rows_15 rfl (lv_at hl 0 rfl) ?_
    refine qc_Vip (As := []) (rest := []) (k0 := 0) (m_rowMany l D ca o b z y J0) kc_yX11_rowMany ⟨hx, hb, hml, hown, hts⟩ wq_1315 rfl rfl ⟨Nat.le_of_ble_eq_true rfl, Nat.le_of_ble_eq_true rfl⟩ wq_all hP hK hS qw_Ai (q0 := 0) (by decide) (hgM_0 ca o _ _) rfl rfl hl.1 rfl (Nat.le_of_ble_eq_true rfl) dX11_rows_16 ⟨Nat.zero_le _, Nat.zero_le _⟩ (fun r3 H locs h3 hP hS _ _ => ?_)
    have p3_1 : rmI z 6 r3 := h3.2
    exact W.iret (v := r3) hx hb hr (fun t ht hW => ⟨⟨r3, (), rfl, trivial, by rw [ht]; exact hP, va_K.moved hW.alike hK⟩, hS.F ht⟩) hS.2.2 dX11_rows_19
  · have t2 : r1.toInt > (200000 : Int) := gl_nle c2
    refine lv_bipush (v := (-3)) hx hb dX11_rows_10 (by decide) ?_
    refine lv_goto (tgt := 19) hx hb dX11_rows_12 (by decide) ?_
    exact W.iret (v := (-3)) hx hb hr (fun t ht hW => ⟨⟨(-3), (), rfl, trivial, by rw [ht]; exact hP, va_K.moved hW.alike hK⟩, hS.F ht⟩) hS.2.2 dX11_rows_19
set_option maxRecDepth 100000 in
set_option maxHeartbeats 8000000 in
theorem m_toldRemarks (l : Launch) (D : va_G) (ca : Nat → ClassId) (o : Nat) (b z : Nat → Nat → Int32) (y : Nat → Nat → Int64) (J0 : qJM b z)   : qM l yX11_toldRemarks cX11_toldRemarks 1 (some .int) 1 60 (qPre D vwCl (qT6 ca) o 41 (qG (GM ca o) z y) [.ref (o + 0)]) (va_Qi (fun r (_ : Unit) => ((0 : Int) ≤ r.toInt ∧ r.toInt ≤ 1023)) (qB D vwCl (qT6 ca) o 41 (fun _ : Unit => qG (GM ca o) z y)) (qw_A o 41)) (qw_A o 41) := by
  refine Met.ofW (cc := cX11_toldRemarks) (maxL := 1) (ret := (some .int)) (by decide) rfl ?_
  intro p e s m args below meth c s₁ B hml hv
  obtain ⟨rfl, hP, hK⟩ := hv
  have hx := B.exec
  have hb := B.bytes
  have hr := B.returns
  have hts0 := atoms_spec (ws := Cond.code yX11_toldRemarks cX11_toldRemarks 1 (some .int) :: qtbl) B.pre
  have hts : ∀ w ∈ qtbl, w.before _ s = true := fun w h => hts0 w (List.mem_cons_of_mem _ h)
  have hown : s.vm.findClass RX11 = some m.cls := findClass_of_methodNamed B.named
  have hlocks := B.notSynchronized
  have hS : va_S (qw_A o 41) s.heap s.heap [] := va_S.rf
  have hl := lv_entry ([.ref (o + 0)]) (n := 1) (Nat.le_of_ble_eq_true rfl)
  rw [lg_entry_eq]
  generalize (lg_sl ([.ref (o + 0)]) ++ List.replicate (1 - (lg_sl ([.ref (o + 0)])).length) Slot.unset).toArray = ls at hl ⊢
  have hl : lv_has ls 1 [(0, .ref (o + 0))] := hl
  refine lv_aload_n hx hb dX11_toldRemarks_0 rfl (lv_at hl 0 rfl) ?_
  refine qf_get hx hb hts inX11 hown hK hP (q0 := 0) (by decide) (hgM_0 ca o) rfl 6 (by decide) wq_999 (v := .int (z 0 6)) rfl dX11_toldRemarks_1 ?_
  refine lv_topi (fun x1 e1 => ?_)
  refine lv_sipush (v := 1023) hx hb dX11_toldRemarks_4 (by decide) ?_
  refine lv_iand hx hb dX11_toldRemarks_7 ?_
  refine lv_topi (fun x2 e2 => ?_)
  have t2 : 0 ≤ x2.toInt ∧ x2.toInt ≤ (1023 : Int) := ga_and e2 rfl (by omega)
  exact W.iret (v := x2) hx hb hr (fun t ht hW => ⟨⟨x2, (), rfl, ⟨by omega, by omega⟩, by rw [ht]; exact hP, va_K.moved hW.alike hK⟩, hS.F ht⟩) hS.2.2 dX11_toldRemarks_8
set_option maxRecDepth 100000 in
set_option maxHeartbeats 8000000 in
theorem m_areRemarks (l : Launch) (D : va_G) (ca : Nat → ClassId) (o : Nat) (b z : Nat → Nat → Int32) (y : Nat → Nat → Int64) (J0 : qJM b z) (a0 : Int32)  : qM l yX11_areRemarks cX11_areRemarks 2 (some .boolean) 2 80 (qPre D vwCl (qT6 ca) o 41 (qG (GM ca o) z y) [.ref (o + 0), .int a0]) (va_Qi (fun r (_ : Unit) => ((0 : Int) ≤ r.toInt ∧ r.toInt ≤ 1)) (qB D vwCl (qT6 ca) o 41 (fun _ : Unit => qG (GM ca o) z y)) (qw_A o 41)) (qw_A o 41) := by
  refine Met.ofW (cc := cX11_areRemarks) (maxL := 2) (ret := (some .boolean)) (by decide) rfl ?_
  intro p e s m args below meth c s₁ B hml hv
  obtain ⟨rfl, hP, hK⟩ := hv
  have hx := B.exec
  have hb := B.bytes
  have hr := B.returns
  have hts0 := atoms_spec (ws := Cond.code yX11_areRemarks cX11_areRemarks 2 (some .boolean) :: qtbl) B.pre
  have hts : ∀ w ∈ qtbl, w.before _ s = true := fun w h => hts0 w (List.mem_cons_of_mem _ h)
  have hown : s.vm.findClass RX11 = some m.cls := findClass_of_methodNamed B.named
  have hlocks := B.notSynchronized
  have hS : va_S (qw_A o 41) s.heap s.heap [] := va_S.rf
  have hl := lv_entry ([.ref (o + 0), .int a0]) (n := 2) (Nat.le_of_ble_eq_true rfl)
  rw [lg_entry_eq]
  generalize (lg_sl ([.ref (o + 0), .int a0]) ++ List.replicate (2 - (lg_sl ([.ref (o + 0), .int a0])).length) Slot.unset).toArray = ls at hl ⊢
  have hl : lv_has ls 2 [(0, .ref (o + 0)), (1, .int a0)] := hl
  refine lv_iload_n hx hb dX11_areRemarks_0 rfl (lv_at hl 1 rfl) ?_
  refine lv_if_lt (tgt := 19) hx hb dX11_areRemarks_1 (by decide) (fun c1 => ?_) (fun c1 => ?_)
  · have t1 : a0.toInt < (0 : Int) := gl_lt c1
    refine lv_iconst (v := 0) hx hb dX11_areRemarks_19 (by decide) ?_
    exact W.zret (v := 0) (ty := .boolean) hx hb hr rfl (fun t ht hW => ⟨⟨0, (), rfl, ⟨by decide, by decide⟩, by rw [ht]; exact hP, va_K.moved hW.alike hK⟩, hS.F ht⟩) hS.2.2 dX11_areRemarks_20
  · have t1 : a0.toInt ≥ (0 : Int) := gl_nlt c1
    refine lv_iload_n hx hb dX11_areRemarks_4 rfl (lv_at hl 1 rfl) ?_
    refine lv_aload_n hx hb dX11_areRemarks_5 rfl (lv_at hl 0 rfl) ?_
    refine qc_Vip (As := []) (rest := [.int a0]) (k0 := 0) (m_toldRemarks l D ca o b z y J0) kc_yX11_toldRemarks ⟨hx, hb, hml, hown, hts⟩ wq_1328 rfl rfl ⟨Nat.le_of_ble_eq_true rfl, Nat.le_of_ble_eq_true rfl⟩ wq_all hP hK hS qw_Ai (q0 := 0) (by decide) (hgM_0 ca o _ _) rfl rfl hl.1 rfl (Nat.le_of_ble_eq_true rfl) dX11_areRemarks_6 ⟨Nat.zero_le _, Nat.zero_le _⟩ (fun r2 H locs h2 hP hS _ _ => ?_)
    have b2 : (0 : Int) ≤ r2.toInt ∧ r2.toInt ≤ 1023 := h2
    refine lv_iconst (v := (-1)) hx hb dX11_areRemarks_9 (by decide) ?_
    refine lv_ixor hx hb dX11_areRemarks_10 ?_
    refine lv_topi (fun x3 e3 => ?_)
    refine lv_iand hx hb dX11_areRemarks_11 ?_
    refine lv_topi (fun x4 e4 => ?_)
    have t4 : 0 ≤ x4.toInt ∧ x4.toInt ≤ a0.toInt := ga_and' e4 rfl (by omega)
    refine lv_if_ne (tgt := 19) hx hb dX11_areRemarks_12 (by decide) (fun c5 => ?_) (fun c5 => ?_)
    · have t5 : x4.toInt ≠ (0 : Int) := gl_ne c5
      refine lv_iconst (v := 0) hx hb dX11_areRemarks_19 (by decide) ?_
      exact W.zret (v := 0) (ty := .boolean) hx hb hr rfl (fun t ht hW => ⟨⟨0, (), rfl, ⟨by decide, by decide⟩, by rw [ht]; exact hP, va_K.moved hW.alike hK⟩, hS.F ht⟩) hS.2.2 dX11_areRemarks_20
    · have t5 : x4.toInt = (0 : Int) := gl_eq c5
      refine lv_iconst (v := 1) hx hb dX11_areRemarks_15 (by decide) ?_
      refine lv_goto (tgt := 20) hx hb dX11_areRemarks_16 (by decide) ?_
      exact W.zret (v := 1) (ty := .boolean) hx hb hr rfl (fun t ht hW => ⟨⟨1, (), rfl, ⟨by decide, by decide⟩, by rw [ht]; exact hP, va_K.moved hW.alike hK⟩, hS.F ht⟩) hS.2.2 dX11_areRemarks_20
set_option maxRecDepth 100000 in
set_option maxHeartbeats 8000000 in
theorem m_firstRow (l : Launch) (D : va_G) (ca : Nat → ClassId) (o : Nat) (b z : Nat → Nat → Int32) (y : Nat → Nat → Int64) (J0 : qJM b z)   : qM l yX11_firstRow cX11_firstRow 2 none 1 60 (qPre D vwCl (qT6 ca) o 41 (qG (GM ca o) z y) [.ref (o + 0)]) (va_Qv (fun u => qJM b u.1 ∧ u.1 12 = z 12 ∧ u.1 25 = z 25 ∧ (rl u.1 + 1 = rwp z 6)) (qB D vwCl (qT6 ca) o 41 (fun u : qZ => qG (GM ca o) u.1 u.2)) (qw_A o 41)) (qw_A o 41) := by
  refine Met.ofW (cc := cX11_firstRow) (maxL := 2) (ret := none) (by decide) rfl ?_
  intro p e s m args below meth c s₁ B hml hv
  obtain ⟨rfl, hP, hK⟩ := hv
  have hx := B.exec
  have hb := B.bytes
  have hr := B.returns
  have hts0 := atoms_spec (ws := Cond.code yX11_firstRow cX11_firstRow 2 none :: qtbl) B.pre
  have hts : ∀ w ∈ qtbl, w.before _ s = true := fun w h => hts0 w (List.mem_cons_of_mem _ h)
  have hown : s.vm.findClass RX11 = some m.cls := findClass_of_methodNamed B.named
  have hlocks := B.notSynchronized
  have hS : va_S (qw_A o 41) s.heap s.heap [] := va_S.rf
  have hl := lv_entry ([.ref (o + 0)]) (n := 2) (Nat.le_of_ble_eq_true rfl)
  rw [lg_entry_eq]
  generalize (lg_sl ([.ref (o + 0)]) ++ List.replicate (2 - (lg_sl ([.ref (o + 0)])).length) Slot.unset).toArray = ls at hl ⊢
  have hl : lv_has ls 2 [(0, .ref (o + 0))] := hl
  refine lv_iconst (v := 0) hx hb dX11_firstRow_0 (by decide) ?_
  refine lv_istore_n (lv' := [(1, .int 0), (0, .ref (o + 0))]) hx hb dX11_firstRow_1 rfl hl (by decide) rfl (fun ls hl => ?_)
  have loop1 : ∀ (n : Nat) (w1_1 : Int32) (z1 : Nat → Nat → Int32) (y1 : Nat → Nat → Int64), ((6 - w1_1.toInt : Int) < (n : Int)) → ((0 : Int) ≤ w1_1.toInt ∧ w1_1.toInt ≤ 6) → (qJM b z1) → (frI z1 w1_1) → (z1 12 = z 12) → (z1 25 = z 25) → ∀ (H : Heap) (locs : List Loc), qw_P D vwCl o 41 (qG (GM ca o) z1 y1) H → va_S (qw_A o 41) s.heap H locs → ∀ (ls : Array Slot), lv_has ls 2 [(1, .int w1_1), (0, .ref (o + 0))] → W p l e (headSpec (Cond.code yX11_firstRow cX11_firstRow 2 none :: qtbl) ({ frames := 1, cells := 0, slots := 0, locals := 60 })).room s m (([.ref (o + 0)] : List Value).toArray) below meth c H locs 0 0 (MQ below (va_Qv (fun u => qJM b u.1 ∧ u.1 12 = z 12 ∧ u.1 25 = z 25 ∧ (rl u.1 + 1 = rwp z 6)) (qB D vwCl (qT6 ca) o 41 (fun u : qZ => qG (GM ca o) u.1 u.2)) (qw_A o 41)) (([.ref (o + 0)] : List Value).toArray) s 0 0 (qw_A o 41)) (F0 m 2 ls []) := by
    intro n
    induction n with
    | zero => intro w1_1 z1 y1 hb1 hv1_1 J1 v1_0 v1_1 v1_2; exfalso; omega
    | succ n1 ih1 =>
      intro w1_1 z1 y1 hb1 hv1_1 J1 v1_0 v1_1 v1_2 H locs hP hS ls hl
      refine lv_iload_n hx hb dX11_firstRow_2 rfl (lv_at hl 0 rfl) ?_
      refine lv_bipush (v := 6) hx hb dX11_firstRow_3 (by decide) ?_
      refine lv_icmp_ge (tgt := 26) hx hb dX11_firstRow_5 (by decide) (fun c2 => ?_) (fun c2 => ?_)
      · have t2 : w1_1.toInt ≥ (6 : Int) := gl_le c2
        exact W.vret hx hb hr (fun t ht hW => ⟨⟨(z1, y1), rfl, ⟨J1, v1_1, v1_2, (fr_end v1_0 J0.2.1 J1.2.1 (by omega))⟩, by rw [ht]; exact hP, va_K.moved hW.alike hK⟩, hS.F ht⟩) hS.2.2 dX11_firstRow_26
      · have t2 : w1_1.toInt < (6 : Int) := gl_nle c2
        refine lv_aload_n hx hb dX11_firstRow_8 rfl (lv_at hl 1 rfl) ?_
        refine qf_get hx hb hts inX11 hown hK hP (q0 := 0) (by decide) (hgM_0 ca o) rfl 36 (by decide) wq_1028 (v := .ref (o + 23)) rfl dX11_firstRow_9 ?_
        refine lv_iload_n hx hb dX11_firstRow_12 rfl (lv_at hl 0 rfl) ?_
        refine lv_aload_n hx hb dX11_firstRow_13 rfl (lv_at hl 1 rfl) ?_
        refine qf_get hx hb hts inX11 hown hK hP (q0 := 0) (by decide) (hgM_0 ca o) rfl 0 (by decide) wq_993 (v := .ref (o + 1)) rfl dX11_firstRow_14 ?_
        refine lv_iload_n hx hb dX11_firstRow_17 rfl (lv_at hl 0 rfl) ?_
        refine qa_iald hx hb hK hP (q0 := 1) (by decide) 0 (N := 6) (hgM_1 ca o) rfl (gi_in (by omega) (by omega)) dX11_firstRow_18 ?_
        refine lv_topi (fun x3 e3 => ?_)
        have b3 := iM_1 J1 e3
        refine qa_iast2 hx hb hK hP hS qw_Ai (q0 := 23) (by decide) 0 (N := 6) (hgM_23 ca o) rfl (i := w1_1) (x := x3) (gi_in (by omega) (by omega)) dX11_firstRow_19 (fun z4 H locs hz4 hP hS => ?_)
        have J4 := jM_23 J1 hz4 ⟨by omega, by omega⟩
        have R12_4 : z4 12 = z 12 := (qt_row hz4 (by decide)).trans (v1_1)
        have R25_4 : z4 25 = z 25 := (qt_row hz4 (by decide)).trans (v1_2)
        obtain ⟨x5, e5⟩ : ∃ t : Int32, t = w1_1 + 1 := ⟨_, rfl⟩
        refine lv_iinc (v := x5) (lv' := [(1, .int x5), (0, .ref (o + 0))]) hx hb dX11_firstRow_20 hl (k := 0) rfl (by rw [e5]; rfl) (by decide) rfl (fun ls hl => ?_)
        have t5 : x5.toInt = w1_1.toInt + (1 : Int) := ga_add e5 rfl rfl (by omega) (by omega)
        refine lv_goto (tgt := 2) hx hb dX11_firstRow_23 (by decide) ?_
        exact ih1 x5 z4 y1 (show (6 - x5.toInt : Int) < (n1 : Int) from by omega) ⟨by omega, by omega⟩ J4 (fr_step (by omega) (by omega) v1_0 hz4 e3) (R12_4) (R25_4) _ _ hP hS _ (lv_sub hl [0, 1] rfl)
  exact loop1 7 0 z y (show (6 - (0 : Int) : Int) < ((7 : Nat) : Int) from by omega) ⟨by decide, by decide⟩ J0 (fr_0 z) (rfl) (rfl) _ _ hP hS _ (lv_sub hl [0, 1] rfl)
set_option maxRecDepth 100000 in
set_option maxHeartbeats 8000000 in
theorem m_valueOf (l : Launch) (D : va_G) (ca : Nat → ClassId) (o : Nat) (b z : Nat → Nat → Int32) (y : Nat → Nat → Int64) (J0 : qJM b z) (a0 : Int32) (ha0 : (0 : Int) ≤ a0.toInt ∧ a0.toInt ≤ 15) : qM l yX11_valueOf cX11_valueOf 4 (some .int) 1 60 (qPre D vwCl (qT6 ca) o 41 (qG (GM ca o) z y) [.ref (o + 0), .int a0]) (va_Qi (fun r (_ : Unit) => True) (qB D vwCl (qT6 ca) o 41 (fun _ : Unit => qG (GM ca o) z y)) (qw_A o 41)) (qw_A o 41) := by
  refine Met.ofW (cc := cX11_valueOf) (maxL := 4) (ret := (some .int)) (by decide) rfl ?_
  intro p e s m args below meth c s₁ B hml hv
  obtain ⟨rfl, hP, hK⟩ := hv
  have hx := B.exec
  have hb := B.bytes
  have hr := B.returns
  have hts0 := atoms_spec (ws := Cond.code yX11_valueOf cX11_valueOf 4 (some .int) :: qtbl) B.pre
  have hts : ∀ w ∈ qtbl, w.before _ s = true := fun w h => hts0 w (List.mem_cons_of_mem _ h)
  have hown : s.vm.findClass RX11 = some m.cls := findClass_of_methodNamed B.named
  have hlocks := B.notSynchronized
  have hS : va_S (qw_A o 41) s.heap s.heap [] := va_S.rf
  have hl := lv_entry ([.ref (o + 0), .int a0]) (n := 4) (Nat.le_of_ble_eq_true rfl)
  rw [lg_entry_eq]
  generalize (lg_sl ([.ref (o + 0), .int a0]) ++ List.replicate (4 - (lg_sl ([.ref (o + 0), .int a0])).length) Slot.unset).toArray = ls at hl ⊢
  have hl : lv_has ls 4 [(0, .ref (o + 0)), (1, .int a0)] := hl
  refine lv_aload_n hx hb dX11_valueOf_0 rfl (lv_at hl 0 rfl) ?_
  refine qf_get hx hb hts inX11 hown hK hP (q0 := 0) (by decide) (hgM_0 ca o) rfl 9 (by decide) wq_1002 (v := .ref (o + 7)) rfl dX11_valueOf_1 ?_
  refine lv_iload_n hx hb dX11_valueOf_4 rfl (lv_at hl 1 rfl) ?_
  refine qa_iald hx hb hK hP (q0 := 7) (by decide) 0 (N := 16) (hgM_7 ca o) rfl (gi_in (by omega) (by omega)) dX11_valueOf_5 ?_
  refine lv_topi (fun x1 e1 => ?_)
  refine lv_istore_n (lv' := [(2, .int x1), (0, .ref (o + 0)), (1, .int a0)]) hx hb dX11_valueOf_6 rfl hl (by decide) rfl (fun ls hl => ?_)
  refine lv_iconst (v := 0) hx hb dX11_valueOf_7 (by decide) ?_
  refine lv_istore_n (lv' := [(3, .int 0), (2, .int x1), (0, .ref (o + 0)), (1, .int a0)]) hx hb dX11_valueOf_8 rfl hl (by decide) rfl (fun ls hl => ?_)
  have loop2 : ∀ (n : Nat) (w2_3 : Int32) (w2_2 : Int32), ((6 - w2_3.toInt : Int) < (n : Int)) → ((0 : Int) ≤ w2_3.toInt ∧ w2_3.toInt ≤ 6) → ∀ (H : Heap) (locs : List Loc), qw_P D vwCl o 41 (qG (GM ca o) z y) H → va_S (qw_A o 41) s.heap H locs → ∀ (ls : Array Slot), lv_has ls 4 [(3, .int w2_3), (2, .int w2_2), (0, .ref (o + 0)), (1, .int a0)] → W p l e (headSpec (Cond.code yX11_valueOf cX11_valueOf 4 (some .int) :: qtbl) ({ frames := 1, cells := 0, slots := 0, locals := 60 })).room s m (([.ref (o + 0), .int a0] : List Value).toArray) below meth c H locs 0 0 (MQ below (va_Qi (fun r (_ : Unit) => True) (qB D vwCl (qT6 ca) o 41 (fun _ : Unit => qG (GM ca o) z y)) (qw_A o 41)) (([.ref (o + 0), .int a0] : List Value).toArray) s 0 0 (qw_A o 41)) (F0 m 9 ls []) := by
    intro n
    induction n with
    | zero => intro w2_3 w2_2 hb2 hv2_3; exfalso; omega
    | succ n2 ih2 =>
      intro w2_3 w2_2 hb2 hv2_3 H locs hP hS ls hl
      refine lv_iload_n hx hb dX11_valueOf_9 rfl (lv_at hl 0 rfl) ?_
      refine lv_bipush (v := 6) hx hb dX11_valueOf_10 (by decide) ?_
      refine lv_icmp_ge (tgt := 42) hx hb dX11_valueOf_12 (by decide) (fun c3 => ?_) (fun c3 => ?_)
      · have t3 : w2_3.toInt ≥ (6 : Int) := gl_le c3
        refine lv_iload_n hx hb dX11_valueOf_42 rfl (lv_at hl 1 rfl) ?_
        exact W.iret (v := w2_2) hx hb hr (fun t ht hW => ⟨⟨w2_2, (), rfl, trivial, by rw [ht]; exact hP, va_K.moved hW.alike hK⟩, hS.F ht⟩) hS.2.2 dX11_valueOf_43
      · have t3 : w2_3.toInt < (6 : Int) := gl_nle c3
        refine lv_iload_n hx hb dX11_valueOf_15 rfl (lv_at hl 1 rfl) ?_
        refine lv_aload_n hx hb dX11_valueOf_16 rfl (lv_at hl 2 rfl) ?_
        refine qf_get hx hb hts inX11 hown hK hP (q0 := 0) (by decide) (hgM_0 ca o) rfl 7 (by decide) wq_1000 (v := .ref (o + 5)) rfl dX11_valueOf_17 ?_
        refine lv_bipush (v := 6) hx hb dX11_valueOf_20 (by decide) ?_
        refine lv_iload_n hx hb dX11_valueOf_22 rfl (lv_at hl 3 rfl) ?_
        refine lv_imul hx hb dX11_valueOf_23 ?_
        refine lv_topi (fun x4 e4 => ?_)
        have t4 : x4.toInt = (6 : Int) * a0.toInt := ga_mul e4 rfl rfl (by omega) (by omega)
        refine lv_iload_n hx hb dX11_valueOf_24 rfl (lv_at hl 0 rfl) ?_
        refine lv_iadd hx hb dX11_valueOf_25 ?_
        refine lv_topi (fun x5 e5 => ?_)
        have t5 : x5.toInt = x4.toInt + w2_3.toInt := ga_add e5 rfl rfl (by omega) (by omega)
        refine qa_iald hx hb hK hP (q0 := 5) (by decide) 0 (N := 96) (hgM_5 ca o) rfl (gi_in (by omega) (by omega)) dX11_valueOf_26 ?_
        refine lv_topi (fun x6 e6 => ?_)
        refine lv_aload_n hx hb dX11_valueOf_27 rfl (lv_at hl 2 rfl) ?_
        refine qf_get hx hb hts inX11 hown hK hP (q0 := 0) (by decide) (hgM_0 ca o) rfl 36 (by decide) wq_1028 (v := .ref (o + 23)) rfl dX11_valueOf_28 ?_
        refine lv_iload_n hx hb dX11_valueOf_31 rfl (lv_at hl 0 rfl) ?_
        refine qa_iald hx hb hK hP (q0 := 23) (by decide) 0 (N := 6) (hgM_23 ca o) rfl (gi_in (by omega) (by omega)) dX11_valueOf_32 ?_
        refine lv_topi (fun x7 e7 => ?_)
        have b7 := iM_23 J0 e7
        refine lv_imul hx hb dX11_valueOf_33 ?_
        refine lv_topi (fun x8 e8 => ?_)
        refine lv_iadd hx hb dX11_valueOf_34 ?_
        refine lv_topi (fun x9 e9 => ?_)
        refine lv_istore_n (lv' := [(2, .int x9), (3, .int w2_3), (0, .ref (o + 0)), (1, .int a0)]) hx hb dX11_valueOf_35 rfl hl (by decide) rfl (fun ls hl => ?_)
        obtain ⟨x10, e10⟩ : ∃ t : Int32, t = w2_3 + 1 := ⟨_, rfl⟩
        refine lv_iinc (v := x10) (lv' := [(3, .int x10), (2, .int x9), (0, .ref (o + 0)), (1, .int a0)]) hx hb dX11_valueOf_36 hl (k := 1) rfl (by rw [e10]; rfl) (by decide) rfl (fun ls hl => ?_)
        have t10 : x10.toInt = w2_3.toInt + (1 : Int) := ga_add e10 rfl rfl (by omega) (by omega)
        refine lv_goto (tgt := 9) hx hb dX11_valueOf_39 (by decide) ?_
        exact ih2 x10 x9 (show (6 - x10.toInt : Int) < (n2 : Int) from by omega) ⟨by omega, by omega⟩ _ _ hP hS _ (lv_sub hl [0, 1, 2, 3] rfl)
  exact loop2 7 0 x1 (show (6 - (0 : Int) : Int) < ((7 : Nat) : Int) from by omega) ⟨by decide, by decide⟩ _ _ hP hS _ (lv_sub hl [0, 1, 2, 3] rfl)
set_option maxRecDepth 100000 in
set_option maxHeartbeats 8000000 in
theorem m_isSo (l : Launch) (D : va_G) (ca : Nat → ClassId) (o : Nat) (b z : Nat → Nat → Int32) (y : Nat → Nat → Int64) (J0 : qJM b z) (a0 : Int32) (a1 : Int32) (ha0 : (0 : Int) ≤ a0.toInt ∧ a0.toInt ≤ 15) : qM l yX11_isSo cX11_isSo 3 (some .boolean) 1 60 (qPre D vwCl (qT6 ca) o 41 (qG (GM ca o) z y) [.ref (o + 0), .int a0, .int a1]) (va_Qi (fun r (_ : Unit) => ((0 : Int) ≤ r.toInt ∧ r.toInt ≤ 1)) (qB D vwCl (qT6 ca) o 41 (fun _ : Unit => qG (GM ca o) z y)) (qw_A o 41)) (qw_A o 41) := by
  refine Met.ofW (cc := cX11_isSo) (maxL := 3) (ret := (some .boolean)) (by decide) rfl ?_
  intro p e s m args below meth c s₁ B hml hv
  obtain ⟨rfl, hP, hK⟩ := hv
  have hx := B.exec
  have hb := B.bytes
  have hr := B.returns
  have hts0 := atoms_spec (ws := Cond.code yX11_isSo cX11_isSo 3 (some .boolean) :: qtbl) B.pre
  have hts : ∀ w ∈ qtbl, w.before _ s = true := fun w h => hts0 w (List.mem_cons_of_mem _ h)
  have hown : s.vm.findClass RX11 = some m.cls := findClass_of_methodNamed B.named
  have hlocks := B.notSynchronized
  have hS : va_S (qw_A o 41) s.heap s.heap [] := va_S.rf
  have hl := lv_entry ([.ref (o + 0), .int a0, .int a1]) (n := 3) (Nat.le_of_ble_eq_true rfl)
  rw [lg_entry_eq]
  generalize (lg_sl ([.ref (o + 0), .int a0, .int a1]) ++ List.replicate (3 - (lg_sl ([.ref (o + 0), .int a0, .int a1])).length) Slot.unset).toArray = ls at hl ⊢
  have hl : lv_has ls 3 [(0, .ref (o + 0)), (1, .int a0), (2, .int a1)] := hl
  refine lv_aload_n hx hb dX11_isSo_0 rfl (lv_at hl 0 rfl) ?_
  refine qf_get hx hb hts inX11 hown hK hP (q0 := 0) (by decide) (hgM_0 ca o) rfl 10 (by decide) wq_1003 (v := .ref (o + 8)) rfl dX11_isSo_1 ?_
  refine lv_iload_n hx hb dX11_isSo_4 rfl (lv_at hl 1 rfl) ?_
  refine qa_iald hx hb hK hP (q0 := 8) (by decide) 0 (N := 16) (hgM_8 ca o) rfl (gi_in (by omega) (by omega)) dX11_isSo_5 ?_
  refine lv_topi (fun x1 e1 => ?_)
  have b1 := iM_8 J0 e1
  have kl1 : x1.toInt = (z 8 a0.toNatClampNeg).toInt := congrArg Int32.toInt e1
  rcases (by omega : x1.toInt = 0 ∨ x1.toInt = 1 ∨ x1.toInt = 2 ∨ x1.toInt < 0 ∨ 2 < x1.toInt) with c2 | c2 | c2 | c2 | c2
  · refine lv_tableIn (tgt := 32) hx hb dX11_isSo_6 (by omega) (by omega) (by rw [c2]; rfl) (by decide) ?_
    refine lv_iload_n hx hb dX11_isSo_32 rfl (lv_at hl 2 rfl) ?_
    refine lv_if_ne (tgt := 40) hx hb dX11_isSo_33 (by decide) (fun c3 => ?_) (fun c3 => ?_)
    · have t3 : a1.toInt ≠ (0 : Int) := gl_ne c3
      refine lv_iconst (v := 0) hx hb dX11_isSo_40 (by decide) ?_
      exact W.zret (v := 0) (ty := .boolean) hx hb hr rfl (fun t ht hW => ⟨⟨0, (), rfl, ⟨by decide, by decide⟩, by rw [ht]; exact hP, va_K.moved hW.alike hK⟩, hS.F ht⟩) hS.2.2 dX11_isSo_41
    · have t3 : a1.toInt = (0 : Int) := gl_eq c3
      refine lv_iconst (v := 1) hx hb dX11_isSo_36 (by decide) ?_
      refine lv_goto (tgt := 41) hx hb dX11_isSo_37 (by decide) ?_
      exact W.zret (v := 1) (ty := .boolean) hx hb hr rfl (fun t ht hW => ⟨⟨1, (), rfl, ⟨by decide, by decide⟩, by rw [ht]; exact hP, va_K.moved hW.alike hK⟩, hS.F ht⟩) hS.2.2 dX11_isSo_41
  · refine lv_tableIn (tgt := 42) hx hb dX11_isSo_6 (by omega) (by omega) (by rw [c2]; rfl) (by decide) ?_
    refine lv_iload_n hx hb dX11_isSo_42 rfl (lv_at hl 2 rfl) ?_
    refine lv_if_ge (tgt := 50) hx hb dX11_isSo_43 (by decide) (fun c4 => ?_) (fun c4 => ?_)
    · have t4 : a1.toInt ≥ (0 : Int) := gl_le c4
      refine lv_iconst (v := 0) hx hb dX11_isSo_50 (by decide) ?_
      exact W.zret (v := 0) (ty := .boolean) hx hb hr rfl (fun t ht hW => ⟨⟨0, (), rfl, ⟨by decide, by decide⟩, by rw [ht]; exact hP, va_K.moved hW.alike hK⟩, hS.F ht⟩) hS.2.2 dX11_isSo_51
    · have t4 : a1.toInt < (0 : Int) := gl_nle c4
      refine lv_iconst (v := 1) hx hb dX11_isSo_46 (by decide) ?_
      refine lv_goto (tgt := 51) hx hb dX11_isSo_47 (by decide) ?_
      exact W.zret (v := 1) (ty := .boolean) hx hb hr rfl (fun t ht hW => ⟨⟨1, (), rfl, ⟨by decide, by decide⟩, by rw [ht]; exact hP, va_K.moved hW.alike hK⟩, hS.F ht⟩) hS.2.2 dX11_isSo_51
  · refine lv_tableIn (tgt := 52) hx hb dX11_isSo_6 (by omega) (by omega) (by rw [c2]; rfl) (by decide) ?_
    refine lv_iload_n hx hb dX11_isSo_52 rfl (lv_at hl 2 rfl) ?_
    refine lv_if_le (tgt := 60) hx hb dX11_isSo_53 (by decide) (fun c5 => ?_) (fun c5 => ?_)
    · have t5 : a1.toInt ≤ (0 : Int) := gl_le c5
      refine lv_iconst (v := 0) hx hb dX11_isSo_60 (by decide) ?_
      exact W.zret (v := 0) (ty := .boolean) hx hb hr rfl (fun t ht hW => ⟨⟨0, (), rfl, ⟨by decide, by decide⟩, by rw [ht]; exact hP, va_K.moved hW.alike hK⟩, hS.F ht⟩) hS.2.2 dX11_isSo_61
    · have t5 : a1.toInt > (0 : Int) := gl_nle c5
      refine lv_iconst (v := 1) hx hb dX11_isSo_56 (by decide) ?_
      refine lv_goto (tgt := 61) hx hb dX11_isSo_57 (by decide) ?_
      exact W.zret (v := 1) (ty := .boolean) hx hb hr rfl (fun t ht hW => ⟨⟨1, (), rfl, ⟨by decide, by decide⟩, by rw [ht]; exact hP, va_K.moved hW.alike hK⟩, hS.F ht⟩) hS.2.2 dX11_isSo_61
  · exfalso; omega
  · refine lv_tableOut (tgt := 62) hx hb dX11_isSo_6 (Or.inr c2) (by decide) ?_
    refine lv_iload_n hx hb dX11_isSo_62 rfl (lv_at hl 2 rfl) ?_
    refine lv_aload_n hx hb dX11_isSo_63 rfl (lv_at hl 0 rfl) ?_
    refine qf_get hx hb hts inX11 hown hK hP (q0 := 0) (by decide) (hgM_0 ca o) rfl 11 (by decide) wq_1004 (v := .ref (o + 9)) rfl dX11_isSo_64 ?_
    refine lv_iload_n hx hb dX11_isSo_67 rfl (lv_at hl 1 rfl) ?_
    refine qa_iald hx hb hK hP (q0 := 9) (by decide) 0 (N := 16) (hgM_9 ca o) rfl (gi_in (by omega) (by omega)) dX11_isSo_68 ?_
    refine lv_topi (fun x6 e6 => ?_)
    have kl6 : x6.toInt = (z 9 a0.toNatClampNeg).toInt := congrArg Int32.toInt e6
    have gl6 := J0.2.2.1 a0.toNatClampNeg
    refine lv_irem hx hb dX11_isSo_69 (gr_ne (show x6.toInt ≠ (0 : Int) from by omega)) ?_
    refine lv_topi (fun x7 e7 => ?_)
    refine lv_if_ne (tgt := 77) hx hb dX11_isSo_70 (by decide) (fun c8 => ?_) (fun c8 => ?_)
    · have t8 : x7.toInt ≠ (0 : Int) := gl_ne c8
      refine lv_iconst (v := 0) hx hb dX11_isSo_77 (by decide) ?_
      exact W.zret (v := 0) (ty := .boolean) hx hb hr rfl (fun t ht hW => ⟨⟨0, (), rfl, ⟨by decide, by decide⟩, by rw [ht]; exact hP, va_K.moved hW.alike hK⟩, hS.F ht⟩) hS.2.2 dX11_isSo_78
    · have t8 : x7.toInt = (0 : Int) := gl_eq c8
      refine lv_iconst (v := 1) hx hb dX11_isSo_73 (by decide) ?_
      refine lv_goto (tgt := 78) hx hb dX11_isSo_74 (by decide) ?_
      exact W.zret (v := 1) (ty := .boolean) hx hb hr rfl (fun t ht hW => ⟨⟨1, (), rfl, ⟨by decide, by decide⟩, by rw [ht]; exact hP, va_K.moved hW.alike hK⟩, hS.F ht⟩) hS.2.2 dX11_isSo_78
set_option maxRecDepth 100000 in
set_option maxHeartbeats 8000000 in
theorem m_nextRow (l : Launch) (D : va_G) (ca : Nat → ClassId) (o : Nat) (b z : Nat → Nat → Int32) (y : Nat → Nat → Int64) (J0 : qJM b z)   : qM l yX11_nextRow cX11_nextRow 2 (some .boolean) 3 103 (qPre D vwCl (qT6 ca) o 41 (qG (GM ca o) z y) [.ref (o + 0)]) (va_Qi (fun r u => ((r = 1 ∧ (rl u.1 + 1 ≤ rl z)) ∨ (r = 0)) ∧ qJM b u.1 ∧ u.1 12 = z 12 ∧ u.1 25 = z 25 ∧ ((u.1 0 41).toInt = (z 0 41).toInt)) (qB D vwCl (qT6 ca) o 41 (fun u : qZ => qG (GM ca o) u.1 u.2)) (qw_A o 41)) (qw_A o 41) := by
  refine Met.ofW (cc := cX11_nextRow) (maxL := 2) (ret := (some .boolean)) (by decide) rfl ?_
  intro p e s m args below meth c s₁ B hml hv
  obtain ⟨rfl, hP, hK⟩ := hv
  have hx := B.exec
  have hb := B.bytes
  have hr := B.returns
  have hts0 := atoms_spec (ws := Cond.code yX11_nextRow cX11_nextRow 2 (some .boolean) :: qtbl) B.pre
  have hts : ∀ w ∈ qtbl, w.before _ s = true := fun w h => hts0 w (List.mem_cons_of_mem _ h)
  have hown : s.vm.findClass RX11 = some m.cls := findClass_of_methodNamed B.named
  have hlocks := B.notSynchronized
  have hS : va_S (qw_A o 41) s.heap s.heap [] := va_S.rf
  have hl := lv_entry ([.ref (o + 0)]) (n := 2) (Nat.le_of_ble_eq_true rfl)
  rw [lg_entry_eq]
  generalize (lg_sl ([.ref (o + 0)]) ++ List.replicate (2 - (lg_sl ([.ref (o + 0)])).length) Slot.unset).toArray = ls at hl ⊢
  have hl : lv_has ls 2 [(0, .ref (o + 0))] := hl
  refine lv_iconst (v := 5) hx hb dX11_nextRow_0 (by decide) ?_
  refine lv_istore_n (lv' := [(1, .int 5), (0, .ref (o + 0))]) hx hb dX11_nextRow_1 rfl hl (by decide) rfl (fun ls hl => ?_)
  have loop1 : ∀ (n : Nat) (w1_1 : Int32) (z1 : Nat → Nat → Int32) (y1 : Nat → Nat → Int64), ((w1_1.toInt - (-1) : Int) < (n : Int)) → ((-1 : Int) ≤ w1_1.toInt ∧ w1_1.toInt ≤ 5) → (qJM b z1) → (nrA z z1 w1_1) → (nrB z z1 w1_1) → ((z1 0 41).toInt = (z 0 41).toInt) → (z1 12 = z 12) → (z1 25 = z 25) → ∀ (H : Heap) (locs : List Loc), qw_P D vwCl o 41 (qG (GM ca o) z1 y1) H → va_S (qw_A o 41) s.heap H locs → ∀ (ls : Array Slot), lv_has ls 2 [(1, .int w1_1), (0, .ref (o + 0))] → W p l e (headSpec (Cond.code yX11_nextRow cX11_nextRow 2 (some .boolean) :: qtbl) ({ frames := 3, cells := 0, slots := 0, locals := 103 })).room s m (([.ref (o + 0)] : List Value).toArray) below meth c H locs 0 0 (MQ below (va_Qi (fun r u => ((r = 1 ∧ (rl u.1 + 1 ≤ rl z)) ∨ (r = 0)) ∧ qJM b u.1 ∧ u.1 12 = z 12 ∧ u.1 25 = z 25 ∧ ((u.1 0 41).toInt = (z 0 41).toInt)) (qB D vwCl (qT6 ca) o 41 (fun u : qZ => qG (GM ca o) u.1 u.2)) (qw_A o 41)) (([.ref (o + 0)] : List Value).toArray) s 0 0 (qw_A o 41)) (F0 m 2 ls []) := by
    intro n
    induction n with
    | zero => intro w1_1 z1 y1 hb1 hv1_1 J1 v1_0 v1_1 v1_2 v1_3 v1_4; exfalso; omega
    | succ n1 ih1 =>
      intro w1_1 z1 y1 hb1 hv1_1 J1 v1_0 v1_1 v1_2 v1_3 v1_4 H locs hP hS ls hl
      refine lv_iload_n hx hb dX11_nextRow_2 rfl (lv_at hl 0 rfl) ?_
      refine lv_if_lt (tgt := 66) hx hb dX11_nextRow_3 (by decide) (fun c2 => ?_) (fun c2 => ?_)
      · have t2 : w1_1.toInt < (0 : Int) := gl_lt c2
        refine lv_iconst (v := 0) hx hb dX11_nextRow_66 (by decide) ?_
        exact W.zret (v := 0) (ty := .boolean) hx hb hr rfl (fun t ht hW => ⟨⟨0, (z1, y1), rfl, ⟨Or.inr rfl, J1, v1_3, v1_4, (show (z1 0 41).toInt = (z 0 41).toInt from by omega)⟩, by rw [ht]; exact hP, va_K.moved hW.alike hK⟩, hS.F ht⟩) hS.2.2 dX11_nextRow_67
      · have t2 : w1_1.toInt ≥ (0 : Int) := gl_nlt c2
        refine lv_aload_n hx hb dX11_nextRow_6 rfl (lv_at hl 1 rfl) ?_
        refine lv_iload_n hx hb dX11_nextRow_7 rfl (lv_at hl 0 rfl) ?_
        refine qc_Vip (As := [.int w1_1]) (rest := []) (k0 := 1) (m_isPerson l D ca o b z1 y1 J1 w1_1) kc_yX11_isPerson ⟨hx, hb, hml, hown, hts⟩ wq_1194 rfl rfl ⟨Nat.le_of_ble_eq_true rfl, Nat.le_of_ble_eq_true rfl⟩ wq_all hP hK hS qw_Ai (q0 := 0) (by decide) (hgM_0 ca o _ _) rfl rfl hl.1 rfl (Nat.le_of_ble_eq_true rfl) dX11_nextRow_8 ⟨Nat.zero_le _, Nat.zero_le _⟩ (fun r3 H locs h3 hP hS _ _ => ?_)
        rcases h3 with ⟨hr3, hf3_0, hf3_1⟩ | ⟨hr3, hf3_0⟩
        · subst hr3
          have hg3_0 : pHas (z1 0 4) w1_1 := hf3_0
          have hg3_1 : 0 ≤ w1_1.toInt ∧ w1_1.toInt ≤ 5 := hf3_1
          refine lv_if_ne (tgt := 17) hx hb dX11_nextRow_11 (by decide) (fun _ => ?_) (fun q => absurd q (by decide))
          refine lv_aload_n hx hb dX11_nextRow_17 rfl (lv_at hl 1 rfl) ?_
          refine qf_get hx hb hts inX11 hown hK hP (q0 := 0) (by decide) (hgM_0 ca o) rfl 36 (by decide) wq_1028 (v := .ref (o + 23)) rfl dX11_nextRow_18 ?_
          refine lv_iload_n hx hb dX11_nextRow_21 rfl (lv_at hl 0 rfl) ?_
          refine qa_iald hx hb hK hP (q0 := 23) (by decide) 0 (N := 6) (hgM_23 ca o) rfl (gi_in (by omega) (by omega)) dX11_nextRow_22 ?_
          refine lv_topi (fun x4 e4 => ?_)
          have b4 := iM_23 J1 e4
          have kl4 : x4.toInt = (z1 23 w1_1.toNatClampNeg).toInt := congrArg Int32.toInt e4
          refine lv_aload_n hx hb dX11_nextRow_23 rfl (lv_at hl 1 rfl) ?_
          refine qf_get hx hb hts inX11 hown hK hP (q0 := 0) (by decide) (hgM_0 ca o) rfl 1 (by decide) wq_994 (v := .ref (o + 2)) rfl dX11_nextRow_24 ?_
          refine lv_iload_n hx hb dX11_nextRow_27 rfl (lv_at hl 0 rfl) ?_
          refine qa_iald hx hb hK hP (q0 := 2) (by decide) 0 (N := 6) (hgM_2 ca o) rfl (gi_in (by omega) (by omega)) dX11_nextRow_28 ?_
          refine lv_topi (fun x5 e5 => ?_)
          have b5 := iM_2 J1 e5
          have kl5 : x5.toInt = (z1 2 w1_1.toNatClampNeg).toInt := congrArg Int32.toInt e5
          refine lv_icmp_ge (tgt := 48) hx hb dX11_nextRow_29 (by decide) (fun c6 => ?_) (fun c6 => ?_)
          · have t6 : x4.toInt ≥ x5.toInt := gl_le c6
            refine lv_aload_n hx hb dX11_nextRow_48 rfl (lv_at hl 1 rfl) ?_
            refine qf_get hx hb hts inX11 hown hK hP (q0 := 0) (by decide) (hgM_0 ca o) rfl 36 (by decide) wq_1028 (v := .ref (o + 23)) rfl dX11_nextRow_49 ?_
            refine lv_iload_n hx hb dX11_nextRow_52 rfl (lv_at hl 0 rfl) ?_
            refine lv_aload_n hx hb dX11_nextRow_53 rfl (lv_at hl 1 rfl) ?_
            refine qf_get hx hb hts inX11 hown hK hP (q0 := 0) (by decide) (hgM_0 ca o) rfl 0 (by decide) wq_993 (v := .ref (o + 1)) rfl dX11_nextRow_54 ?_
            refine lv_iload_n hx hb dX11_nextRow_57 rfl (lv_at hl 0 rfl) ?_
            refine qa_iald hx hb hK hP (q0 := 1) (by decide) 0 (N := 6) (hgM_1 ca o) rfl (gi_in (by omega) (by omega)) dX11_nextRow_58 ?_
            refine lv_topi (fun x7 e7 => ?_)
            have b7 := iM_1 J1 e7
            have kl7 : x7.toInt = (z1 1 w1_1.toNatClampNeg).toInt := congrArg Int32.toInt e7
            refine qa_iast2 hx hb hK hP hS qw_Ai (q0 := 23) (by decide) 0 (N := 6) (hgM_23 ca o) rfl (i := w1_1) (x := x7) (gi_in (by omega) (by omega)) dX11_nextRow_59 (fun z8 H locs hz8 hP hS => ?_)
            have J8 := jM_23 J1 hz8 ⟨by omega, by omega⟩
            have R12_8 : z8 12 = z 12 := (qt_row hz8 (by decide)).trans (v1_3)
            have R25_8 : z8 25 = z 25 := (qt_row hz8 (by decide)).trans (v1_4)
            have k8_0 : (z8 0 41).toInt = (z1 0 41).toInt := congrArg Int32.toInt (qt_ne hz8 41 (by decide))
            obtain ⟨x9, e9⟩ : ∃ t : Int32, t = w1_1 + (-1) := ⟨_, rfl⟩
            refine lv_iinc (v := x9) (lv' := [(1, .int x9), (0, .ref (o + 0))]) hx hb dX11_nextRow_60 hl (k := 0) rfl (by rw [e9]; rfl) (by decide) rfl (fun ls hl => ?_)
            have t9 : x9.toInt = w1_1.toInt + (-1 : Int) := ga_add e9 rfl rfl (by omega) (by omega)
            refine lv_goto (tgt := 2) hx hb dX11_nextRow_63 (by decide) ?_
            exact ih1 x9 z8 y1 (show (x9.toInt - (-1) : Int) < (n1 : Int) from by omega) ⟨by omega, by omega⟩ J8 ((nr_reset (p := w1_1) J0.2.1 J1.2.1 J8.2.1 (by omega) (by omega) (by omega) hg3_0 hz8 e7 (by omega) v1_0 v1_1).1) ((nr_reset (p := w1_1) J0.2.1 J1.2.1 J8.2.1 (by omega) (by omega) (by omega) hg3_0 hz8 e7 (by omega) v1_0 v1_1).2) (show (z8 0 41).toInt = (z 0 41).toInt from by omega) (R12_8) (R25_8) _ _ hP hS _ (lv_sub hl [0, 1] rfl)
          · have t6 : x4.toInt < x5.toInt := gl_nle c6
            refine lv_aload_n hx hb dX11_nextRow_32 rfl (lv_at hl 1 rfl) ?_
            refine qf_get hx hb hts inX11 hown hK hP (q0 := 0) (by decide) (hgM_0 ca o) rfl 36 (by decide) wq_1028 (v := .ref (o + 23)) rfl dX11_nextRow_33 ?_
            refine lv_iload_n hx hb dX11_nextRow_36 rfl (lv_at hl 0 rfl) ?_
            refine lv_aload_n hx hb dX11_nextRow_37 rfl (lv_at hl 1 rfl) ?_
            refine qf_get hx hb hts inX11 hown hK hP (q0 := 0) (by decide) (hgM_0 ca o) rfl 36 (by decide) wq_1028 (v := .ref (o + 23)) rfl dX11_nextRow_38 ?_
            refine lv_iload_n hx hb dX11_nextRow_41 rfl (lv_at hl 0 rfl) ?_
            refine qa_iald hx hb hK hP (q0 := 23) (by decide) 0 (N := 6) (hgM_23 ca o) rfl (gi_in (by omega) (by omega)) dX11_nextRow_42 ?_
            refine lv_topi (fun x10 e10 => ?_)
            have b10 := iM_23 J1 e10
            have ag10 : x10.toInt = x4.toInt := congrArg Int32.toInt (e10.trans e4.symm)
            have kl10 : x10.toInt = (z1 23 w1_1.toNatClampNeg).toInt := congrArg Int32.toInt e10
            refine lv_iconst (v := 1) hx hb dX11_nextRow_43 (by decide) ?_
            refine lv_iadd hx hb dX11_nextRow_44 ?_
            refine lv_topi (fun x11 e11 => ?_)
            have t11 : x11.toInt = x10.toInt + (1 : Int) := ga_add e11 rfl rfl (by omega) (by omega)
            refine qa_iast2 hx hb hK hP hS qw_Ai (q0 := 23) (by decide) 0 (N := 6) (hgM_23 ca o) rfl (i := w1_1) (x := x11) (gi_in (by omega) (by omega)) dX11_nextRow_45 (fun z12 H locs hz12 hP hS => ?_)
            have J12 := jM_23 J1 hz12 ⟨by omega, by omega⟩
            have R12_12 : z12 12 = z 12 := (qt_row hz12 (by decide)).trans (v1_3)
            have R25_12 : z12 25 = z 25 := (qt_row hz12 (by decide)).trans (v1_4)
            have k12_0 : (z12 0 41).toInt = (z1 0 41).toInt := congrArg Int32.toInt (qt_ne hz12 41 (by decide))
            refine lv_iconst (v := 1) hx hb dX11_nextRow_46 (by decide) ?_
            exact W.zret (v := 1) (ty := .boolean) hx hb hr rfl (fun t ht hW => ⟨⟨1, (z12, y1), rfl, ⟨Or.inl ⟨rfl, (nr_inc (p := w1_1) J0.2.1 J1.2.1 J12.2.1 (by omega) (by omega) hg3_0 hz12 e10 (by omega) (by omega) v1_0 v1_1)⟩, J12, R12_12, R25_12, (show (z12 0 41).toInt = (z 0 41).toInt from by omega)⟩, by rw [ht]; exact hP, va_K.moved hW.alike hK⟩, hS.F ht⟩) hS.2.2 dX11_nextRow_47
        · subst hr3
          have hg3_0 : ¬ pHas (z1 0 4) w1_1 := hf3_0
          refine lv_if_ne (tgt := 17) hx hb dX11_nextRow_11 (by decide) (fun q => absurd q (by decide)) (fun _ => ?_)
          refine lv_goto (tgt := 60) hx hb dX11_nextRow_14 (by decide) ?_
          obtain ⟨x13, e13⟩ : ∃ t : Int32, t = w1_1 + (-1) := ⟨_, rfl⟩
          refine lv_iinc (v := x13) (lv' := [(1, .int x13), (0, .ref (o + 0))]) hx hb dX11_nextRow_60 hl (k := 0) rfl (by rw [e13]; rfl) (by decide) rfl (fun ls hl => ?_)
          have t13 : x13.toInt = w1_1.toInt + (-1 : Int) := ga_add e13 rfl rfl (by omega) (by omega)
          refine lv_goto (tgt := 2) hx hb dX11_nextRow_63 (by decide) ?_
          exact ih1 x13 z1 y1 (show (x13.toInt - (-1) : Int) < (n1 : Int) from by omega) ⟨by omega, by omega⟩ J1 ((nr_skip (p := w1_1) J0.2.1 J1.2.1 (by omega) (by omega) (by omega) hg3_0 v1_0 v1_1).1) ((nr_skip (p := w1_1) J0.2.1 J1.2.1 (by omega) (by omega) (by omega) hg3_0 v1_0 v1_1).2) (show (z1 0 41).toInt = (z 0 41).toInt from by omega) (v1_3) (v1_4) _ _ hP hS _ (lv_sub hl [0, 1] rfl)
  exact loop1 7 5 z y (show ((5 : Int) - (-1) : Int) < ((7 : Nat) : Int) from by omega) ⟨by decide, by decide⟩ J0 ((fun _ _ => rfl)) ((fun s h1 h2 => by have h3 : (5 : Int) < (s : Int) := h1; omega)) (show (z 0 41).toInt = (z 0 41).toInt from by omega) (rfl) (rfl) _ _ hP hS _ (lv_sub hl [0, 1] rfl)
set_option maxRecDepth 100000 in
set_option maxHeartbeats 8000000 in
theorem m_counts (l : Launch) (D : va_G) (ca : Nat → ClassId) (o : Nat) (b z : Nat → Nat → Int32) (y : Nat → Nat → Int64) (J0 : qJM b z)   : qM l yX11_counts cX11_counts 4 none 4 124 (qPre D vwCl (qT6 ca) o 41 (qG (GM ca o) z y) [.ref (o + 0)]) (va_Qv (fun u => qJM b u.1) (qB D vwCl (qT6 ca) o 41 (fun u : qZ => qG (GM ca o) u.1 u.2)) (qw_A o 41)) (qw_A o 41) := by
  refine Met.ofW (cc := cX11_counts) (maxL := 4) (ret := none) (by decide) rfl ?_
  intro p e s m args below meth c s₁ B hml hv
  obtain ⟨rfl, hP, hK⟩ := hv
  have hx := B.exec
  have hb := B.bytes
  have hr := B.returns
  have hts0 := atoms_spec (ws := Cond.code yX11_counts cX11_counts 4 none :: qtbl) B.pre
  have hts : ∀ w ∈ qtbl, w.before _ s = true := fun w h => hts0 w (List.mem_cons_of_mem _ h)
  have hown : s.vm.findClass RX11 = some m.cls := findClass_of_methodNamed B.named
  have hlocks := B.notSynchronized
  have hS : va_S (qw_A o 41) s.heap s.heap [] := va_S.rf
  have hl := lv_entry ([.ref (o + 0)]) (n := 4) (Nat.le_of_ble_eq_true rfl)
  rw [lg_entry_eq]
  generalize (lg_sl ([.ref (o + 0)]) ++ List.replicate (4 - (lg_sl ([.ref (o + 0)])).length) Slot.unset).toArray = ls at hl ⊢
  have hl : lv_has ls 4 [(0, .ref (o + 0))] := hl
  refine lv_iconst (v := 0) hx hb dX11_counts_0 (by decide) ?_
  refine lv_istore_n (lv' := [(1, .int 0), (0, .ref (o + 0))]) hx hb dX11_counts_1 rfl hl (by decide) rfl (fun ls hl => ?_)
  have loop1 : ∀ (n : Nat) (w1_1 : Int32) (z1 : Nat → Nat → Int32) (y1 : Nat → Nat → Int64), ((1024 - w1_1.toInt : Int) < (n : Int)) → ((0 : Int) ≤ w1_1.toInt ∧ w1_1.toInt ≤ 1024) → (qJM b z1) → ∀ (H : Heap) (locs : List Loc), qw_P D vwCl o 41 (qG (GM ca o) z1 y1) H → va_S (qw_A o 41) s.heap H locs → ∀ (ls : Array Slot), lv_has ls 4 [(1, .int w1_1), (0, .ref (o + 0))] → W p l e (headSpec (Cond.code yX11_counts cX11_counts 4 none :: qtbl) ({ frames := 4, cells := 0, slots := 0, locals := 124 })).room s m (([.ref (o + 0)] : List Value).toArray) below meth c H locs 0 0 (MQ below (va_Qv (fun u => qJM b u.1) (qB D vwCl (qT6 ca) o 41 (fun u : qZ => qG (GM ca o) u.1 u.2)) (qw_A o 41)) (([.ref (o + 0)] : List Value).toArray) s 0 0 (qw_A o 41)) (F0 m 2 ls []) := by
    intro n
    induction n with
    | zero => intro w1_1 z1 y1 hb1 hv1_1 J1; exfalso; omega
    | succ n1 ih1 =>
      intro w1_1 z1 y1 hb1 hv1_1 J1 H locs hP hS ls hl
      refine lv_iload_n hx hb dX11_counts_2 rfl (lv_at hl 0 rfl) ?_
      refine lv_sipush (v := 1024) hx hb dX11_counts_3 (by decide) ?_
      refine lv_icmp_ge (tgt := 22) hx hb dX11_counts_6 (by decide) (fun c2 => ?_) (fun c2 => ?_)
      · have t2 : w1_1.toInt ≥ (1024 : Int) := gl_le c2
        refine lv_aload_n hx hb dX11_counts_22 rfl (lv_at hl 1 rfl) ?_
        refine qc_Vv2 (As := []) (rest := []) (k0 := 0) (m_firstRow l D ca o b z1 y1 J1) kc_yX11_firstRow ⟨hx, hb, hml, hown, hts⟩ wq_1336 rfl rfl ⟨Nat.le_of_ble_eq_true rfl, Nat.le_of_ble_eq_true rfl⟩ wq_all hP hK hS qw_Ai (q0 := 0) (by decide) (hgM_0 ca o _ _) rfl rfl hl.1 rfl (Nat.le_of_ble_eq_true rfl) dX11_counts_23 ⟨Nat.zero_le _, Nat.zero_le _⟩ (fun z3 y3 H locs h3 hP hS _ _ => ?_)
        have J3 : qJM b z3 := h3.1
        have p3_3 : rl z3 + 1 = rwp z1 6 := h3.2.2.2
        refine lv_iconst (v := 1) hx hb dX11_counts_26 (by decide) ?_
        refine lv_istore_n (lv' := [(1, .int 1), (0, .ref (o + 0))]) hx hb dX11_counts_27 rfl hl (by decide) rfl (fun ls hl => ?_)
        have loop4 : ∀ (n : Nat) (w4_1 : Int32) (z4 : Nat → Nat → Int32) (y4 : Nat → Nat → Int64), (((rl z4 : Int) : Int) < (n : Int)) → ((1 : Int) ≤ w4_1.toInt ∧ w4_1.toInt ≤ 1) → (qJM b z4) → ∀ (H : Heap) (locs : List Loc), qw_P D vwCl o 41 (qG (GM ca o) z4 y4) H → va_S (qw_A o 41) s.heap H locs → ∀ (ls : Array Slot), lv_has ls 4 [(1, .int w4_1), (0, .ref (o + 0))] → W p l e (headSpec (Cond.code yX11_counts cX11_counts 4 none :: qtbl) ({ frames := 4, cells := 0, slots := 0, locals := 124 })).room s m (([.ref (o + 0)] : List Value).toArray) below meth c H locs 0 0 (MQ below (va_Qv (fun u => qJM b u.1) (qB D vwCl (qT6 ca) o 41 (fun u : qZ => qG (GM ca o) u.1 u.2)) (qw_A o 41)) (([.ref (o + 0)] : List Value).toArray) s 0 0 (qw_A o 41)) (F0 m 28 ls []) := by
          intro n
          induction n with
          | zero => intro w4_1 z4 y4 hb4 hv4_1 J4; exfalso; omega
          | succ n4 ih4 =>
            intro w4_1 z4 y4 hb4 hv4_1 J4 H locs hP hS ls hl
            refine lv_iload_n hx hb dX11_counts_28 rfl (lv_at hl 0 rfl) ?_
            refine lv_if_eq (tgt := 97) hx hb dX11_counts_29 (by decide) (fun c5 => ?_) (fun c5 => ?_)
            · have t5 : w4_1.toInt = (0 : Int) := gl_eq c5
              exfalso; omega
            · have t5 : w4_1.toInt ≠ (0 : Int) := gl_ne c5
              refine lv_iconst (v := 0) hx hb dX11_counts_32 (by decide) ?_
              refine lv_istore_n (lv' := [(2, .int 0), (1, .int w4_1), (0, .ref (o + 0))]) hx hb dX11_counts_33 rfl hl (by decide) rfl (fun ls hl => ?_)
              refine lv_iconst (v := 0) hx hb dX11_counts_34 (by decide) ?_
              refine lv_istore_n (lv' := [(3, .int 0), (2, .int 0), (1, .int w4_1), (0, .ref (o + 0))]) hx hb dX11_counts_35 rfl hl (by decide) rfl (fun ls hl => ?_)
              have loop6 : ∀ (n : Nat) (w6_3 : Int32) (w6_2 : Int32), ((10 - w6_3.toInt : Int) < (n : Int)) → ((0 : Int) ≤ w6_3.toInt ∧ w6_3.toInt ≤ 10) → ((0 : Int) ≤ w6_2.toInt ∧ w6_2.toInt ≤ 1023) → ∀ (H : Heap) (locs : List Loc), qw_P D vwCl o 41 (qG (GM ca o) z4 y4) H → va_S (qw_A o 41) s.heap H locs → ∀ (ls : Array Slot), lv_has ls 4 [(3, .int w6_3), (2, .int w6_2), (1, .int w4_1), (0, .ref (o + 0))] → W p l e (headSpec (Cond.code yX11_counts cX11_counts 4 none :: qtbl) ({ frames := 4, cells := 0, slots := 0, locals := 124 })).room s m (([.ref (o + 0)] : List Value).toArray) below meth c H locs 0 0 (MQ below (va_Qv (fun u => qJM b u.1) (qB D vwCl (qT6 ca) o 41 (fun u : qZ => qG (GM ca o) u.1 u.2)) (qw_A o 41)) (([.ref (o + 0)] : List Value).toArray) s 0 0 (qw_A o 41)) (F0 m 36 ls []) := by
                intro n
                induction n with
                | zero => intro w6_3 w6_2 hb6 hv6_3 hv6_2; exfalso; omega
                | succ n6 ih6 =>
                  intro w6_3 w6_2 hb6 hv6_3 hv6_2 H locs hP hS ls hl
                  refine lv_iload_n hx hb dX11_counts_36 rfl (lv_at hl 0 rfl) ?_
                  refine lv_bipush (v := 10) hx hb dX11_counts_37 (by decide) ?_
                  refine lv_icmp_ge (tgt := 75) hx hb dX11_counts_39 (by decide) (fun c7 => ?_) (fun c7 => ?_)
                  · have t7 : w6_3.toInt ≥ (10 : Int) := gl_le c7
                    refine lv_aload_n hx hb dX11_counts_75 rfl (lv_at hl 3 rfl) ?_
                    refine qf_get hx hb hts inX11 hown hK hP (q0 := 0) (by decide) (hgM_0 ca o) rfl 37 (by decide) wq_1029 (v := .ref (o + 24)) rfl dX11_counts_76 ?_
                    refine lv_iload_n hx hb dX11_counts_79 rfl (lv_at hl 1 rfl) ?_
                    refine lv_aload_n hx hb dX11_counts_80 rfl (lv_at hl 3 rfl) ?_
                    refine qf_get hx hb hts inX11 hown hK hP (q0 := 0) (by decide) (hgM_0 ca o) rfl 37 (by decide) wq_1029 (v := .ref (o + 24)) rfl dX11_counts_81 ?_
                    refine lv_iload_n hx hb dX11_counts_84 rfl (lv_at hl 1 rfl) ?_
                    refine qa_iald hx hb hK hP (q0 := 24) (by decide) 0 (N := 1024) (hgM_24 ca o) rfl (gi_in (by omega) (by omega)) dX11_counts_85 ?_
                    refine lv_topi (fun x8 e8 => ?_)
                    refine lv_iconst (v := 1) hx hb dX11_counts_86 (by decide) ?_
                    refine lv_iadd hx hb dX11_counts_87 ?_
                    refine lv_topi (fun x9 e9 => ?_)
                    refine qa_iast2 hx hb hK hP hS qw_Ai (q0 := 24) (by decide) 0 (N := 1024) (hgM_24 ca o) rfl (i := w6_2) (x := x9) (gi_in (by omega) (by omega)) dX11_counts_88 (fun z10 H locs hz10 hP hS => ?_)
                    have J10 := jM_24 J4 hz10
                    have rl10 : rl z10 = rl z4 := rl_up hz10 ⟨by decide, by decide, by decide, fun h => absurd h (by decide)⟩
                    refine lv_aload_n hx hb dX11_counts_89 rfl (lv_at hl 3 rfl) ?_
                    refine qc_Vi2 (As := []) (rest := []) (k0 := 0) (m_nextRow l D ca o b z10 y4 J10) kc_yX11_nextRow ⟨hx, hb, hml, hown, hts⟩ wq_1352 rfl rfl ⟨Nat.le_of_ble_eq_true rfl, Nat.le_of_ble_eq_true rfl⟩ wq_all hP hK hS qw_Ai (q0 := 0) (by decide) (hgM_0 ca o _ _) rfl rfl hl.1 rfl (Nat.le_of_ble_eq_true rfl) dX11_counts_90 ⟨Nat.zero_le _, Nat.zero_le _⟩ (fun r11 z11 y11 H locs h11 hP hS _ _ => ?_)
                    have J11 : qJM b z11 := h11.2.1
                    have p11_4 : (z11 0 41).toInt = (z10 0 41).toInt := h11.2.2.2.2
                    rcases h11.1 with ⟨hr11, hf11_0⟩ | hr11
                    · subst hr11
                      have hg11_0 : rl z11 + 1 ≤ rl z10 := hf11_0
                      refine lv_istore_n (lv' := [(1, .int 1), (3, .int w6_3), (2, .int w6_2), (0, .ref (o + 0))]) hx hb dX11_counts_93 rfl hl (by decide) rfl (fun ls hl => ?_)
                      refine lv_goto (tgt := 28) hx hb dX11_counts_94 (by decide) ?_
                      exact ih4 1 z11 y11 (show ((rl z11 : Int) : Int) < (n4 : Int) from by omega) ⟨by decide, by decide⟩ J11 _ _ hP hS _ (lv_sub hl [0, 3] rfl)
                    · subst hr11
                      refine lv_istore_n (lv' := [(1, .int 0), (3, .int w6_3), (2, .int w6_2), (0, .ref (o + 0))]) hx hb dX11_counts_93 rfl hl (by decide) rfl (fun ls hl => ?_)
                      refine lv_goto (tgt := 28) hx hb dX11_counts_94 (by decide) ?_
                      refine lv_iload_n hx hb dX11_counts_28 rfl (lv_at hl 0 rfl) ?_
                      refine lv_if_eq (tgt := 97) hx hb dX11_counts_29 (by decide) (fun _ => ?_) (fun q => absurd (by decide) q)
                      exact W.vret hx hb hr (fun t ht hW => ⟨⟨(z11, y11), rfl, J11, by rw [ht]; exact hP, va_K.moved hW.alike hK⟩, hS.F ht⟩) hS.2.2 dX11_counts_97
                  · have t7 : w6_3.toInt < (10 : Int) := gl_nle c7
                    refine lv_aload_n hx hb dX11_counts_42 rfl (lv_at hl 3 rfl) ?_
                    refine lv_iload_n hx hb dX11_counts_43 rfl (lv_at hl 0 rfl) ?_
                    refine qc_Vip (As := [.int w6_3]) (rest := []) (k0 := 1) (m_isRemark l D ca o b z4 y4 J4 w6_3) kc_yX11_isRemark ⟨hx, hb, hml, hown, hts⟩ wq_1307 rfl rfl ⟨Nat.le_of_ble_eq_true rfl, Nat.le_of_ble_eq_true rfl⟩ wq_all hP hK hS qw_Ai (q0 := 0) (by decide) (hgM_0 ca o _ _) rfl rfl hl.1 rfl (Nat.le_of_ble_eq_true rfl) dX11_counts_44 ⟨Nat.zero_le _, Nat.zero_le _⟩ (fun r12 H locs h12 hP hS _ _ => ?_)
                    rcases h12 with ⟨hr12, hf12_0⟩ | hr12
                    · subst hr12
                      have hg12_0 : 0 ≤ w6_3.toInt ∧ w6_3.toInt ≤ 9 := hf12_0
                      refine lv_if_eq (tgt := 69) hx hb dX11_counts_47 (by decide) (fun q => absurd q (by decide)) (fun _ => ?_)
                      refine lv_aload_n hx hb dX11_counts_50 rfl (lv_at hl 3 rfl) ?_
                      refine lv_iload_n hx hb dX11_counts_51 rfl (lv_at hl 0 rfl) ?_
                      refine lv_aload_n hx hb dX11_counts_52 rfl (lv_at hl 3 rfl) ?_
                      refine lv_iload_n hx hb dX11_counts_53 rfl (lv_at hl 0 rfl) ?_
                      refine qc_Vip (As := [.int w6_3]) (rest := [.int w6_3, .ref (o + 0)]) (k0 := 1) (m_valueOf l D ca o b z4 y4 J4 w6_3 ⟨by omega, by omega⟩) kc_yX11_valueOf ⟨hx, hb, hml, hown, hts⟩ wq_1344 rfl rfl ⟨Nat.le_of_ble_eq_true rfl, Nat.le_of_ble_eq_true rfl⟩ wq_all hP hK hS qw_Ai (q0 := 0) (by decide) (hgM_0 ca o _ _) rfl rfl hl.1 rfl (Nat.le_of_ble_eq_true rfl) dX11_counts_54 ⟨Nat.zero_le _, Nat.zero_le _⟩ (fun r13 H locs h13 hP hS _ _ => ?_)
                      refine qc_Vip (As := [.int w6_3, .int r13]) (rest := []) (k0 := 2) (m_isSo l D ca o b z4 y4 J4 w6_3 r13 ⟨by omega, by omega⟩) kc_yX11_isSo ⟨hx, hb, hml, hown, hts⟩ wq_1348 rfl rfl ⟨Nat.le_of_ble_eq_true rfl, Nat.le_of_ble_eq_true rfl⟩ wq_all hP hK hS qw_Ai (q0 := 0) (by decide) (hgM_0 ca o _ _) rfl rfl hl.1 rfl (Nat.le_of_ble_eq_true rfl) dX11_counts_57 ⟨Nat.zero_le _, Nat.zero_le _⟩ (fun r14 H locs h14 hP hS _ _ => ?_)
                      have b14 : (0 : Int) ≤ r14.toInt ∧ r14.toInt ≤ 1 := h14
                      refine lv_if_eq (tgt := 69) hx hb dX11_counts_60 (by decide) (fun c15 => ?_) (fun c15 => ?_)
                      · have t15 : r14.toInt = (0 : Int) := gl_eq c15
                        obtain ⟨x16, e16⟩ : ∃ t : Int32, t = w6_3 + 1 := ⟨_, rfl⟩
                        refine lv_iinc (v := x16) (lv' := [(3, .int x16), (2, .int w6_2), (1, .int w4_1), (0, .ref (o + 0))]) hx hb dX11_counts_69 hl (k := 0) rfl (by rw [e16]; rfl) (by decide) rfl (fun ls hl => ?_)
                        have t16 : x16.toInt = w6_3.toInt + (1 : Int) := ga_add e16 rfl rfl (by omega) (by omega)
                        refine lv_goto (tgt := 36) hx hb dX11_counts_72 (by decide) ?_
                        exact ih6 x16 w6_2 (show (10 - x16.toInt : Int) < (n6 : Int) from by omega) ⟨by omega, by omega⟩ ⟨by omega, by omega⟩ _ _ hP hS _ (lv_sub hl [0, 1, 2, 3] rfl)
                      · have t15 : r14.toInt ≠ (0 : Int) := gl_ne c15
                        refine lv_iload_n hx hb dX11_counts_63 rfl (lv_at hl 1 rfl) ?_
                        refine lv_iconst (v := 1) hx hb dX11_counts_64 (by decide) ?_
                        refine lv_iload_n hx hb dX11_counts_65 rfl (lv_at hl 0 rfl) ?_
                        refine lv_ishl hx hb dX11_counts_66 ?_
                        refine lv_topi (fun x17 e17 => ?_)
                        have t17 : 1 ≤ x17.toInt ∧ x17.toInt ≤ 512 := ga_shl 9 512 e17 (by decide) (by decide) (by omega) (by omega)
                        refine lv_ior hx hb dX11_counts_67 ?_
                        refine lv_topi (fun x18 e18 => ?_)
                        have t18 : 0 ≤ x18.toInt ∧ x18.toInt < 1024 := ga_or 10 1024 e18 rfl rfl (by decide) (by decide) (by omega) (by omega) (by omega) (by omega)
                        refine lv_istore_n (lv' := [(2, .int x18), (3, .int w6_3), (1, .int w4_1), (0, .ref (o + 0))]) hx hb dX11_counts_68 rfl hl (by decide) rfl (fun ls hl => ?_)
                        obtain ⟨x19, e19⟩ : ∃ t : Int32, t = w6_3 + 1 := ⟨_, rfl⟩
                        refine lv_iinc (v := x19) (lv' := [(3, .int x19), (2, .int x18), (1, .int w4_1), (0, .ref (o + 0))]) hx hb dX11_counts_69 hl (k := 1) rfl (by rw [e19]; rfl) (by decide) rfl (fun ls hl => ?_)
                        have t19 : x19.toInt = w6_3.toInt + (1 : Int) := ga_add e19 rfl rfl (by omega) (by omega)
                        refine lv_goto (tgt := 36) hx hb dX11_counts_72 (by decide) ?_
                        exact ih6 x19 x18 (show (10 - x19.toInt : Int) < (n6 : Int) from by omega) ⟨by omega, by omega⟩ ⟨by omega, by omega⟩ _ _ hP hS _ (lv_sub hl [0, 1, 2, 3] rfl)
                    · subst hr12
                      refine lv_if_eq (tgt := 69) hx hb dX11_counts_47 (by decide) (fun _ => ?_) (fun q => absurd (by decide) q)
                      obtain ⟨x20, e20⟩ : ∃ t : Int32, t = w6_3 + 1 := ⟨_, rfl⟩
                      refine lv_iinc (v := x20) (lv' := [(3, .int x20), (2, .int w6_2), (1, .int w4_1), (0, .ref (o + 0))]) hx hb dX11_counts_69 hl (k := 0) rfl (by rw [e20]; rfl) (by decide) rfl (fun ls hl => ?_)
                      have t20 : x20.toInt = w6_3.toInt + (1 : Int) := ga_add e20 rfl rfl (by omega) (by omega)
                      refine lv_goto (tgt := 36) hx hb dX11_counts_72 (by decide) ?_
                      exact ih6 x20 w6_2 (show (10 - x20.toInt : Int) < (n6 : Int) from by omega) ⟨by omega, by omega⟩ ⟨by omega, by omega⟩ _ _ hP hS _ (lv_sub hl [0, 1, 2, 3] rfl)
              exact loop6 11 0 0 (show (10 - (0 : Int) : Int) < ((11 : Nat) : Int) from by omega) ⟨by decide, by decide⟩ ⟨by decide, by decide⟩ _ _ hP hS _ (lv_sub hl [0, 1, 2, 3] rfl)
        exact loop4 (rl z3 + 1) 1 z3 y3 (show ((rl z3 : Int) : Int) < (((rl z3 + 1) : Nat) : Int) from by omega) ⟨by decide, by decide⟩ J3 _ _ hP hS _ (lv_sub hl [0, 1] rfl)
      · have t2 : w1_1.toInt < (1024 : Int) := gl_nle c2
        refine lv_aload_n hx hb dX11_counts_9 rfl (lv_at hl 1 rfl) ?_
        refine qf_get hx hb hts inX11 hown hK hP (q0 := 0) (by decide) (hgM_0 ca o) rfl 37 (by decide) wq_1029 (v := .ref (o + 24)) rfl dX11_counts_10 ?_
        refine lv_iload_n hx hb dX11_counts_13 rfl (lv_at hl 0 rfl) ?_
        refine lv_iconst (v := 0) hx hb dX11_counts_14 (by decide) ?_
        refine qa_iast2 hx hb hK hP hS qw_Ai (q0 := 24) (by decide) 0 (N := 1024) (hgM_24 ca o) rfl (i := w1_1) (x := 0) (gi_in (by omega) (by omega)) dX11_counts_15 (fun z21 H locs hz21 hP hS => ?_)
        have J21 := jM_24 J1 hz21
        have rl21 : rl z21 = rl z1 := rl_up hz21 ⟨by decide, by decide, by decide, fun h => absurd h (by decide)⟩
        obtain ⟨x22, e22⟩ : ∃ t : Int32, t = w1_1 + 1 := ⟨_, rfl⟩
        refine lv_iinc (v := x22) (lv' := [(1, .int x22), (0, .ref (o + 0))]) hx hb dX11_counts_16 hl (k := 0) rfl (by rw [e22]; rfl) (by decide) rfl (fun ls hl => ?_)
        have t22 : x22.toInt = w1_1.toInt + (1 : Int) := ga_add e22 rfl rfl (by omega) (by omega)
        refine lv_goto (tgt := 2) hx hb dX11_counts_19 (by decide) ?_
        exact ih1 x22 z21 y1 (show (1024 - x22.toInt : Int) < (n1 : Int) from by omega) ⟨by omega, by omega⟩ J21 _ _ hP hS _ (lv_sub hl [0, 1] rfl)
  exact loop1 1025 0 z y (show (1024 - (0 : Int) : Int) < ((1025 : Nat) : Int) from by omega) ⟨by decide, by decide⟩ J0 _ _ hP hS _ (lv_sub hl [0, 1] rfl)
set_option maxRecDepth 100000 in
set_option maxHeartbeats 8000000 in
theorem m_fitting (l : Launch) (D : va_G) (ca : Nat → ClassId) (o : Nat) (b z : Nat → Nat → Int32) (y : Nat → Nat → Int64) (J0 : qJM b z) (a0 : Int32)  : qM l yX11_fitting cX11_fitting 4 (some .int) 1 60 (qPre D vwCl (qT6 ca) o 41 (qG (GM ca o) z y) [.ref (o + 0), .int a0]) (va_Qi (fun r (_ : Unit) => True) (qB D vwCl (qT6 ca) o 41 (fun _ : Unit => qG (GM ca o) z y)) (qw_A o 41)) (qw_A o 41) := by
  refine Met.ofW (cc := cX11_fitting) (maxL := 4) (ret := (some .int)) (by decide) rfl ?_
  intro p e s m args below meth c s₁ B hml hv
  obtain ⟨rfl, hP, hK⟩ := hv
  have hx := B.exec
  have hb := B.bytes
  have hr := B.returns
  have hts0 := atoms_spec (ws := Cond.code yX11_fitting cX11_fitting 4 (some .int) :: qtbl) B.pre
  have hts : ∀ w ∈ qtbl, w.before _ s = true := fun w h => hts0 w (List.mem_cons_of_mem _ h)
  have hown : s.vm.findClass RX11 = some m.cls := findClass_of_methodNamed B.named
  have hlocks := B.notSynchronized
  have hS : va_S (qw_A o 41) s.heap s.heap [] := va_S.rf
  have hl := lv_entry ([.ref (o + 0), .int a0]) (n := 4) (Nat.le_of_ble_eq_true rfl)
  rw [lg_entry_eq]
  generalize (lg_sl ([.ref (o + 0), .int a0]) ++ List.replicate (4 - (lg_sl ([.ref (o + 0), .int a0])).length) Slot.unset).toArray = ls at hl ⊢
  have hl : lv_has ls 4 [(0, .ref (o + 0)), (1, .int a0)] := hl
  refine lv_iconst (v := 0) hx hb dX11_fitting_0 (by decide) ?_
  refine lv_istore_n (lv' := [(2, .int 0), (0, .ref (o + 0)), (1, .int a0)]) hx hb dX11_fitting_1 rfl hl (by decide) rfl (fun ls hl => ?_)
  refine lv_iconst (v := 0) hx hb dX11_fitting_2 (by decide) ?_
  refine lv_istore_n (lv' := [(3, .int 0), (2, .int 0), (0, .ref (o + 0)), (1, .int a0)]) hx hb dX11_fitting_3 rfl hl (by decide) rfl (fun ls hl => ?_)
  have loop1 : ∀ (n : Nat) (w1_3 : Int32) (w1_2 : Int32), ((1024 - w1_3.toInt : Int) < (n : Int)) → ((0 : Int) ≤ w1_3.toInt ∧ w1_3.toInt ≤ 1024) → ∀ (H : Heap) (locs : List Loc), qw_P D vwCl o 41 (qG (GM ca o) z y) H → va_S (qw_A o 41) s.heap H locs → ∀ (ls : Array Slot), lv_has ls 4 [(3, .int w1_3), (2, .int w1_2), (0, .ref (o + 0)), (1, .int a0)] → W p l e (headSpec (Cond.code yX11_fitting cX11_fitting 4 (some .int) :: qtbl) ({ frames := 1, cells := 0, slots := 0, locals := 60 })).room s m (([.ref (o + 0), .int a0] : List Value).toArray) below meth c H locs 0 0 (MQ below (va_Qi (fun r (_ : Unit) => True) (qB D vwCl (qT6 ca) o 41 (fun _ : Unit => qG (GM ca o) z y)) (qw_A o 41)) (([.ref (o + 0), .int a0] : List Value).toArray) s 0 0 (qw_A o 41)) (F0 m 4 ls []) := by
    intro n
    induction n with
    | zero => intro w1_3 w1_2 hb1 hv1_3; exfalso; omega
    | succ n1 ih1 =>
      intro w1_3 w1_2 hb1 hv1_3 H locs hP hS ls hl
      refine lv_iload_n hx hb dX11_fitting_4 rfl (lv_at hl 0 rfl) ?_
      refine lv_sipush (v := 1024) hx hb dX11_fitting_5 (by decide) ?_
      refine lv_icmp_ge (tgt := 34) hx hb dX11_fitting_8 (by decide) (fun c2 => ?_) (fun c2 => ?_)
      · have t2 : w1_3.toInt ≥ (1024 : Int) := gl_le c2
        refine lv_iload_n hx hb dX11_fitting_34 rfl (lv_at hl 1 rfl) ?_
        exact W.iret (v := w1_2) hx hb hr (fun t ht hW => ⟨⟨w1_2, (), rfl, trivial, by rw [ht]; exact hP, va_K.moved hW.alike hK⟩, hS.F ht⟩) hS.2.2 dX11_fitting_35
      · have t2 : w1_3.toInt < (1024 : Int) := gl_nle c2
        refine lv_iload_n hx hb dX11_fitting_11 rfl (lv_at hl 3 rfl) ?_
        refine lv_iload_n hx hb dX11_fitting_12 rfl (lv_at hl 0 rfl) ?_
        refine lv_iconst (v := (-1)) hx hb dX11_fitting_13 (by decide) ?_
        refine lv_ixor hx hb dX11_fitting_14 ?_
        refine lv_topi (fun x3 e3 => ?_)
        refine lv_iand hx hb dX11_fitting_15 ?_
        refine lv_topi (fun x4 e4 => ?_)
        refine lv_if_ne (tgt := 28) hx hb dX11_fitting_16 (by decide) (fun c5 => ?_) (fun c5 => ?_)
        · have t5 : x4.toInt ≠ (0 : Int) := gl_ne c5
          obtain ⟨x6, e6⟩ : ∃ t : Int32, t = w1_3 + 1 := ⟨_, rfl⟩
          refine lv_iinc (v := x6) (lv' := [(3, .int x6), (2, .int w1_2), (0, .ref (o + 0)), (1, .int a0)]) hx hb dX11_fitting_28 hl (k := 0) rfl (by rw [e6]; rfl) (by decide) rfl (fun ls hl => ?_)
          have t6 : x6.toInt = w1_3.toInt + (1 : Int) := ga_add e6 rfl rfl (by omega) (by omega)
          refine lv_goto (tgt := 4) hx hb dX11_fitting_31 (by decide) ?_
          exact ih1 x6 w1_2 (show (1024 - x6.toInt : Int) < (n1 : Int) from by omega) ⟨by omega, by omega⟩ _ _ hP hS _ (lv_sub hl [0, 1, 2, 3] rfl)
        · have t5 : x4.toInt = (0 : Int) := gl_eq c5
          refine lv_iload_n hx hb dX11_fitting_19 rfl (lv_at hl 1 rfl) ?_
          refine lv_aload_n hx hb dX11_fitting_20 rfl (lv_at hl 2 rfl) ?_
          refine qf_get hx hb hts inX11 hown hK hP (q0 := 0) (by decide) (hgM_0 ca o) rfl 37 (by decide) wq_1029 (v := .ref (o + 24)) rfl dX11_fitting_21 ?_
          refine lv_iload_n hx hb dX11_fitting_24 rfl (lv_at hl 0 rfl) ?_
          refine qa_iald hx hb hK hP (q0 := 24) (by decide) 0 (N := 1024) (hgM_24 ca o) rfl (gi_in (by omega) (by omega)) dX11_fitting_25 ?_
          refine lv_topi (fun x7 e7 => ?_)
          refine lv_iadd hx hb dX11_fitting_26 ?_
          refine lv_topi (fun x8 e8 => ?_)
          refine lv_istore_n (lv' := [(2, .int x8), (3, .int w1_3), (0, .ref (o + 0)), (1, .int a0)]) hx hb dX11_fitting_27 rfl hl (by decide) rfl (fun ls hl => ?_)
          obtain ⟨x9, e9⟩ : ∃ t : Int32, t = w1_3 + 1 := ⟨_, rfl⟩
          refine lv_iinc (v := x9) (lv' := [(3, .int x9), (2, .int x8), (0, .ref (o + 0)), (1, .int a0)]) hx hb dX11_fitting_28 hl (k := 1) rfl (by rw [e9]; rfl) (by decide) rfl (fun ls hl => ?_)
          have t9 : x9.toInt = w1_3.toInt + (1 : Int) := ga_add e9 rfl rfl (by omega) (by omega)
          refine lv_goto (tgt := 4) hx hb dX11_fitting_31 (by decide) ?_
          exact ih1 x9 x8 (show (1024 - x9.toInt : Int) < (n1 : Int) from by omega) ⟨by omega, by omega⟩ _ _ hP hS _ (lv_sub hl [0, 1, 2, 3] rfl)
  exact loop1 1025 0 0 (show (1024 - (0 : Int) : Int) < ((1025 : Nat) : Int) from by omega) ⟨by decide, by decide⟩ _ _ hP hS _ (lv_sub hl [0, 1, 2, 3] rfl)
set_option maxRecDepth 100000 in
set_option maxHeartbeats 8000000 in
theorem m_fitsAll (l : Launch) (D : va_G) (ca : Nat → ClassId) (o : Nat) (b z : Nat → Nat → Int32) (y : Nat → Nat → Int64) (J0 : qJM b z) (a0 : Int32)  : qM l yX11_fitsAll cX11_fitsAll 3 (some .boolean) 2 83 (qPre D vwCl (qT6 ca) o 41 (qG (GM ca o) z y) [.ref (o + 0), .int a0]) (va_Qi (fun r (_ : Unit) => ((0 : Int) ≤ r.toInt ∧ r.toInt ≤ 1)) (qB D vwCl (qT6 ca) o 41 (fun _ : Unit => qG (GM ca o) z y)) (qw_A o 41)) (qw_A o 41) := by
  refine Met.ofW (cc := cX11_fitsAll) (maxL := 3) (ret := (some .boolean)) (by decide) rfl ?_
  intro p e s m args below meth c s₁ B hml hv
  obtain ⟨rfl, hP, hK⟩ := hv
  have hx := B.exec
  have hb := B.bytes
  have hr := B.returns
  have hts0 := atoms_spec (ws := Cond.code yX11_fitsAll cX11_fitsAll 3 (some .boolean) :: qtbl) B.pre
  have hts : ∀ w ∈ qtbl, w.before _ s = true := fun w h => hts0 w (List.mem_cons_of_mem _ h)
  have hown : s.vm.findClass RX11 = some m.cls := findClass_of_methodNamed B.named
  have hlocks := B.notSynchronized
  have hS : va_S (qw_A o 41) s.heap s.heap [] := va_S.rf
  have hl := lv_entry ([.ref (o + 0), .int a0]) (n := 3) (Nat.le_of_ble_eq_true rfl)
  rw [lg_entry_eq]
  generalize (lg_sl ([.ref (o + 0), .int a0]) ++ List.replicate (3 - (lg_sl ([.ref (o + 0), .int a0])).length) Slot.unset).toArray = ls at hl ⊢
  have hl : lv_has ls 3 [(0, .ref (o + 0)), (1, .int a0)] := hl
  refine lv_iconst (v := 0) hx hb dX11_fitsAll_0 (by decide) ?_
  refine lv_istore_n (lv' := [(2, .int 0), (0, .ref (o + 0)), (1, .int a0)]) hx hb dX11_fitsAll_1 rfl hl (by decide) rfl (fun ls hl => ?_)
  have loop1 : ∀ (n : Nat) (w1_2 : Int32), ((10 - w1_2.toInt : Int) < (n : Int)) → ((0 : Int) ≤ w1_2.toInt ∧ w1_2.toInt ≤ 10) → ∀ (H : Heap) (locs : List Loc), qw_P D vwCl o 41 (qG (GM ca o) z y) H → va_S (qw_A o 41) s.heap H locs → ∀ (ls : Array Slot), lv_has ls 3 [(2, .int w1_2), (0, .ref (o + 0)), (1, .int a0)] → W p l e (headSpec (Cond.code yX11_fitsAll cX11_fitsAll 3 (some .boolean) :: qtbl) ({ frames := 2, cells := 0, slots := 0, locals := 83 })).room s m (([.ref (o + 0), .int a0] : List Value).toArray) below meth c H locs 0 0 (MQ below (va_Qi (fun r (_ : Unit) => ((0 : Int) ≤ r.toInt ∧ r.toInt ≤ 1)) (qB D vwCl (qT6 ca) o 41 (fun _ : Unit => qG (GM ca o) z y)) (qw_A o 41)) (([.ref (o + 0), .int a0] : List Value).toArray) s 0 0 (qw_A o 41)) (F0 m 2 ls []) := by
    intro n
    induction n with
    | zero => intro w1_2 hb1 hv1_2; exfalso; omega
    | succ n1 ih1 =>
      intro w1_2 hb1 hv1_2 H locs hP hS ls hl
      refine lv_iload_n hx hb dX11_fitsAll_2 rfl (lv_at hl 0 rfl) ?_
      refine lv_bipush (v := 10) hx hb dX11_fitsAll_3 (by decide) ?_
      refine lv_icmp_ge (tgt := 37) hx hb dX11_fitsAll_5 (by decide) (fun c2 => ?_) (fun c2 => ?_)
      · have t2 : w1_2.toInt ≥ (10 : Int) := gl_le c2
        refine lv_iconst (v := 1) hx hb dX11_fitsAll_37 (by decide) ?_
        exact W.zret (v := 1) (ty := .boolean) hx hb hr rfl (fun t ht hW => ⟨⟨1, (), rfl, ⟨by decide, by decide⟩, by rw [ht]; exact hP, va_K.moved hW.alike hK⟩, hS.F ht⟩) hS.2.2 dX11_fitsAll_38
      · have t2 : w1_2.toInt < (10 : Int) := gl_nle c2
        refine lv_iload_n hx hb dX11_fitsAll_8 rfl (lv_at hl 2 rfl) ?_
        refine lv_iload_n hx hb dX11_fitsAll_9 rfl (lv_at hl 0 rfl) ?_
        refine qc_Sip (As := [.int a0, .int w1_2]) (rest := []) (k0 := 2) (m_has l D ca o b z y J0 a0 w1_2) kc_yX11_has ⟨hx, hb, hml, hown, hts⟩ wq_1198 rfl rfl ⟨Nat.le_of_ble_eq_true rfl, Nat.le_of_ble_eq_true rfl⟩ wq_all hP hK hS qw_Ai rfl hl.1 rfl (Nat.le_of_ble_eq_true rfl) dX11_fitsAll_10 ⟨Nat.zero_le _, Nat.zero_le _⟩ (fun r3 H locs h3 hP hS _ _ => ?_)
        rcases h3 with ⟨hr3, hf3_0⟩ | ⟨hr3, hf3_0⟩
        · subst hr3
          have hg3_0 : bitAt a0 w1_2 ≠ 0 := hf3_0
          refine lv_if_eq (tgt := 31) hx hb dX11_fitsAll_13 (by decide) (fun q => absurd q (by decide)) (fun _ => ?_)
          refine lv_aload_n hx hb dX11_fitsAll_16 rfl (lv_at hl 1 rfl) ?_
          refine lv_iload_n hx hb dX11_fitsAll_17 rfl (lv_at hl 0 rfl) ?_
          refine lv_aload_n hx hb dX11_fitsAll_18 rfl (lv_at hl 1 rfl) ?_
          refine lv_iload_n hx hb dX11_fitsAll_19 rfl (lv_at hl 0 rfl) ?_
          refine qc_Vip (As := [.int w1_2]) (rest := [.int w1_2, .ref (o + 0)]) (k0 := 1) (m_valueOf l D ca o b z y J0 w1_2 ⟨by omega, by omega⟩) kc_yX11_valueOf ⟨hx, hb, hml, hown, hts⟩ wq_1344 rfl rfl ⟨Nat.le_of_ble_eq_true rfl, Nat.le_of_ble_eq_true rfl⟩ wq_all hP hK hS qw_Ai (q0 := 0) (by decide) (hgM_0 ca o _ _) rfl rfl hl.1 rfl (Nat.le_of_ble_eq_true rfl) dX11_fitsAll_20 ⟨Nat.zero_le _, Nat.zero_le _⟩ (fun r4 H locs h4 hP hS _ _ => ?_)
          refine qc_Vip (As := [.int w1_2, .int r4]) (rest := []) (k0 := 2) (m_isSo l D ca o b z y J0 w1_2 r4 ⟨by omega, by omega⟩) kc_yX11_isSo ⟨hx, hb, hml, hown, hts⟩ wq_1348 rfl rfl ⟨Nat.le_of_ble_eq_true rfl, Nat.le_of_ble_eq_true rfl⟩ wq_all hP hK hS qw_Ai (q0 := 0) (by decide) (hgM_0 ca o _ _) rfl rfl hl.1 rfl (Nat.le_of_ble_eq_true rfl) dX11_fitsAll_23 ⟨Nat.zero_le _, Nat.zero_le _⟩ (fun r5 H locs h5 hP hS _ _ => ?_)
          have b5 : (0 : Int) ≤ r5.toInt ∧ r5.toInt ≤ 1 := h5
          refine lv_if_ne (tgt := 31) hx hb dX11_fitsAll_26 (by decide) (fun c6 => ?_) (fun c6 => ?_)
          · have t6 : r5.toInt ≠ (0 : Int) := gl_ne c6
            obtain ⟨x7, e7⟩ : ∃ t : Int32, t = w1_2 + 1 := ⟨_, rfl⟩
            refine lv_iinc (v := x7) (lv' := [(2, .int x7), (0, .ref (o + 0)), (1, .int a0)]) hx hb dX11_fitsAll_31 hl (k := 0) rfl (by rw [e7]; rfl) (by decide) rfl (fun ls hl => ?_)
            have t7 : x7.toInt = w1_2.toInt + (1 : Int) := ga_add e7 rfl rfl (by omega) (by omega)
            refine lv_goto (tgt := 2) hx hb dX11_fitsAll_34 (by decide) ?_
            exact ih1 x7 (show (10 - x7.toInt : Int) < (n1 : Int) from by omega) ⟨by omega, by omega⟩ _ _ hP hS _ (lv_sub hl [0, 1, 2] rfl)
          · have t6 : r5.toInt = (0 : Int) := gl_eq c6
            refine lv_iconst (v := 0) hx hb dX11_fitsAll_29 (by decide) ?_
            exact W.zret (v := 0) (ty := .boolean) hx hb hr rfl (fun t ht hW => ⟨⟨0, (), rfl, ⟨by decide, by decide⟩, by rw [ht]; exact hP, va_K.moved hW.alike hK⟩, hS.F ht⟩) hS.2.2 dX11_fitsAll_30
        · subst hr3
          have hg3_0 : bitAt a0 w1_2 = 0 := hf3_0
          refine lv_if_eq (tgt := 31) hx hb dX11_fitsAll_13 (by decide) (fun _ => ?_) (fun q => absurd (by decide) q)
          obtain ⟨x8, e8⟩ : ∃ t : Int32, t = w1_2 + 1 := ⟨_, rfl⟩
          refine lv_iinc (v := x8) (lv' := [(2, .int x8), (0, .ref (o + 0)), (1, .int a0)]) hx hb dX11_fitsAll_31 hl (k := 0) rfl (by rw [e8]; rfl) (by decide) rfl (fun ls hl => ?_)
          have t8 : x8.toInt = w1_2.toInt + (1 : Int) := ga_add e8 rfl rfl (by omega) (by omega)
          refine lv_goto (tgt := 2) hx hb dX11_fitsAll_34 (by decide) ?_
          exact ih1 x8 (show (10 - x8.toInt : Int) < (n1 : Int) from by omega) ⟨by omega, by omega⟩ _ _ hP hS _ (lv_sub hl [0, 1, 2] rfl)
  exact loop1 11 0 (show (10 - (0 : Int) : Int) < ((11 : Nat) : Int) from by omega) ⟨by decide, by decide⟩ _ _ hP hS _ (lv_sub hl [0, 1, 2] rfl)
