theorem ga_p {c : Prop} [Decidable c] {a b : Int32} (h : c) : a = if c then a else b := (if_pos h).symm
theorem ga_n {c : Prop} [Decidable c] {a b : Int32} (h : ¬ c) : b = if c then a else b := (if_neg h).symm
def A_person (p l h : Int32) : Int32 := if 0 ≤ p.toInt ∧ p.toInt ≤ 5 ∧ 0 ≤ l.toInt ∧ h.toInt ≤ 99 ∧ l.toInt ≤ h.toInt then 1 else 0
def A_dies (p q : Int32) : Int32 := 0
def A_years (n : Int32) : Int32 := if 1 ≤ n.toInt ∧ n.toInt ≤ 99 then 0 + n else (-1)
def A_feed (a b c d e : Int32) : Int32 := 20
def A_remark (k n : Int32) : Int32 := (-1)
def A_form (k n : Int32) : Int32 := (-1)
def A_takeBack (k : Int32) : Int32 := 0
def A_rows : Int32 := 1
def A_fit (r w : Int32) : Int32 := if r.toInt = 0 ∧ (w.toInt = 100 ∨ w.toInt = 101) then 1 else (-1)
def A_ageIs (r p w : Int32) : Int32 := (-1)
def A_aged (r p w : Int32) : Int32 := (-1)
def A_follows (r w : Int32) : Int32 := if r.toInt = 0 ∧ 0 ≤ w.toInt ∧ w.toInt ≤ 1 then 0 else (-1)
def A_clash (r w : Int32) : Int32 := if r.toInt = 0 ∧ 0 ≤ w.toInt ∧ w.toInt ≤ 1 then (-2) else (-1)
def A_needless (r : Int32) : Int32 := if r.toInt = 0 then 0 else (-1)
def A_settles (r : Int32) : Int32 := if r.toInt = 0 then (-2) else (-1)
def A_fewest (r w : Int32) : Int32 := if r.toInt = 0 ∧ 0 ≤ w.toInt ∧ w.toInt ≤ 1 then 0 else (-1)
def A_offByAYear (r w : Int32) : Int32 := if r.toInt = 0 ∧ 0 ≤ w.toInt ∧ w.toInt ≤ 1 then 0 else (-1)
def A_known (r k : Int32) : Int32 := (-1)
def A_sayings (r n w : Int32) : Int32 := (-1)
def A_isTrue (r k w : Int32) : Int32 := (-204)
def A_together (r p q : Int32) : Int32 := (-4000)
def A_turned (r p q w : Int32) : Int32 := (-1)
def A_squares (r w : Int32) : Int32 := if r.toInt = 0 ∧ 0 ≤ w.toInt ∧ w.toInt ≤ 100 then 0 else (-1)
def A_when (r p q w : Int32) : Int32 := (-4000)
def A_whoIsWho (n p r w : Int32) : Int32 := (-1)
def A_asks (r w : Int32) : Int32 := if r.toInt = 0 ∧ 0 ≤ w.toInt ∧ w.toInt ≤ 2 then (-2) else (-1)
def A_unlike (r q : Int32) : Int32 := if r.toInt = 0 ∧ q.toInt = 0 then 0 else (-1)
def A_shortest (r w : Int32) : Int32 := if r.toInt = 0 ∧ 0 ≤ w.toInt ∧ w.toInt ≤ 4 then (-2) else (-1)
def A_often (r k w : Int32) : Int32 := (-1)
def A_middle (r p : Int32) : Int32 := (-1)
def A_apart (r p q w : Int32) : Int32 := (-400)
def A_parent (p c n : Int32) : Int32 := 0
def A_tree (p w : Int32) : Int32 := (-1)
def A_tyres (n m : Int32) : Int32 := (-1)
def A_butts (m : Int32) : Int32 := (-1)
def A_plain (k w : Int32) : Int32 := 0
def A_remarkIs (k w : Int32) : Int32 := (-1)
def A_worth (r k : Int32) : Int32 := 0
def A_between (r k w : Int32) : Int32 := 0
def A_keep : Int32 := 0
def A_undo : Int32 := 0
def A_check (n : Int32) : Int32 := if n.toInt = 0 then (-1) else (-2)
def A_count (w : Int32) : Int32 := if 0 ≤ w.toInt ∧ w.toInt ≤ 4 then 0 else (-1)
theorem kc_yX10_areRemarks : qV yX10_areRemarks cX10_areRemarks 2 (some .boolean) 1 := ⟨wq_585, wS_yX10_areRemarks, wq_1, wq_586, by decide +kernel, by decide +kernel, by decide +kernel⟩
theorem kc_yX10_isText : qV yX10_isText cX10_isText 3 (some .boolean) 2 := ⟨wq_433, wS_yX10_isText, wq_1, wq_434, by decide +kernel, by decide +kernel, by decide +kernel⟩
theorem kc_yX10_isOther : qV yX10_isOther cX10_isOther 3 (some .boolean) 2 := ⟨wq_719, wS_yX10_isOther, wq_1, wq_720, by decide +kernel, by decide +kernel, by decide +kernel⟩
theorem kc_yX10_countOfPerson : qV yX10_countOfPerson cX10_countOfPerson 3 (some .int) 1 := ⟨wq_567, wS_yX10_countOfPerson, wq_1, wq_568, by decide +kernel, by decide +kernel, by decide +kernel⟩
theorem kc_yX10_squaresIn : qV yX10_squaresIn cX10_squaresIn 4 (some .int) 1 := ⟨wq_843, wS_yX10_squaresIn, wq_1, wq_844, by decide +kernel, by decide +kernel, by decide +kernel⟩
theorem kc_yJ6_bitCount_0f7a4 : qT yJ6_bitCount_0f7a4 cJ6_bitCount_0f7a4 1 (some .int) 1 := ⟨wq_514, wq_16, wq_515, by decide +kernel, by decide +kernel, by decide +kernel⟩
theorem kc_yX10_putBytes : qV yX10_putBytes cX10_putBytes 3 none 1 := ⟨wq_425, wS_yX10_putBytes, wq_1, wq_426, by decide +kernel, by decide +kernel, by decide +kernel⟩
set_option maxRecDepth 100000 in
set_option maxHeartbeats 4000000 in
theorem u1_areRemarks (l : Launch) (D : va_G) (ca : Nat → ClassId) (o : Nat) (z : Nat → Nat → Int32) (y : Nat → Nat → Int64) (a1 : Int32) (h1_6 : z 1 6 = 0) : qM l yX10_areRemarks cX10_areRemarks 2 (some .boolean) 2 80 (qPre D vwCl (qT6 ca) o 132 (qG (GU ca o) z y) [.ref (o + 0), .int a1]) (va_Qi (fun r _ => (r = 1 ∧ a1.toInt = 0) ∨ (r = 0 ∧ a1.toInt ≠ 0)) (qB D vwCl (qT6 ca) o 132 (fun _ : Unit => qG (GU ca o) z y)) (qw_A o 132)) (qw_A o 132) := by
  refine Met.ofW (cc := cX10_areRemarks) (maxL := 2) (ret := (some .boolean)) (by decide) rfl ?_
  intro p e s m args below meth c s₁ B hml hv
  obtain ⟨rfl, hP, hK⟩ := hv
  have hx := B.exec
  have hb := B.bytes
  have hr := B.returns
  have hts0 := atoms_spec (ws := Cond.code yX10_areRemarks cX10_areRemarks 2 (some .boolean) :: qtbl) B.pre
  have hts : ∀ w ∈ qtbl, w.before _ s = true := fun w h => hts0 w (List.mem_cons_of_mem _ h)
  have hown : s.vm.findClass RX10 = some m.cls := findClass_of_methodNamed B.named
  have hlocks := B.notSynchronized
  have hz0 : (0 : Int32).toInt = 0 := rfl
  have hS : va_S (qw_A o 132) s.heap s.heap [] := va_S.rf
  have hl := lv_entry ([.ref (o + 0), .int a1]) (n := 2) (Nat.le_of_ble_eq_true rfl)
  rw [lg_entry_eq]
  generalize (lg_sl ([.ref (o + 0), .int a1]) ++ List.replicate (2 - (lg_sl ([.ref (o + 0), .int a1])).length) Slot.unset).toArray = ls at hl ⊢
  have hl : lv_has ls 2 [(0, .ref (o + 0)), (1, .int a1)] := hl
  refine lv_iload_n hx hb dX10_areRemarks_0 rfl (lv_at hl 1 rfl) ?_
  refine lv_aload_n hx hb dX10_areRemarks_1 rfl (lv_at hl 0 rfl) ?_
  refine qf_get hx hb hts inX10 hown hK hP (q0 := 0) (by decide) (hgU_0 ca o) rfl 0 (by decide) wq_353 (v := .ref (o + 1)) rfl dX10_areRemarks_2 ?_
  refine qc_Vi (As := []) (rest := [.int a1]) (k0 := 0) (u1_remarksSaid l D ca o z y (h1_6)) kc_yX9_remarksSaid ⟨hx, hb, hml, hown, hts⟩ wq_553 rfl rfl ⟨Nat.le_of_ble_eq_true rfl, Nat.le_of_ble_eq_true rfl⟩ wq_all hP hK hS qw_Ai (q0 := 1) (by decide) (hgU_1 ca o _ _) rfl rfl hl.1 rfl (Nat.le_of_ble_eq_true rfl) dX10_areRemarks_5 ⟨Nat.zero_le _, Nat.zero_le _⟩ (fun r1 u1 H locs h1 hP hS _ _ => ?_)
  subst h1
  refine lv_iconst (v := (-1)) hx hb dX10_areRemarks_8 (by decide) ?_
  refine lv_ixor hx hb dX10_areRemarks_9 ?_
  refine qtop (x' := (-1)) (by decide) ?_
  refine lv_iand hx hb dX10_areRemarks_10 ?_
  refine qtop (gi_m1 _) ?_
  refine lv_if_ne (tgt := 18) hx hb dX10_areRemarks_11 (by decide) (fun c2 => ?_) (fun c2 => ?_)
  · have t2 : a1.toInt ≠ (0 : Int) := gl_ne c2
    refine lv_iconst (v := 0) hx hb dX10_areRemarks_18 (by decide) ?_
    exact W.zret (v := 0) (ty := .boolean) hx hb hr rfl (fun t ht hW => ⟨⟨0, (), rfl, (Or.inr ⟨rfl, by omega⟩), by rw [ht]; exact hP, va_K.moved hW.alike hK⟩, hS.F ht⟩) hS.2.2 dX10_areRemarks_19
  · have t2 : a1.toInt = (0 : Int) := gl_eq c2
    refine lv_iconst (v := 1) hx hb dX10_areRemarks_14 (by decide) ?_
    refine lv_goto (tgt := 19) hx hb dX10_areRemarks_15 (by decide) ?_
    exact W.zret (v := 1) (ty := .boolean) hx hb hr rfl (fun t ht hW => ⟨⟨1, (), rfl, (Or.inl ⟨rfl, by omega⟩), by rw [ht]; exact hP, va_K.moved hW.alike hK⟩, hS.F ht⟩) hS.2.2 dX10_areRemarks_19

set_option maxRecDepth 100000 in
set_option maxHeartbeats 4000000 in
theorem u1_isText (l : Launch) (D : va_G) (ca : Nat → ClassId) (o : Nat) (z : Nat → Nat → Int32) (y : Nat → Nat → Int64) (a1 a2 : Int32) (h0_4 : z 0 4 = 0) : qM l yX10_isText cX10_isText 3 (some .boolean) 1 60 (qPre D vwCl (qT6 ca) o 132 (qG (GU ca o) z y) [.ref (o + 0), .int a1, .int a2]) (va_Qi (fun r _ => r = 0) (qB D vwCl (qT6 ca) o 132 (fun _ : Unit => qG (GU ca o) z y)) (qw_A o 132)) (qw_A o 132) := by
  refine Met.ofW (cc := cX10_isText) (maxL := 3) (ret := (some .boolean)) (by decide) rfl ?_
  intro p e s m args below meth c s₁ B hml hv
  obtain ⟨rfl, hP, hK⟩ := hv
  have hx := B.exec
  have hb := B.bytes
  have hr := B.returns
  have hts0 := atoms_spec (ws := Cond.code yX10_isText cX10_isText 3 (some .boolean) :: qtbl) B.pre
  have hts : ∀ w ∈ qtbl, w.before _ s = true := fun w h => hts0 w (List.mem_cons_of_mem _ h)
  have hown : s.vm.findClass RX10 = some m.cls := findClass_of_methodNamed B.named
  have hlocks := B.notSynchronized
  have hz0 : (0 : Int32).toInt = 0 := rfl
  have hS : va_S (qw_A o 132) s.heap s.heap [] := va_S.rf
  have hl := lv_entry ([.ref (o + 0), .int a1, .int a2]) (n := 3) (Nat.le_of_ble_eq_true rfl)
  rw [lg_entry_eq]
  generalize (lg_sl ([.ref (o + 0), .int a1, .int a2]) ++ List.replicate (3 - (lg_sl ([.ref (o + 0), .int a1, .int a2])).length) Slot.unset).toArray = ls at hl ⊢
  have hl : lv_has ls 3 [(0, .ref (o + 0)), (1, .int a1), (2, .int a2)] := hl
  refine lv_iload_n hx hb dX10_isText_0 rfl (lv_at hl 1 rfl) ?_
  refine lv_iconst (v := 1) hx hb dX10_isText_1 (by decide) ?_
  refine lv_icmp_lt (tgt := 22) hx hb dX10_isText_2 (by decide) (fun c1 => ?_) (fun c1 => ?_)
  · have t1 : a1.toInt < (1 : Int) := gl_lt c1
    refine lv_iconst (v := 0) hx hb dX10_isText_22 (by decide) ?_
    exact W.zret (v := 0) (ty := .boolean) hx hb hr rfl (fun t ht hW => ⟨⟨0, (), rfl, rfl, by rw [ht]; exact hP, va_K.moved hW.alike hK⟩, hS.F ht⟩) hS.2.2 dX10_isText_23
  · have t1 : a1.toInt ≥ (1 : Int) := gl_nlt c1
    refine lv_iload_n hx hb dX10_isText_5 rfl (lv_at hl 1 rfl) ?_
    refine lv_iload_n hx hb dX10_isText_6 rfl (lv_at hl 2 rfl) ?_
    refine lv_icmp_gt (tgt := 22) hx hb dX10_isText_7 (by decide) (fun c2 => ?_) (fun c2 => ?_)
    · have t2 : a1.toInt > a2.toInt := gl_lt c2
      refine lv_iconst (v := 0) hx hb dX10_isText_22 (by decide) ?_
      exact W.zret (v := 0) (ty := .boolean) hx hb hr rfl (fun t ht hW => ⟨⟨0, (), rfl, rfl, by rw [ht]; exact hP, va_K.moved hW.alike hK⟩, hS.F ht⟩) hS.2.2 dX10_isText_23
    · have t2 : a1.toInt ≤ a2.toInt := gl_nlt c2
      refine lv_iload_n hx hb dX10_isText_10 rfl (lv_at hl 1 rfl) ?_
      refine lv_aload_n hx hb dX10_isText_11 rfl (lv_at hl 0 rfl) ?_
      refine qf_get hx hb hts inX10 hown hK hP (q0 := 0) (by decide) (hgU_0 ca o) rfl 4 (by decide) wq_357 (v := .int (z 0 4)) rfl dX10_isText_12 ?_
      refine qtop (x' := 0) h0_4 ?_
      refine lv_icmp_gt (tgt := 22) hx hb dX10_isText_15 (by decide) (fun _ => ?_) (fun q => absurd (gr_lt (by show (0 : Int) < a1.toInt; omega)) q)
      refine lv_iconst (v := 0) hx hb dX10_isText_22 (by decide) ?_
      exact W.zret (v := 0) (ty := .boolean) hx hb hr rfl (fun t ht hW => ⟨⟨0, (), rfl, rfl, by rw [ht]; exact hP, va_K.moved hW.alike hK⟩, hS.F ht⟩) hS.2.2 dX10_isText_23

set_option maxRecDepth 100000 in
set_option maxHeartbeats 4000000 in
theorem u1_isOther (l : Launch) (D : va_G) (ca : Nat → ClassId) (o : Nat) (z : Nat → Nat → Int32) (y : Nat → Nat → Int64) (a1 a2 : Int32) (h1_6 : z 1 6 = 0) : qM l yX10_isOther cX10_isOther 3 (some .boolean) 3 102 (qPre D vwCl (qT6 ca) o 132 (qG (GU ca o) z y) [.ref (o + 0), .int a1, .int a2]) (va_Qi (fun r _ => r = 0) (qB D vwCl (qT6 ca) o 132 (fun _ : Unit => qG (GU ca o) z y)) (qw_A o 132)) (qw_A o 132) := by
  refine Met.ofW (cc := cX10_isOther) (maxL := 3) (ret := (some .boolean)) (by decide) rfl ?_
  intro p e s m args below meth c s₁ B hml hv
  obtain ⟨rfl, hP, hK⟩ := hv
  have hx := B.exec
  have hb := B.bytes
  have hr := B.returns
  have hts0 := atoms_spec (ws := Cond.code yX10_isOther cX10_isOther 3 (some .boolean) :: qtbl) B.pre
  have hts : ∀ w ∈ qtbl, w.before _ s = true := fun w h => hts0 w (List.mem_cons_of_mem _ h)
  have hown : s.vm.findClass RX10 = some m.cls := findClass_of_methodNamed B.named
  have hlocks := B.notSynchronized
  have hz0 : (0 : Int32).toInt = 0 := rfl
  have hS : va_S (qw_A o 132) s.heap s.heap [] := va_S.rf
  have hl := lv_entry ([.ref (o + 0), .int a1, .int a2]) (n := 3) (Nat.le_of_ble_eq_true rfl)
  rw [lg_entry_eq]
  generalize (lg_sl ([.ref (o + 0), .int a1, .int a2]) ++ List.replicate (3 - (lg_sl ([.ref (o + 0), .int a1, .int a2])).length) Slot.unset).toArray = ls at hl ⊢
  have hl : lv_has ls 3 [(0, .ref (o + 0)), (1, .int a1), (2, .int a2)] := hl
  refine lv_aload_n hx hb dX10_isOther_0 rfl (lv_at hl 0 rfl) ?_
  refine qf_get hx hb hts inX10 hown hK hP (q0 := 0) (by decide) (hgU_0 ca o) rfl 0 (by decide) wq_353 (v := .ref (o + 1)) rfl dX10_isOther_1 ?_
  refine lv_iload_n hx hb dX10_isOther_4 rfl (lv_at hl 2 rfl) ?_
  refine qc_Vi (As := [.int a2]) (rest := []) (k0 := 1) (u1_hasRemark l D ca o z y a2 (h1_6)) kc_yX9_hasRemark ⟨hx, hb, hml, hown, hts⟩ wq_527 rfl rfl ⟨Nat.le_of_ble_eq_true rfl, Nat.le_of_ble_eq_true rfl⟩ wq_all hP hK hS qw_Ai (q0 := 1) (by decide) (hgU_1 ca o _ _) rfl rfl hl.1 rfl (Nat.le_of_ble_eq_true rfl) dX10_isOther_5 ⟨Nat.zero_le _, Nat.zero_le _⟩ (fun r1 u1 H locs h1 hP hS _ _ => ?_)
  subst h1
  refine lv_if_eq (tgt := 23) hx hb dX10_isOther_8 (by decide) (fun _ => ?_) (fun q => absurd (by decide) q)
  refine lv_iconst (v := 0) hx hb dX10_isOther_23 (by decide) ?_
  exact W.zret (v := 0) (ty := .boolean) hx hb hr rfl (fun t ht hW => ⟨⟨0, (), rfl, rfl, by rw [ht]; exact hP, va_K.moved hW.alike hK⟩, hS.F ht⟩) hS.2.2 dX10_isOther_24

set_option maxRecDepth 100000 in
set_option maxHeartbeats 4000000 in
theorem u1_countOfPerson (l : Launch) (D : va_G) (ca : Nat → ClassId) (o : Nat) (z : Nat → Nat → Int32) (y : Nat → Nat → Int64) (a1 : Int32) (h1_5 : z 1 5 = 0) : qM l yX10_countOfPerson cX10_countOfPerson 3 (some .int) 2 81 (qPre D vwCl (qT6 ca) o 132 (qG (GU ca o) z y) [.ref (o + 0), .int a1]) (va_Qi (fun r _ => r = (-1)) (qB D vwCl (qT6 ca) o 132 (fun _ : Unit => qG (GU ca o) z y)) (qw_A o 132)) (qw_A o 132) := by
  refine Met.ofW (cc := cX10_countOfPerson) (maxL := 3) (ret := (some .int)) (by decide) rfl ?_
  intro p e s m args below meth c s₁ B hml hv
  obtain ⟨rfl, hP, hK⟩ := hv
  have hx := B.exec
  have hb := B.bytes
  have hr := B.returns
  have hts0 := atoms_spec (ws := Cond.code yX10_countOfPerson cX10_countOfPerson 3 (some .int) :: qtbl) B.pre
  have hts : ∀ w ∈ qtbl, w.before _ s = true := fun w h => hts0 w (List.mem_cons_of_mem _ h)
  have hown : s.vm.findClass RX10 = some m.cls := findClass_of_methodNamed B.named
  have hlocks := B.notSynchronized
  have hz0 : (0 : Int32).toInt = 0 := rfl
  have hS : va_S (qw_A o 132) s.heap s.heap [] := va_S.rf
  have hl := lv_entry ([.ref (o + 0), .int a1]) (n := 3) (Nat.le_of_ble_eq_true rfl)
  rw [lg_entry_eq]
  generalize (lg_sl ([.ref (o + 0), .int a1]) ++ List.replicate (3 - (lg_sl ([.ref (o + 0), .int a1])).length) Slot.unset).toArray = ls at hl ⊢
  have hl : lv_has ls 3 [(0, .ref (o + 0)), (1, .int a1)] := hl
  refine lv_iload_n hx hb dX10_countOfPerson_0 rfl (lv_at hl 1 rfl) ?_
  refine lv_bipush (v := 10) hx hb dX10_countOfPerson_1 (by decide) ?_
  refine lv_irem hx hb dX10_countOfPerson_3 (by decide) ?_
  refine lv_topi (fun x1 e1 => ?_)
  refine lv_istore_n (lv' := [(2, .int x1), (0, .ref (o + 0)), (1, .int a1)]) hx hb dX10_countOfPerson_4 rfl hl (by decide) rfl (fun ls hl => ?_)
  refine lv_iload_n hx hb dX10_countOfPerson_5 rfl (lv_at hl 2 rfl) ?_
  refine lv_bipush (v := 10) hx hb dX10_countOfPerson_6 (by decide) ?_
  refine lv_icmp_lt (tgt := 28) hx hb dX10_countOfPerson_8 (by decide) (fun c2 => ?_) (fun c2 => ?_)
  · have t2 : a1.toInt < (10 : Int) := gl_lt c2
    refine lv_iconst (v := (-1)) hx hb dX10_countOfPerson_28 (by decide) ?_
    exact W.iret (v := (-1)) hx hb hr (fun t ht hW => ⟨⟨(-1), (), rfl, rfl, by rw [ht]; exact hP, va_K.moved hW.alike hK⟩, hS.F ht⟩) hS.2.2 dX10_countOfPerson_29
  · have t2 : a1.toInt ≥ (10 : Int) := gl_nlt c2
    refine lv_iload_n hx hb dX10_countOfPerson_11 rfl (lv_at hl 2 rfl) ?_
    refine lv_bipush (v := 39) hx hb dX10_countOfPerson_12 (by decide) ?_
    refine lv_icmp_gt (tgt := 28) hx hb dX10_countOfPerson_14 (by decide) (fun c3 => ?_) (fun c3 => ?_)
    · have t3 : a1.toInt > (39 : Int) := gl_lt c3
      refine lv_iconst (v := (-1)) hx hb dX10_countOfPerson_28 (by decide) ?_
      exact W.iret (v := (-1)) hx hb hr (fun t ht hW => ⟨⟨(-1), (), rfl, rfl, by rw [ht]; exact hP, va_K.moved hW.alike hK⟩, hS.F ht⟩) hS.2.2 dX10_countOfPerson_29
    · have t3 : a1.toInt ≤ (39 : Int) := gl_nlt c3
      refine lv_aload_n hx hb dX10_countOfPerson_17 rfl (lv_at hl 1 rfl) ?_
      refine qf_get hx hb hts inX10 hown hK hP (q0 := 0) (by decide) (hgU_0 ca o) rfl 0 (by decide) wq_353 (v := .ref (o + 1)) rfl dX10_countOfPerson_18 ?_
      refine lv_iload_n hx hb dX10_countOfPerson_21 rfl (lv_at hl 0 rfl) ?_
      refine qc_Vi (As := [.int x1]) (rest := []) (k0 := 1) (u1_hasPerson l D ca o z y x1 (h1_5)) kc_yX9_hasPerson ⟨hx, hb, hml, hown, hts⟩ wq_411 rfl rfl ⟨Nat.le_of_ble_eq_true rfl, Nat.le_of_ble_eq_true rfl⟩ wq_all hP hK hS qw_Ai (q0 := 1) (by decide) (hgU_1 ca o _ _) rfl rfl hl.1 rfl (Nat.le_of_ble_eq_true rfl) dX10_countOfPerson_22 ⟨Nat.zero_le _, Nat.zero_le _⟩ (fun r4 u4 H locs h4 hP hS _ _ => ?_)
      subst h4
      refine lv_if_ne (tgt := 30) hx hb dX10_countOfPerson_25 (by decide) (fun q => absurd q (by decide)) (fun _ => ?_)
      refine lv_iconst (v := (-1)) hx hb dX10_countOfPerson_28 (by decide) ?_
      exact W.iret (v := (-1)) hx hb hr (fun t ht hW => ⟨⟨(-1), (), rfl, rfl, by rw [ht]; exact hP, va_K.moved hW.alike hK⟩, hS.F ht⟩) hS.2.2 dX10_countOfPerson_29

set_option maxRecDepth 100000 in
set_option maxHeartbeats 4000000 in
theorem u1_squaresIn (l : Launch) (D : va_G) (ca : Nat → ClassId) (o : Nat) (z : Nat → Nat → Int32) (y : Nat → Nat → Int64) (a1 : Int32) (h1_5 : z 1 5 = 0) : qM l yX10_squaresIn cX10_squaresIn 4 (some .int) 2 81 (qPre D vwCl (qT6 ca) o 132 (qG (GU ca o) z y) [.ref (o + 0), .int a1]) (va_Qi (fun r _ => r = 0) (qB D vwCl (qT6 ca) o 132 (fun _ : Unit => qG (GU ca o) z y)) (qw_A o 132)) (qw_A o 132) := by
  refine Met.ofW (cc := cX10_squaresIn) (maxL := 4) (ret := (some .int)) (by decide) rfl ?_
  intro p e s m args below meth c s₁ B hml hv
  obtain ⟨rfl, hP, hK⟩ := hv
  have hx := B.exec
  have hb := B.bytes
  have hr := B.returns
  have hts0 := atoms_spec (ws := Cond.code yX10_squaresIn cX10_squaresIn 4 (some .int) :: qtbl) B.pre
  have hts : ∀ w ∈ qtbl, w.before _ s = true := fun w h => hts0 w (List.mem_cons_of_mem _ h)
  have hown : s.vm.findClass RX10 = some m.cls := findClass_of_methodNamed B.named
  have hlocks := B.notSynchronized
  have hz0 : (0 : Int32).toInt = 0 := rfl
  have hS : va_S (qw_A o 132) s.heap s.heap [] := va_S.rf
  have hl := lv_entry ([.ref (o + 0), .int a1]) (n := 4) (Nat.le_of_ble_eq_true rfl)
  rw [lg_entry_eq]
  generalize (lg_sl ([.ref (o + 0), .int a1]) ++ List.replicate (4 - (lg_sl ([.ref (o + 0), .int a1])).length) Slot.unset).toArray = ls at hl ⊢
  have hl : lv_has ls 4 [(0, .ref (o + 0)), (1, .int a1)] := hl
  refine lv_iconst (v := 0) hx hb dX10_squaresIn_0 (by decide) ?_
  refine lv_istore_n (lv' := [(2, .int 0), (0, .ref (o + 0)), (1, .int a1)]) hx hb dX10_squaresIn_1 rfl hl (by decide) rfl (fun ls hl => ?_)
  refine lv_iconst (v := 0) hx hb dX10_squaresIn_2 (by decide) ?_
  refine lv_istore_n (lv' := [(3, .int 0), (2, .int 0), (0, .ref (o + 0)), (1, .int a1)]) hx hb dX10_squaresIn_3 rfl hl (by decide) rfl (fun ls hl => ?_)
  refine lv_iload_n hx hb dX10_squaresIn_4 rfl (lv_at hl 0 rfl) ?_
  refine lv_bipush (v := 6) hx hb dX10_squaresIn_5 (by decide) ?_
  refine lv_icmp_ge (tgt := 47) hx hb dX10_squaresIn_7 (by decide) (fun q => absurd q (by decide)) (fun _ => ?_)
  refine lv_aload_n hx hb dX10_squaresIn_10 rfl (lv_at hl 2 rfl) ?_
  refine qf_get hx hb hts inX10 hown hK hP (q0 := 0) (by decide) (hgU_0 ca o) rfl 0 (by decide) wq_353 (v := .ref (o + 1)) rfl dX10_squaresIn_11 ?_
  refine lv_iload_n hx hb dX10_squaresIn_14 rfl (lv_at hl 0 rfl) ?_
  refine qc_Vi (As := [.int 0]) (rest := []) (k0 := 1) (u1_hasPerson l D ca o z y 0 (h1_5)) kc_yX9_hasPerson ⟨hx, hb, hml, hown, hts⟩ wq_411 rfl rfl ⟨Nat.le_of_ble_eq_true rfl, Nat.le_of_ble_eq_true rfl⟩ wq_all hP hK hS qw_Ai (q0 := 1) (by decide) (hgU_1 ca o _ _) rfl rfl hl.1 rfl (Nat.le_of_ble_eq_true rfl) dX10_squaresIn_15 ⟨Nat.zero_le _, Nat.zero_le _⟩ (fun r1 u1 H locs h1 hP hS _ _ => ?_)
  subst h1
  refine lv_if_eq (tgt := 41) hx hb dX10_squaresIn_18 (by decide) (fun _ => ?_) (fun q => absurd (by decide) q)
  refine lv_iinc (v := 1) (lv' := [(3, .int 1), (2, .int 0), (0, .ref (o + 0)), (1, .int a1)]) hx hb dX10_squaresIn_41 hl (k := 0) rfl (by decide) (by decide) rfl (fun ls hl => ?_)
  refine lv_goto (tgt := 4) hx hb dX10_squaresIn_44 (by decide) ?_
  refine lv_iload_n hx hb dX10_squaresIn_4 rfl (lv_at hl 0 rfl) ?_
  refine lv_bipush (v := 6) hx hb dX10_squaresIn_5 (by decide) ?_
  refine lv_icmp_ge (tgt := 47) hx hb dX10_squaresIn_7 (by decide) (fun q => absurd q (by decide)) (fun _ => ?_)
  refine lv_aload_n hx hb dX10_squaresIn_10 rfl (lv_at hl 2 rfl) ?_
  refine qf_get hx hb hts inX10 hown hK hP (q0 := 0) (by decide) (hgU_0 ca o) rfl 0 (by decide) wq_353 (v := .ref (o + 1)) rfl dX10_squaresIn_11 ?_
  refine lv_iload_n hx hb dX10_squaresIn_14 rfl (lv_at hl 0 rfl) ?_
  refine qc_Vi (As := [.int 1]) (rest := []) (k0 := 1) (u1_hasPerson l D ca o z y 1 (h1_5)) kc_yX9_hasPerson ⟨hx, hb, hml, hown, hts⟩ wq_411 rfl rfl ⟨Nat.le_of_ble_eq_true rfl, Nat.le_of_ble_eq_true rfl⟩ wq_all hP hK hS qw_Ai (q0 := 1) (by decide) (hgU_1 ca o _ _) rfl rfl hl.1 rfl (Nat.le_of_ble_eq_true rfl) dX10_squaresIn_15 ⟨Nat.zero_le _, Nat.zero_le _⟩ (fun r2 u2 H locs h2 hP hS _ _ => ?_)
  subst h2
  refine lv_if_eq (tgt := 41) hx hb dX10_squaresIn_18 (by decide) (fun _ => ?_) (fun q => absurd (by decide) q)
  refine lv_iinc (v := 2) (lv' := [(3, .int 2), (2, .int 0), (0, .ref (o + 0)), (1, .int a1)]) hx hb dX10_squaresIn_41 hl (k := 0) rfl (by decide) (by decide) rfl (fun ls hl => ?_)
  refine lv_goto (tgt := 4) hx hb dX10_squaresIn_44 (by decide) ?_
  refine lv_iload_n hx hb dX10_squaresIn_4 rfl (lv_at hl 0 rfl) ?_
  refine lv_bipush (v := 6) hx hb dX10_squaresIn_5 (by decide) ?_
  refine lv_icmp_ge (tgt := 47) hx hb dX10_squaresIn_7 (by decide) (fun q => absurd q (by decide)) (fun _ => ?_)
  refine lv_aload_n hx hb dX10_squaresIn_10 rfl (lv_at hl 2 rfl) ?_
  refine qf_get hx hb hts inX10 hown hK hP (q0 := 0) (by decide) (hgU_0 ca o) rfl 0 (by decide) wq_353 (v := .ref (o + 1)) rfl dX10_squaresIn_11 ?_
  refine lv_iload_n hx hb dX10_squaresIn_14 rfl (lv_at hl 0 rfl) ?_
  refine qc_Vi (As := [.int 2]) (rest := []) (k0 := 1) (u1_hasPerson l D ca o z y 2 (h1_5)) kc_yX9_hasPerson ⟨hx, hb, hml, hown, hts⟩ wq_411 rfl rfl ⟨Nat.le_of_ble_eq_true rfl, Nat.le_of_ble_eq_true rfl⟩ wq_all hP hK hS qw_Ai (q0 := 1) (by decide) (hgU_1 ca o _ _) rfl rfl hl.1 rfl (Nat.le_of_ble_eq_true rfl) dX10_squaresIn_15 ⟨Nat.zero_le _, Nat.zero_le _⟩ (fun r3 u3 H locs h3 hP hS _ _ => ?_)
  subst h3
  refine lv_if_eq (tgt := 41) hx hb dX10_squaresIn_18 (by decide) (fun _ => ?_) (fun q => absurd (by decide) q)
  refine lv_iinc (v := 3) (lv' := [(3, .int 3), (2, .int 0), (0, .ref (o + 0)), (1, .int a1)]) hx hb dX10_squaresIn_41 hl (k := 0) rfl (by decide) (by decide) rfl (fun ls hl => ?_)
  refine lv_goto (tgt := 4) hx hb dX10_squaresIn_44 (by decide) ?_
  refine lv_iload_n hx hb dX10_squaresIn_4 rfl (lv_at hl 0 rfl) ?_
  refine lv_bipush (v := 6) hx hb dX10_squaresIn_5 (by decide) ?_
  refine lv_icmp_ge (tgt := 47) hx hb dX10_squaresIn_7 (by decide) (fun q => absurd q (by decide)) (fun _ => ?_)
  refine lv_aload_n hx hb dX10_squaresIn_10 rfl (lv_at hl 2 rfl) ?_
  refine qf_get hx hb hts inX10 hown hK hP (q0 := 0) (by decide) (hgU_0 ca o) rfl 0 (by decide) wq_353 (v := .ref (o + 1)) rfl dX10_squaresIn_11 ?_
  refine lv_iload_n hx hb dX10_squaresIn_14 rfl (lv_at hl 0 rfl) ?_
  refine qc_Vi (As := [.int 3]) (rest := []) (k0 := 1) (u1_hasPerson l D ca o z y 3 (h1_5)) kc_yX9_hasPerson ⟨hx, hb, hml, hown, hts⟩ wq_411 rfl rfl ⟨Nat.le_of_ble_eq_true rfl, Nat.le_of_ble_eq_true rfl⟩ wq_all hP hK hS qw_Ai (q0 := 1) (by decide) (hgU_1 ca o _ _) rfl rfl hl.1 rfl (Nat.le_of_ble_eq_true rfl) dX10_squaresIn_15 ⟨Nat.zero_le _, Nat.zero_le _⟩ (fun r4 u4 H locs h4 hP hS _ _ => ?_)
  subst h4
  refine lv_if_eq (tgt := 41) hx hb dX10_squaresIn_18 (by decide) (fun _ => ?_) (fun q => absurd (by decide) q)
  refine lv_iinc (v := 4) (lv' := [(3, .int 4), (2, .int 0), (0, .ref (o + 0)), (1, .int a1)]) hx hb dX10_squaresIn_41 hl (k := 0) rfl (by decide) (by decide) rfl (fun ls hl => ?_)
  refine lv_goto (tgt := 4) hx hb dX10_squaresIn_44 (by decide) ?_
  refine lv_iload_n hx hb dX10_squaresIn_4 rfl (lv_at hl 0 rfl) ?_
  refine lv_bipush (v := 6) hx hb dX10_squaresIn_5 (by decide) ?_
  refine lv_icmp_ge (tgt := 47) hx hb dX10_squaresIn_7 (by decide) (fun q => absurd q (by decide)) (fun _ => ?_)
  refine lv_aload_n hx hb dX10_squaresIn_10 rfl (lv_at hl 2 rfl) ?_
  refine qf_get hx hb hts inX10 hown hK hP (q0 := 0) (by decide) (hgU_0 ca o) rfl 0 (by decide) wq_353 (v := .ref (o + 1)) rfl dX10_squaresIn_11 ?_
  refine lv_iload_n hx hb dX10_squaresIn_14 rfl (lv_at hl 0 rfl) ?_
  refine qc_Vi (As := [.int 4]) (rest := []) (k0 := 1) (u1_hasPerson l D ca o z y 4 (h1_5)) kc_yX9_hasPerson ⟨hx, hb, hml, hown, hts⟩ wq_411 rfl rfl ⟨Nat.le_of_ble_eq_true rfl, Nat.le_of_ble_eq_true rfl⟩ wq_all hP hK hS qw_Ai (q0 := 1) (by decide) (hgU_1 ca o _ _) rfl rfl hl.1 rfl (Nat.le_of_ble_eq_true rfl) dX10_squaresIn_15 ⟨Nat.zero_le _, Nat.zero_le _⟩ (fun r5 u5 H locs h5 hP hS _ _ => ?_)
  subst h5
  refine lv_if_eq (tgt := 41) hx hb dX10_squaresIn_18 (by decide) (fun _ => ?_) (fun q => absurd (by decide) q)
  refine lv_iinc (v := 5) (lv' := [(3, .int 5), (2, .int 0), (0, .ref (o + 0)), (1, .int a1)]) hx hb dX10_squaresIn_41 hl (k := 0) rfl (by decide) (by decide) rfl (fun ls hl => ?_)
  refine lv_goto (tgt := 4) hx hb dX10_squaresIn_44 (by decide) ?_
  refine lv_iload_n hx hb dX10_squaresIn_4 rfl (lv_at hl 0 rfl) ?_
  refine lv_bipush (v := 6) hx hb dX10_squaresIn_5 (by decide) ?_
  refine lv_icmp_ge (tgt := 47) hx hb dX10_squaresIn_7 (by decide) (fun q => absurd q (by decide)) (fun _ => ?_)
  refine lv_aload_n hx hb dX10_squaresIn_10 rfl (lv_at hl 2 rfl) ?_
  refine qf_get hx hb hts inX10 hown hK hP (q0 := 0) (by decide) (hgU_0 ca o) rfl 0 (by decide) wq_353 (v := .ref (o + 1)) rfl dX10_squaresIn_11 ?_
  refine lv_iload_n hx hb dX10_squaresIn_14 rfl (lv_at hl 0 rfl) ?_
  refine qc_Vi (As := [.int 5]) (rest := []) (k0 := 1) (u1_hasPerson l D ca o z y 5 (h1_5)) kc_yX9_hasPerson ⟨hx, hb, hml, hown, hts⟩ wq_411 rfl rfl ⟨Nat.le_of_ble_eq_true rfl, Nat.le_of_ble_eq_true rfl⟩ wq_all hP hK hS qw_Ai (q0 := 1) (by decide) (hgU_1 ca o _ _) rfl rfl hl.1 rfl (Nat.le_of_ble_eq_true rfl) dX10_squaresIn_15 ⟨Nat.zero_le _, Nat.zero_le _⟩ (fun r6 u6 H locs h6 hP hS _ _ => ?_)
  subst h6
  refine lv_if_eq (tgt := 41) hx hb dX10_squaresIn_18 (by decide) (fun _ => ?_) (fun q => absurd (by decide) q)
  refine lv_iinc (v := 6) (lv' := [(3, .int 6), (2, .int 0), (0, .ref (o + 0)), (1, .int a1)]) hx hb dX10_squaresIn_41 hl (k := 0) rfl (by decide) (by decide) rfl (fun ls hl => ?_)
  refine lv_goto (tgt := 4) hx hb dX10_squaresIn_44 (by decide) ?_
  refine lv_iload_n hx hb dX10_squaresIn_4 rfl (lv_at hl 0 rfl) ?_
  refine lv_bipush (v := 6) hx hb dX10_squaresIn_5 (by decide) ?_
  refine lv_icmp_ge (tgt := 47) hx hb dX10_squaresIn_7 (by decide) (fun _ => ?_) (fun q => absurd (by decide) q)
  refine lv_iload_n hx hb dX10_squaresIn_47 rfl (lv_at hl 1 rfl) ?_
  exact W.iret (v := 0) hx hb hr (fun t ht hW => ⟨⟨0, (), rfl, rfl, by rw [ht]; exact hP, va_K.moved hW.alike hK⟩, hS.F ht⟩) hS.2.2 dX10_squaresIn_48

set_option maxRecDepth 100000 in
set_option maxHeartbeats 4000000 in
theorem u1_bit0 (l : Launch) (D : va_G) (ca : Nat → ClassId) (o : Nat) (z : Nat → Nat → Int32) (y : Nat → Nat → Int64)   : qM l yJ6_bitCount_0f7a4 cJ6_bitCount_0f7a4 1 (some .int) 1 60 (qPre D vwCl (qT6 ca) o 132 (qG (GU ca o) z y) [.int 0]) (va_Qi (fun r _ => r = 0) (qB D vwCl (qT6 ca) o 132 (fun _ : Unit => qG (GU ca o) z y)) (qw_A o 132)) (qw_A o 132) := by
  refine Met.ofW (cc := cJ6_bitCount_0f7a4) (maxL := 1) (ret := (some .int)) (by decide) rfl ?_
  intro p e s m args below meth c s₁ B hml hv
  obtain ⟨rfl, hP, hK⟩ := hv
  have hx := B.exec
  have hb := B.bytes
  have hr := B.returns
  have hts0 := atoms_spec (ws := Cond.code yJ6_bitCount_0f7a4 cJ6_bitCount_0f7a4 1 (some .int) :: qtbl) B.pre
  have hts : ∀ w ∈ qtbl, w.before _ s = true := fun w h => hts0 w (List.mem_cons_of_mem _ h)
  have hown : s.vm.findClass RJ6 = some m.cls := findClass_of_methodNamed B.named
  have hlocks := B.notSynchronized
  have hz0 : (0 : Int32).toInt = 0 := rfl
  have hS : va_S (qw_A o 132) s.heap s.heap [] := va_S.rf
  have hl := lv_entry ([.int 0]) (n := 1) (Nat.le_of_ble_eq_true rfl)
  rw [lg_entry_eq]
  generalize (lg_sl ([.int 0]) ++ List.replicate (1 - (lg_sl ([.int 0])).length) Slot.unset).toArray = ls at hl ⊢
  have hl : lv_has ls 1 [(0, .int 0)] := hl
  refine lv_iload_n hx hb dJ6_bitCount_0f7a4_0 rfl (lv_at hl 0 rfl) ?_
  refine lv_iload_n hx hb dJ6_bitCount_0f7a4_1 rfl (lv_at hl 0 rfl) ?_
  refine lv_iconst (v := 1) hx hb dJ6_bitCount_0f7a4_2 (by decide) ?_
  refine lv_iushr (v := 0) hx hb dJ6_bitCount_0f7a4_3 (by decide) ?_
  refine lv_ldcw (v := 1431655765) hx hb hown (hts _ wq_516) dJ6_bitCount_0f7a4_4 ?_
  refine lv_iand hx hb dJ6_bitCount_0f7a4_7 ?_
  refine qtop (x' := 0) (by decide) ?_
  refine lv_isub hx hb dJ6_bitCount_0f7a4_8 ?_
  refine qtop (x' := 0) (by decide) ?_
  refine lv_istore_n (lv' := [(0, .int 0)]) hx hb dJ6_bitCount_0f7a4_9 rfl hl (by decide) rfl (fun ls hl => ?_)
  refine lv_iload_n hx hb dJ6_bitCount_0f7a4_10 rfl (lv_at hl 0 rfl) ?_
  refine lv_ldcw (v := 858993459) hx hb hown (hts _ wq_517) dJ6_bitCount_0f7a4_11 ?_
  refine lv_iand hx hb dJ6_bitCount_0f7a4_14 ?_
  refine qtop (x' := 0) (by decide) ?_
  refine lv_iload_n hx hb dJ6_bitCount_0f7a4_15 rfl (lv_at hl 0 rfl) ?_
  refine lv_iconst (v := 2) hx hb dJ6_bitCount_0f7a4_16 (by decide) ?_
  refine lv_iushr (v := 0) hx hb dJ6_bitCount_0f7a4_17 (by decide) ?_
  refine lv_ldcw (v := 858993459) hx hb hown (hts _ wq_517) dJ6_bitCount_0f7a4_18 ?_
  refine lv_iand hx hb dJ6_bitCount_0f7a4_21 ?_
  refine qtop (x' := 0) (by decide) ?_
  refine lv_iadd hx hb dJ6_bitCount_0f7a4_22 ?_
  refine qtop (x' := 0) (by decide) ?_
  refine lv_istore_n (lv' := [(0, .int 0)]) hx hb dJ6_bitCount_0f7a4_23 rfl hl (by decide) rfl (fun ls hl => ?_)
  refine lv_iload_n hx hb dJ6_bitCount_0f7a4_24 rfl (lv_at hl 0 rfl) ?_
  refine lv_iload_n hx hb dJ6_bitCount_0f7a4_25 rfl (lv_at hl 0 rfl) ?_
  refine lv_iconst (v := 4) hx hb dJ6_bitCount_0f7a4_26 (by decide) ?_
  refine lv_iushr (v := 0) hx hb dJ6_bitCount_0f7a4_27 (by decide) ?_
  refine lv_iadd hx hb dJ6_bitCount_0f7a4_28 ?_
  refine qtop (x' := 0) (by decide) ?_
  refine lv_ldcw (v := 252645135) hx hb hown (hts _ wq_518) dJ6_bitCount_0f7a4_29 ?_
  refine lv_iand hx hb dJ6_bitCount_0f7a4_32 ?_
  refine qtop (x' := 0) (by decide) ?_
  refine lv_istore_n (lv' := [(0, .int 0)]) hx hb dJ6_bitCount_0f7a4_33 rfl hl (by decide) rfl (fun ls hl => ?_)
  refine lv_iload_n hx hb dJ6_bitCount_0f7a4_34 rfl (lv_at hl 0 rfl) ?_
  refine lv_iload_n hx hb dJ6_bitCount_0f7a4_35 rfl (lv_at hl 0 rfl) ?_
  refine lv_bipush (v := 8) hx hb dJ6_bitCount_0f7a4_36 (by decide) ?_
  refine lv_iushr (v := 0) hx hb dJ6_bitCount_0f7a4_38 (by decide) ?_
  refine lv_iadd hx hb dJ6_bitCount_0f7a4_39 ?_
  refine qtop (x' := 0) (by decide) ?_
  refine lv_istore_n (lv' := [(0, .int 0)]) hx hb dJ6_bitCount_0f7a4_40 rfl hl (by decide) rfl (fun ls hl => ?_)
  refine lv_iload_n hx hb dJ6_bitCount_0f7a4_41 rfl (lv_at hl 0 rfl) ?_
  refine lv_iload_n hx hb dJ6_bitCount_0f7a4_42 rfl (lv_at hl 0 rfl) ?_
  refine lv_bipush (v := 16) hx hb dJ6_bitCount_0f7a4_43 (by decide) ?_
  refine lv_iushr (v := 0) hx hb dJ6_bitCount_0f7a4_45 (by decide) ?_
  refine lv_iadd hx hb dJ6_bitCount_0f7a4_46 ?_
  refine qtop (x' := 0) (by decide) ?_
  refine lv_istore_n (lv' := [(0, .int 0)]) hx hb dJ6_bitCount_0f7a4_47 rfl hl (by decide) rfl (fun ls hl => ?_)
  refine lv_iload_n hx hb dJ6_bitCount_0f7a4_48 rfl (lv_at hl 0 rfl) ?_
  refine lv_bipush (v := 63) hx hb dJ6_bitCount_0f7a4_49 (by decide) ?_
  refine lv_iand hx hb dJ6_bitCount_0f7a4_51 ?_
  refine qtop (x' := 0) (by decide) ?_
  exact W.iret (v := 0) hx hb hr (fun t ht hW => ⟨⟨0, (), rfl, rfl, by rw [ht]; exact hP, va_K.moved hW.alike hK⟩, hS.F ht⟩) hS.2.2 dJ6_bitCount_0f7a4_52

set_option maxRecDepth 100000 in
set_option maxHeartbeats 4000000 in
theorem u1_bitAny (l : Launch) (D : va_G) (ca : Nat → ClassId) (o : Nat) (z : Nat → Nat → Int32) (y : Nat → Nat → Int64) (a1 : Int32)  : qM l yJ6_bitCount_0f7a4 cJ6_bitCount_0f7a4 1 (some .int) 1 60 (qPre D vwCl (qT6 ca) o 132 (qG (GU ca o) z y) [.int a1]) (va_Qi (fun _ _ => True) (qB D vwCl (qT6 ca) o 132 (fun _ : Unit => qG (GU ca o) z y)) (qw_A o 132)) (qw_A o 132) := by
  refine Met.ofW (cc := cJ6_bitCount_0f7a4) (maxL := 1) (ret := (some .int)) (by decide) rfl ?_
  intro p e s m args below meth c s₁ B hml hv
  obtain ⟨rfl, hP, hK⟩ := hv
  have hx := B.exec
  have hb := B.bytes
  have hr := B.returns
  have hts0 := atoms_spec (ws := Cond.code yJ6_bitCount_0f7a4 cJ6_bitCount_0f7a4 1 (some .int) :: qtbl) B.pre
  have hts : ∀ w ∈ qtbl, w.before _ s = true := fun w h => hts0 w (List.mem_cons_of_mem _ h)
  have hown : s.vm.findClass RJ6 = some m.cls := findClass_of_methodNamed B.named
  have hlocks := B.notSynchronized
  have hz0 : (0 : Int32).toInt = 0 := rfl
  have hS : va_S (qw_A o 132) s.heap s.heap [] := va_S.rf
  have hl := lv_entry ([.int a1]) (n := 1) (Nat.le_of_ble_eq_true rfl)
  rw [lg_entry_eq]
  generalize (lg_sl ([.int a1]) ++ List.replicate (1 - (lg_sl ([.int a1])).length) Slot.unset).toArray = ls at hl ⊢
  have hl : lv_has ls 1 [(0, .int a1)] := hl
  refine lv_iload_n hx hb dJ6_bitCount_0f7a4_0 rfl (lv_at hl 0 rfl) ?_
  refine lv_iload_n hx hb dJ6_bitCount_0f7a4_1 rfl (lv_at hl 0 rfl) ?_
  refine lv_iconst (v := 1) hx hb dJ6_bitCount_0f7a4_2 (by decide) ?_
  refine lv_iushr hx hb dJ6_bitCount_0f7a4_3 rfl ?_
  refine lv_topi (fun x1 e1 => ?_)
  refine lv_ldcw (v := 1431655765) hx hb hown (hts _ wq_516) dJ6_bitCount_0f7a4_4 ?_
  refine lv_iand hx hb dJ6_bitCount_0f7a4_7 ?_
  refine lv_topi (fun x2 e2 => ?_)
  refine lv_isub hx hb dJ6_bitCount_0f7a4_8 ?_
  refine lv_topi (fun x3 e3 => ?_)
  refine lv_istore_n (lv' := [(0, .int x3)]) hx hb dJ6_bitCount_0f7a4_9 rfl hl (by decide) rfl (fun ls hl => ?_)
  refine lv_iload_n hx hb dJ6_bitCount_0f7a4_10 rfl (lv_at hl 0 rfl) ?_
  refine lv_ldcw (v := 858993459) hx hb hown (hts _ wq_517) dJ6_bitCount_0f7a4_11 ?_
  refine lv_iand hx hb dJ6_bitCount_0f7a4_14 ?_
  refine lv_topi (fun x4 e4 => ?_)
  refine lv_iload_n hx hb dJ6_bitCount_0f7a4_15 rfl (lv_at hl 0 rfl) ?_
  refine lv_iconst (v := 2) hx hb dJ6_bitCount_0f7a4_16 (by decide) ?_
  refine lv_iushr hx hb dJ6_bitCount_0f7a4_17 rfl ?_
  refine lv_topi (fun x5 e5 => ?_)
  refine lv_ldcw (v := 858993459) hx hb hown (hts _ wq_517) dJ6_bitCount_0f7a4_18 ?_
  refine lv_iand hx hb dJ6_bitCount_0f7a4_21 ?_
  refine lv_topi (fun x6 e6 => ?_)
  refine lv_iadd hx hb dJ6_bitCount_0f7a4_22 ?_
  refine lv_topi (fun x7 e7 => ?_)
  refine lv_istore_n (lv' := [(0, .int x7)]) hx hb dJ6_bitCount_0f7a4_23 rfl hl (by decide) rfl (fun ls hl => ?_)
  refine lv_iload_n hx hb dJ6_bitCount_0f7a4_24 rfl (lv_at hl 0 rfl) ?_
  refine lv_iload_n hx hb dJ6_bitCount_0f7a4_25 rfl (lv_at hl 0 rfl) ?_
  refine lv_iconst (v := 4) hx hb dJ6_bitCount_0f7a4_26 (by decide) ?_
  refine lv_iushr hx hb dJ6_bitCount_0f7a4_27 rfl ?_
  refine lv_topi (fun x8 e8 => ?_)
  refine lv_iadd hx hb dJ6_bitCount_0f7a4_28 ?_
  refine lv_topi (fun x9 e9 => ?_)
  refine lv_ldcw (v := 252645135) hx hb hown (hts _ wq_518) dJ6_bitCount_0f7a4_29 ?_
  refine lv_iand hx hb dJ6_bitCount_0f7a4_32 ?_
  refine lv_topi (fun x10 e10 => ?_)
  refine lv_istore_n (lv' := [(0, .int x10)]) hx hb dJ6_bitCount_0f7a4_33 rfl hl (by decide) rfl (fun ls hl => ?_)
  refine lv_iload_n hx hb dJ6_bitCount_0f7a4_34 rfl (lv_at hl 0 rfl) ?_
  refine lv_iload_n hx hb dJ6_bitCount_0f7a4_35 rfl (lv_at hl 0 rfl) ?_
  refine lv_bipush (v := 8) hx hb dJ6_bitCount_0f7a4_36 (by decide) ?_
  refine lv_iushr hx hb dJ6_bitCount_0f7a4_38 rfl ?_
  refine lv_topi (fun x11 e11 => ?_)
  refine lv_iadd hx hb dJ6_bitCount_0f7a4_39 ?_
  refine lv_topi (fun x12 e12 => ?_)
  refine lv_istore_n (lv' := [(0, .int x12)]) hx hb dJ6_bitCount_0f7a4_40 rfl hl (by decide) rfl (fun ls hl => ?_)
  refine lv_iload_n hx hb dJ6_bitCount_0f7a4_41 rfl (lv_at hl 0 rfl) ?_
  refine lv_iload_n hx hb dJ6_bitCount_0f7a4_42 rfl (lv_at hl 0 rfl) ?_
  refine lv_bipush (v := 16) hx hb dJ6_bitCount_0f7a4_43 (by decide) ?_
  refine lv_iushr hx hb dJ6_bitCount_0f7a4_45 rfl ?_
  refine lv_topi (fun x13 e13 => ?_)
  refine lv_iadd hx hb dJ6_bitCount_0f7a4_46 ?_
  refine lv_topi (fun x14 e14 => ?_)
  refine lv_istore_n (lv' := [(0, .int x14)]) hx hb dJ6_bitCount_0f7a4_47 rfl hl (by decide) rfl (fun ls hl => ?_)
  refine lv_iload_n hx hb dJ6_bitCount_0f7a4_48 rfl (lv_at hl 0 rfl) ?_
  refine lv_bipush (v := 63) hx hb dJ6_bitCount_0f7a4_49 (by decide) ?_
  refine lv_iand hx hb dJ6_bitCount_0f7a4_51 ?_
  refine lv_topi (fun x15 e15 => ?_)
  exact W.iret (v := x15) hx hb hr (fun t ht hW => ⟨⟨x15, (), rfl, trivial, by rw [ht]; exact hP, va_K.moved hW.alike hK⟩, hS.F ht⟩) hS.2.2 dJ6_bitCount_0f7a4_52

set_option maxRecDepth 100000 in
set_option maxHeartbeats 4000000 in
theorem u1_putBytes0 (l : Launch) (D : va_G) (ca : Nat → ClassId) (o : Nat) (z : Nat → Nat → Int32) (y : Nat → Nat → Int64) (a1 : Int32) (h0_4 : z 0 4 = 0) : qM l yX10_putBytes cX10_putBytes 3 none 1 60 (qPre D vwCl (qT6 ca) o 132 (qG (GU ca o) z y) [.ref (o + 0), .int a1]) (va_Qv (fun u => (∀ k : Nat, (k ≠ 0) → (k ≠ 77) → u.1 k = z k) ∧ u.2 = y ∧ u.1 0 4 = 4) (qB D vwCl (qT6 ca) o 132 (fun u : qZ => qG (GU ca o) u.1 u.2)) (qw_A o 132)) (qw_A o 132) := by
  refine Met.ofW (cc := cX10_putBytes) (maxL := 3) (ret := none) (by decide) rfl ?_
  intro p e s m args below meth c s₁ B hml hv
  obtain ⟨rfl, hP, hK⟩ := hv
  have hx := B.exec
  have hb := B.bytes
  have hr := B.returns
  have hts0 := atoms_spec (ws := Cond.code yX10_putBytes cX10_putBytes 3 none :: qtbl) B.pre
  have hts : ∀ w ∈ qtbl, w.before _ s = true := fun w h => hts0 w (List.mem_cons_of_mem _ h)
  have hown : s.vm.findClass RX10 = some m.cls := findClass_of_methodNamed B.named
  have hlocks := B.notSynchronized
  have hz0 : (0 : Int32).toInt = 0 := rfl
  have hS : va_S (qw_A o 132) s.heap s.heap [] := va_S.rf
  have hl := lv_entry ([.ref (o + 0), .int a1]) (n := 3) (Nat.le_of_ble_eq_true rfl)
  rw [lg_entry_eq]
  generalize (lg_sl ([.ref (o + 0), .int a1]) ++ List.replicate (3 - (lg_sl ([.ref (o + 0), .int a1])).length) Slot.unset).toArray = ls at hl ⊢
  have hl : lv_has ls 3 [(0, .ref (o + 0)), (1, .int a1)] := hl
  refine lv_bipush (v := 24) hx hb dX10_putBytes_0 (by decide) ?_
  refine lv_istore_n (lv' := [(2, .int 24), (0, .ref (o + 0)), (1, .int a1)]) hx hb dX10_putBytes_2 rfl hl (by decide) rfl (fun ls hl => ?_)
  refine lv_iload_n hx hb dX10_putBytes_3 rfl (lv_at hl 0 rfl) ?_
  refine lv_if_lt (tgt := 49) hx hb dX10_putBytes_4 (by decide) (fun q => absurd q (by decide)) (fun _ => ?_)
  refine lv_aload_n hx hb dX10_putBytes_7 rfl (lv_at hl 1 rfl) ?_
  refine qf_get hx hb hts inX10 hown hK hP (q0 := 0) (by decide) (hgU_0 ca o) rfl 4 (by decide) wq_357 (v := .int (z 0 4)) rfl dX10_putBytes_8 ?_
  refine qtop (x' := 0) h0_4 ?_
  refine lv_sipush (v := 260) hx hb dX10_putBytes_11 (by decide) ?_
  refine lv_icmp_ge (tgt := 49) hx hb dX10_putBytes_14 (by decide) (fun q => absurd q (by decide)) (fun _ => ?_)
  refine lv_aload_n hx hb dX10_putBytes_17 rfl (lv_at hl 1 rfl) ?_
  refine qf_get hx hb hts inX10 hown hK hP (q0 := 0) (by decide) (hgU_0 ca o) rfl 3 (by decide) wq_356 (v := .ref (o + 77)) rfl dX10_putBytes_18 ?_
  refine lv_aload_n hx hb dX10_putBytes_21 rfl (lv_at hl 1 rfl) ?_
  refine qf_get hx hb hts inX10 hown hK hP (q0 := 0) (by decide) (hgU_0 ca o) rfl 4 (by decide) wq_357 (v := .int (z 0 4)) rfl dX10_putBytes_22 ?_
  refine qtop (x' := 0) h0_4 ?_
  refine lv_iload_n hx hb dX10_putBytes_25 rfl (lv_at hl 2 rfl) ?_
  refine lv_iload_n hx hb dX10_putBytes_26 rfl (lv_at hl 0 rfl) ?_
  refine lv_ishr hx hb dX10_putBytes_27 ?_
  refine lv_topi (fun x1 e1 => ?_)
  refine lv_sipush (v := 255) hx hb dX10_putBytes_28 (by decide) ?_
  refine lv_iand hx hb dX10_putBytes_31 ?_
  refine lv_topi (fun x2 e2 => ?_)
  refine qa_iast hx hb hK hP hS qw_Ai (q0 := 77) (by decide) 0 (N := 260) (hgU_77 ca o) rfl (gi_in (by decide) (by decide)) dX10_putBytes_32 (fun H locs hP hS => ?_)
  refine lv_aload_n hx hb dX10_putBytes_33 rfl (lv_at hl 1 rfl) ?_
  refine lv_dup hx hb dX10_putBytes_34 rfl ?_
  refine qf_get hx hb hts inX10 hown hK hP (q0 := 0) (by decide) (hgU_0 ca o) rfl 4 (by decide) wq_357 (v := .int ((qu z 77 ((0 : Int32).toNatClampNeg) x2) 0 4)) rfl dX10_putBytes_35 ?_
  refine qtop (x' := 0) h0_4 ?_
  refine lv_iconst (v := 1) hx hb dX10_putBytes_38 (by decide) ?_
  refine lv_iadd hx hb dX10_putBytes_39 ?_
  refine qtop (x' := 1) (by decide) ?_
  refine qf_put hx hb hts inX10 tyX10 tyX10_ok nmX10 hown hK hP hS qw_Ai (q0 := 0) (by decide) (hgU_0 ca o) rfl 4 (by decide) wq_357 rfl (x := 1) 4 rfl rfl rfl (Nat.le_of_ble_eq_true rfl) dX10_putBytes_40 (fun H locs hP hS => ?_)
  refine lv_iinc (v := 16) (lv' := [(2, .int 16), (0, .ref (o + 0)), (1, .int a1)]) hx hb dX10_putBytes_43 hl (k := 0) rfl (by decide) (by decide) rfl (fun ls hl => ?_)
  refine lv_goto (tgt := 3) hx hb dX10_putBytes_46 (by decide) ?_
  refine lv_iload_n hx hb dX10_putBytes_3 rfl (lv_at hl 0 rfl) ?_
  refine lv_if_lt (tgt := 49) hx hb dX10_putBytes_4 (by decide) (fun q => absurd q (by decide)) (fun _ => ?_)
  refine lv_aload_n hx hb dX10_putBytes_7 rfl (lv_at hl 1 rfl) ?_
  refine qf_get hx hb hts inX10 hown hK hP (q0 := 0) (by decide) (hgU_0 ca o) rfl 4 (by decide) wq_357 (v := .int ((qu (qu z 77 ((0 : Int32).toNatClampNeg) x2) 0 4 1) 0 4)) rfl dX10_putBytes_8 ?_
  refine qtop (x' := 1) rfl ?_
  refine lv_sipush (v := 260) hx hb dX10_putBytes_11 (by decide) ?_
  refine lv_icmp_ge (tgt := 49) hx hb dX10_putBytes_14 (by decide) (fun q => absurd q (by decide)) (fun _ => ?_)
  refine lv_aload_n hx hb dX10_putBytes_17 rfl (lv_at hl 1 rfl) ?_
  refine qf_get hx hb hts inX10 hown hK hP (q0 := 0) (by decide) (hgU_0 ca o) rfl 3 (by decide) wq_356 (v := .ref (o + 77)) rfl dX10_putBytes_18 ?_
  refine lv_aload_n hx hb dX10_putBytes_21 rfl (lv_at hl 1 rfl) ?_
  refine qf_get hx hb hts inX10 hown hK hP (q0 := 0) (by decide) (hgU_0 ca o) rfl 4 (by decide) wq_357 (v := .int ((qu (qu z 77 ((0 : Int32).toNatClampNeg) x2) 0 4 1) 0 4)) rfl dX10_putBytes_22 ?_
  refine qtop (x' := 1) rfl ?_
  refine lv_iload_n hx hb dX10_putBytes_25 rfl (lv_at hl 2 rfl) ?_
  refine lv_iload_n hx hb dX10_putBytes_26 rfl (lv_at hl 0 rfl) ?_
  refine lv_ishr hx hb dX10_putBytes_27 ?_
  refine lv_topi (fun x3 e3 => ?_)
  refine lv_sipush (v := 255) hx hb dX10_putBytes_28 (by decide) ?_
  refine lv_iand hx hb dX10_putBytes_31 ?_
  refine lv_topi (fun x4 e4 => ?_)
  refine qa_iast hx hb hK hP hS qw_Ai (q0 := 77) (by decide) 0 (N := 260) (hgU_77 ca o) rfl (gi_in (by decide) (by decide)) dX10_putBytes_32 (fun H locs hP hS => ?_)
  refine lv_aload_n hx hb dX10_putBytes_33 rfl (lv_at hl 1 rfl) ?_
  refine lv_dup hx hb dX10_putBytes_34 rfl ?_
  refine qf_get hx hb hts inX10 hown hK hP (q0 := 0) (by decide) (hgU_0 ca o) rfl 4 (by decide) wq_357 (v := .int ((qu (qu (qu z 77 ((0 : Int32).toNatClampNeg) x2) 0 4 1) 77 ((1 : Int32).toNatClampNeg) x4) 0 4)) rfl dX10_putBytes_35 ?_
  refine qtop (x' := 1) rfl ?_
  refine lv_iconst (v := 1) hx hb dX10_putBytes_38 (by decide) ?_
  refine lv_iadd hx hb dX10_putBytes_39 ?_
  refine qtop (x' := 2) (by decide) ?_
  refine qf_put hx hb hts inX10 tyX10 tyX10_ok nmX10 hown hK hP hS qw_Ai (q0 := 0) (by decide) (hgU_0 ca o) rfl 4 (by decide) wq_357 rfl (x := 2) 4 rfl rfl rfl (Nat.le_of_ble_eq_true rfl) dX10_putBytes_40 (fun H locs hP hS => ?_)
  refine lv_iinc (v := 8) (lv' := [(2, .int 8), (0, .ref (o + 0)), (1, .int a1)]) hx hb dX10_putBytes_43 hl (k := 0) rfl (by decide) (by decide) rfl (fun ls hl => ?_)
  refine lv_goto (tgt := 3) hx hb dX10_putBytes_46 (by decide) ?_
  refine lv_iload_n hx hb dX10_putBytes_3 rfl (lv_at hl 0 rfl) ?_
  refine lv_if_lt (tgt := 49) hx hb dX10_putBytes_4 (by decide) (fun q => absurd q (by decide)) (fun _ => ?_)
  refine lv_aload_n hx hb dX10_putBytes_7 rfl (lv_at hl 1 rfl) ?_
  refine qf_get hx hb hts inX10 hown hK hP (q0 := 0) (by decide) (hgU_0 ca o) rfl 4 (by decide) wq_357 (v := .int ((qu (qu (qu (qu z 77 ((0 : Int32).toNatClampNeg) x2) 0 4 1) 77 ((1 : Int32).toNatClampNeg) x4) 0 4 2) 0 4)) rfl dX10_putBytes_8 ?_
  refine qtop (x' := 2) rfl ?_
  refine lv_sipush (v := 260) hx hb dX10_putBytes_11 (by decide) ?_
  refine lv_icmp_ge (tgt := 49) hx hb dX10_putBytes_14 (by decide) (fun q => absurd q (by decide)) (fun _ => ?_)
  refine lv_aload_n hx hb dX10_putBytes_17 rfl (lv_at hl 1 rfl) ?_
  refine qf_get hx hb hts inX10 hown hK hP (q0 := 0) (by decide) (hgU_0 ca o) rfl 3 (by decide) wq_356 (v := .ref (o + 77)) rfl dX10_putBytes_18 ?_
  refine lv_aload_n hx hb dX10_putBytes_21 rfl (lv_at hl 1 rfl) ?_
  refine qf_get hx hb hts inX10 hown hK hP (q0 := 0) (by decide) (hgU_0 ca o) rfl 4 (by decide) wq_357 (v := .int ((qu (qu (qu (qu z 77 ((0 : Int32).toNatClampNeg) x2) 0 4 1) 77 ((1 : Int32).toNatClampNeg) x4) 0 4 2) 0 4)) rfl dX10_putBytes_22 ?_
  refine qtop (x' := 2) rfl ?_
  refine lv_iload_n hx hb dX10_putBytes_25 rfl (lv_at hl 2 rfl) ?_
  refine lv_iload_n hx hb dX10_putBytes_26 rfl (lv_at hl 0 rfl) ?_
  refine lv_ishr hx hb dX10_putBytes_27 ?_
  refine lv_topi (fun x5 e5 => ?_)
  refine lv_sipush (v := 255) hx hb dX10_putBytes_28 (by decide) ?_
  refine lv_iand hx hb dX10_putBytes_31 ?_
  refine lv_topi (fun x6 e6 => ?_)
  refine qa_iast hx hb hK hP hS qw_Ai (q0 := 77) (by decide) 0 (N := 260) (hgU_77 ca o) rfl (gi_in (by decide) (by decide)) dX10_putBytes_32 (fun H locs hP hS => ?_)
  refine lv_aload_n hx hb dX10_putBytes_33 rfl (lv_at hl 1 rfl) ?_
  refine lv_dup hx hb dX10_putBytes_34 rfl ?_
  refine qf_get hx hb hts inX10 hown hK hP (q0 := 0) (by decide) (hgU_0 ca o) rfl 4 (by decide) wq_357 (v := .int ((qu (qu (qu (qu (qu z 77 ((0 : Int32).toNatClampNeg) x2) 0 4 1) 77 ((1 : Int32).toNatClampNeg) x4) 0 4 2) 77 ((2 : Int32).toNatClampNeg) x6) 0 4)) rfl dX10_putBytes_35 ?_
  refine qtop (x' := 2) rfl ?_
  refine lv_iconst (v := 1) hx hb dX10_putBytes_38 (by decide) ?_
  refine lv_iadd hx hb dX10_putBytes_39 ?_
  refine qtop (x' := 3) (by decide) ?_
  refine qf_put hx hb hts inX10 tyX10 tyX10_ok nmX10 hown hK hP hS qw_Ai (q0 := 0) (by decide) (hgU_0 ca o) rfl 4 (by decide) wq_357 rfl (x := 3) 4 rfl rfl rfl (Nat.le_of_ble_eq_true rfl) dX10_putBytes_40 (fun H locs hP hS => ?_)
  refine lv_iinc (v := 0) (lv' := [(2, .int 0), (0, .ref (o + 0)), (1, .int a1)]) hx hb dX10_putBytes_43 hl (k := 0) rfl (by decide) (by decide) rfl (fun ls hl => ?_)
  refine lv_goto (tgt := 3) hx hb dX10_putBytes_46 (by decide) ?_
  refine lv_iload_n hx hb dX10_putBytes_3 rfl (lv_at hl 0 rfl) ?_
  refine lv_if_lt (tgt := 49) hx hb dX10_putBytes_4 (by decide) (fun q => absurd q (by decide)) (fun _ => ?_)
  refine lv_aload_n hx hb dX10_putBytes_7 rfl (lv_at hl 1 rfl) ?_
  refine qf_get hx hb hts inX10 hown hK hP (q0 := 0) (by decide) (hgU_0 ca o) rfl 4 (by decide) wq_357 (v := .int ((qu (qu (qu (qu (qu (qu z 77 ((0 : Int32).toNatClampNeg) x2) 0 4 1) 77 ((1 : Int32).toNatClampNeg) x4) 0 4 2) 77 ((2 : Int32).toNatClampNeg) x6) 0 4 3) 0 4)) rfl dX10_putBytes_8 ?_
  refine qtop (x' := 3) rfl ?_
  refine lv_sipush (v := 260) hx hb dX10_putBytes_11 (by decide) ?_
  refine lv_icmp_ge (tgt := 49) hx hb dX10_putBytes_14 (by decide) (fun q => absurd q (by decide)) (fun _ => ?_)
  refine lv_aload_n hx hb dX10_putBytes_17 rfl (lv_at hl 1 rfl) ?_
  refine qf_get hx hb hts inX10 hown hK hP (q0 := 0) (by decide) (hgU_0 ca o) rfl 3 (by decide) wq_356 (v := .ref (o + 77)) rfl dX10_putBytes_18 ?_
  refine lv_aload_n hx hb dX10_putBytes_21 rfl (lv_at hl 1 rfl) ?_
  refine qf_get hx hb hts inX10 hown hK hP (q0 := 0) (by decide) (hgU_0 ca o) rfl 4 (by decide) wq_357 (v := .int ((qu (qu (qu (qu (qu (qu z 77 ((0 : Int32).toNatClampNeg) x2) 0 4 1) 77 ((1 : Int32).toNatClampNeg) x4) 0 4 2) 77 ((2 : Int32).toNatClampNeg) x6) 0 4 3) 0 4)) rfl dX10_putBytes_22 ?_
  refine qtop (x' := 3) rfl ?_
  refine lv_iload_n hx hb dX10_putBytes_25 rfl (lv_at hl 2 rfl) ?_
  refine lv_iload_n hx hb dX10_putBytes_26 rfl (lv_at hl 0 rfl) ?_
  refine lv_ishr hx hb dX10_putBytes_27 ?_
  refine lv_topi (fun x7 e7 => ?_)
  refine lv_sipush (v := 255) hx hb dX10_putBytes_28 (by decide) ?_
  refine lv_iand hx hb dX10_putBytes_31 ?_
  refine lv_topi (fun x8 e8 => ?_)
  refine qa_iast hx hb hK hP hS qw_Ai (q0 := 77) (by decide) 0 (N := 260) (hgU_77 ca o) rfl (gi_in (by decide) (by decide)) dX10_putBytes_32 (fun H locs hP hS => ?_)
  refine lv_aload_n hx hb dX10_putBytes_33 rfl (lv_at hl 1 rfl) ?_
  refine lv_dup hx hb dX10_putBytes_34 rfl ?_
  refine qf_get hx hb hts inX10 hown hK hP (q0 := 0) (by decide) (hgU_0 ca o) rfl 4 (by decide) wq_357 (v := .int ((qu (qu (qu (qu (qu (qu (qu z 77 ((0 : Int32).toNatClampNeg) x2) 0 4 1) 77 ((1 : Int32).toNatClampNeg) x4) 0 4 2) 77 ((2 : Int32).toNatClampNeg) x6) 0 4 3) 77 ((3 : Int32).toNatClampNeg) x8) 0 4)) rfl dX10_putBytes_35 ?_
  refine qtop (x' := 3) rfl ?_
  refine lv_iconst (v := 1) hx hb dX10_putBytes_38 (by decide) ?_
  refine lv_iadd hx hb dX10_putBytes_39 ?_
  refine qtop (x' := 4) (by decide) ?_
  refine qf_put hx hb hts inX10 tyX10 tyX10_ok nmX10 hown hK hP hS qw_Ai (q0 := 0) (by decide) (hgU_0 ca o) rfl 4 (by decide) wq_357 rfl (x := 4) 4 rfl rfl rfl (Nat.le_of_ble_eq_true rfl) dX10_putBytes_40 (fun H locs hP hS => ?_)
  refine lv_iinc (v := (-8)) (lv' := [(2, .int ((-8))), (0, .ref (o + 0)), (1, .int a1)]) hx hb dX10_putBytes_43 hl (k := 0) rfl (by decide) (by decide) rfl (fun ls hl => ?_)
  refine lv_goto (tgt := 3) hx hb dX10_putBytes_46 (by decide) ?_
  refine lv_iload_n hx hb dX10_putBytes_3 rfl (lv_at hl 0 rfl) ?_
  refine lv_if_lt (tgt := 49) hx hb dX10_putBytes_4 (by decide) (fun _ => ?_) (fun q => absurd (by decide) q)
  exact W.vret hx hb hr (fun t ht hW => ⟨⟨((qu (qu (qu (qu (qu (qu (qu (qu z 77 ((0 : Int32).toNatClampNeg) x2) 0 4 1) 77 ((1 : Int32).toNatClampNeg) x4) 0 4 2) 77 ((2 : Int32).toNatClampNeg) x6) 0 4 3) 77 ((3 : Int32).toNatClampNeg) x8) 0 4 4), y), rfl, ⟨(fun (k : Nat) (h0 : k ≠ 0) (h1 : k ≠ 77) => by simp only [qu_ne h1, qu_ne h0]), rfl, rfl⟩, by rw [ht]; exact hP, va_K.moved hW.alike hK⟩, hS.F ht⟩) hS.2.2 dX10_putBytes_49

set_option maxRecDepth 100000 in
set_option maxHeartbeats 4000000 in
theorem u1_putBytes4 (l : Launch) (D : va_G) (ca : Nat → ClassId) (o : Nat) (z : Nat → Nat → Int32) (y : Nat → Nat → Int64) (a1 : Int32) (h0_4 : z 0 4 = 4) : qM l yX10_putBytes cX10_putBytes 3 none 1 60 (qPre D vwCl (qT6 ca) o 132 (qG (GU ca o) z y) [.ref (o + 0), .int a1]) (va_Qv (fun u => (∀ k : Nat, (k ≠ 0) → (k ≠ 77) → u.1 k = z k) ∧ u.2 = y ∧ u.1 0 4 = 8) (qB D vwCl (qT6 ca) o 132 (fun u : qZ => qG (GU ca o) u.1 u.2)) (qw_A o 132)) (qw_A o 132) := by
  refine Met.ofW (cc := cX10_putBytes) (maxL := 3) (ret := none) (by decide) rfl ?_
  intro p e s m args below meth c s₁ B hml hv
  obtain ⟨rfl, hP, hK⟩ := hv
  have hx := B.exec
  have hb := B.bytes
  have hr := B.returns
  have hts0 := atoms_spec (ws := Cond.code yX10_putBytes cX10_putBytes 3 none :: qtbl) B.pre
  have hts : ∀ w ∈ qtbl, w.before _ s = true := fun w h => hts0 w (List.mem_cons_of_mem _ h)
  have hown : s.vm.findClass RX10 = some m.cls := findClass_of_methodNamed B.named
  have hlocks := B.notSynchronized
  have hz0 : (0 : Int32).toInt = 0 := rfl
  have hS : va_S (qw_A o 132) s.heap s.heap [] := va_S.rf
  have hl := lv_entry ([.ref (o + 0), .int a1]) (n := 3) (Nat.le_of_ble_eq_true rfl)
  rw [lg_entry_eq]
  generalize (lg_sl ([.ref (o + 0), .int a1]) ++ List.replicate (3 - (lg_sl ([.ref (o + 0), .int a1])).length) Slot.unset).toArray = ls at hl ⊢
  have hl : lv_has ls 3 [(0, .ref (o + 0)), (1, .int a1)] := hl
  refine lv_bipush (v := 24) hx hb dX10_putBytes_0 (by decide) ?_
  refine lv_istore_n (lv' := [(2, .int 24), (0, .ref (o + 0)), (1, .int a1)]) hx hb dX10_putBytes_2 rfl hl (by decide) rfl (fun ls hl => ?_)
  refine lv_iload_n hx hb dX10_putBytes_3 rfl (lv_at hl 0 rfl) ?_
  refine lv_if_lt (tgt := 49) hx hb dX10_putBytes_4 (by decide) (fun q => absurd q (by decide)) (fun _ => ?_)
  refine lv_aload_n hx hb dX10_putBytes_7 rfl (lv_at hl 1 rfl) ?_
  refine qf_get hx hb hts inX10 hown hK hP (q0 := 0) (by decide) (hgU_0 ca o) rfl 4 (by decide) wq_357 (v := .int (z 0 4)) rfl dX10_putBytes_8 ?_
  refine qtop (x' := 4) h0_4 ?_
  refine lv_sipush (v := 260) hx hb dX10_putBytes_11 (by decide) ?_
  refine lv_icmp_ge (tgt := 49) hx hb dX10_putBytes_14 (by decide) (fun q => absurd q (by decide)) (fun _ => ?_)
  refine lv_aload_n hx hb dX10_putBytes_17 rfl (lv_at hl 1 rfl) ?_
  refine qf_get hx hb hts inX10 hown hK hP (q0 := 0) (by decide) (hgU_0 ca o) rfl 3 (by decide) wq_356 (v := .ref (o + 77)) rfl dX10_putBytes_18 ?_
  refine lv_aload_n hx hb dX10_putBytes_21 rfl (lv_at hl 1 rfl) ?_
  refine qf_get hx hb hts inX10 hown hK hP (q0 := 0) (by decide) (hgU_0 ca o) rfl 4 (by decide) wq_357 (v := .int (z 0 4)) rfl dX10_putBytes_22 ?_
  refine qtop (x' := 4) h0_4 ?_
  refine lv_iload_n hx hb dX10_putBytes_25 rfl (lv_at hl 2 rfl) ?_
  refine lv_iload_n hx hb dX10_putBytes_26 rfl (lv_at hl 0 rfl) ?_
  refine lv_ishr hx hb dX10_putBytes_27 ?_
  refine lv_topi (fun x1 e1 => ?_)
  refine lv_sipush (v := 255) hx hb dX10_putBytes_28 (by decide) ?_
  refine lv_iand hx hb dX10_putBytes_31 ?_
  refine lv_topi (fun x2 e2 => ?_)
  refine qa_iast hx hb hK hP hS qw_Ai (q0 := 77) (by decide) 0 (N := 260) (hgU_77 ca o) rfl (gi_in (by decide) (by decide)) dX10_putBytes_32 (fun H locs hP hS => ?_)
  refine lv_aload_n hx hb dX10_putBytes_33 rfl (lv_at hl 1 rfl) ?_
  refine lv_dup hx hb dX10_putBytes_34 rfl ?_
  refine qf_get hx hb hts inX10 hown hK hP (q0 := 0) (by decide) (hgU_0 ca o) rfl 4 (by decide) wq_357 (v := .int ((qu z 77 ((4 : Int32).toNatClampNeg) x2) 0 4)) rfl dX10_putBytes_35 ?_
  refine qtop (x' := 4) h0_4 ?_
  refine lv_iconst (v := 1) hx hb dX10_putBytes_38 (by decide) ?_
  refine lv_iadd hx hb dX10_putBytes_39 ?_
  refine qtop (x' := 5) (by decide) ?_
  refine qf_put hx hb hts inX10 tyX10 tyX10_ok nmX10 hown hK hP hS qw_Ai (q0 := 0) (by decide) (hgU_0 ca o) rfl 4 (by decide) wq_357 rfl (x := 5) 4 rfl rfl rfl (Nat.le_of_ble_eq_true rfl) dX10_putBytes_40 (fun H locs hP hS => ?_)
  refine lv_iinc (v := 16) (lv' := [(2, .int 16), (0, .ref (o + 0)), (1, .int a1)]) hx hb dX10_putBytes_43 hl (k := 0) rfl (by decide) (by decide) rfl (fun ls hl => ?_)
  refine lv_goto (tgt := 3) hx hb dX10_putBytes_46 (by decide) ?_
  refine lv_iload_n hx hb dX10_putBytes_3 rfl (lv_at hl 0 rfl) ?_
  refine lv_if_lt (tgt := 49) hx hb dX10_putBytes_4 (by decide) (fun q => absurd q (by decide)) (fun _ => ?_)
  refine lv_aload_n hx hb dX10_putBytes_7 rfl (lv_at hl 1 rfl) ?_
  refine qf_get hx hb hts inX10 hown hK hP (q0 := 0) (by decide) (hgU_0 ca o) rfl 4 (by decide) wq_357 (v := .int ((qu (qu z 77 ((4 : Int32).toNatClampNeg) x2) 0 4 5) 0 4)) rfl dX10_putBytes_8 ?_
  refine qtop (x' := 5) rfl ?_
  refine lv_sipush (v := 260) hx hb dX10_putBytes_11 (by decide) ?_
  refine lv_icmp_ge (tgt := 49) hx hb dX10_putBytes_14 (by decide) (fun q => absurd q (by decide)) (fun _ => ?_)
  refine lv_aload_n hx hb dX10_putBytes_17 rfl (lv_at hl 1 rfl) ?_
  refine qf_get hx hb hts inX10 hown hK hP (q0 := 0) (by decide) (hgU_0 ca o) rfl 3 (by decide) wq_356 (v := .ref (o + 77)) rfl dX10_putBytes_18 ?_
  refine lv_aload_n hx hb dX10_putBytes_21 rfl (lv_at hl 1 rfl) ?_
  refine qf_get hx hb hts inX10 hown hK hP (q0 := 0) (by decide) (hgU_0 ca o) rfl 4 (by decide) wq_357 (v := .int ((qu (qu z 77 ((4 : Int32).toNatClampNeg) x2) 0 4 5) 0 4)) rfl dX10_putBytes_22 ?_
  refine qtop (x' := 5) rfl ?_
  refine lv_iload_n hx hb dX10_putBytes_25 rfl (lv_at hl 2 rfl) ?_
  refine lv_iload_n hx hb dX10_putBytes_26 rfl (lv_at hl 0 rfl) ?_
  refine lv_ishr hx hb dX10_putBytes_27 ?_
  refine lv_topi (fun x3 e3 => ?_)
  refine lv_sipush (v := 255) hx hb dX10_putBytes_28 (by decide) ?_
  refine lv_iand hx hb dX10_putBytes_31 ?_
  refine lv_topi (fun x4 e4 => ?_)
  refine qa_iast hx hb hK hP hS qw_Ai (q0 := 77) (by decide) 0 (N := 260) (hgU_77 ca o) rfl (gi_in (by decide) (by decide)) dX10_putBytes_32 (fun H locs hP hS => ?_)
  refine lv_aload_n hx hb dX10_putBytes_33 rfl (lv_at hl 1 rfl) ?_
  refine lv_dup hx hb dX10_putBytes_34 rfl ?_
  refine qf_get hx hb hts inX10 hown hK hP (q0 := 0) (by decide) (hgU_0 ca o) rfl 4 (by decide) wq_357 (v := .int ((qu (qu (qu z 77 ((4 : Int32).toNatClampNeg) x2) 0 4 5) 77 ((5 : Int32).toNatClampNeg) x4) 0 4)) rfl dX10_putBytes_35 ?_
  refine qtop (x' := 5) rfl ?_
  refine lv_iconst (v := 1) hx hb dX10_putBytes_38 (by decide) ?_
  refine lv_iadd hx hb dX10_putBytes_39 ?_
  refine qtop (x' := 6) (by decide) ?_
  refine qf_put hx hb hts inX10 tyX10 tyX10_ok nmX10 hown hK hP hS qw_Ai (q0 := 0) (by decide) (hgU_0 ca o) rfl 4 (by decide) wq_357 rfl (x := 6) 4 rfl rfl rfl (Nat.le_of_ble_eq_true rfl) dX10_putBytes_40 (fun H locs hP hS => ?_)
  refine lv_iinc (v := 8) (lv' := [(2, .int 8), (0, .ref (o + 0)), (1, .int a1)]) hx hb dX10_putBytes_43 hl (k := 0) rfl (by decide) (by decide) rfl (fun ls hl => ?_)
  refine lv_goto (tgt := 3) hx hb dX10_putBytes_46 (by decide) ?_
  refine lv_iload_n hx hb dX10_putBytes_3 rfl (lv_at hl 0 rfl) ?_
  refine lv_if_lt (tgt := 49) hx hb dX10_putBytes_4 (by decide) (fun q => absurd q (by decide)) (fun _ => ?_)
  refine lv_aload_n hx hb dX10_putBytes_7 rfl (lv_at hl 1 rfl) ?_
  refine qf_get hx hb hts inX10 hown hK hP (q0 := 0) (by decide) (hgU_0 ca o) rfl 4 (by decide) wq_357 (v := .int ((qu (qu (qu (qu z 77 ((4 : Int32).toNatClampNeg) x2) 0 4 5) 77 ((5 : Int32).toNatClampNeg) x4) 0 4 6) 0 4)) rfl dX10_putBytes_8 ?_
  refine qtop (x' := 6) rfl ?_
  refine lv_sipush (v := 260) hx hb dX10_putBytes_11 (by decide) ?_
  refine lv_icmp_ge (tgt := 49) hx hb dX10_putBytes_14 (by decide) (fun q => absurd q (by decide)) (fun _ => ?_)
  refine lv_aload_n hx hb dX10_putBytes_17 rfl (lv_at hl 1 rfl) ?_
  refine qf_get hx hb hts inX10 hown hK hP (q0 := 0) (by decide) (hgU_0 ca o) rfl 3 (by decide) wq_356 (v := .ref (o + 77)) rfl dX10_putBytes_18 ?_
  refine lv_aload_n hx hb dX10_putBytes_21 rfl (lv_at hl 1 rfl) ?_
  refine qf_get hx hb hts inX10 hown hK hP (q0 := 0) (by decide) (hgU_0 ca o) rfl 4 (by decide) wq_357 (v := .int ((qu (qu (qu (qu z 77 ((4 : Int32).toNatClampNeg) x2) 0 4 5) 77 ((5 : Int32).toNatClampNeg) x4) 0 4 6) 0 4)) rfl dX10_putBytes_22 ?_
  refine qtop (x' := 6) rfl ?_
  refine lv_iload_n hx hb dX10_putBytes_25 rfl (lv_at hl 2 rfl) ?_
  refine lv_iload_n hx hb dX10_putBytes_26 rfl (lv_at hl 0 rfl) ?_
  refine lv_ishr hx hb dX10_putBytes_27 ?_
  refine lv_topi (fun x5 e5 => ?_)
  refine lv_sipush (v := 255) hx hb dX10_putBytes_28 (by decide) ?_
  refine lv_iand hx hb dX10_putBytes_31 ?_
  refine lv_topi (fun x6 e6 => ?_)
  refine qa_iast hx hb hK hP hS qw_Ai (q0 := 77) (by decide) 0 (N := 260) (hgU_77 ca o) rfl (gi_in (by decide) (by decide)) dX10_putBytes_32 (fun H locs hP hS => ?_)
  refine lv_aload_n hx hb dX10_putBytes_33 rfl (lv_at hl 1 rfl) ?_
  refine lv_dup hx hb dX10_putBytes_34 rfl ?_
  refine qf_get hx hb hts inX10 hown hK hP (q0 := 0) (by decide) (hgU_0 ca o) rfl 4 (by decide) wq_357 (v := .int ((qu (qu (qu (qu (qu z 77 ((4 : Int32).toNatClampNeg) x2) 0 4 5) 77 ((5 : Int32).toNatClampNeg) x4) 0 4 6) 77 ((6 : Int32).toNatClampNeg) x6) 0 4)) rfl dX10_putBytes_35 ?_
  refine qtop (x' := 6) rfl ?_
  refine lv_iconst (v := 1) hx hb dX10_putBytes_38 (by decide) ?_
  refine lv_iadd hx hb dX10_putBytes_39 ?_
  refine qtop (x' := 7) (by decide) ?_
  refine qf_put hx hb hts inX10 tyX10 tyX10_ok nmX10 hown hK hP hS qw_Ai (q0 := 0) (by decide) (hgU_0 ca o) rfl 4 (by decide) wq_357 rfl (x := 7) 4 rfl rfl rfl (Nat.le_of_ble_eq_true rfl) dX10_putBytes_40 (fun H locs hP hS => ?_)
  refine lv_iinc (v := 0) (lv' := [(2, .int 0), (0, .ref (o + 0)), (1, .int a1)]) hx hb dX10_putBytes_43 hl (k := 0) rfl (by decide) (by decide) rfl (fun ls hl => ?_)
  refine lv_goto (tgt := 3) hx hb dX10_putBytes_46 (by decide) ?_
  refine lv_iload_n hx hb dX10_putBytes_3 rfl (lv_at hl 0 rfl) ?_
  refine lv_if_lt (tgt := 49) hx hb dX10_putBytes_4 (by decide) (fun q => absurd q (by decide)) (fun _ => ?_)
  refine lv_aload_n hx hb dX10_putBytes_7 rfl (lv_at hl 1 rfl) ?_
  refine qf_get hx hb hts inX10 hown hK hP (q0 := 0) (by decide) (hgU_0 ca o) rfl 4 (by decide) wq_357 (v := .int ((qu (qu (qu (qu (qu (qu z 77 ((4 : Int32).toNatClampNeg) x2) 0 4 5) 77 ((5 : Int32).toNatClampNeg) x4) 0 4 6) 77 ((6 : Int32).toNatClampNeg) x6) 0 4 7) 0 4)) rfl dX10_putBytes_8 ?_
  refine qtop (x' := 7) rfl ?_
  refine lv_sipush (v := 260) hx hb dX10_putBytes_11 (by decide) ?_
  refine lv_icmp_ge (tgt := 49) hx hb dX10_putBytes_14 (by decide) (fun q => absurd q (by decide)) (fun _ => ?_)
  refine lv_aload_n hx hb dX10_putBytes_17 rfl (lv_at hl 1 rfl) ?_
  refine qf_get hx hb hts inX10 hown hK hP (q0 := 0) (by decide) (hgU_0 ca o) rfl 3 (by decide) wq_356 (v := .ref (o + 77)) rfl dX10_putBytes_18 ?_
  refine lv_aload_n hx hb dX10_putBytes_21 rfl (lv_at hl 1 rfl) ?_
  refine qf_get hx hb hts inX10 hown hK hP (q0 := 0) (by decide) (hgU_0 ca o) rfl 4 (by decide) wq_357 (v := .int ((qu (qu (qu (qu (qu (qu z 77 ((4 : Int32).toNatClampNeg) x2) 0 4 5) 77 ((5 : Int32).toNatClampNeg) x4) 0 4 6) 77 ((6 : Int32).toNatClampNeg) x6) 0 4 7) 0 4)) rfl dX10_putBytes_22 ?_
  refine qtop (x' := 7) rfl ?_
  refine lv_iload_n hx hb dX10_putBytes_25 rfl (lv_at hl 2 rfl) ?_
  refine lv_iload_n hx hb dX10_putBytes_26 rfl (lv_at hl 0 rfl) ?_
  refine lv_ishr hx hb dX10_putBytes_27 ?_
  refine lv_topi (fun x7 e7 => ?_)
  refine lv_sipush (v := 255) hx hb dX10_putBytes_28 (by decide) ?_
  refine lv_iand hx hb dX10_putBytes_31 ?_
  refine lv_topi (fun x8 e8 => ?_)
  refine qa_iast hx hb hK hP hS qw_Ai (q0 := 77) (by decide) 0 (N := 260) (hgU_77 ca o) rfl (gi_in (by decide) (by decide)) dX10_putBytes_32 (fun H locs hP hS => ?_)
  refine lv_aload_n hx hb dX10_putBytes_33 rfl (lv_at hl 1 rfl) ?_
  refine lv_dup hx hb dX10_putBytes_34 rfl ?_
  refine qf_get hx hb hts inX10 hown hK hP (q0 := 0) (by decide) (hgU_0 ca o) rfl 4 (by decide) wq_357 (v := .int ((qu (qu (qu (qu (qu (qu (qu z 77 ((4 : Int32).toNatClampNeg) x2) 0 4 5) 77 ((5 : Int32).toNatClampNeg) x4) 0 4 6) 77 ((6 : Int32).toNatClampNeg) x6) 0 4 7) 77 ((7 : Int32).toNatClampNeg) x8) 0 4)) rfl dX10_putBytes_35 ?_
  refine qtop (x' := 7) rfl ?_
  refine lv_iconst (v := 1) hx hb dX10_putBytes_38 (by decide) ?_
  refine lv_iadd hx hb dX10_putBytes_39 ?_
  refine qtop (x' := 8) (by decide) ?_
  refine qf_put hx hb hts inX10 tyX10 tyX10_ok nmX10 hown hK hP hS qw_Ai (q0 := 0) (by decide) (hgU_0 ca o) rfl 4 (by decide) wq_357 rfl (x := 8) 4 rfl rfl rfl (Nat.le_of_ble_eq_true rfl) dX10_putBytes_40 (fun H locs hP hS => ?_)
  refine lv_iinc (v := (-8)) (lv' := [(2, .int ((-8))), (0, .ref (o + 0)), (1, .int a1)]) hx hb dX10_putBytes_43 hl (k := 0) rfl (by decide) (by decide) rfl (fun ls hl => ?_)
  refine lv_goto (tgt := 3) hx hb dX10_putBytes_46 (by decide) ?_
  refine lv_iload_n hx hb dX10_putBytes_3 rfl (lv_at hl 0 rfl) ?_
  refine lv_if_lt (tgt := 49) hx hb dX10_putBytes_4 (by decide) (fun _ => ?_) (fun q => absurd (by decide) q)
  exact W.vret hx hb hr (fun t ht hW => ⟨⟨((qu (qu (qu (qu (qu (qu (qu (qu z 77 ((4 : Int32).toNatClampNeg) x2) 0 4 5) 77 ((5 : Int32).toNatClampNeg) x4) 0 4 6) 77 ((6 : Int32).toNatClampNeg) x6) 0 4 7) 77 ((7 : Int32).toNatClampNeg) x8) 0 4 8), y), rfl, ⟨(fun (k : Nat) (h0 : k ≠ 0) (h1 : k ≠ 77) => by simp only [qu_ne h1, qu_ne h0]), rfl, rfl⟩, by rw [ht]; exact hP, va_K.moved hW.alike hK⟩, hS.F ht⟩) hS.2.2 dX10_putBytes_49

set_option maxRecDepth 100000 in
set_option maxHeartbeats 4000000 in
theorem u1_putBytes8 (l : Launch) (D : va_G) (ca : Nat → ClassId) (o : Nat) (z : Nat → Nat → Int32) (y : Nat → Nat → Int64) (a1 : Int32) (h0_4 : z 0 4 = 8) : qM l yX10_putBytes cX10_putBytes 3 none 1 60 (qPre D vwCl (qT6 ca) o 132 (qG (GU ca o) z y) [.ref (o + 0), .int a1]) (va_Qv (fun u => (∀ k : Nat, (k ≠ 0) → (k ≠ 77) → u.1 k = z k) ∧ u.2 = y ∧ u.1 0 4 = 12) (qB D vwCl (qT6 ca) o 132 (fun u : qZ => qG (GU ca o) u.1 u.2)) (qw_A o 132)) (qw_A o 132) := by
  refine Met.ofW (cc := cX10_putBytes) (maxL := 3) (ret := none) (by decide) rfl ?_
  intro p e s m args below meth c s₁ B hml hv
  obtain ⟨rfl, hP, hK⟩ := hv
  have hx := B.exec
  have hb := B.bytes
  have hr := B.returns
  have hts0 := atoms_spec (ws := Cond.code yX10_putBytes cX10_putBytes 3 none :: qtbl) B.pre
  have hts : ∀ w ∈ qtbl, w.before _ s = true := fun w h => hts0 w (List.mem_cons_of_mem _ h)
  have hown : s.vm.findClass RX10 = some m.cls := findClass_of_methodNamed B.named
  have hlocks := B.notSynchronized
  have hz0 : (0 : Int32).toInt = 0 := rfl
  have hS : va_S (qw_A o 132) s.heap s.heap [] := va_S.rf
  have hl := lv_entry ([.ref (o + 0), .int a1]) (n := 3) (Nat.le_of_ble_eq_true rfl)
  rw [lg_entry_eq]
  generalize (lg_sl ([.ref (o + 0), .int a1]) ++ List.replicate (3 - (lg_sl ([.ref (o + 0), .int a1])).length) Slot.unset).toArray = ls at hl ⊢
  have hl : lv_has ls 3 [(0, .ref (o + 0)), (1, .int a1)] := hl
  refine lv_bipush (v := 24) hx hb dX10_putBytes_0 (by decide) ?_
  refine lv_istore_n (lv' := [(2, .int 24), (0, .ref (o + 0)), (1, .int a1)]) hx hb dX10_putBytes_2 rfl hl (by decide) rfl (fun ls hl => ?_)
  refine lv_iload_n hx hb dX10_putBytes_3 rfl (lv_at hl 0 rfl) ?_
  refine lv_if_lt (tgt := 49) hx hb dX10_putBytes_4 (by decide) (fun q => absurd q (by decide)) (fun _ => ?_)
  refine lv_aload_n hx hb dX10_putBytes_7 rfl (lv_at hl 1 rfl) ?_
  refine qf_get hx hb hts inX10 hown hK hP (q0 := 0) (by decide) (hgU_0 ca o) rfl 4 (by decide) wq_357 (v := .int (z 0 4)) rfl dX10_putBytes_8 ?_
  refine qtop (x' := 8) h0_4 ?_
  refine lv_sipush (v := 260) hx hb dX10_putBytes_11 (by decide) ?_
  refine lv_icmp_ge (tgt := 49) hx hb dX10_putBytes_14 (by decide) (fun q => absurd q (by decide)) (fun _ => ?_)
  refine lv_aload_n hx hb dX10_putBytes_17 rfl (lv_at hl 1 rfl) ?_
  refine qf_get hx hb hts inX10 hown hK hP (q0 := 0) (by decide) (hgU_0 ca o) rfl 3 (by decide) wq_356 (v := .ref (o + 77)) rfl dX10_putBytes_18 ?_
  refine lv_aload_n hx hb dX10_putBytes_21 rfl (lv_at hl 1 rfl) ?_
  refine qf_get hx hb hts inX10 hown hK hP (q0 := 0) (by decide) (hgU_0 ca o) rfl 4 (by decide) wq_357 (v := .int (z 0 4)) rfl dX10_putBytes_22 ?_
  refine qtop (x' := 8) h0_4 ?_
  refine lv_iload_n hx hb dX10_putBytes_25 rfl (lv_at hl 2 rfl) ?_
  refine lv_iload_n hx hb dX10_putBytes_26 rfl (lv_at hl 0 rfl) ?_
  refine lv_ishr hx hb dX10_putBytes_27 ?_
  refine lv_topi (fun x1 e1 => ?_)
  refine lv_sipush (v := 255) hx hb dX10_putBytes_28 (by decide) ?_
  refine lv_iand hx hb dX10_putBytes_31 ?_
  refine lv_topi (fun x2 e2 => ?_)
  refine qa_iast hx hb hK hP hS qw_Ai (q0 := 77) (by decide) 0 (N := 260) (hgU_77 ca o) rfl (gi_in (by decide) (by decide)) dX10_putBytes_32 (fun H locs hP hS => ?_)
  refine lv_aload_n hx hb dX10_putBytes_33 rfl (lv_at hl 1 rfl) ?_
  refine lv_dup hx hb dX10_putBytes_34 rfl ?_
  refine qf_get hx hb hts inX10 hown hK hP (q0 := 0) (by decide) (hgU_0 ca o) rfl 4 (by decide) wq_357 (v := .int ((qu z 77 ((8 : Int32).toNatClampNeg) x2) 0 4)) rfl dX10_putBytes_35 ?_
  refine qtop (x' := 8) h0_4 ?_
  refine lv_iconst (v := 1) hx hb dX10_putBytes_38 (by decide) ?_
  refine lv_iadd hx hb dX10_putBytes_39 ?_
  refine qtop (x' := 9) (by decide) ?_
  refine qf_put hx hb hts inX10 tyX10 tyX10_ok nmX10 hown hK hP hS qw_Ai (q0 := 0) (by decide) (hgU_0 ca o) rfl 4 (by decide) wq_357 rfl (x := 9) 4 rfl rfl rfl (Nat.le_of_ble_eq_true rfl) dX10_putBytes_40 (fun H locs hP hS => ?_)
  refine lv_iinc (v := 16) (lv' := [(2, .int 16), (0, .ref (o + 0)), (1, .int a1)]) hx hb dX10_putBytes_43 hl (k := 0) rfl (by decide) (by decide) rfl (fun ls hl => ?_)
  refine lv_goto (tgt := 3) hx hb dX10_putBytes_46 (by decide) ?_
  refine lv_iload_n hx hb dX10_putBytes_3 rfl (lv_at hl 0 rfl) ?_
  refine lv_if_lt (tgt := 49) hx hb dX10_putBytes_4 (by decide) (fun q => absurd q (by decide)) (fun _ => ?_)
  refine lv_aload_n hx hb dX10_putBytes_7 rfl (lv_at hl 1 rfl) ?_
  refine qf_get hx hb hts inX10 hown hK hP (q0 := 0) (by decide) (hgU_0 ca o) rfl 4 (by decide) wq_357 (v := .int ((qu (qu z 77 ((8 : Int32).toNatClampNeg) x2) 0 4 9) 0 4)) rfl dX10_putBytes_8 ?_
  refine qtop (x' := 9) rfl ?_
  refine lv_sipush (v := 260) hx hb dX10_putBytes_11 (by decide) ?_
  refine lv_icmp_ge (tgt := 49) hx hb dX10_putBytes_14 (by decide) (fun q => absurd q (by decide)) (fun _ => ?_)
  refine lv_aload_n hx hb dX10_putBytes_17 rfl (lv_at hl 1 rfl) ?_
  refine qf_get hx hb hts inX10 hown hK hP (q0 := 0) (by decide) (hgU_0 ca o) rfl 3 (by decide) wq_356 (v := .ref (o + 77)) rfl dX10_putBytes_18 ?_
  refine lv_aload_n hx hb dX10_putBytes_21 rfl (lv_at hl 1 rfl) ?_
  refine qf_get hx hb hts inX10 hown hK hP (q0 := 0) (by decide) (hgU_0 ca o) rfl 4 (by decide) wq_357 (v := .int ((qu (qu z 77 ((8 : Int32).toNatClampNeg) x2) 0 4 9) 0 4)) rfl dX10_putBytes_22 ?_
  refine qtop (x' := 9) rfl ?_
  refine lv_iload_n hx hb dX10_putBytes_25 rfl (lv_at hl 2 rfl) ?_
  refine lv_iload_n hx hb dX10_putBytes_26 rfl (lv_at hl 0 rfl) ?_
  refine lv_ishr hx hb dX10_putBytes_27 ?_
  refine lv_topi (fun x3 e3 => ?_)
  refine lv_sipush (v := 255) hx hb dX10_putBytes_28 (by decide) ?_
  refine lv_iand hx hb dX10_putBytes_31 ?_
  refine lv_topi (fun x4 e4 => ?_)
  refine qa_iast hx hb hK hP hS qw_Ai (q0 := 77) (by decide) 0 (N := 260) (hgU_77 ca o) rfl (gi_in (by decide) (by decide)) dX10_putBytes_32 (fun H locs hP hS => ?_)
  refine lv_aload_n hx hb dX10_putBytes_33 rfl (lv_at hl 1 rfl) ?_
  refine lv_dup hx hb dX10_putBytes_34 rfl ?_
  refine qf_get hx hb hts inX10 hown hK hP (q0 := 0) (by decide) (hgU_0 ca o) rfl 4 (by decide) wq_357 (v := .int ((qu (qu (qu z 77 ((8 : Int32).toNatClampNeg) x2) 0 4 9) 77 ((9 : Int32).toNatClampNeg) x4) 0 4)) rfl dX10_putBytes_35 ?_
  refine qtop (x' := 9) rfl ?_
  refine lv_iconst (v := 1) hx hb dX10_putBytes_38 (by decide) ?_
  refine lv_iadd hx hb dX10_putBytes_39 ?_
  refine qtop (x' := 10) (by decide) ?_
  refine qf_put hx hb hts inX10 tyX10 tyX10_ok nmX10 hown hK hP hS qw_Ai (q0 := 0) (by decide) (hgU_0 ca o) rfl 4 (by decide) wq_357 rfl (x := 10) 4 rfl rfl rfl (Nat.le_of_ble_eq_true rfl) dX10_putBytes_40 (fun H locs hP hS => ?_)
  refine lv_iinc (v := 8) (lv' := [(2, .int 8), (0, .ref (o + 0)), (1, .int a1)]) hx hb dX10_putBytes_43 hl (k := 0) rfl (by decide) (by decide) rfl (fun ls hl => ?_)
  refine lv_goto (tgt := 3) hx hb dX10_putBytes_46 (by decide) ?_
  refine lv_iload_n hx hb dX10_putBytes_3 rfl (lv_at hl 0 rfl) ?_
  refine lv_if_lt (tgt := 49) hx hb dX10_putBytes_4 (by decide) (fun q => absurd q (by decide)) (fun _ => ?_)
  refine lv_aload_n hx hb dX10_putBytes_7 rfl (lv_at hl 1 rfl) ?_
  refine qf_get hx hb hts inX10 hown hK hP (q0 := 0) (by decide) (hgU_0 ca o) rfl 4 (by decide) wq_357 (v := .int ((qu (qu (qu (qu z 77 ((8 : Int32).toNatClampNeg) x2) 0 4 9) 77 ((9 : Int32).toNatClampNeg) x4) 0 4 10) 0 4)) rfl dX10_putBytes_8 ?_
  refine qtop (x' := 10) rfl ?_
  refine lv_sipush (v := 260) hx hb dX10_putBytes_11 (by decide) ?_
  refine lv_icmp_ge (tgt := 49) hx hb dX10_putBytes_14 (by decide) (fun q => absurd q (by decide)) (fun _ => ?_)
  refine lv_aload_n hx hb dX10_putBytes_17 rfl (lv_at hl 1 rfl) ?_
  refine qf_get hx hb hts inX10 hown hK hP (q0 := 0) (by decide) (hgU_0 ca o) rfl 3 (by decide) wq_356 (v := .ref (o + 77)) rfl dX10_putBytes_18 ?_
  refine lv_aload_n hx hb dX10_putBytes_21 rfl (lv_at hl 1 rfl) ?_
  refine qf_get hx hb hts inX10 hown hK hP (q0 := 0) (by decide) (hgU_0 ca o) rfl 4 (by decide) wq_357 (v := .int ((qu (qu (qu (qu z 77 ((8 : Int32).toNatClampNeg) x2) 0 4 9) 77 ((9 : Int32).toNatClampNeg) x4) 0 4 10) 0 4)) rfl dX10_putBytes_22 ?_
  refine qtop (x' := 10) rfl ?_
  refine lv_iload_n hx hb dX10_putBytes_25 rfl (lv_at hl 2 rfl) ?_
  refine lv_iload_n hx hb dX10_putBytes_26 rfl (lv_at hl 0 rfl) ?_
  refine lv_ishr hx hb dX10_putBytes_27 ?_
  refine lv_topi (fun x5 e5 => ?_)
  refine lv_sipush (v := 255) hx hb dX10_putBytes_28 (by decide) ?_
  refine lv_iand hx hb dX10_putBytes_31 ?_
  refine lv_topi (fun x6 e6 => ?_)
  refine qa_iast hx hb hK hP hS qw_Ai (q0 := 77) (by decide) 0 (N := 260) (hgU_77 ca o) rfl (gi_in (by decide) (by decide)) dX10_putBytes_32 (fun H locs hP hS => ?_)
  refine lv_aload_n hx hb dX10_putBytes_33 rfl (lv_at hl 1 rfl) ?_
  refine lv_dup hx hb dX10_putBytes_34 rfl ?_
  refine qf_get hx hb hts inX10 hown hK hP (q0 := 0) (by decide) (hgU_0 ca o) rfl 4 (by decide) wq_357 (v := .int ((qu (qu (qu (qu (qu z 77 ((8 : Int32).toNatClampNeg) x2) 0 4 9) 77 ((9 : Int32).toNatClampNeg) x4) 0 4 10) 77 ((10 : Int32).toNatClampNeg) x6) 0 4)) rfl dX10_putBytes_35 ?_
  refine qtop (x' := 10) rfl ?_
  refine lv_iconst (v := 1) hx hb dX10_putBytes_38 (by decide) ?_
  refine lv_iadd hx hb dX10_putBytes_39 ?_
  refine qtop (x' := 11) (by decide) ?_
  refine qf_put hx hb hts inX10 tyX10 tyX10_ok nmX10 hown hK hP hS qw_Ai (q0 := 0) (by decide) (hgU_0 ca o) rfl 4 (by decide) wq_357 rfl (x := 11) 4 rfl rfl rfl (Nat.le_of_ble_eq_true rfl) dX10_putBytes_40 (fun H locs hP hS => ?_)
  refine lv_iinc (v := 0) (lv' := [(2, .int 0), (0, .ref (o + 0)), (1, .int a1)]) hx hb dX10_putBytes_43 hl (k := 0) rfl (by decide) (by decide) rfl (fun ls hl => ?_)
  refine lv_goto (tgt := 3) hx hb dX10_putBytes_46 (by decide) ?_
  refine lv_iload_n hx hb dX10_putBytes_3 rfl (lv_at hl 0 rfl) ?_
  refine lv_if_lt (tgt := 49) hx hb dX10_putBytes_4 (by decide) (fun q => absurd q (by decide)) (fun _ => ?_)
  refine lv_aload_n hx hb dX10_putBytes_7 rfl (lv_at hl 1 rfl) ?_
  refine qf_get hx hb hts inX10 hown hK hP (q0 := 0) (by decide) (hgU_0 ca o) rfl 4 (by decide) wq_357 (v := .int ((qu (qu (qu (qu (qu (qu z 77 ((8 : Int32).toNatClampNeg) x2) 0 4 9) 77 ((9 : Int32).toNatClampNeg) x4) 0 4 10) 77 ((10 : Int32).toNatClampNeg) x6) 0 4 11) 0 4)) rfl dX10_putBytes_8 ?_
  refine qtop (x' := 11) rfl ?_
  refine lv_sipush (v := 260) hx hb dX10_putBytes_11 (by decide) ?_
  refine lv_icmp_ge (tgt := 49) hx hb dX10_putBytes_14 (by decide) (fun q => absurd q (by decide)) (fun _ => ?_)
  refine lv_aload_n hx hb dX10_putBytes_17 rfl (lv_at hl 1 rfl) ?_
  refine qf_get hx hb hts inX10 hown hK hP (q0 := 0) (by decide) (hgU_0 ca o) rfl 3 (by decide) wq_356 (v := .ref (o + 77)) rfl dX10_putBytes_18 ?_
  refine lv_aload_n hx hb dX10_putBytes_21 rfl (lv_at hl 1 rfl) ?_
  refine qf_get hx hb hts inX10 hown hK hP (q0 := 0) (by decide) (hgU_0 ca o) rfl 4 (by decide) wq_357 (v := .int ((qu (qu (qu (qu (qu (qu z 77 ((8 : Int32).toNatClampNeg) x2) 0 4 9) 77 ((9 : Int32).toNatClampNeg) x4) 0 4 10) 77 ((10 : Int32).toNatClampNeg) x6) 0 4 11) 0 4)) rfl dX10_putBytes_22 ?_
  refine qtop (x' := 11) rfl ?_
  refine lv_iload_n hx hb dX10_putBytes_25 rfl (lv_at hl 2 rfl) ?_
  refine lv_iload_n hx hb dX10_putBytes_26 rfl (lv_at hl 0 rfl) ?_
  refine lv_ishr hx hb dX10_putBytes_27 ?_
  refine lv_topi (fun x7 e7 => ?_)
  refine lv_sipush (v := 255) hx hb dX10_putBytes_28 (by decide) ?_
  refine lv_iand hx hb dX10_putBytes_31 ?_
  refine lv_topi (fun x8 e8 => ?_)
  refine qa_iast hx hb hK hP hS qw_Ai (q0 := 77) (by decide) 0 (N := 260) (hgU_77 ca o) rfl (gi_in (by decide) (by decide)) dX10_putBytes_32 (fun H locs hP hS => ?_)
  refine lv_aload_n hx hb dX10_putBytes_33 rfl (lv_at hl 1 rfl) ?_
  refine lv_dup hx hb dX10_putBytes_34 rfl ?_
  refine qf_get hx hb hts inX10 hown hK hP (q0 := 0) (by decide) (hgU_0 ca o) rfl 4 (by decide) wq_357 (v := .int ((qu (qu (qu (qu (qu (qu (qu z 77 ((8 : Int32).toNatClampNeg) x2) 0 4 9) 77 ((9 : Int32).toNatClampNeg) x4) 0 4 10) 77 ((10 : Int32).toNatClampNeg) x6) 0 4 11) 77 ((11 : Int32).toNatClampNeg) x8) 0 4)) rfl dX10_putBytes_35 ?_
  refine qtop (x' := 11) rfl ?_
  refine lv_iconst (v := 1) hx hb dX10_putBytes_38 (by decide) ?_
  refine lv_iadd hx hb dX10_putBytes_39 ?_
  refine qtop (x' := 12) (by decide) ?_
  refine qf_put hx hb hts inX10 tyX10 tyX10_ok nmX10 hown hK hP hS qw_Ai (q0 := 0) (by decide) (hgU_0 ca o) rfl 4 (by decide) wq_357 rfl (x := 12) 4 rfl rfl rfl (Nat.le_of_ble_eq_true rfl) dX10_putBytes_40 (fun H locs hP hS => ?_)
  refine lv_iinc (v := (-8)) (lv' := [(2, .int ((-8))), (0, .ref (o + 0)), (1, .int a1)]) hx hb dX10_putBytes_43 hl (k := 0) rfl (by decide) (by decide) rfl (fun ls hl => ?_)
  refine lv_goto (tgt := 3) hx hb dX10_putBytes_46 (by decide) ?_
  refine lv_iload_n hx hb dX10_putBytes_3 rfl (lv_at hl 0 rfl) ?_
  refine lv_if_lt (tgt := 49) hx hb dX10_putBytes_4 (by decide) (fun _ => ?_) (fun q => absurd (by decide) q)
  exact W.vret hx hb hr (fun t ht hW => ⟨⟨((qu (qu (qu (qu (qu (qu (qu (qu z 77 ((8 : Int32).toNatClampNeg) x2) 0 4 9) 77 ((9 : Int32).toNatClampNeg) x4) 0 4 10) 77 ((10 : Int32).toNatClampNeg) x6) 0 4 11) 77 ((11 : Int32).toNatClampNeg) x8) 0 4 12), y), rfl, ⟨(fun (k : Nat) (h0 : k ≠ 0) (h1 : k ≠ 77) => by simp only [qu_ne h1, qu_ne h0]), rfl, rfl⟩, by rw [ht]; exact hP, va_K.moved hW.alike hK⟩, hS.F ht⟩) hS.2.2 dX10_putBytes_49

set_option maxRecDepth 100000 in
set_option maxHeartbeats 4000000 in
theorem u1_putBytes12 (l : Launch) (D : va_G) (ca : Nat → ClassId) (o : Nat) (z : Nat → Nat → Int32) (y : Nat → Nat → Int64) (a1 : Int32) (h0_4 : z 0 4 = 12) : qM l yX10_putBytes cX10_putBytes 3 none 1 60 (qPre D vwCl (qT6 ca) o 132 (qG (GU ca o) z y) [.ref (o + 0), .int a1]) (va_Qv (fun u => (∀ k : Nat, (k ≠ 0) → (k ≠ 77) → u.1 k = z k) ∧ u.2 = y ∧ u.1 0 4 = 16) (qB D vwCl (qT6 ca) o 132 (fun u : qZ => qG (GU ca o) u.1 u.2)) (qw_A o 132)) (qw_A o 132) := by
  refine Met.ofW (cc := cX10_putBytes) (maxL := 3) (ret := none) (by decide) rfl ?_
  intro p e s m args below meth c s₁ B hml hv
  obtain ⟨rfl, hP, hK⟩ := hv
  have hx := B.exec
  have hb := B.bytes
  have hr := B.returns
  have hts0 := atoms_spec (ws := Cond.code yX10_putBytes cX10_putBytes 3 none :: qtbl) B.pre
  have hts : ∀ w ∈ qtbl, w.before _ s = true := fun w h => hts0 w (List.mem_cons_of_mem _ h)
  have hown : s.vm.findClass RX10 = some m.cls := findClass_of_methodNamed B.named
  have hlocks := B.notSynchronized
  have hz0 : (0 : Int32).toInt = 0 := rfl
  have hS : va_S (qw_A o 132) s.heap s.heap [] := va_S.rf
  have hl := lv_entry ([.ref (o + 0), .int a1]) (n := 3) (Nat.le_of_ble_eq_true rfl)
  rw [lg_entry_eq]
  generalize (lg_sl ([.ref (o + 0), .int a1]) ++ List.replicate (3 - (lg_sl ([.ref (o + 0), .int a1])).length) Slot.unset).toArray = ls at hl ⊢
  have hl : lv_has ls 3 [(0, .ref (o + 0)), (1, .int a1)] := hl
  refine lv_bipush (v := 24) hx hb dX10_putBytes_0 (by decide) ?_
  refine lv_istore_n (lv' := [(2, .int 24), (0, .ref (o + 0)), (1, .int a1)]) hx hb dX10_putBytes_2 rfl hl (by decide) rfl (fun ls hl => ?_)
  refine lv_iload_n hx hb dX10_putBytes_3 rfl (lv_at hl 0 rfl) ?_
  refine lv_if_lt (tgt := 49) hx hb dX10_putBytes_4 (by decide) (fun q => absurd q (by decide)) (fun _ => ?_)
  refine lv_aload_n hx hb dX10_putBytes_7 rfl (lv_at hl 1 rfl) ?_
  refine qf_get hx hb hts inX10 hown hK hP (q0 := 0) (by decide) (hgU_0 ca o) rfl 4 (by decide) wq_357 (v := .int (z 0 4)) rfl dX10_putBytes_8 ?_
  refine qtop (x' := 12) h0_4 ?_
  refine lv_sipush (v := 260) hx hb dX10_putBytes_11 (by decide) ?_
  refine lv_icmp_ge (tgt := 49) hx hb dX10_putBytes_14 (by decide) (fun q => absurd q (by decide)) (fun _ => ?_)
  refine lv_aload_n hx hb dX10_putBytes_17 rfl (lv_at hl 1 rfl) ?_
  refine qf_get hx hb hts inX10 hown hK hP (q0 := 0) (by decide) (hgU_0 ca o) rfl 3 (by decide) wq_356 (v := .ref (o + 77)) rfl dX10_putBytes_18 ?_
  refine lv_aload_n hx hb dX10_putBytes_21 rfl (lv_at hl 1 rfl) ?_
  refine qf_get hx hb hts inX10 hown hK hP (q0 := 0) (by decide) (hgU_0 ca o) rfl 4 (by decide) wq_357 (v := .int (z 0 4)) rfl dX10_putBytes_22 ?_
  refine qtop (x' := 12) h0_4 ?_
  refine lv_iload_n hx hb dX10_putBytes_25 rfl (lv_at hl 2 rfl) ?_
  refine lv_iload_n hx hb dX10_putBytes_26 rfl (lv_at hl 0 rfl) ?_
  refine lv_ishr hx hb dX10_putBytes_27 ?_
  refine lv_topi (fun x1 e1 => ?_)
  refine lv_sipush (v := 255) hx hb dX10_putBytes_28 (by decide) ?_
  refine lv_iand hx hb dX10_putBytes_31 ?_
  refine lv_topi (fun x2 e2 => ?_)
  refine qa_iast hx hb hK hP hS qw_Ai (q0 := 77) (by decide) 0 (N := 260) (hgU_77 ca o) rfl (gi_in (by decide) (by decide)) dX10_putBytes_32 (fun H locs hP hS => ?_)
  refine lv_aload_n hx hb dX10_putBytes_33 rfl (lv_at hl 1 rfl) ?_
  refine lv_dup hx hb dX10_putBytes_34 rfl ?_
  refine qf_get hx hb hts inX10 hown hK hP (q0 := 0) (by decide) (hgU_0 ca o) rfl 4 (by decide) wq_357 (v := .int ((qu z 77 ((12 : Int32).toNatClampNeg) x2) 0 4)) rfl dX10_putBytes_35 ?_
  refine qtop (x' := 12) h0_4 ?_
  refine lv_iconst (v := 1) hx hb dX10_putBytes_38 (by decide) ?_
  refine lv_iadd hx hb dX10_putBytes_39 ?_
  refine qtop (x' := 13) (by decide) ?_
  refine qf_put hx hb hts inX10 tyX10 tyX10_ok nmX10 hown hK hP hS qw_Ai (q0 := 0) (by decide) (hgU_0 ca o) rfl 4 (by decide) wq_357 rfl (x := 13) 4 rfl rfl rfl (Nat.le_of_ble_eq_true rfl) dX10_putBytes_40 (fun H locs hP hS => ?_)
  refine lv_iinc (v := 16) (lv' := [(2, .int 16), (0, .ref (o + 0)), (1, .int a1)]) hx hb dX10_putBytes_43 hl (k := 0) rfl (by decide) (by decide) rfl (fun ls hl => ?_)
  refine lv_goto (tgt := 3) hx hb dX10_putBytes_46 (by decide) ?_
  refine lv_iload_n hx hb dX10_putBytes_3 rfl (lv_at hl 0 rfl) ?_
  refine lv_if_lt (tgt := 49) hx hb dX10_putBytes_4 (by decide) (fun q => absurd q (by decide)) (fun _ => ?_)
  refine lv_aload_n hx hb dX10_putBytes_7 rfl (lv_at hl 1 rfl) ?_
  refine qf_get hx hb hts inX10 hown hK hP (q0 := 0) (by decide) (hgU_0 ca o) rfl 4 (by decide) wq_357 (v := .int ((qu (qu z 77 ((12 : Int32).toNatClampNeg) x2) 0 4 13) 0 4)) rfl dX10_putBytes_8 ?_
  refine qtop (x' := 13) rfl ?_
  refine lv_sipush (v := 260) hx hb dX10_putBytes_11 (by decide) ?_
  refine lv_icmp_ge (tgt := 49) hx hb dX10_putBytes_14 (by decide) (fun q => absurd q (by decide)) (fun _ => ?_)
  refine lv_aload_n hx hb dX10_putBytes_17 rfl (lv_at hl 1 rfl) ?_
  refine qf_get hx hb hts inX10 hown hK hP (q0 := 0) (by decide) (hgU_0 ca o) rfl 3 (by decide) wq_356 (v := .ref (o + 77)) rfl dX10_putBytes_18 ?_
  refine lv_aload_n hx hb dX10_putBytes_21 rfl (lv_at hl 1 rfl) ?_
  refine qf_get hx hb hts inX10 hown hK hP (q0 := 0) (by decide) (hgU_0 ca o) rfl 4 (by decide) wq_357 (v := .int ((qu (qu z 77 ((12 : Int32).toNatClampNeg) x2) 0 4 13) 0 4)) rfl dX10_putBytes_22 ?_
  refine qtop (x' := 13) rfl ?_
  refine lv_iload_n hx hb dX10_putBytes_25 rfl (lv_at hl 2 rfl) ?_
  refine lv_iload_n hx hb dX10_putBytes_26 rfl (lv_at hl 0 rfl) ?_
  refine lv_ishr hx hb dX10_putBytes_27 ?_
  refine lv_topi (fun x3 e3 => ?_)
  refine lv_sipush (v := 255) hx hb dX10_putBytes_28 (by decide) ?_
  refine lv_iand hx hb dX10_putBytes_31 ?_
  refine lv_topi (fun x4 e4 => ?_)
  refine qa_iast hx hb hK hP hS qw_Ai (q0 := 77) (by decide) 0 (N := 260) (hgU_77 ca o) rfl (gi_in (by decide) (by decide)) dX10_putBytes_32 (fun H locs hP hS => ?_)
  refine lv_aload_n hx hb dX10_putBytes_33 rfl (lv_at hl 1 rfl) ?_
  refine lv_dup hx hb dX10_putBytes_34 rfl ?_
  refine qf_get hx hb hts inX10 hown hK hP (q0 := 0) (by decide) (hgU_0 ca o) rfl 4 (by decide) wq_357 (v := .int ((qu (qu (qu z 77 ((12 : Int32).toNatClampNeg) x2) 0 4 13) 77 ((13 : Int32).toNatClampNeg) x4) 0 4)) rfl dX10_putBytes_35 ?_
  refine qtop (x' := 13) rfl ?_
  refine lv_iconst (v := 1) hx hb dX10_putBytes_38 (by decide) ?_
  refine lv_iadd hx hb dX10_putBytes_39 ?_
  refine qtop (x' := 14) (by decide) ?_
  refine qf_put hx hb hts inX10 tyX10 tyX10_ok nmX10 hown hK hP hS qw_Ai (q0 := 0) (by decide) (hgU_0 ca o) rfl 4 (by decide) wq_357 rfl (x := 14) 4 rfl rfl rfl (Nat.le_of_ble_eq_true rfl) dX10_putBytes_40 (fun H locs hP hS => ?_)
  refine lv_iinc (v := 8) (lv' := [(2, .int 8), (0, .ref (o + 0)), (1, .int a1)]) hx hb dX10_putBytes_43 hl (k := 0) rfl (by decide) (by decide) rfl (fun ls hl => ?_)
  refine lv_goto (tgt := 3) hx hb dX10_putBytes_46 (by decide) ?_
  refine lv_iload_n hx hb dX10_putBytes_3 rfl (lv_at hl 0 rfl) ?_
  refine lv_if_lt (tgt := 49) hx hb dX10_putBytes_4 (by decide) (fun q => absurd q (by decide)) (fun _ => ?_)
  refine lv_aload_n hx hb dX10_putBytes_7 rfl (lv_at hl 1 rfl) ?_
  refine qf_get hx hb hts inX10 hown hK hP (q0 := 0) (by decide) (hgU_0 ca o) rfl 4 (by decide) wq_357 (v := .int ((qu (qu (qu (qu z 77 ((12 : Int32).toNatClampNeg) x2) 0 4 13) 77 ((13 : Int32).toNatClampNeg) x4) 0 4 14) 0 4)) rfl dX10_putBytes_8 ?_
  refine qtop (x' := 14) rfl ?_
  refine lv_sipush (v := 260) hx hb dX10_putBytes_11 (by decide) ?_
  refine lv_icmp_ge (tgt := 49) hx hb dX10_putBytes_14 (by decide) (fun q => absurd q (by decide)) (fun _ => ?_)
  refine lv_aload_n hx hb dX10_putBytes_17 rfl (lv_at hl 1 rfl) ?_
  refine qf_get hx hb hts inX10 hown hK hP (q0 := 0) (by decide) (hgU_0 ca o) rfl 3 (by decide) wq_356 (v := .ref (o + 77)) rfl dX10_putBytes_18 ?_
  refine lv_aload_n hx hb dX10_putBytes_21 rfl (lv_at hl 1 rfl) ?_
  refine qf_get hx hb hts inX10 hown hK hP (q0 := 0) (by decide) (hgU_0 ca o) rfl 4 (by decide) wq_357 (v := .int ((qu (qu (qu (qu z 77 ((12 : Int32).toNatClampNeg) x2) 0 4 13) 77 ((13 : Int32).toNatClampNeg) x4) 0 4 14) 0 4)) rfl dX10_putBytes_22 ?_
  refine qtop (x' := 14) rfl ?_
  refine lv_iload_n hx hb dX10_putBytes_25 rfl (lv_at hl 2 rfl) ?_
  refine lv_iload_n hx hb dX10_putBytes_26 rfl (lv_at hl 0 rfl) ?_
  refine lv_ishr hx hb dX10_putBytes_27 ?_
  refine lv_topi (fun x5 e5 => ?_)
  refine lv_sipush (v := 255) hx hb dX10_putBytes_28 (by decide) ?_
  refine lv_iand hx hb dX10_putBytes_31 ?_
  refine lv_topi (fun x6 e6 => ?_)
  refine qa_iast hx hb hK hP hS qw_Ai (q0 := 77) (by decide) 0 (N := 260) (hgU_77 ca o) rfl (gi_in (by decide) (by decide)) dX10_putBytes_32 (fun H locs hP hS => ?_)
  refine lv_aload_n hx hb dX10_putBytes_33 rfl (lv_at hl 1 rfl) ?_
  refine lv_dup hx hb dX10_putBytes_34 rfl ?_
  refine qf_get hx hb hts inX10 hown hK hP (q0 := 0) (by decide) (hgU_0 ca o) rfl 4 (by decide) wq_357 (v := .int ((qu (qu (qu (qu (qu z 77 ((12 : Int32).toNatClampNeg) x2) 0 4 13) 77 ((13 : Int32).toNatClampNeg) x4) 0 4 14) 77 ((14 : Int32).toNatClampNeg) x6) 0 4)) rfl dX10_putBytes_35 ?_
  refine qtop (x' := 14) rfl ?_
  refine lv_iconst (v := 1) hx hb dX10_putBytes_38 (by decide) ?_
  refine lv_iadd hx hb dX10_putBytes_39 ?_
  refine qtop (x' := 15) (by decide) ?_
  refine qf_put hx hb hts inX10 tyX10 tyX10_ok nmX10 hown hK hP hS qw_Ai (q0 := 0) (by decide) (hgU_0 ca o) rfl 4 (by decide) wq_357 rfl (x := 15) 4 rfl rfl rfl (Nat.le_of_ble_eq_true rfl) dX10_putBytes_40 (fun H locs hP hS => ?_)
  refine lv_iinc (v := 0) (lv' := [(2, .int 0), (0, .ref (o + 0)), (1, .int a1)]) hx hb dX10_putBytes_43 hl (k := 0) rfl (by decide) (by decide) rfl (fun ls hl => ?_)
  refine lv_goto (tgt := 3) hx hb dX10_putBytes_46 (by decide) ?_
  refine lv_iload_n hx hb dX10_putBytes_3 rfl (lv_at hl 0 rfl) ?_
  refine lv_if_lt (tgt := 49) hx hb dX10_putBytes_4 (by decide) (fun q => absurd q (by decide)) (fun _ => ?_)
  refine lv_aload_n hx hb dX10_putBytes_7 rfl (lv_at hl 1 rfl) ?_
  refine qf_get hx hb hts inX10 hown hK hP (q0 := 0) (by decide) (hgU_0 ca o) rfl 4 (by decide) wq_357 (v := .int ((qu (qu (qu (qu (qu (qu z 77 ((12 : Int32).toNatClampNeg) x2) 0 4 13) 77 ((13 : Int32).toNatClampNeg) x4) 0 4 14) 77 ((14 : Int32).toNatClampNeg) x6) 0 4 15) 0 4)) rfl dX10_putBytes_8 ?_
  refine qtop (x' := 15) rfl ?_
  refine lv_sipush (v := 260) hx hb dX10_putBytes_11 (by decide) ?_
  refine lv_icmp_ge (tgt := 49) hx hb dX10_putBytes_14 (by decide) (fun q => absurd q (by decide)) (fun _ => ?_)
  refine lv_aload_n hx hb dX10_putBytes_17 rfl (lv_at hl 1 rfl) ?_
  refine qf_get hx hb hts inX10 hown hK hP (q0 := 0) (by decide) (hgU_0 ca o) rfl 3 (by decide) wq_356 (v := .ref (o + 77)) rfl dX10_putBytes_18 ?_
  refine lv_aload_n hx hb dX10_putBytes_21 rfl (lv_at hl 1 rfl) ?_
  refine qf_get hx hb hts inX10 hown hK hP (q0 := 0) (by decide) (hgU_0 ca o) rfl 4 (by decide) wq_357 (v := .int ((qu (qu (qu (qu (qu (qu z 77 ((12 : Int32).toNatClampNeg) x2) 0 4 13) 77 ((13 : Int32).toNatClampNeg) x4) 0 4 14) 77 ((14 : Int32).toNatClampNeg) x6) 0 4 15) 0 4)) rfl dX10_putBytes_22 ?_
  refine qtop (x' := 15) rfl ?_
  refine lv_iload_n hx hb dX10_putBytes_25 rfl (lv_at hl 2 rfl) ?_
  refine lv_iload_n hx hb dX10_putBytes_26 rfl (lv_at hl 0 rfl) ?_
  refine lv_ishr hx hb dX10_putBytes_27 ?_
  refine lv_topi (fun x7 e7 => ?_)
  refine lv_sipush (v := 255) hx hb dX10_putBytes_28 (by decide) ?_
  refine lv_iand hx hb dX10_putBytes_31 ?_
  refine lv_topi (fun x8 e8 => ?_)
  refine qa_iast hx hb hK hP hS qw_Ai (q0 := 77) (by decide) 0 (N := 260) (hgU_77 ca o) rfl (gi_in (by decide) (by decide)) dX10_putBytes_32 (fun H locs hP hS => ?_)
  refine lv_aload_n hx hb dX10_putBytes_33 rfl (lv_at hl 1 rfl) ?_
  refine lv_dup hx hb dX10_putBytes_34 rfl ?_
  refine qf_get hx hb hts inX10 hown hK hP (q0 := 0) (by decide) (hgU_0 ca o) rfl 4 (by decide) wq_357 (v := .int ((qu (qu (qu (qu (qu (qu (qu z 77 ((12 : Int32).toNatClampNeg) x2) 0 4 13) 77 ((13 : Int32).toNatClampNeg) x4) 0 4 14) 77 ((14 : Int32).toNatClampNeg) x6) 0 4 15) 77 ((15 : Int32).toNatClampNeg) x8) 0 4)) rfl dX10_putBytes_35 ?_
  refine qtop (x' := 15) rfl ?_
  refine lv_iconst (v := 1) hx hb dX10_putBytes_38 (by decide) ?_
  refine lv_iadd hx hb dX10_putBytes_39 ?_
  refine qtop (x' := 16) (by decide) ?_
  refine qf_put hx hb hts inX10 tyX10 tyX10_ok nmX10 hown hK hP hS qw_Ai (q0 := 0) (by decide) (hgU_0 ca o) rfl 4 (by decide) wq_357 rfl (x := 16) 4 rfl rfl rfl (Nat.le_of_ble_eq_true rfl) dX10_putBytes_40 (fun H locs hP hS => ?_)
  refine lv_iinc (v := (-8)) (lv' := [(2, .int ((-8))), (0, .ref (o + 0)), (1, .int a1)]) hx hb dX10_putBytes_43 hl (k := 0) rfl (by decide) (by decide) rfl (fun ls hl => ?_)
  refine lv_goto (tgt := 3) hx hb dX10_putBytes_46 (by decide) ?_
  refine lv_iload_n hx hb dX10_putBytes_3 rfl (lv_at hl 0 rfl) ?_
  refine lv_if_lt (tgt := 49) hx hb dX10_putBytes_4 (by decide) (fun _ => ?_) (fun q => absurd (by decide) q)
  exact W.vret hx hb hr (fun t ht hW => ⟨⟨((qu (qu (qu (qu (qu (qu (qu (qu z 77 ((12 : Int32).toNatClampNeg) x2) 0 4 13) 77 ((13 : Int32).toNatClampNeg) x4) 0 4 14) 77 ((14 : Int32).toNatClampNeg) x6) 0 4 15) 77 ((15 : Int32).toNatClampNeg) x8) 0 4 16), y), rfl, ⟨(fun (k : Nat) (h0 : k ≠ 0) (h1 : k ≠ 77) => by simp only [qu_ne h1, qu_ne h0]), rfl, rfl⟩, by rw [ht]; exact hP, va_K.moved hW.alike hK⟩, hS.F ht⟩) hS.2.2 dX10_putBytes_49

set_option maxRecDepth 100000 in
set_option maxHeartbeats 4000000 in
theorem u1_putBytes16 (l : Launch) (D : va_G) (ca : Nat → ClassId) (o : Nat) (z : Nat → Nat → Int32) (y : Nat → Nat → Int64) (a1 : Int32) (h0_4 : z 0 4 = 16) : qM l yX10_putBytes cX10_putBytes 3 none 1 60 (qPre D vwCl (qT6 ca) o 132 (qG (GU ca o) z y) [.ref (o + 0), .int a1]) (va_Qv (fun u => (∀ k : Nat, (k ≠ 0) → (k ≠ 77) → u.1 k = z k) ∧ u.2 = y ∧ u.1 0 4 = 20) (qB D vwCl (qT6 ca) o 132 (fun u : qZ => qG (GU ca o) u.1 u.2)) (qw_A o 132)) (qw_A o 132) := by
  refine Met.ofW (cc := cX10_putBytes) (maxL := 3) (ret := none) (by decide) rfl ?_
  intro p e s m args below meth c s₁ B hml hv
  obtain ⟨rfl, hP, hK⟩ := hv
  have hx := B.exec
  have hb := B.bytes
  have hr := B.returns
  have hts0 := atoms_spec (ws := Cond.code yX10_putBytes cX10_putBytes 3 none :: qtbl) B.pre
  have hts : ∀ w ∈ qtbl, w.before _ s = true := fun w h => hts0 w (List.mem_cons_of_mem _ h)
  have hown : s.vm.findClass RX10 = some m.cls := findClass_of_methodNamed B.named
  have hlocks := B.notSynchronized
  have hz0 : (0 : Int32).toInt = 0 := rfl
  have hS : va_S (qw_A o 132) s.heap s.heap [] := va_S.rf
  have hl := lv_entry ([.ref (o + 0), .int a1]) (n := 3) (Nat.le_of_ble_eq_true rfl)
  rw [lg_entry_eq]
  generalize (lg_sl ([.ref (o + 0), .int a1]) ++ List.replicate (3 - (lg_sl ([.ref (o + 0), .int a1])).length) Slot.unset).toArray = ls at hl ⊢
  have hl : lv_has ls 3 [(0, .ref (o + 0)), (1, .int a1)] := hl
  refine lv_bipush (v := 24) hx hb dX10_putBytes_0 (by decide) ?_
  refine lv_istore_n (lv' := [(2, .int 24), (0, .ref (o + 0)), (1, .int a1)]) hx hb dX10_putBytes_2 rfl hl (by decide) rfl (fun ls hl => ?_)
  refine lv_iload_n hx hb dX10_putBytes_3 rfl (lv_at hl 0 rfl) ?_
  refine lv_if_lt (tgt := 49) hx hb dX10_putBytes_4 (by decide) (fun q => absurd q (by decide)) (fun _ => ?_)
  refine lv_aload_n hx hb dX10_putBytes_7 rfl (lv_at hl 1 rfl) ?_
  refine qf_get hx hb hts inX10 hown hK hP (q0 := 0) (by decide) (hgU_0 ca o) rfl 4 (by decide) wq_357 (v := .int (z 0 4)) rfl dX10_putBytes_8 ?_
  refine qtop (x' := 16) h0_4 ?_
  refine lv_sipush (v := 260) hx hb dX10_putBytes_11 (by decide) ?_
  refine lv_icmp_ge (tgt := 49) hx hb dX10_putBytes_14 (by decide) (fun q => absurd q (by decide)) (fun _ => ?_)
  refine lv_aload_n hx hb dX10_putBytes_17 rfl (lv_at hl 1 rfl) ?_
  refine qf_get hx hb hts inX10 hown hK hP (q0 := 0) (by decide) (hgU_0 ca o) rfl 3 (by decide) wq_356 (v := .ref (o + 77)) rfl dX10_putBytes_18 ?_
  refine lv_aload_n hx hb dX10_putBytes_21 rfl (lv_at hl 1 rfl) ?_
  refine qf_get hx hb hts inX10 hown hK hP (q0 := 0) (by decide) (hgU_0 ca o) rfl 4 (by decide) wq_357 (v := .int (z 0 4)) rfl dX10_putBytes_22 ?_
  refine qtop (x' := 16) h0_4 ?_
  refine lv_iload_n hx hb dX10_putBytes_25 rfl (lv_at hl 2 rfl) ?_
  refine lv_iload_n hx hb dX10_putBytes_26 rfl (lv_at hl 0 rfl) ?_
  refine lv_ishr hx hb dX10_putBytes_27 ?_
  refine lv_topi (fun x1 e1 => ?_)
  refine lv_sipush (v := 255) hx hb dX10_putBytes_28 (by decide) ?_
  refine lv_iand hx hb dX10_putBytes_31 ?_
  refine lv_topi (fun x2 e2 => ?_)
  refine qa_iast hx hb hK hP hS qw_Ai (q0 := 77) (by decide) 0 (N := 260) (hgU_77 ca o) rfl (gi_in (by decide) (by decide)) dX10_putBytes_32 (fun H locs hP hS => ?_)
  refine lv_aload_n hx hb dX10_putBytes_33 rfl (lv_at hl 1 rfl) ?_
  refine lv_dup hx hb dX10_putBytes_34 rfl ?_
  refine qf_get hx hb hts inX10 hown hK hP (q0 := 0) (by decide) (hgU_0 ca o) rfl 4 (by decide) wq_357 (v := .int ((qu z 77 ((16 : Int32).toNatClampNeg) x2) 0 4)) rfl dX10_putBytes_35 ?_
  refine qtop (x' := 16) h0_4 ?_
  refine lv_iconst (v := 1) hx hb dX10_putBytes_38 (by decide) ?_
  refine lv_iadd hx hb dX10_putBytes_39 ?_
  refine qtop (x' := 17) (by decide) ?_
  refine qf_put hx hb hts inX10 tyX10 tyX10_ok nmX10 hown hK hP hS qw_Ai (q0 := 0) (by decide) (hgU_0 ca o) rfl 4 (by decide) wq_357 rfl (x := 17) 4 rfl rfl rfl (Nat.le_of_ble_eq_true rfl) dX10_putBytes_40 (fun H locs hP hS => ?_)
  refine lv_iinc (v := 16) (lv' := [(2, .int 16), (0, .ref (o + 0)), (1, .int a1)]) hx hb dX10_putBytes_43 hl (k := 0) rfl (by decide) (by decide) rfl (fun ls hl => ?_)
  refine lv_goto (tgt := 3) hx hb dX10_putBytes_46 (by decide) ?_
  refine lv_iload_n hx hb dX10_putBytes_3 rfl (lv_at hl 0 rfl) ?_
  refine lv_if_lt (tgt := 49) hx hb dX10_putBytes_4 (by decide) (fun q => absurd q (by decide)) (fun _ => ?_)
  refine lv_aload_n hx hb dX10_putBytes_7 rfl (lv_at hl 1 rfl) ?_
  refine qf_get hx hb hts inX10 hown hK hP (q0 := 0) (by decide) (hgU_0 ca o) rfl 4 (by decide) wq_357 (v := .int ((qu (qu z 77 ((16 : Int32).toNatClampNeg) x2) 0 4 17) 0 4)) rfl dX10_putBytes_8 ?_
  refine qtop (x' := 17) rfl ?_
  refine lv_sipush (v := 260) hx hb dX10_putBytes_11 (by decide) ?_
  refine lv_icmp_ge (tgt := 49) hx hb dX10_putBytes_14 (by decide) (fun q => absurd q (by decide)) (fun _ => ?_)
  refine lv_aload_n hx hb dX10_putBytes_17 rfl (lv_at hl 1 rfl) ?_
  refine qf_get hx hb hts inX10 hown hK hP (q0 := 0) (by decide) (hgU_0 ca o) rfl 3 (by decide) wq_356 (v := .ref (o + 77)) rfl dX10_putBytes_18 ?_
  refine lv_aload_n hx hb dX10_putBytes_21 rfl (lv_at hl 1 rfl) ?_
  refine qf_get hx hb hts inX10 hown hK hP (q0 := 0) (by decide) (hgU_0 ca o) rfl 4 (by decide) wq_357 (v := .int ((qu (qu z 77 ((16 : Int32).toNatClampNeg) x2) 0 4 17) 0 4)) rfl dX10_putBytes_22 ?_
  refine qtop (x' := 17) rfl ?_
  refine lv_iload_n hx hb dX10_putBytes_25 rfl (lv_at hl 2 rfl) ?_
  refine lv_iload_n hx hb dX10_putBytes_26 rfl (lv_at hl 0 rfl) ?_
  refine lv_ishr hx hb dX10_putBytes_27 ?_
  refine lv_topi (fun x3 e3 => ?_)
  refine lv_sipush (v := 255) hx hb dX10_putBytes_28 (by decide) ?_
  refine lv_iand hx hb dX10_putBytes_31 ?_
  refine lv_topi (fun x4 e4 => ?_)
  refine qa_iast hx hb hK hP hS qw_Ai (q0 := 77) (by decide) 0 (N := 260) (hgU_77 ca o) rfl (gi_in (by decide) (by decide)) dX10_putBytes_32 (fun H locs hP hS => ?_)
  refine lv_aload_n hx hb dX10_putBytes_33 rfl (lv_at hl 1 rfl) ?_
  refine lv_dup hx hb dX10_putBytes_34 rfl ?_
  refine qf_get hx hb hts inX10 hown hK hP (q0 := 0) (by decide) (hgU_0 ca o) rfl 4 (by decide) wq_357 (v := .int ((qu (qu (qu z 77 ((16 : Int32).toNatClampNeg) x2) 0 4 17) 77 ((17 : Int32).toNatClampNeg) x4) 0 4)) rfl dX10_putBytes_35 ?_
  refine qtop (x' := 17) rfl ?_
  refine lv_iconst (v := 1) hx hb dX10_putBytes_38 (by decide) ?_
  refine lv_iadd hx hb dX10_putBytes_39 ?_
  refine qtop (x' := 18) (by decide) ?_
  refine qf_put hx hb hts inX10 tyX10 tyX10_ok nmX10 hown hK hP hS qw_Ai (q0 := 0) (by decide) (hgU_0 ca o) rfl 4 (by decide) wq_357 rfl (x := 18) 4 rfl rfl rfl (Nat.le_of_ble_eq_true rfl) dX10_putBytes_40 (fun H locs hP hS => ?_)
  refine lv_iinc (v := 8) (lv' := [(2, .int 8), (0, .ref (o + 0)), (1, .int a1)]) hx hb dX10_putBytes_43 hl (k := 0) rfl (by decide) (by decide) rfl (fun ls hl => ?_)
  refine lv_goto (tgt := 3) hx hb dX10_putBytes_46 (by decide) ?_
  refine lv_iload_n hx hb dX10_putBytes_3 rfl (lv_at hl 0 rfl) ?_
  refine lv_if_lt (tgt := 49) hx hb dX10_putBytes_4 (by decide) (fun q => absurd q (by decide)) (fun _ => ?_)
  refine lv_aload_n hx hb dX10_putBytes_7 rfl (lv_at hl 1 rfl) ?_
  refine qf_get hx hb hts inX10 hown hK hP (q0 := 0) (by decide) (hgU_0 ca o) rfl 4 (by decide) wq_357 (v := .int ((qu (qu (qu (qu z 77 ((16 : Int32).toNatClampNeg) x2) 0 4 17) 77 ((17 : Int32).toNatClampNeg) x4) 0 4 18) 0 4)) rfl dX10_putBytes_8 ?_
  refine qtop (x' := 18) rfl ?_
  refine lv_sipush (v := 260) hx hb dX10_putBytes_11 (by decide) ?_
  refine lv_icmp_ge (tgt := 49) hx hb dX10_putBytes_14 (by decide) (fun q => absurd q (by decide)) (fun _ => ?_)
  refine lv_aload_n hx hb dX10_putBytes_17 rfl (lv_at hl 1 rfl) ?_
  refine qf_get hx hb hts inX10 hown hK hP (q0 := 0) (by decide) (hgU_0 ca o) rfl 3 (by decide) wq_356 (v := .ref (o + 77)) rfl dX10_putBytes_18 ?_
  refine lv_aload_n hx hb dX10_putBytes_21 rfl (lv_at hl 1 rfl) ?_
  refine qf_get hx hb hts inX10 hown hK hP (q0 := 0) (by decide) (hgU_0 ca o) rfl 4 (by decide) wq_357 (v := .int ((qu (qu (qu (qu z 77 ((16 : Int32).toNatClampNeg) x2) 0 4 17) 77 ((17 : Int32).toNatClampNeg) x4) 0 4 18) 0 4)) rfl dX10_putBytes_22 ?_
  refine qtop (x' := 18) rfl ?_
  refine lv_iload_n hx hb dX10_putBytes_25 rfl (lv_at hl 2 rfl) ?_
  refine lv_iload_n hx hb dX10_putBytes_26 rfl (lv_at hl 0 rfl) ?_
  refine lv_ishr hx hb dX10_putBytes_27 ?_
  refine lv_topi (fun x5 e5 => ?_)
  refine lv_sipush (v := 255) hx hb dX10_putBytes_28 (by decide) ?_
  refine lv_iand hx hb dX10_putBytes_31 ?_
  refine lv_topi (fun x6 e6 => ?_)
  refine qa_iast hx hb hK hP hS qw_Ai (q0 := 77) (by decide) 0 (N := 260) (hgU_77 ca o) rfl (gi_in (by decide) (by decide)) dX10_putBytes_32 (fun H locs hP hS => ?_)
  refine lv_aload_n hx hb dX10_putBytes_33 rfl (lv_at hl 1 rfl) ?_
  refine lv_dup hx hb dX10_putBytes_34 rfl ?_
  refine qf_get hx hb hts inX10 hown hK hP (q0 := 0) (by decide) (hgU_0 ca o) rfl 4 (by decide) wq_357 (v := .int ((qu (qu (qu (qu (qu z 77 ((16 : Int32).toNatClampNeg) x2) 0 4 17) 77 ((17 : Int32).toNatClampNeg) x4) 0 4 18) 77 ((18 : Int32).toNatClampNeg) x6) 0 4)) rfl dX10_putBytes_35 ?_
  refine qtop (x' := 18) rfl ?_
  refine lv_iconst (v := 1) hx hb dX10_putBytes_38 (by decide) ?_
  refine lv_iadd hx hb dX10_putBytes_39 ?_
  refine qtop (x' := 19) (by decide) ?_
  refine qf_put hx hb hts inX10 tyX10 tyX10_ok nmX10 hown hK hP hS qw_Ai (q0 := 0) (by decide) (hgU_0 ca o) rfl 4 (by decide) wq_357 rfl (x := 19) 4 rfl rfl rfl (Nat.le_of_ble_eq_true rfl) dX10_putBytes_40 (fun H locs hP hS => ?_)
  refine lv_iinc (v := 0) (lv' := [(2, .int 0), (0, .ref (o + 0)), (1, .int a1)]) hx hb dX10_putBytes_43 hl (k := 0) rfl (by decide) (by decide) rfl (fun ls hl => ?_)
  refine lv_goto (tgt := 3) hx hb dX10_putBytes_46 (by decide) ?_
  refine lv_iload_n hx hb dX10_putBytes_3 rfl (lv_at hl 0 rfl) ?_
  refine lv_if_lt (tgt := 49) hx hb dX10_putBytes_4 (by decide) (fun q => absurd q (by decide)) (fun _ => ?_)
  refine lv_aload_n hx hb dX10_putBytes_7 rfl (lv_at hl 1 rfl) ?_
  refine qf_get hx hb hts inX10 hown hK hP (q0 := 0) (by decide) (hgU_0 ca o) rfl 4 (by decide) wq_357 (v := .int ((qu (qu (qu (qu (qu (qu z 77 ((16 : Int32).toNatClampNeg) x2) 0 4 17) 77 ((17 : Int32).toNatClampNeg) x4) 0 4 18) 77 ((18 : Int32).toNatClampNeg) x6) 0 4 19) 0 4)) rfl dX10_putBytes_8 ?_
  refine qtop (x' := 19) rfl ?_
  refine lv_sipush (v := 260) hx hb dX10_putBytes_11 (by decide) ?_
  refine lv_icmp_ge (tgt := 49) hx hb dX10_putBytes_14 (by decide) (fun q => absurd q (by decide)) (fun _ => ?_)
  refine lv_aload_n hx hb dX10_putBytes_17 rfl (lv_at hl 1 rfl) ?_
  refine qf_get hx hb hts inX10 hown hK hP (q0 := 0) (by decide) (hgU_0 ca o) rfl 3 (by decide) wq_356 (v := .ref (o + 77)) rfl dX10_putBytes_18 ?_
  refine lv_aload_n hx hb dX10_putBytes_21 rfl (lv_at hl 1 rfl) ?_
  refine qf_get hx hb hts inX10 hown hK hP (q0 := 0) (by decide) (hgU_0 ca o) rfl 4 (by decide) wq_357 (v := .int ((qu (qu (qu (qu (qu (qu z 77 ((16 : Int32).toNatClampNeg) x2) 0 4 17) 77 ((17 : Int32).toNatClampNeg) x4) 0 4 18) 77 ((18 : Int32).toNatClampNeg) x6) 0 4 19) 0 4)) rfl dX10_putBytes_22 ?_
  refine qtop (x' := 19) rfl ?_
  refine lv_iload_n hx hb dX10_putBytes_25 rfl (lv_at hl 2 rfl) ?_
  refine lv_iload_n hx hb dX10_putBytes_26 rfl (lv_at hl 0 rfl) ?_
  refine lv_ishr hx hb dX10_putBytes_27 ?_
  refine lv_topi (fun x7 e7 => ?_)
  refine lv_sipush (v := 255) hx hb dX10_putBytes_28 (by decide) ?_
  refine lv_iand hx hb dX10_putBytes_31 ?_
  refine lv_topi (fun x8 e8 => ?_)
  refine qa_iast hx hb hK hP hS qw_Ai (q0 := 77) (by decide) 0 (N := 260) (hgU_77 ca o) rfl (gi_in (by decide) (by decide)) dX10_putBytes_32 (fun H locs hP hS => ?_)
  refine lv_aload_n hx hb dX10_putBytes_33 rfl (lv_at hl 1 rfl) ?_
  refine lv_dup hx hb dX10_putBytes_34 rfl ?_
  refine qf_get hx hb hts inX10 hown hK hP (q0 := 0) (by decide) (hgU_0 ca o) rfl 4 (by decide) wq_357 (v := .int ((qu (qu (qu (qu (qu (qu (qu z 77 ((16 : Int32).toNatClampNeg) x2) 0 4 17) 77 ((17 : Int32).toNatClampNeg) x4) 0 4 18) 77 ((18 : Int32).toNatClampNeg) x6) 0 4 19) 77 ((19 : Int32).toNatClampNeg) x8) 0 4)) rfl dX10_putBytes_35 ?_
  refine qtop (x' := 19) rfl ?_
  refine lv_iconst (v := 1) hx hb dX10_putBytes_38 (by decide) ?_
  refine lv_iadd hx hb dX10_putBytes_39 ?_
  refine qtop (x' := 20) (by decide) ?_
  refine qf_put hx hb hts inX10 tyX10 tyX10_ok nmX10 hown hK hP hS qw_Ai (q0 := 0) (by decide) (hgU_0 ca o) rfl 4 (by decide) wq_357 rfl (x := 20) 4 rfl rfl rfl (Nat.le_of_ble_eq_true rfl) dX10_putBytes_40 (fun H locs hP hS => ?_)
  refine lv_iinc (v := (-8)) (lv' := [(2, .int ((-8))), (0, .ref (o + 0)), (1, .int a1)]) hx hb dX10_putBytes_43 hl (k := 0) rfl (by decide) (by decide) rfl (fun ls hl => ?_)
  refine lv_goto (tgt := 3) hx hb dX10_putBytes_46 (by decide) ?_
  refine lv_iload_n hx hb dX10_putBytes_3 rfl (lv_at hl 0 rfl) ?_
  refine lv_if_lt (tgt := 49) hx hb dX10_putBytes_4 (by decide) (fun _ => ?_) (fun q => absurd (by decide) q)
  exact W.vret hx hb hr (fun t ht hW => ⟨⟨((qu (qu (qu (qu (qu (qu (qu (qu z 77 ((16 : Int32).toNatClampNeg) x2) 0 4 17) 77 ((17 : Int32).toNatClampNeg) x4) 0 4 18) 77 ((18 : Int32).toNatClampNeg) x6) 0 4 19) 77 ((19 : Int32).toNatClampNeg) x8) 0 4 20), y), rfl, ⟨(fun (k : Nat) (h0 : k ≠ 0) (h1 : k ≠ 77) => by simp only [qu_ne h1, qu_ne h0]), rfl, rfl⟩, by rw [ht]; exact hP, va_K.moved hW.alike hK⟩, hS.F ht⟩) hS.2.2 dX10_putBytes_49

set_option maxRecDepth 100000 in
set_option maxHeartbeats 4000000 in
theorem uP_person (l : Launch) (D : va_G) (ca : Nat → ClassId) (o : Nat) (z : Nat → Nat → Int32) (y : Nat → Nat → Int64) (a1 : Int32) (a2 : Int32) (a3 : Int32) (h1_5 : z 1 5 = 0) (h1_6 : z 1 6 = 0) (h1_7 : z 1 7 = 0) (h0_4 : z 0 4 = 0) (h0_2 : z 0 2 = 0) (h108_1 : z 108 1 = 0) : qM l yX10_person cX10_person 4 (some .boolean) 2 80 (qPre D vwCl (qT6 ca) o 132 (qG (GU ca o) z y) [.ref (o + 0), .int a1, .int a2, .int a3]) (va_Qi (fun r _ => r = A_person a1 a2 a3) (qB D vwCl (qT6 ca) o 132 (fun u : qZ => qG (GU ca o) u.1 u.2)) (qw_A o 132)) (qw_A o 132) := by
  refine Met.ofW (cc := cX10_person) (maxL := 4) (ret := (some .boolean)) (by decide) rfl ?_
  intro p e s m args below meth c s₁ B hml hv
  obtain ⟨rfl, hP, hK⟩ := hv
  have hx := B.exec
  have hb := B.bytes
  have hr := B.returns
  have hts0 := atoms_spec (ws := Cond.code yX10_person cX10_person 4 (some .boolean) :: qtbl) B.pre
  have hts : ∀ w ∈ qtbl, w.before _ s = true := fun w h => hts0 w (List.mem_cons_of_mem _ h)
  have hown : s.vm.findClass RX10 = some m.cls := findClass_of_methodNamed B.named
  have hlocks := B.notSynchronized
  have hz0 : (0 : Int32).toInt = 0 := rfl
  have hS : va_S (qw_A o 132) s.heap s.heap [] := va_S.rf
  have hl := lv_entry ([.ref (o + 0), .int a1, .int a2, .int a3]) (n := 4) (Nat.le_of_ble_eq_true rfl)
  rw [lg_entry_eq]
  generalize (lg_sl ([.ref (o + 0), .int a1, .int a2, .int a3]) ++ List.replicate (4 - (lg_sl ([.ref (o + 0), .int a1, .int a2, .int a3])).length) Slot.unset).toArray = ls at hl ⊢
  have hl : lv_has ls 4 [(0, .ref (o + 0)), (1, .int a1), (2, .int a2), (3, .int a3)] := hl
  refine lv_iload_n hx hb dX10_person_0 rfl (lv_at hl 1 rfl) ?_
  refine lv_if_lt (tgt := 25) hx hb dX10_person_1 (by decide) (fun c1 => ?_) (fun c1 => ?_)
  · have t1 : a1.toInt < (0 : Int) := gl_lt c1
    refine lv_iconst (v := 0) hx hb dX10_person_25 (by decide) ?_
    exact W.zret (v := 0) (ty := .boolean) hx hb hr rfl (fun t ht hW => ⟨⟨0, (z, y), rfl, (ga_n (by omega)), by rw [ht]; exact hP, va_K.moved hW.alike hK⟩, hS.F ht⟩) hS.2.2 dX10_person_26
  · have t1 : a1.toInt ≥ (0 : Int) := gl_nlt c1
    refine lv_iload_n hx hb dX10_person_4 rfl (lv_at hl 1 rfl) ?_
    refine lv_bipush (v := 6) hx hb dX10_person_5 (by decide) ?_
    refine lv_icmp_ge (tgt := 25) hx hb dX10_person_7 (by decide) (fun c2 => ?_) (fun c2 => ?_)
    · have t2 : a1.toInt ≥ (6 : Int) := gl_le c2
      refine lv_iconst (v := 0) hx hb dX10_person_25 (by decide) ?_
      exact W.zret (v := 0) (ty := .boolean) hx hb hr rfl (fun t ht hW => ⟨⟨0, (z, y), rfl, (ga_n (by omega)), by rw [ht]; exact hP, va_K.moved hW.alike hK⟩, hS.F ht⟩) hS.2.2 dX10_person_26
    · have t2 : a1.toInt < (6 : Int) := gl_nle c2
      refine lv_iload_n hx hb dX10_person_10 rfl (lv_at hl 2 rfl) ?_
      refine lv_if_lt (tgt := 25) hx hb dX10_person_11 (by decide) (fun c3 => ?_) (fun c3 => ?_)
      · have t3 : a2.toInt < (0 : Int) := gl_lt c3
        refine lv_iconst (v := 0) hx hb dX10_person_25 (by decide) ?_
        exact W.zret (v := 0) (ty := .boolean) hx hb hr rfl (fun t ht hW => ⟨⟨0, (z, y), rfl, (ga_n (by omega)), by rw [ht]; exact hP, va_K.moved hW.alike hK⟩, hS.F ht⟩) hS.2.2 dX10_person_26
      · have t3 : a2.toInt ≥ (0 : Int) := gl_nlt c3
        refine lv_iload_n hx hb dX10_person_14 rfl (lv_at hl 3 rfl) ?_
        refine lv_bipush (v := 99) hx hb dX10_person_15 (by decide) ?_
        refine lv_icmp_gt (tgt := 25) hx hb dX10_person_17 (by decide) (fun c4 => ?_) (fun c4 => ?_)
        · have t4 : a3.toInt > (99 : Int) := gl_lt c4
          refine lv_iconst (v := 0) hx hb dX10_person_25 (by decide) ?_
          exact W.zret (v := 0) (ty := .boolean) hx hb hr rfl (fun t ht hW => ⟨⟨0, (z, y), rfl, (ga_n (by omega)), by rw [ht]; exact hP, va_K.moved hW.alike hK⟩, hS.F ht⟩) hS.2.2 dX10_person_26
        · have t4 : a3.toInt ≤ (99 : Int) := gl_nlt c4
          refine lv_iload_n hx hb dX10_person_20 rfl (lv_at hl 2 rfl) ?_
          refine lv_iload_n hx hb dX10_person_21 rfl (lv_at hl 3 rfl) ?_
          refine lv_icmp_le (tgt := 27) hx hb dX10_person_22 (by decide) (fun c5 => ?_) (fun c5 => ?_)
          · have t5 : a2.toInt ≤ a3.toInt := gl_le c5
            refine lv_aload_n hx hb dX10_person_27 rfl (lv_at hl 0 rfl) ?_
            refine qf_get hx hb hts inX10 hown hK hP (q0 := 0) (by decide) (hgU_0 ca o) rfl 0 (by decide) wq_353 (v := .ref (o + 1)) rfl dX10_person_28 ?_
            refine qf_get hx hb hts inX9 hown hK hP (q0 := 1) (by decide) (hgU_1 ca o) rfl 0 (by decide) wq_83 (v := .ref (o + 2)) rfl dX10_person_31 ?_
            refine lv_iload_n hx hb dX10_person_34 rfl (lv_at hl 1 rfl) ?_
            refine lv_iload_n hx hb dX10_person_35 rfl (lv_at hl 2 rfl) ?_
            refine qa_iast hx hb hK hP hS qw_Ai (q0 := 2) (by decide) 0 (N := 6) (hgU_2 ca o) rfl (gi_in (by omega) (by omega)) dX10_person_36 (fun H locs hP hS => ?_)
            refine lv_aload_n hx hb dX10_person_37 rfl (lv_at hl 0 rfl) ?_
            refine qf_get hx hb hts inX10 hown hK hP (q0 := 0) (by decide) (hgU_0 ca o) rfl 0 (by decide) wq_353 (v := .ref (o + 1)) rfl dX10_person_38 ?_
            refine qf_get hx hb hts inX9 hown hK hP (q0 := 1) (by decide) (hgU_1 ca o) rfl 1 (by decide) wq_87 (v := .ref (o + 3)) rfl dX10_person_41 ?_
            refine lv_iload_n hx hb dX10_person_44 rfl (lv_at hl 1 rfl) ?_
            refine lv_iload_n hx hb dX10_person_45 rfl (lv_at hl 3 rfl) ?_
            refine qa_iast hx hb hK hP hS qw_Ai (q0 := 3) (by decide) 0 (N := 6) (hgU_3 ca o) rfl (gi_in (by omega) (by omega)) dX10_person_46 (fun H locs hP hS => ?_)
            refine lv_aload_n hx hb dX10_person_47 rfl (lv_at hl 0 rfl) ?_
            refine qf_get hx hb hts inX10 hown hK hP (q0 := 0) (by decide) (hgU_0 ca o) rfl 0 (by decide) wq_353 (v := .ref (o + 1)) rfl dX10_person_48 ?_
            refine qf_get hx hb hts inX9 hown hK hP (q0 := 1) (by decide) (hgU_1 ca o) rfl 2 (by decide) wq_90 (v := .ref (o + 4)) rfl dX10_person_51 ?_
            refine lv_iload_n hx hb dX10_person_54 rfl (lv_at hl 1 rfl) ?_
            refine lv_bipush (v := 100) hx hb dX10_person_55 (by decide) ?_
            refine qa_iast hx hb hK hP hS qw_Ai (q0 := 4) (by decide) 0 (N := 6) (hgU_4 ca o) rfl (gi_in (by omega) (by omega)) dX10_person_57 (fun H locs hP hS => ?_)
            refine lv_aload_n hx hb dX10_person_58 rfl (lv_at hl 0 rfl) ?_
            refine qf_get hx hb hts inX10 hown hK hP (q0 := 0) (by decide) (hgU_0 ca o) rfl 0 (by decide) wq_353 (v := .ref (o + 1)) rfl dX10_person_59 ?_
            refine lv_dup hx hb dX10_person_62 rfl ?_
            refine qf_get hx hb hts inX9 hown hK hP (q0 := 1) (by decide) (hgU_1 ca o) rfl 5 (by decide) wq_98 (v := .int ((qu (qu (qu z 2 (a1.toNatClampNeg) a2) 3 (a1.toNatClampNeg) a3) 4 (a1.toNatClampNeg) 100) 1 5)) rfl dX10_person_63 ?_
            refine qtop (x' := 0) h1_5 ?_
            refine lv_iconst (v := 1) hx hb dX10_person_66 (by decide) ?_
            refine lv_iload_n hx hb dX10_person_67 rfl (lv_at hl 1 rfl) ?_
            refine lv_ishl hx hb dX10_person_68 ?_
            refine lv_topi (fun x6 e6 => ?_)
            refine lv_ior hx hb dX10_person_69 ?_
            refine lv_topi (fun x7 e7 => ?_)
            refine qf_put hx hb hts inX9 tyX9 tyX9_ok nmX9 hown hK hP hS qw_Ai (q0 := 1) (by decide) (hgU_1 ca o) rfl 5 (by decide) wq_98 rfl (x := x7) 5 rfl rfl rfl (Nat.le_of_ble_eq_true rfl) dX10_person_70 (fun H locs hP hS => ?_)
            refine lv_aload_n hx hb dX10_person_73 rfl (lv_at hl 0 rfl) ?_
            refine qf_get hx hb hts inX10 hown hK hP (q0 := 0) (by decide) (hgU_0 ca o) rfl 7 (by decide) wq_360 (v := .ref (o + 108)) rfl dX10_person_74 ?_
            refine qc_Vv (As := []) (rest := []) (k0 := 0) (u1_forget l D ca o (qu (qu (qu (qu z 2 (a1.toNatClampNeg) a2) 3 (a1.toNatClampNeg) a3) 4 (a1.toNatClampNeg) 100) 1 5 x7) y) kc_yX3_forget ⟨hx, hb, hml, hown, hts⟩ wq_403 rfl rfl ⟨Nat.le_of_ble_eq_true rfl, Nat.le_of_ble_eq_true rfl⟩ wq_all hP hK hS qw_Ai (q0 := 108) (by decide) (hgU_108 ca o _ _) rfl rfl hl.1 rfl (Nat.le_of_ble_eq_true rfl) dX10_person_77 ⟨Nat.zero_le _, Nat.zero_le _⟩ (fun u8 H locs h8 hP hS _ _ => ?_)
            obtain ⟨z8, y8⟩ := u8
            obtain ⟨hz8, hy8⟩ := h8
            dsimp only at hz8 hy8 hP
            subst hz8; rw [hy8] at hP
            refine lv_iconst (v := 1) hx hb dX10_person_80 (by decide) ?_
            exact W.zret (v := 1) (ty := .boolean) hx hb hr rfl (fun t ht hW => ⟨⟨1, ((qu (qu (qu (qu (qu z 2 (a1.toNatClampNeg) a2) 3 (a1.toNatClampNeg) a3) 4 (a1.toNatClampNeg) 100) 1 5 x7) 108 1 0), y), rfl, (ga_p (by omega)), by rw [ht]; exact hP, va_K.moved hW.alike hK⟩, hS.F ht⟩) hS.2.2 dX10_person_81
          · have t5 : a2.toInt > a3.toInt := gl_nle c5
            refine lv_iconst (v := 0) hx hb dX10_person_25 (by decide) ?_
            exact W.zret (v := 0) (ty := .boolean) hx hb hr rfl (fun t ht hW => ⟨⟨0, (z, y), rfl, (ga_n (by omega)), by rw [ht]; exact hP, va_K.moved hW.alike hK⟩, hS.F ht⟩) hS.2.2 dX10_person_26

set_option maxRecDepth 100000 in
set_option maxHeartbeats 4000000 in
theorem uP_dies (l : Launch) (D : va_G) (ca : Nat → ClassId) (o : Nat) (z : Nat → Nat → Int32) (y : Nat → Nat → Int64) (a1 : Int32) (a2 : Int32) (h1_5 : z 1 5 = 0) (h1_6 : z 1 6 = 0) (h1_7 : z 1 7 = 0) (h0_4 : z 0 4 = 0) (h0_2 : z 0 2 = 0) (h108_1 : z 108 1 = 0) : qM l yX10_dies cX10_dies 3 (some .boolean) 2 81 (qPre D vwCl (qT6 ca) o 132 (qG (GU ca o) z y) [.ref (o + 0), .int a1, .int a2]) (va_Qi (fun r _ => r = A_dies a1 a2) (qB D vwCl (qT6 ca) o 132 (fun u : qZ => qG (GU ca o) u.1 u.2)) (qw_A o 132)) (qw_A o 132) := by
  refine Met.ofW (cc := cX10_dies) (maxL := 3) (ret := (some .boolean)) (by decide) rfl ?_
  intro p e s m args below meth c s₁ B hml hv
  obtain ⟨rfl, hP, hK⟩ := hv
  have hx := B.exec
  have hb := B.bytes
  have hr := B.returns
  have hts0 := atoms_spec (ws := Cond.code yX10_dies cX10_dies 3 (some .boolean) :: qtbl) B.pre
  have hts : ∀ w ∈ qtbl, w.before _ s = true := fun w h => hts0 w (List.mem_cons_of_mem _ h)
  have hown : s.vm.findClass RX10 = some m.cls := findClass_of_methodNamed B.named
  have hlocks := B.notSynchronized
  have hz0 : (0 : Int32).toInt = 0 := rfl
  have hS : va_S (qw_A o 132) s.heap s.heap [] := va_S.rf
  have hl := lv_entry ([.ref (o + 0), .int a1, .int a2]) (n := 3) (Nat.le_of_ble_eq_true rfl)
  rw [lg_entry_eq]
  generalize (lg_sl ([.ref (o + 0), .int a1, .int a2]) ++ List.replicate (3 - (lg_sl ([.ref (o + 0), .int a1, .int a2])).length) Slot.unset).toArray = ls at hl ⊢
  have hl : lv_has ls 3 [(0, .ref (o + 0)), (1, .int a1), (2, .int a2)] := hl
  refine lv_aload_n hx hb dX10_dies_0 rfl (lv_at hl 0 rfl) ?_
  refine qf_get hx hb hts inX10 hown hK hP (q0 := 0) (by decide) (hgU_0 ca o) rfl 0 (by decide) wq_353 (v := .ref (o + 1)) rfl dX10_dies_1 ?_
  refine lv_iload_n hx hb dX10_dies_4 rfl (lv_at hl 1 rfl) ?_
  refine qc_Vi (As := [.int a1]) (rest := []) (k0 := 1) (u1_hasPerson l D ca o z y a1 (h1_5)) kc_yX9_hasPerson ⟨hx, hb, hml, hown, hts⟩ wq_411 rfl rfl ⟨Nat.le_of_ble_eq_true rfl, Nat.le_of_ble_eq_true rfl⟩ wq_all hP hK hS qw_Ai (q0 := 1) (by decide) (hgU_1 ca o _ _) rfl rfl hl.1 rfl (Nat.le_of_ble_eq_true rfl) dX10_dies_5 ⟨Nat.zero_le _, Nat.zero_le _⟩ (fun r1 u1 H locs h1 hP hS _ _ => ?_)
  subst h1
  refine lv_if_eq (tgt := 21) hx hb dX10_dies_8 (by decide) (fun _ => ?_) (fun q => absurd (by decide) q)
  refine lv_iconst (v := 0) hx hb dX10_dies_21 (by decide) ?_
  exact W.zret (v := 0) (ty := .boolean) hx hb hr rfl (fun t ht hW => ⟨⟨0, (z, y), rfl, rfl, by rw [ht]; exact hP, va_K.moved hW.alike hK⟩, hS.F ht⟩) hS.2.2 dX10_dies_22

set_option maxRecDepth 100000 in
set_option maxHeartbeats 4000000 in
theorem uP_years (l : Launch) (D : va_G) (ca : Nat → ClassId) (o : Nat) (z : Nat → Nat → Int32) (y : Nat → Nat → Int64) (a1 : Int32) (h1_5 : z 1 5 = 0) (h1_6 : z 1 6 = 0) (h1_7 : z 1 7 = 0) (h0_4 : z 0 4 = 0) (h0_2 : z 0 2 = 0) (h108_1 : z 108 1 = 0) : qM l yX10_years cX10_years 2 (some .int) 1 60 (qPre D vwCl (qT6 ca) o 132 (qG (GU ca o) z y) [.ref (o + 0), .int a1]) (va_Qi (fun r _ => r = A_years a1) (qB D vwCl (qT6 ca) o 132 (fun u : qZ => qG (GU ca o) u.1 u.2)) (qw_A o 132)) (qw_A o 132) := by
  refine Met.ofW (cc := cX10_years) (maxL := 2) (ret := (some .int)) (by decide) rfl ?_
  intro p e s m args below meth c s₁ B hml hv
  obtain ⟨rfl, hP, hK⟩ := hv
  have hx := B.exec
  have hb := B.bytes
  have hr := B.returns
  have hts0 := atoms_spec (ws := Cond.code yX10_years cX10_years 2 (some .int) :: qtbl) B.pre
  have hts : ∀ w ∈ qtbl, w.before _ s = true := fun w h => hts0 w (List.mem_cons_of_mem _ h)
  have hown : s.vm.findClass RX10 = some m.cls := findClass_of_methodNamed B.named
  have hlocks := B.notSynchronized
  have hz0 : (0 : Int32).toInt = 0 := rfl
  have hS : va_S (qw_A o 132) s.heap s.heap [] := va_S.rf
  have hl := lv_entry ([.ref (o + 0), .int a1]) (n := 2) (Nat.le_of_ble_eq_true rfl)
  rw [lg_entry_eq]
  generalize (lg_sl ([.ref (o + 0), .int a1]) ++ List.replicate (2 - (lg_sl ([.ref (o + 0), .int a1])).length) Slot.unset).toArray = ls at hl ⊢
  have hl : lv_has ls 2 [(0, .ref (o + 0)), (1, .int a1)] := hl
  refine lv_iload_n hx hb dX10_years_0 rfl (lv_at hl 1 rfl) ?_
  refine lv_iconst (v := 1) hx hb dX10_years_1 (by decide) ?_
  refine lv_icmp_lt (tgt := 25) hx hb dX10_years_2 (by decide) (fun c1 => ?_) (fun c1 => ?_)
  · have t1 : a1.toInt < (1 : Int) := gl_lt c1
    refine lv_iconst (v := (-1)) hx hb dX10_years_25 (by decide) ?_
    exact W.iret (v := (-1)) hx hb hr (fun t ht hW => ⟨⟨(-1), (z, y), rfl, (ga_n (by omega)), by rw [ht]; exact hP, va_K.moved hW.alike hK⟩, hS.F ht⟩) hS.2.2 dX10_years_26
  · have t1 : a1.toInt ≥ (1 : Int) := gl_nlt c1
    refine lv_iload_n hx hb dX10_years_5 rfl (lv_at hl 1 rfl) ?_
    refine lv_bipush (v := 99) hx hb dX10_years_6 (by decide) ?_
    refine lv_icmp_gt (tgt := 25) hx hb dX10_years_8 (by decide) (fun c2 => ?_) (fun c2 => ?_)
    · have t2 : a1.toInt > (99 : Int) := gl_lt c2
      refine lv_iconst (v := (-1)) hx hb dX10_years_25 (by decide) ?_
      exact W.iret (v := (-1)) hx hb hr (fun t ht hW => ⟨⟨(-1), (z, y), rfl, (ga_n (by omega)), by rw [ht]; exact hP, va_K.moved hW.alike hK⟩, hS.F ht⟩) hS.2.2 dX10_years_26
    · have t2 : a1.toInt ≤ (99 : Int) := gl_nlt c2
      refine lv_aload_n hx hb dX10_years_11 rfl (lv_at hl 0 rfl) ?_
      refine qf_get hx hb hts inX10 hown hK hP (q0 := 0) (by decide) (hgU_0 ca o) rfl 0 (by decide) wq_353 (v := .ref (o + 1)) rfl dX10_years_12 ?_
      refine qf_get hx hb hts inX9 hown hK hP (q0 := 1) (by decide) (hgU_1 ca o) rfl 7 (by decide) wq_104 (v := .int (z 1 7)) rfl dX10_years_15 ?_
      refine qtop (x' := 0) h1_7 ?_
      refine lv_iload_n hx hb dX10_years_18 rfl (lv_at hl 1 rfl) ?_
      refine lv_iadd hx hb dX10_years_19 ?_
      refine lv_topi (fun x3 e3 => ?_)
      have t3 : x3.toInt = 0 + a1.toInt := by rw [e3]; exact gi_add (by show _ ≤ (0 : Int) + _; omega) (by show (0 : Int) + _ ≤ _; omega)
      refine lv_bipush (v := 99) hx hb dX10_years_20 (by decide) ?_
      refine lv_icmp_le (tgt := 27) hx hb dX10_years_22 (by decide) (fun c4 => ?_) (fun c4 => ?_)
      · have t4 : x3.toInt ≤ (99 : Int) := gl_le c4
        refine lv_aload_n hx hb dX10_years_27 rfl (lv_at hl 0 rfl) ?_
        refine qf_get hx hb hts inX10 hown hK hP (q0 := 0) (by decide) (hgU_0 ca o) rfl 0 (by decide) wq_353 (v := .ref (o + 1)) rfl dX10_years_28 ?_
        refine lv_dup hx hb dX10_years_31 rfl ?_
        refine qf_get hx hb hts inX9 hown hK hP (q0 := 1) (by decide) (hgU_1 ca o) rfl 7 (by decide) wq_104 (v := .int (z 1 7)) rfl dX10_years_32 ?_
        refine qtop (x' := 0) h1_7 ?_
        refine lv_iload_n hx hb dX10_years_35 rfl (lv_at hl 1 rfl) ?_
        refine lv_iadd hx hb dX10_years_36 ?_
        refine lv_topi (fun x5 e5 => ?_)
        have t5 : x5.toInt = 0 + a1.toInt := by rw [e5]; exact gi_add (by show _ ≤ (0 : Int) + _; omega) (by show (0 : Int) + _ ≤ _; omega)
        refine qf_put hx hb hts inX9 tyX9 tyX9_ok nmX9 hown hK hP hS qw_Ai (q0 := 1) (by decide) (hgU_1 ca o) rfl 7 (by decide) wq_104 rfl (x := x5) 7 rfl rfl rfl (Nat.le_of_ble_eq_true rfl) dX10_years_37 (fun H locs hP hS => ?_)
        refine lv_aload_n hx hb dX10_years_40 rfl (lv_at hl 0 rfl) ?_
        refine qf_get hx hb hts inX10 hown hK hP (q0 := 0) (by decide) (hgU_0 ca o) rfl 0 (by decide) wq_353 (v := .ref (o + 1)) rfl dX10_years_41 ?_
        refine qf_get hx hb hts inX9 hown hK hP (q0 := 1) (by decide) (hgU_1 ca o) rfl 7 (by decide) wq_104 (v := .int ((qu z 1 7 x5) 1 7)) rfl dX10_years_44 ?_
        refine qtop (x' := x5) rfl ?_
        exact W.iret (v := x5) hx hb hr (fun t ht hW => ⟨⟨x5, ((qu z 1 7 x5), y), rfl, (by rw [e5]; exact ga_p (by omega)), by rw [ht]; exact hP, va_K.moved hW.alike hK⟩, hS.F ht⟩) hS.2.2 dX10_years_47
      · have t4 : x3.toInt > (99 : Int) := gl_nle c4
        refine lv_iconst (v := (-1)) hx hb dX10_years_25 (by decide) ?_
        exact W.iret (v := (-1)) hx hb hr (fun t ht hW => ⟨⟨(-1), (z, y), rfl, (ga_n (by omega)), by rw [ht]; exact hP, va_K.moved hW.alike hK⟩, hS.F ht⟩) hS.2.2 dX10_years_26

set_option maxRecDepth 100000 in
set_option maxHeartbeats 4000000 in
theorem uP_feed (l : Launch) (D : va_G) (ca : Nat → ClassId) (o : Nat) (z : Nat → Nat → Int32) (y : Nat → Nat → Int64) (a1 : Int32) (a2 : Int32) (a3 : Int32) (a4 : Int32) (a5 : Int32) (h1_5 : z 1 5 = 0) (h1_6 : z 1 6 = 0) (h1_7 : z 1 7 = 0) (h0_4 : z 0 4 = 0) (h0_2 : z 0 2 = 0) (h108_1 : z 108 1 = 0) : qM l yX10_feed cX10_feed 6 (some .int) 2 82 (qPre D vwCl (qT6 ca) o 132 (qG (GU ca o) z y) [.ref (o + 0), .int a1, .int a2, .int a3, .int a4, .int a5]) (va_Qi (fun r _ => r = A_feed a1 a2 a3 a4 a5) (qB D vwCl (qT6 ca) o 132 (fun u : qZ => qG (GU ca o) u.1 u.2)) (qw_A o 132)) (qw_A o 132) := by
  refine Met.ofW (cc := cX10_feed) (maxL := 6) (ret := (some .int)) (by decide) rfl ?_
  intro p e s m args below meth c s₁ B hml hv
  obtain ⟨rfl, hP, hK⟩ := hv
  have hx := B.exec
  have hb := B.bytes
  have hr := B.returns
  have hts0 := atoms_spec (ws := Cond.code yX10_feed cX10_feed 6 (some .int) :: qtbl) B.pre
  have hts : ∀ w ∈ qtbl, w.before _ s = true := fun w h => hts0 w (List.mem_cons_of_mem _ h)
  have hown : s.vm.findClass RX10 = some m.cls := findClass_of_methodNamed B.named
  have hlocks := B.notSynchronized
  have hz0 : (0 : Int32).toInt = 0 := rfl
  have hS : va_S (qw_A o 132) s.heap s.heap [] := va_S.rf
  have hl := lv_entry ([.ref (o + 0), .int a1, .int a2, .int a3, .int a4, .int a5]) (n := 6) (Nat.le_of_ble_eq_true rfl)
  rw [lg_entry_eq]
  generalize (lg_sl ([.ref (o + 0), .int a1, .int a2, .int a3, .int a4, .int a5]) ++ List.replicate (6 - (lg_sl ([.ref (o + 0), .int a1, .int a2, .int a3, .int a4, .int a5])).length) Slot.unset).toArray = ls at hl ⊢
  have hl : lv_has ls 6 [(0, .ref (o + 0)), (1, .int a1), (2, .int a2), (3, .int a3), (4, .int a4), (5, .int a5)] := hl
  refine lv_aload_n hx hb dX10_feed_0 rfl (lv_at hl 0 rfl) ?_
  refine qf_get hx hb hts inX10 hown hK hP (q0 := 0) (by decide) (hgU_0 ca o) rfl 4 (by decide) wq_357 (v := .int (z 0 4)) rfl dX10_feed_1 ?_
  refine qtop (x' := 0) h0_4 ?_
  refine lv_sipush (v := 240) hx hb dX10_feed_4 (by decide) ?_
  refine lv_icmp_le (tgt := 12) hx hb dX10_feed_7 (by decide) (fun _ => ?_) (fun q => absurd (by decide) q)
  refine lv_aload_n hx hb dX10_feed_12 rfl (lv_at hl 0 rfl) ?_
  refine lv_iload_n hx hb dX10_feed_13 rfl (lv_at hl 1 rfl) ?_
  refine qc_Vv (As := [.int a1]) (rest := []) (k0 := 1) (u1_putBytes0 l D ca o z y a1 (h0_4)) kc_yX10_putBytes ⟨hx, hb, hml, hown, hts⟩ wq_423 rfl rfl ⟨Nat.le_of_ble_eq_true rfl, Nat.le_of_ble_eq_true rfl⟩ wq_all hP hK hS qw_Ai (q0 := 0) (by decide) (hgU_0 ca o _ _) rfl rfl hl.1 rfl (Nat.le_of_ble_eq_true rfl) dX10_feed_14 ⟨Nat.zero_le _, Nat.zero_le _⟩ (fun u1 H locs h1 hP hS _ _ => ?_)
  obtain ⟨z1, y1⟩ := u1
  obtain ⟨h1f, h1y, h1t⟩ := h1
  dsimp only at h1f h1y h1t hP
  rw [h1y] at hP
  have f1_1_5 : z1 1 5 = 0 := (congrFun (h1f 1 (by decide) (by decide)) 5).trans (h1_5)
  have f1_1_6 : z1 1 6 = 0 := (congrFun (h1f 1 (by decide) (by decide)) 6).trans (h1_6)
  have f1_1_7 : z1 1 7 = 0 := (congrFun (h1f 1 (by decide) (by decide)) 7).trans (h1_7)
  have f1_108_1 : z1 108 1 = 0 := (congrFun (h1f 108 (by decide) (by decide)) 1).trans (h108_1)
  refine lv_aload_n hx hb dX10_feed_17 rfl (lv_at hl 0 rfl) ?_
  refine lv_iload_n hx hb dX10_feed_18 rfl (lv_at hl 2 rfl) ?_
  refine qc_Vv (As := [.int a2]) (rest := []) (k0 := 1) (u1_putBytes4 l D ca o z1 y a2 (h1t)) kc_yX10_putBytes ⟨hx, hb, hml, hown, hts⟩ wq_423 rfl rfl ⟨Nat.le_of_ble_eq_true rfl, Nat.le_of_ble_eq_true rfl⟩ wq_all hP hK hS qw_Ai (q0 := 0) (by decide) (hgU_0 ca o _ _) rfl rfl hl.1 rfl (Nat.le_of_ble_eq_true rfl) dX10_feed_19 ⟨Nat.zero_le _, Nat.zero_le _⟩ (fun u2 H locs h2 hP hS _ _ => ?_)
  obtain ⟨z2, y2⟩ := u2
  obtain ⟨h2f, h2y, h2t⟩ := h2
  dsimp only at h2f h2y h2t hP
  rw [h2y] at hP
  have f2_1_5 : z2 1 5 = 0 := (congrFun (h2f 1 (by decide) (by decide)) 5).trans (f1_1_5)
  have f2_1_6 : z2 1 6 = 0 := (congrFun (h2f 1 (by decide) (by decide)) 6).trans (f1_1_6)
  have f2_1_7 : z2 1 7 = 0 := (congrFun (h2f 1 (by decide) (by decide)) 7).trans (f1_1_7)
  have f2_108_1 : z2 108 1 = 0 := (congrFun (h2f 108 (by decide) (by decide)) 1).trans (f1_108_1)
  refine lv_aload_n hx hb dX10_feed_22 rfl (lv_at hl 0 rfl) ?_
  refine lv_iload_n hx hb dX10_feed_23 rfl (lv_at hl 3 rfl) ?_
  refine qc_Vv (As := [.int a3]) (rest := []) (k0 := 1) (u1_putBytes8 l D ca o z2 y a3 (h2t)) kc_yX10_putBytes ⟨hx, hb, hml, hown, hts⟩ wq_423 rfl rfl ⟨Nat.le_of_ble_eq_true rfl, Nat.le_of_ble_eq_true rfl⟩ wq_all hP hK hS qw_Ai (q0 := 0) (by decide) (hgU_0 ca o _ _) rfl rfl hl.1 rfl (Nat.le_of_ble_eq_true rfl) dX10_feed_24 ⟨Nat.zero_le _, Nat.zero_le _⟩ (fun u3 H locs h3 hP hS _ _ => ?_)
  obtain ⟨z3, y3⟩ := u3
  obtain ⟨h3f, h3y, h3t⟩ := h3
  dsimp only at h3f h3y h3t hP
  rw [h3y] at hP
  have f3_1_5 : z3 1 5 = 0 := (congrFun (h3f 1 (by decide) (by decide)) 5).trans (f2_1_5)
  have f3_1_6 : z3 1 6 = 0 := (congrFun (h3f 1 (by decide) (by decide)) 6).trans (f2_1_6)
  have f3_1_7 : z3 1 7 = 0 := (congrFun (h3f 1 (by decide) (by decide)) 7).trans (f2_1_7)
  have f3_108_1 : z3 108 1 = 0 := (congrFun (h3f 108 (by decide) (by decide)) 1).trans (f2_108_1)
  refine lv_aload_n hx hb dX10_feed_27 rfl (lv_at hl 0 rfl) ?_
  refine lv_iload hx hb dX10_feed_28 (lv_at hl 4 rfl) ?_
  refine qc_Vv (As := [.int a4]) (rest := []) (k0 := 1) (u1_putBytes12 l D ca o z3 y a4 (h3t)) kc_yX10_putBytes ⟨hx, hb, hml, hown, hts⟩ wq_423 rfl rfl ⟨Nat.le_of_ble_eq_true rfl, Nat.le_of_ble_eq_true rfl⟩ wq_all hP hK hS qw_Ai (q0 := 0) (by decide) (hgU_0 ca o _ _) rfl rfl hl.1 rfl (Nat.le_of_ble_eq_true rfl) dX10_feed_30 ⟨Nat.zero_le _, Nat.zero_le _⟩ (fun u4 H locs h4 hP hS _ _ => ?_)
  obtain ⟨z4, y4⟩ := u4
  obtain ⟨h4f, h4y, h4t⟩ := h4
  dsimp only at h4f h4y h4t hP
  rw [h4y] at hP
  have f4_1_5 : z4 1 5 = 0 := (congrFun (h4f 1 (by decide) (by decide)) 5).trans (f3_1_5)
  have f4_1_6 : z4 1 6 = 0 := (congrFun (h4f 1 (by decide) (by decide)) 6).trans (f3_1_6)
  have f4_1_7 : z4 1 7 = 0 := (congrFun (h4f 1 (by decide) (by decide)) 7).trans (f3_1_7)
  have f4_108_1 : z4 108 1 = 0 := (congrFun (h4f 108 (by decide) (by decide)) 1).trans (f3_108_1)
  refine lv_aload_n hx hb dX10_feed_33 rfl (lv_at hl 0 rfl) ?_
  refine lv_iload hx hb dX10_feed_34 (lv_at hl 5 rfl) ?_
  refine qc_Vv (As := [.int a5]) (rest := []) (k0 := 1) (u1_putBytes16 l D ca o z4 y a5 (h4t)) kc_yX10_putBytes ⟨hx, hb, hml, hown, hts⟩ wq_423 rfl rfl ⟨Nat.le_of_ble_eq_true rfl, Nat.le_of_ble_eq_true rfl⟩ wq_all hP hK hS qw_Ai (q0 := 0) (by decide) (hgU_0 ca o _ _) rfl rfl hl.1 rfl (Nat.le_of_ble_eq_true rfl) dX10_feed_36 ⟨Nat.zero_le _, Nat.zero_le _⟩ (fun u5 H locs h5 hP hS _ _ => ?_)
  obtain ⟨z5, y5⟩ := u5
  obtain ⟨h5f, h5y, h5t⟩ := h5
  dsimp only at h5f h5y h5t hP
  rw [h5y] at hP
  have f5_1_5 : z5 1 5 = 0 := (congrFun (h5f 1 (by decide) (by decide)) 5).trans (f4_1_5)
  have f5_1_6 : z5 1 6 = 0 := (congrFun (h5f 1 (by decide) (by decide)) 6).trans (f4_1_6)
  have f5_1_7 : z5 1 7 = 0 := (congrFun (h5f 1 (by decide) (by decide)) 7).trans (f4_1_7)
  have f5_108_1 : z5 108 1 = 0 := (congrFun (h5f 108 (by decide) (by decide)) 1).trans (f4_108_1)
  refine lv_aload_n hx hb dX10_feed_39 rfl (lv_at hl 0 rfl) ?_
  refine qf_get hx hb hts inX10 hown hK hP (q0 := 0) (by decide) (hgU_0 ca o) rfl 4 (by decide) wq_357 (v := .int (z5 0 4)) rfl dX10_feed_40 ?_
  refine qtop (x' := 20) h5t ?_
  exact W.iret (v := 20) hx hb hr (fun t ht hW => ⟨⟨20, (z5, y), rfl, rfl, by rw [ht]; exact hP, va_K.moved hW.alike hK⟩, hS.F ht⟩) hS.2.2 dX10_feed_43

set_option maxRecDepth 100000 in
set_option maxHeartbeats 4000000 in
theorem uP_remark (l : Launch) (D : va_G) (ca : Nat → ClassId) (o : Nat) (z : Nat → Nat → Int32) (y : Nat → Nat → Int64) (a1 : Int32) (a2 : Int32) (h1_5 : z 1 5 = 0) (h1_6 : z 1 6 = 0) (h1_7 : z 1 7 = 0) (h0_4 : z 0 4 = 0) (h0_2 : z 0 2 = 0) (h108_1 : z 108 1 = 0) : qM l yX10_remark cX10_remark 3 (some .int) 2 82 (qPre D vwCl (qT6 ca) o 132 (qG (GU ca o) z y) [.ref (o + 0), .int a1, .int a2]) (va_Qi (fun r _ => r = A_remark a1 a2) (qB D vwCl (qT6 ca) o 132 (fun u : qZ => qG (GU ca o) u.1 u.2)) (qw_A o 132)) (qw_A o 132) := by
  refine Met.ofW (cc := cX10_remark) (maxL := 3) (ret := (some .int)) (by decide) rfl ?_
  intro p e s m args below meth c s₁ B hml hv
  obtain ⟨rfl, hP, hK⟩ := hv
  have hx := B.exec
  have hb := B.bytes
  have hr := B.returns
  have hts0 := atoms_spec (ws := Cond.code yX10_remark cX10_remark 3 (some .int) :: qtbl) B.pre
  have hts : ∀ w ∈ qtbl, w.before _ s = true := fun w h => hts0 w (List.mem_cons_of_mem _ h)
  have hown : s.vm.findClass RX10 = some m.cls := findClass_of_methodNamed B.named
  have hlocks := B.notSynchronized
  have hz0 : (0 : Int32).toInt = 0 := rfl
  have hS : va_S (qw_A o 132) s.heap s.heap [] := va_S.rf
  have hl := lv_entry ([.ref (o + 0), .int a1, .int a2]) (n := 3) (Nat.le_of_ble_eq_true rfl)
  rw [lg_entry_eq]
  generalize (lg_sl ([.ref (o + 0), .int a1, .int a2]) ++ List.replicate (3 - (lg_sl ([.ref (o + 0), .int a1, .int a2])).length) Slot.unset).toArray = ls at hl ⊢
  have hl : lv_has ls 3 [(0, .ref (o + 0)), (1, .int a1), (2, .int a2)] := hl
  refine lv_iload_n hx hb dX10_remark_0 rfl (lv_at hl 1 rfl) ?_
  refine lv_if_lt (tgt := 20) hx hb dX10_remark_1 (by decide) (fun c1 => ?_) (fun c1 => ?_)
  · have t1 : a1.toInt < (0 : Int) := gl_lt c1
    refine lv_iconst (v := (-1)) hx hb dX10_remark_20 (by decide) ?_
    exact W.iret (v := (-1)) hx hb hr (fun t ht hW => ⟨⟨(-1), (z, y), rfl, rfl, by rw [ht]; exact hP, va_K.moved hW.alike hK⟩, hS.F ht⟩) hS.2.2 dX10_remark_21
  · have t1 : a1.toInt ≥ (0 : Int) := gl_nlt c1
    refine lv_iload_n hx hb dX10_remark_4 rfl (lv_at hl 1 rfl) ?_
    refine lv_bipush (v := 10) hx hb dX10_remark_5 (by decide) ?_
    refine lv_icmp_ge (tgt := 20) hx hb dX10_remark_7 (by decide) (fun c2 => ?_) (fun c2 => ?_)
    · have t2 : a1.toInt ≥ (10 : Int) := gl_le c2
      refine lv_iconst (v := (-1)) hx hb dX10_remark_20 (by decide) ?_
      exact W.iret (v := (-1)) hx hb hr (fun t ht hW => ⟨⟨(-1), (z, y), rfl, rfl, by rw [ht]; exact hP, va_K.moved hW.alike hK⟩, hS.F ht⟩) hS.2.2 dX10_remark_21
    · have t2 : a1.toInt < (10 : Int) := gl_nle c2
      refine lv_aload_n hx hb dX10_remark_10 rfl (lv_at hl 0 rfl) ?_
      refine lv_iload_n hx hb dX10_remark_11 rfl (lv_at hl 2 rfl) ?_
      refine lv_bipush (v := 60) hx hb dX10_remark_12 (by decide) ?_
      refine qc_Vi (As := [.int a2, .int 60]) (rest := []) (k0 := 2) (u1_isText l D ca o z y a2 60 (h0_4)) kc_yX10_isText ⟨hx, hb, hml, hown, hts⟩ wq_431 rfl rfl ⟨Nat.le_of_ble_eq_true rfl, Nat.le_of_ble_eq_true rfl⟩ wq_all hP hK hS qw_Ai (q0 := 0) (by decide) (hgU_0 ca o _ _) rfl rfl hl.1 rfl (Nat.le_of_ble_eq_true rfl) dX10_remark_14 ⟨Nat.zero_le _, Nat.zero_le _⟩ (fun r3 u3 H locs h3 hP hS _ _ => ?_)
      subst h3
      refine lv_if_ne (tgt := 22) hx hb dX10_remark_17 (by decide) (fun q => absurd q (by decide)) (fun _ => ?_)
      refine lv_iconst (v := (-1)) hx hb dX10_remark_20 (by decide) ?_
      exact W.iret (v := (-1)) hx hb hr (fun t ht hW => ⟨⟨(-1), (z, y), rfl, rfl, by rw [ht]; exact hP, va_K.moved hW.alike hK⟩, hS.F ht⟩) hS.2.2 dX10_remark_21

set_option maxRecDepth 100000 in
set_option maxHeartbeats 4000000 in
theorem uP_form (l : Launch) (D : va_G) (ca : Nat → ClassId) (o : Nat) (z : Nat → Nat → Int32) (y : Nat → Nat → Int64) (a1 : Int32) (a2 : Int32) (h1_5 : z 1 5 = 0) (h1_6 : z 1 6 = 0) (h1_7 : z 1 7 = 0) (h0_4 : z 0 4 = 0) (h0_2 : z 0 2 = 0) (h108_1 : z 108 1 = 0) : qM l yX10_form cX10_form 3 (some .int) 2 82 (qPre D vwCl (qT6 ca) o 132 (qG (GU ca o) z y) [.ref (o + 0), .int a1, .int a2]) (va_Qi (fun r _ => r = A_form a1 a2) (qB D vwCl (qT6 ca) o 132 (fun u : qZ => qG (GU ca o) u.1 u.2)) (qw_A o 132)) (qw_A o 132) := by
  refine Met.ofW (cc := cX10_form) (maxL := 3) (ret := (some .int)) (by decide) rfl ?_
  intro p e s m args below meth c s₁ B hml hv
  obtain ⟨rfl, hP, hK⟩ := hv
  have hx := B.exec
  have hb := B.bytes
  have hr := B.returns
  have hts0 := atoms_spec (ws := Cond.code yX10_form cX10_form 3 (some .int) :: qtbl) B.pre
  have hts : ∀ w ∈ qtbl, w.before _ s = true := fun w h => hts0 w (List.mem_cons_of_mem _ h)
  have hown : s.vm.findClass RX10 = some m.cls := findClass_of_methodNamed B.named
  have hlocks := B.notSynchronized
  have hz0 : (0 : Int32).toInt = 0 := rfl
  have hS : va_S (qw_A o 132) s.heap s.heap [] := va_S.rf
  have hl := lv_entry ([.ref (o + 0), .int a1, .int a2]) (n := 3) (Nat.le_of_ble_eq_true rfl)
  rw [lg_entry_eq]
  generalize (lg_sl ([.ref (o + 0), .int a1, .int a2]) ++ List.replicate (3 - (lg_sl ([.ref (o + 0), .int a1, .int a2])).length) Slot.unset).toArray = ls at hl ⊢
  have hl : lv_has ls 3 [(0, .ref (o + 0)), (1, .int a1), (2, .int a2)] := hl
  refine lv_iload_n hx hb dX10_form_0 rfl (lv_at hl 1 rfl) ?_
  refine lv_if_lt (tgt := 20) hx hb dX10_form_1 (by decide) (fun c1 => ?_) (fun c1 => ?_)
  · have t1 : a1.toInt < (0 : Int) := gl_lt c1
    refine lv_iconst (v := (-1)) hx hb dX10_form_20 (by decide) ?_
    exact W.iret (v := (-1)) hx hb hr (fun t ht hW => ⟨⟨(-1), (z, y), rfl, rfl, by rw [ht]; exact hP, va_K.moved hW.alike hK⟩, hS.F ht⟩) hS.2.2 dX10_form_21
  · have t1 : a1.toInt ≥ (0 : Int) := gl_nlt c1
    refine lv_iload_n hx hb dX10_form_4 rfl (lv_at hl 1 rfl) ?_
    refine lv_bipush (v := 6) hx hb dX10_form_5 (by decide) ?_
    refine lv_icmp_ge (tgt := 20) hx hb dX10_form_7 (by decide) (fun c2 => ?_) (fun c2 => ?_)
    · have t2 : a1.toInt ≥ (6 : Int) := gl_le c2
      refine lv_iconst (v := (-1)) hx hb dX10_form_20 (by decide) ?_
      exact W.iret (v := (-1)) hx hb hr (fun t ht hW => ⟨⟨(-1), (z, y), rfl, rfl, by rw [ht]; exact hP, va_K.moved hW.alike hK⟩, hS.F ht⟩) hS.2.2 dX10_form_21
    · have t2 : a1.toInt < (6 : Int) := gl_nle c2
      refine lv_aload_n hx hb dX10_form_10 rfl (lv_at hl 0 rfl) ?_
      refine lv_iload_n hx hb dX10_form_11 rfl (lv_at hl 2 rfl) ?_
      refine lv_bipush (v := 60) hx hb dX10_form_12 (by decide) ?_
      refine qc_Vi (As := [.int a2, .int 60]) (rest := []) (k0 := 2) (u1_isText l D ca o z y a2 60 (h0_4)) kc_yX10_isText ⟨hx, hb, hml, hown, hts⟩ wq_431 rfl rfl ⟨Nat.le_of_ble_eq_true rfl, Nat.le_of_ble_eq_true rfl⟩ wq_all hP hK hS qw_Ai (q0 := 0) (by decide) (hgU_0 ca o _ _) rfl rfl hl.1 rfl (Nat.le_of_ble_eq_true rfl) dX10_form_14 ⟨Nat.zero_le _, Nat.zero_le _⟩ (fun r3 u3 H locs h3 hP hS _ _ => ?_)
      subst h3
      refine lv_if_ne (tgt := 22) hx hb dX10_form_17 (by decide) (fun q => absurd q (by decide)) (fun _ => ?_)
      refine lv_iconst (v := (-1)) hx hb dX10_form_20 (by decide) ?_
      exact W.iret (v := (-1)) hx hb hr (fun t ht hW => ⟨⟨(-1), (z, y), rfl, rfl, by rw [ht]; exact hP, va_K.moved hW.alike hK⟩, hS.F ht⟩) hS.2.2 dX10_form_21

set_option maxRecDepth 100000 in
set_option maxHeartbeats 4000000 in
theorem uP_takeBack (l : Launch) (D : va_G) (ca : Nat → ClassId) (o : Nat) (z : Nat → Nat → Int32) (y : Nat → Nat → Int64) (a1 : Int32) (h1_5 : z 1 5 = 0) (h1_6 : z 1 6 = 0) (h1_7 : z 1 7 = 0) (h0_4 : z 0 4 = 0) (h0_2 : z 0 2 = 0) (h108_1 : z 108 1 = 0) : qM l yX10_takeBack cX10_takeBack 2 (some .boolean) 3 102 (qPre D vwCl (qT6 ca) o 132 (qG (GU ca o) z y) [.ref (o + 0), .int a1]) (va_Qi (fun r _ => r = A_takeBack a1) (qB D vwCl (qT6 ca) o 132 (fun u : qZ => qG (GU ca o) u.1 u.2)) (qw_A o 132)) (qw_A o 132) := by
  refine Met.ofW (cc := cX10_takeBack) (maxL := 2) (ret := (some .boolean)) (by decide) rfl ?_
  intro p e s m args below meth c s₁ B hml hv
  obtain ⟨rfl, hP, hK⟩ := hv
  have hx := B.exec
  have hb := B.bytes
  have hr := B.returns
  have hts0 := atoms_spec (ws := Cond.code yX10_takeBack cX10_takeBack 2 (some .boolean) :: qtbl) B.pre
  have hts : ∀ w ∈ qtbl, w.before _ s = true := fun w h => hts0 w (List.mem_cons_of_mem _ h)
  have hown : s.vm.findClass RX10 = some m.cls := findClass_of_methodNamed B.named
  have hlocks := B.notSynchronized
  have hz0 : (0 : Int32).toInt = 0 := rfl
  have hS : va_S (qw_A o 132) s.heap s.heap [] := va_S.rf
  have hl := lv_entry ([.ref (o + 0), .int a1]) (n := 2) (Nat.le_of_ble_eq_true rfl)
  rw [lg_entry_eq]
  generalize (lg_sl ([.ref (o + 0), .int a1]) ++ List.replicate (2 - (lg_sl ([.ref (o + 0), .int a1])).length) Slot.unset).toArray = ls at hl ⊢
  have hl : lv_has ls 2 [(0, .ref (o + 0)), (1, .int a1)] := hl
  refine lv_aload_n hx hb dX10_takeBack_0 rfl (lv_at hl 0 rfl) ?_
  refine qf_get hx hb hts inX10 hown hK hP (q0 := 0) (by decide) (hgU_0 ca o) rfl 0 (by decide) wq_353 (v := .ref (o + 1)) rfl dX10_takeBack_1 ?_
  refine lv_iload_n hx hb dX10_takeBack_4 rfl (lv_at hl 1 rfl) ?_
  refine qc_Vi (As := [.int a1]) (rest := []) (k0 := 1) (u1_hasRemark l D ca o z y a1 (h1_6)) kc_yX9_hasRemark ⟨hx, hb, hml, hown, hts⟩ wq_527 rfl rfl ⟨Nat.le_of_ble_eq_true rfl, Nat.le_of_ble_eq_true rfl⟩ wq_all hP hK hS qw_Ai (q0 := 1) (by decide) (hgU_1 ca o _ _) rfl rfl hl.1 rfl (Nat.le_of_ble_eq_true rfl) dX10_takeBack_5 ⟨Nat.zero_le _, Nat.zero_le _⟩ (fun r1 u1 H locs h1 hP hS _ _ => ?_)
  subst h1
  refine lv_if_ne (tgt := 13) hx hb dX10_takeBack_8 (by decide) (fun q => absurd q (by decide)) (fun _ => ?_)
  refine lv_iconst (v := 0) hx hb dX10_takeBack_11 (by decide) ?_
  exact W.zret (v := 0) (ty := .boolean) hx hb hr rfl (fun t ht hW => ⟨⟨0, (z, y), rfl, rfl, by rw [ht]; exact hP, va_K.moved hW.alike hK⟩, hS.F ht⟩) hS.2.2 dX10_takeBack_12

set_option maxRecDepth 100000 in
set_option maxHeartbeats 4000000 in
theorem uP_rows (l : Launch) (D : va_G) (ca : Nat → ClassId) (o : Nat) (z : Nat → Nat → Int32) (y : Nat → Nat → Int64)  (h1_5 : z 1 5 = 0) (h1_6 : z 1 6 = 0) (h1_7 : z 1 7 = 0) (h0_4 : z 0 4 = 0) (h0_2 : z 0 2 = 0) (h108_1 : z 108 1 = 0) : qM l yX10_rows cX10_rows 3 (some .int) 3 104 (qPre D vwCl (qT6 ca) o 132 (qG (GU ca o) z y) [.ref (o + 0)]) (va_Qi (fun r _ => r = A_rows ) (qB D vwCl (qT6 ca) o 132 (fun u : qZ => qG (GU ca o) u.1 u.2)) (qw_A o 132)) (qw_A o 132) := by
  refine Met.ofW (cc := cX10_rows) (maxL := 3) (ret := (some .int)) (by decide) rfl ?_
  intro p e s m args below meth c s₁ B hml hv
  obtain ⟨rfl, hP, hK⟩ := hv
  have hx := B.exec
  have hb := B.bytes
  have hr := B.returns
  have hts0 := atoms_spec (ws := Cond.code yX10_rows cX10_rows 3 (some .int) :: qtbl) B.pre
  have hts : ∀ w ∈ qtbl, w.before _ s = true := fun w h => hts0 w (List.mem_cons_of_mem _ h)
  have hown : s.vm.findClass RX10 = some m.cls := findClass_of_methodNamed B.named
  have hlocks := B.notSynchronized
  have hz0 : (0 : Int32).toInt = 0 := rfl
  have hS : va_S (qw_A o 132) s.heap s.heap [] := va_S.rf
  have hl := lv_entry ([.ref (o + 0)]) (n := 3) (Nat.le_of_ble_eq_true rfl)
  rw [lg_entry_eq]
  generalize (lg_sl ([.ref (o + 0)]) ++ List.replicate (3 - (lg_sl ([.ref (o + 0)])).length) Slot.unset).toArray = ls at hl ⊢
  have hl : lv_has ls 3 [(0, .ref (o + 0))] := hl
  refine lv_aload_n hx hb dX10_rows_0 rfl (lv_at hl 0 rfl) ?_
  refine qf_get hx hb hts inX10 hown hK hP (q0 := 0) (by decide) (hgU_0 ca o) rfl 0 (by decide) wq_353 (v := .ref (o + 1)) rfl dX10_rows_1 ?_
  refine qc_Vl (As := []) (rest := []) (k0 := 0) (u1_allRows l D ca o z y (h1_5)) kc_yX9_allRows ⟨hx, hb, hml, hown, hts⟩ wq_573 rfl rfl ⟨Nat.le_of_ble_eq_true rfl, Nat.le_of_ble_eq_true rfl⟩ wq_all hP hK hS qw_Ai (q0 := 1) (by decide) (hgU_1 ca o _ _) rfl rfl hl.1 rfl (Nat.le_of_ble_eq_true rfl) dX10_rows_4 ⟨Nat.zero_le _, Nat.zero_le _⟩ (fun r1 u1 H locs h1 hP hS _ _ => ?_)
  subst h1
  refine lv_lstore_n (lv' := [(1, .long 1), (0, .ref (o + 0))]) hx hb dX10_rows_7 rfl hl (by decide) rfl (fun ls hl => ?_)
  refine lv_lload_n hx hb dX10_rows_8 rfl (lv_at hl 0 rfl) ?_
  refine lv_ldc2 (v := 200000) hx hb hown (hts _ wq_578) dX10_rows_9 ?_
  refine W.lcmp hx hb dX10_rows_12 ?_
  refine qtop (x' := (-1)) (by decide) ?_
  refine lv_if_le (tgt := 21) hx hb dX10_rows_13 (by decide) (fun _ => ?_) (fun q => absurd (by decide) q)
  refine lv_lload_n hx hb dX10_rows_21 rfl (lv_at hl 0 rfl) ?_
  refine lv_l2i (v := 1) hx hb dX10_rows_22 (by decide) ?_
  exact W.iret (v := 1) hx hb hr (fun t ht hW => ⟨⟨1, (z, y), rfl, rfl, by rw [ht]; exact hP, va_K.moved hW.alike hK⟩, hS.F ht⟩) hS.2.2 dX10_rows_23

set_option maxRecDepth 100000 in
set_option maxHeartbeats 4000000 in
theorem uP_fit (l : Launch) (D : va_G) (ca : Nat → ClassId) (o : Nat) (z : Nat → Nat → Int32) (y : Nat → Nat → Int64) (a1 : Int32) (a2 : Int32) (h1_5 : z 1 5 = 0) (h1_6 : z 1 6 = 0) (h1_7 : z 1 7 = 0) (h0_4 : z 0 4 = 0) (h0_2 : z 0 2 = 0) (h108_1 : z 108 1 = 0) : qM l yX10_fit cX10_fit 4 (some .int) 5 149 (qPre D vwCl (qT6 ca) o 132 (qG (GU ca o) z y) [.ref (o + 0), .int a1, .int a2]) (va_Qi (fun r _ => r = A_fit a1 a2) (qB D vwCl (qT6 ca) o 132 (fun u : qZ => qG (GU ca o) u.1 u.2)) (qw_A o 132)) (qw_A o 132) := by
  refine Met.ofW (cc := cX10_fit) (maxL := 4) (ret := (some .int)) (by decide) rfl ?_
  intro p e s m args below meth c s₁ B hml hv
  obtain ⟨rfl, hP, hK⟩ := hv
  have hx := B.exec
  have hb := B.bytes
  have hr := B.returns
  have hts0 := atoms_spec (ws := Cond.code yX10_fit cX10_fit 4 (some .int) :: qtbl) B.pre
  have hts : ∀ w ∈ qtbl, w.before _ s = true := fun w h => hts0 w (List.mem_cons_of_mem _ h)
  have hown : s.vm.findClass RX10 = some m.cls := findClass_of_methodNamed B.named
  have hlocks := B.notSynchronized
  have hz0 : (0 : Int32).toInt = 0 := rfl
  have hS : va_S (qw_A o 132) s.heap s.heap [] := va_S.rf
  have hl := lv_entry ([.ref (o + 0), .int a1, .int a2]) (n := 4) (Nat.le_of_ble_eq_true rfl)
  rw [lg_entry_eq]
  generalize (lg_sl ([.ref (o + 0), .int a1, .int a2]) ++ List.replicate (4 - (lg_sl ([.ref (o + 0), .int a1, .int a2])).length) Slot.unset).toArray = ls at hl ⊢
  have hl : lv_has ls 4 [(0, .ref (o + 0)), (1, .int a1), (2, .int a2)] := hl
  refine lv_aload_n hx hb dX10_fit_0 rfl (lv_at hl 0 rfl) ?_
  refine lv_iload_n hx hb dX10_fit_1 rfl (lv_at hl 1 rfl) ?_
  refine qc_Vi (As := [.int a1]) (rest := []) (k0 := 1) (u1_areRemarks l D ca o z y a1 (h1_6)) kc_yX10_areRemarks ⟨hx, hb, hml, hown, hts⟩ wq_583 rfl rfl ⟨Nat.le_of_ble_eq_true rfl, Nat.le_of_ble_eq_true rfl⟩ wq_all hP hK hS qw_Ai (q0 := 0) (by decide) (hgU_0 ca o _ _) rfl rfl hl.1 rfl (Nat.le_of_ble_eq_true rfl) dX10_fit_2 ⟨Nat.zero_le _, Nat.zero_le _⟩ (fun r1 u1 H locs h1 hP hS _ _ => ?_)
  rcases h1 with ⟨h1r, h1a⟩ | ⟨h1r, h1a⟩
  · subst h1r
    obtain rfl : a1 = 0 := gr_eq (y := 0) h1a
    refine lv_if_eq (tgt := 31) hx hb dX10_fit_5 (by decide) (fun q => absurd q (by decide)) (fun _ => ?_)
    refine lv_iload_n hx hb dX10_fit_8 rfl (lv_at hl 2 rfl) ?_
    refine lv_bipush (v := 100) hx hb dX10_fit_9 (by decide) ?_
    refine lv_icmp_eq (tgt := 33) hx hb dX10_fit_11 (by decide) (fun c2 => ?_) (fun c2 => ?_)
    · have t2 : a2.toInt = (100 : Int) := gl_eq c2
      refine lv_iload_n hx hb dX10_fit_33 rfl (lv_at hl 2 rfl) ?_
      refine lv_bipush (v := 6) hx hb dX10_fit_34 (by decide) ?_
      refine lv_icmp_ge (tgt := 66) hx hb dX10_fit_36 (by decide) (fun _ => ?_) (fun q => absurd (gr_le (by show (6 : Int) ≤ a2.toInt; omega)) q)
      refine lv_aload_n hx hb dX10_fit_66 rfl (lv_at hl 0 rfl) ?_
      refine qf_get hx hb hts inX10 hown hK hP (q0 := 0) (by decide) (hgU_0 ca o) rfl 7 (by decide) wq_360 (v := .ref (o + 108)) rfl dX10_fit_67 ?_
      refine lv_aload_n hx hb dX10_fit_70 rfl (lv_at hl 0 rfl) ?_
      refine qf_get hx hb hts inX10 hown hK hP (q0 := 0) (by decide) (hgU_0 ca o) rfl 6 (by decide) wq_359 (v := .ref (o + 104)) rfl dX10_fit_71 ?_
      refine qc_Vi (As := [.ref (o + 104)]) (rest := []) (k0 := 1) (u1_isCounted l D ca o z y (h1_5) (h1_6) (h108_1)) kc_yX3_isCounted ⟨hx, hb, hml, hown, hts⟩ wq_627 rfl rfl ⟨Nat.le_of_ble_eq_true rfl, Nat.le_of_ble_eq_true rfl⟩ wq_all hP hK hS qw_Ai (q0 := 108) (by decide) (hgU_108 ca o _ _) rfl rfl hl.1 rfl (Nat.le_of_ble_eq_true rfl) dX10_fit_74 ⟨Nat.zero_le _, Nat.zero_le _⟩ (fun r3 u3 H locs h3 hP hS _ _ => ?_)
      obtain ⟨z3, y3⟩ := u3
      obtain ⟨h3r, h3f, h3y, h3m⟩ := h3
      dsimp only at h3f h3y h3m hP
      subst h3r; rw [h3y] at hP
      have f3_0_2 : z3 0 2 = 0 := (congrFun (h3f 0 (by decide) (by decide) (by decide) (by decide)) 2).trans (h0_2)
      have f3_0_4 : z3 0 4 = 0 := (congrFun (h3f 0 (by decide) (by decide) (by decide) (by decide)) 4).trans (h0_4)
      have f3_1_5 : z3 1 5 = 0 := (congrFun (h3f 1 (by decide) (by decide) (by decide) (by decide)) 5).trans (h1_5)
      have f3_1_6 : z3 1 6 = 0 := (congrFun (h3f 1 (by decide) (by decide) (by decide) (by decide)) 6).trans (h1_6)
      have f3_1_7 : z3 1 7 = 0 := (congrFun (h3f 1 (by decide) (by decide) (by decide) (by decide)) 7).trans (h1_7)
      refine lv_if_ne (tgt := 83) hx hb dX10_fit_77 (by decide) (fun _ => ?_) (fun q => absurd q (by decide))
      refine lv_iload_n hx hb dX10_fit_83 rfl (lv_at hl 2 rfl) ?_
      refine lv_bipush (v := 100) hx hb dX10_fit_84 (by decide) ?_
      refine lv_icmp_ne (tgt := 100) hx hb dX10_fit_86 (by decide) (fun q => absurd q (not_not_intro (gr_eq (by show a2.toInt = (100 : Int); omega)))) (fun _ => ?_)
      refine lv_aload_n hx hb dX10_fit_89 rfl (lv_at hl 0 rfl) ?_
      refine qf_get hx hb hts inX10 hown hK hP (q0 := 0) (by decide) (hgU_0 ca o) rfl 7 (by decide) wq_360 (v := .ref (o + 108)) rfl dX10_fit_90 ?_
      refine lv_iload_n hx hb dX10_fit_93 rfl (lv_at hl 1 rfl) ?_
      refine qc_Vi (As := [.int 0]) (rest := []) (k0 := 1) (u1_of0 l D ca o z3 y (h3m.1)) kc_yX3_of ⟨hx, hb, hml, hown, hts⟩ wq_644 rfl rfl ⟨Nat.le_of_ble_eq_true rfl, Nat.le_of_ble_eq_true rfl⟩ wq_all hP hK hS qw_Ai (q0 := 108) (by decide) (hgU_108 ca o _ _) rfl rfl hl.1 rfl (Nat.le_of_ble_eq_true rfl) dX10_fit_94 ⟨Nat.zero_le _, Nat.zero_le _⟩ (fun r4 u4 H locs h4 hP hS _ _ => ?_)
      subst h4
      refine lv_goto (tgt := 108) hx hb dX10_fit_97 (by decide) ?_
      exact W.iret (v := 1) hx hb hr (fun t ht hW => ⟨⟨1, (z3, y), rfl, (ga_p (by omega)), by rw [ht]; exact hP, va_K.moved hW.alike hK⟩, hS.F ht⟩) hS.2.2 dX10_fit_108
    · have t2 : a2.toInt ≠ (100 : Int) := gl_ne c2
      refine lv_iload_n hx hb dX10_fit_14 rfl (lv_at hl 2 rfl) ?_
      refine lv_bipush (v := 101) hx hb dX10_fit_15 (by decide) ?_
      refine lv_icmp_eq (tgt := 33) hx hb dX10_fit_17 (by decide) (fun c5 => ?_) (fun c5 => ?_)
      · have t5 : a2.toInt = (101 : Int) := gl_eq c5
        refine lv_iload_n hx hb dX10_fit_33 rfl (lv_at hl 2 rfl) ?_
        refine lv_bipush (v := 6) hx hb dX10_fit_34 (by decide) ?_
        refine lv_icmp_ge (tgt := 66) hx hb dX10_fit_36 (by decide) (fun _ => ?_) (fun q => absurd (gr_le (by show (6 : Int) ≤ a2.toInt; omega)) q)
        refine lv_aload_n hx hb dX10_fit_66 rfl (lv_at hl 0 rfl) ?_
        refine qf_get hx hb hts inX10 hown hK hP (q0 := 0) (by decide) (hgU_0 ca o) rfl 7 (by decide) wq_360 (v := .ref (o + 108)) rfl dX10_fit_67 ?_
        refine lv_aload_n hx hb dX10_fit_70 rfl (lv_at hl 0 rfl) ?_
        refine qf_get hx hb hts inX10 hown hK hP (q0 := 0) (by decide) (hgU_0 ca o) rfl 6 (by decide) wq_359 (v := .ref (o + 104)) rfl dX10_fit_71 ?_
        refine qc_Vi (As := [.ref (o + 104)]) (rest := []) (k0 := 1) (u1_isCounted l D ca o z y (h1_5) (h1_6) (h108_1)) kc_yX3_isCounted ⟨hx, hb, hml, hown, hts⟩ wq_627 rfl rfl ⟨Nat.le_of_ble_eq_true rfl, Nat.le_of_ble_eq_true rfl⟩ wq_all hP hK hS qw_Ai (q0 := 108) (by decide) (hgU_108 ca o _ _) rfl rfl hl.1 rfl (Nat.le_of_ble_eq_true rfl) dX10_fit_74 ⟨Nat.zero_le _, Nat.zero_le _⟩ (fun r6 u6 H locs h6 hP hS _ _ => ?_)
        obtain ⟨z6, y6⟩ := u6
        obtain ⟨h6r, h6f, h6y, h6m⟩ := h6
        dsimp only at h6f h6y h6m hP
        subst h6r; rw [h6y] at hP
        have f6_0_2 : z6 0 2 = 0 := (congrFun (h6f 0 (by decide) (by decide) (by decide) (by decide)) 2).trans (h0_2)
        have f6_0_4 : z6 0 4 = 0 := (congrFun (h6f 0 (by decide) (by decide) (by decide) (by decide)) 4).trans (h0_4)
        have f6_1_5 : z6 1 5 = 0 := (congrFun (h6f 1 (by decide) (by decide) (by decide) (by decide)) 5).trans (h1_5)
        have f6_1_6 : z6 1 6 = 0 := (congrFun (h6f 1 (by decide) (by decide) (by decide) (by decide)) 6).trans (h1_6)
        have f6_1_7 : z6 1 7 = 0 := (congrFun (h6f 1 (by decide) (by decide) (by decide) (by decide)) 7).trans (h1_7)
        refine lv_if_ne (tgt := 83) hx hb dX10_fit_77 (by decide) (fun _ => ?_) (fun q => absurd q (by decide))
        refine lv_iload_n hx hb dX10_fit_83 rfl (lv_at hl 2 rfl) ?_
        refine lv_bipush (v := 100) hx hb dX10_fit_84 (by decide) ?_
        refine lv_icmp_ne (tgt := 100) hx hb dX10_fit_86 (by decide) (fun _ => ?_) (fun q => absurd q (gr_ne (by show a2.toInt ≠ (100 : Int); omega)))
        refine lv_aload_n hx hb dX10_fit_100 rfl (lv_at hl 0 rfl) ?_
        refine qf_get hx hb hts inX10 hown hK hP (q0 := 0) (by decide) (hgU_0 ca o) rfl 7 (by decide) wq_360 (v := .ref (o + 108)) rfl dX10_fit_101 ?_
        refine lv_iload_n hx hb dX10_fit_104 rfl (lv_at hl 1 rfl) ?_
        refine qc_Vi (As := [.int 0]) (rest := []) (k0 := 1) (u1_allButOne l D ca o z6 y (h6m.1)) kc_yX3_allButOne ⟨hx, hb, hml, hown, hts⟩ wq_648 rfl rfl ⟨Nat.le_of_ble_eq_true rfl, Nat.le_of_ble_eq_true rfl⟩ wq_all hP hK hS qw_Ai (q0 := 108) (by decide) (hgU_108 ca o _ _) rfl rfl hl.1 rfl (Nat.le_of_ble_eq_true rfl) dX10_fit_105 ⟨Nat.zero_le _, Nat.zero_le _⟩ (fun r7 u7 H locs h7 hP hS _ _ => ?_)
        subst h7
        exact W.iret (v := 1) hx hb hr (fun t ht hW => ⟨⟨1, (z6, y), rfl, (ga_p (by omega)), by rw [ht]; exact hP, va_K.moved hW.alike hK⟩, hS.F ht⟩) hS.2.2 dX10_fit_108
      · have t5 : a2.toInt ≠ (101 : Int) := gl_ne c5
        refine lv_aload_n hx hb dX10_fit_20 rfl (lv_at hl 0 rfl) ?_
        refine qf_get hx hb hts inX10 hown hK hP (q0 := 0) (by decide) (hgU_0 ca o) rfl 0 (by decide) wq_353 (v := .ref (o + 1)) rfl dX10_fit_21 ?_
        refine lv_iload_n hx hb dX10_fit_24 rfl (lv_at hl 2 rfl) ?_
        refine qc_Vi (As := [.int a2]) (rest := []) (k0 := 1) (u1_hasPerson l D ca o z y a2 (h1_5)) kc_yX9_hasPerson ⟨hx, hb, hml, hown, hts⟩ wq_411 rfl rfl ⟨Nat.le_of_ble_eq_true rfl, Nat.le_of_ble_eq_true rfl⟩ wq_all hP hK hS qw_Ai (q0 := 1) (by decide) (hgU_1 ca o _ _) rfl rfl hl.1 rfl (Nat.le_of_ble_eq_true rfl) dX10_fit_25 ⟨Nat.zero_le _, Nat.zero_le _⟩ (fun r8 u8 H locs h8 hP hS _ _ => ?_)
        subst h8
        refine lv_if_ne (tgt := 33) hx hb dX10_fit_28 (by decide) (fun q => absurd q (by decide)) (fun _ => ?_)
        refine lv_iconst (v := (-1)) hx hb dX10_fit_31 (by decide) ?_
        exact W.iret (v := (-1)) hx hb hr (fun t ht hW => ⟨⟨(-1), (z, y), rfl, (ga_n (by omega)), by rw [ht]; exact hP, va_K.moved hW.alike hK⟩, hS.F ht⟩) hS.2.2 dX10_fit_32
  · subst h1r
    refine lv_if_eq (tgt := 31) hx hb dX10_fit_5 (by decide) (fun _ => ?_) (fun q => absurd (by decide) q)
    refine lv_iconst (v := (-1)) hx hb dX10_fit_31 (by decide) ?_
    exact W.iret (v := (-1)) hx hb hr (fun t ht hW => ⟨⟨(-1), (z, y), rfl, (ga_n (by omega)), by rw [ht]; exact hP, va_K.moved hW.alike hK⟩, hS.F ht⟩) hS.2.2 dX10_fit_32

set_option maxRecDepth 100000 in
set_option maxHeartbeats 4000000 in
theorem uP_ageIs (l : Launch) (D : va_G) (ca : Nat → ClassId) (o : Nat) (z : Nat → Nat → Int32) (y : Nat → Nat → Int64) (a1 : Int32) (a2 : Int32) (a3 : Int32) (h1_5 : z 1 5 = 0) (h1_6 : z 1 6 = 0) (h1_7 : z 1 7 = 0) (h0_4 : z 0 4 = 0) (h0_2 : z 0 2 = 0) (h108_1 : z 108 1 = 0) : qM l yX10_ageIs cX10_ageIs 5 (some .int) 3 101 (qPre D vwCl (qT6 ca) o 132 (qG (GU ca o) z y) [.ref (o + 0), .int a1, .int a2, .int a3]) (va_Qi (fun r _ => r = A_ageIs a1 a2 a3) (qB D vwCl (qT6 ca) o 132 (fun u : qZ => qG (GU ca o) u.1 u.2)) (qw_A o 132)) (qw_A o 132) := by
  refine Met.ofW (cc := cX10_ageIs) (maxL := 5) (ret := (some .int)) (by decide) rfl ?_
  intro p e s m args below meth c s₁ B hml hv
  obtain ⟨rfl, hP, hK⟩ := hv
  have hx := B.exec
  have hb := B.bytes
  have hr := B.returns
  have hts0 := atoms_spec (ws := Cond.code yX10_ageIs cX10_ageIs 5 (some .int) :: qtbl) B.pre
  have hts : ∀ w ∈ qtbl, w.before _ s = true := fun w h => hts0 w (List.mem_cons_of_mem _ h)
  have hown : s.vm.findClass RX10 = some m.cls := findClass_of_methodNamed B.named
  have hlocks := B.notSynchronized
  have hz0 : (0 : Int32).toInt = 0 := rfl
  have hS : va_S (qw_A o 132) s.heap s.heap [] := va_S.rf
  have hl := lv_entry ([.ref (o + 0), .int a1, .int a2, .int a3]) (n := 5) (Nat.le_of_ble_eq_true rfl)
  rw [lg_entry_eq]
  generalize (lg_sl ([.ref (o + 0), .int a1, .int a2, .int a3]) ++ List.replicate (5 - (lg_sl ([.ref (o + 0), .int a1, .int a2, .int a3])).length) Slot.unset).toArray = ls at hl ⊢
  have hl : lv_has ls 5 [(0, .ref (o + 0)), (1, .int a1), (2, .int a2), (3, .int a3)] := hl
  refine lv_aload_n hx hb dX10_ageIs_0 rfl (lv_at hl 0 rfl) ?_
  refine lv_iload_n hx hb dX10_ageIs_1 rfl (lv_at hl 1 rfl) ?_
  refine qc_Vi (As := [.int a1]) (rest := []) (k0 := 1) (u1_areRemarks l D ca o z y a1 (h1_6)) kc_yX10_areRemarks ⟨hx, hb, hml, hown, hts⟩ wq_583 rfl rfl ⟨Nat.le_of_ble_eq_true rfl, Nat.le_of_ble_eq_true rfl⟩ wq_all hP hK hS qw_Ai (q0 := 0) (by decide) (hgU_0 ca o _ _) rfl rfl hl.1 rfl (Nat.le_of_ble_eq_true rfl) dX10_ageIs_2 ⟨Nat.zero_le _, Nat.zero_le _⟩ (fun r1 u1 H locs h1 hP hS _ _ => ?_)
  rcases h1 with ⟨h1r, h1a⟩ | ⟨h1r, h1a⟩
  · subst h1r
    obtain rfl : a1 = 0 := gr_eq (y := 0) h1a
    refine lv_if_eq (tgt := 28) hx hb dX10_ageIs_5 (by decide) (fun q => absurd q (by decide)) (fun _ => ?_)
    refine lv_aload_n hx hb dX10_ageIs_8 rfl (lv_at hl 0 rfl) ?_
    refine qf_get hx hb hts inX10 hown hK hP (q0 := 0) (by decide) (hgU_0 ca o) rfl 0 (by decide) wq_353 (v := .ref (o + 1)) rfl dX10_ageIs_9 ?_
    refine lv_iload_n hx hb dX10_ageIs_12 rfl (lv_at hl 2 rfl) ?_
    refine qc_Vi (As := [.int a2]) (rest := []) (k0 := 1) (u1_hasPerson l D ca o z y a2 (h1_5)) kc_yX9_hasPerson ⟨hx, hb, hml, hown, hts⟩ wq_411 rfl rfl ⟨Nat.le_of_ble_eq_true rfl, Nat.le_of_ble_eq_true rfl⟩ wq_all hP hK hS qw_Ai (q0 := 1) (by decide) (hgU_1 ca o _ _) rfl rfl hl.1 rfl (Nat.le_of_ble_eq_true rfl) dX10_ageIs_13 ⟨Nat.zero_le _, Nat.zero_le _⟩ (fun r2 u2 H locs h2 hP hS _ _ => ?_)
    subst h2
    refine lv_if_eq (tgt := 28) hx hb dX10_ageIs_16 (by decide) (fun _ => ?_) (fun q => absurd (by decide) q)
    refine lv_iconst (v := (-1)) hx hb dX10_ageIs_28 (by decide) ?_
    exact W.iret (v := (-1)) hx hb hr (fun t ht hW => ⟨⟨(-1), (z, y), rfl, rfl, by rw [ht]; exact hP, va_K.moved hW.alike hK⟩, hS.F ht⟩) hS.2.2 dX10_ageIs_29
  · subst h1r
    refine lv_if_eq (tgt := 28) hx hb dX10_ageIs_5 (by decide) (fun _ => ?_) (fun q => absurd (by decide) q)
    refine lv_iconst (v := (-1)) hx hb dX10_ageIs_28 (by decide) ?_
    exact W.iret (v := (-1)) hx hb hr (fun t ht hW => ⟨⟨(-1), (z, y), rfl, rfl, by rw [ht]; exact hP, va_K.moved hW.alike hK⟩, hS.F ht⟩) hS.2.2 dX10_ageIs_29

set_option maxRecDepth 100000 in
set_option maxHeartbeats 4000000 in
theorem uP_aged (l : Launch) (D : va_G) (ca : Nat → ClassId) (o : Nat) (z : Nat → Nat → Int32) (y : Nat → Nat → Int64) (a1 : Int32) (a2 : Int32) (a3 : Int32) (h1_5 : z 1 5 = 0) (h1_6 : z 1 6 = 0) (h1_7 : z 1 7 = 0) (h0_4 : z 0 4 = 0) (h0_2 : z 0 2 = 0) (h108_1 : z 108 1 = 0) : qM l yX10_aged cX10_aged 5 (some .int) 3 101 (qPre D vwCl (qT6 ca) o 132 (qG (GU ca o) z y) [.ref (o + 0), .int a1, .int a2, .int a3]) (va_Qi (fun r _ => r = A_aged a1 a2 a3) (qB D vwCl (qT6 ca) o 132 (fun u : qZ => qG (GU ca o) u.1 u.2)) (qw_A o 132)) (qw_A o 132) := by
  refine Met.ofW (cc := cX10_aged) (maxL := 5) (ret := (some .int)) (by decide) rfl ?_
  intro p e s m args below meth c s₁ B hml hv
  obtain ⟨rfl, hP, hK⟩ := hv
  have hx := B.exec
  have hb := B.bytes
  have hr := B.returns
  have hts0 := atoms_spec (ws := Cond.code yX10_aged cX10_aged 5 (some .int) :: qtbl) B.pre
  have hts : ∀ w ∈ qtbl, w.before _ s = true := fun w h => hts0 w (List.mem_cons_of_mem _ h)
  have hown : s.vm.findClass RX10 = some m.cls := findClass_of_methodNamed B.named
  have hlocks := B.notSynchronized
  have hz0 : (0 : Int32).toInt = 0 := rfl
  have hS : va_S (qw_A o 132) s.heap s.heap [] := va_S.rf
  have hl := lv_entry ([.ref (o + 0), .int a1, .int a2, .int a3]) (n := 5) (Nat.le_of_ble_eq_true rfl)
  rw [lg_entry_eq]
  generalize (lg_sl ([.ref (o + 0), .int a1, .int a2, .int a3]) ++ List.replicate (5 - (lg_sl ([.ref (o + 0), .int a1, .int a2, .int a3])).length) Slot.unset).toArray = ls at hl ⊢
  have hl : lv_has ls 5 [(0, .ref (o + 0)), (1, .int a1), (2, .int a2), (3, .int a3)] := hl
  refine lv_aload_n hx hb dX10_aged_0 rfl (lv_at hl 0 rfl) ?_
  refine lv_iload_n hx hb dX10_aged_1 rfl (lv_at hl 1 rfl) ?_
  refine qc_Vi (As := [.int a1]) (rest := []) (k0 := 1) (u1_areRemarks l D ca o z y a1 (h1_6)) kc_yX10_areRemarks ⟨hx, hb, hml, hown, hts⟩ wq_583 rfl rfl ⟨Nat.le_of_ble_eq_true rfl, Nat.le_of_ble_eq_true rfl⟩ wq_all hP hK hS qw_Ai (q0 := 0) (by decide) (hgU_0 ca o _ _) rfl rfl hl.1 rfl (Nat.le_of_ble_eq_true rfl) dX10_aged_2 ⟨Nat.zero_le _, Nat.zero_le _⟩ (fun r1 u1 H locs h1 hP hS _ _ => ?_)
  rcases h1 with ⟨h1r, h1a⟩ | ⟨h1r, h1a⟩
  · subst h1r
    obtain rfl : a1 = 0 := gr_eq (y := 0) h1a
    refine lv_if_eq (tgt := 29) hx hb dX10_aged_5 (by decide) (fun q => absurd q (by decide)) (fun _ => ?_)
    refine lv_aload_n hx hb dX10_aged_8 rfl (lv_at hl 0 rfl) ?_
    refine qf_get hx hb hts inX10 hown hK hP (q0 := 0) (by decide) (hgU_0 ca o) rfl 0 (by decide) wq_353 (v := .ref (o + 1)) rfl dX10_aged_9 ?_
    refine lv_iload_n hx hb dX10_aged_12 rfl (lv_at hl 2 rfl) ?_
    refine qc_Vi (As := [.int a2]) (rest := []) (k0 := 1) (u1_hasPerson l D ca o z y a2 (h1_5)) kc_yX9_hasPerson ⟨hx, hb, hml, hown, hts⟩ wq_411 rfl rfl ⟨Nat.le_of_ble_eq_true rfl, Nat.le_of_ble_eq_true rfl⟩ wq_all hP hK hS qw_Ai (q0 := 1) (by decide) (hgU_1 ca o _ _) rfl rfl hl.1 rfl (Nat.le_of_ble_eq_true rfl) dX10_aged_13 ⟨Nat.zero_le _, Nat.zero_le _⟩ (fun r2 u2 H locs h2 hP hS _ _ => ?_)
    subst h2
    refine lv_if_eq (tgt := 29) hx hb dX10_aged_16 (by decide) (fun _ => ?_) (fun q => absurd (by decide) q)
    refine lv_iconst (v := (-1)) hx hb dX10_aged_29 (by decide) ?_
    exact W.iret (v := (-1)) hx hb hr (fun t ht hW => ⟨⟨(-1), (z, y), rfl, rfl, by rw [ht]; exact hP, va_K.moved hW.alike hK⟩, hS.F ht⟩) hS.2.2 dX10_aged_30
  · subst h1r
    refine lv_if_eq (tgt := 29) hx hb dX10_aged_5 (by decide) (fun _ => ?_) (fun q => absurd (by decide) q)
    refine lv_iconst (v := (-1)) hx hb dX10_aged_29 (by decide) ?_
    exact W.iret (v := (-1)) hx hb hr (fun t ht hW => ⟨⟨(-1), (z, y), rfl, rfl, by rw [ht]; exact hP, va_K.moved hW.alike hK⟩, hS.F ht⟩) hS.2.2 dX10_aged_30

set_option maxRecDepth 100000 in
set_option maxHeartbeats 4000000 in
theorem uP_follows (l : Launch) (D : va_G) (ca : Nat → ClassId) (o : Nat) (z : Nat → Nat → Int32) (y : Nat → Nat → Int64) (a1 : Int32) (a2 : Int32) (h1_5 : z 1 5 = 0) (h1_6 : z 1 6 = 0) (h1_7 : z 1 7 = 0) (h0_4 : z 0 4 = 0) (h0_2 : z 0 2 = 0) (h108_1 : z 108 1 = 0) : qM l yX10_follows cX10_follows 6 (some .int) 5 149 (qPre D vwCl (qT6 ca) o 132 (qG (GU ca o) z y) [.ref (o + 0), .int a1, .int a2]) (va_Qi (fun r _ => r = A_follows a1 a2) (qB D vwCl (qT6 ca) o 132 (fun u : qZ => qG (GU ca o) u.1 u.2)) (qw_A o 132)) (qw_A o 132) := by
  refine Met.ofW (cc := cX10_follows) (maxL := 6) (ret := (some .int)) (by decide) rfl ?_
  intro p e s m args below meth c s₁ B hml hv
  obtain ⟨rfl, hP, hK⟩ := hv
  have hx := B.exec
  have hb := B.bytes
  have hr := B.returns
  have hts0 := atoms_spec (ws := Cond.code yX10_follows cX10_follows 6 (some .int) :: qtbl) B.pre
  have hts : ∀ w ∈ qtbl, w.before _ s = true := fun w h => hts0 w (List.mem_cons_of_mem _ h)
  have hown : s.vm.findClass RX10 = some m.cls := findClass_of_methodNamed B.named
  have hlocks := B.notSynchronized
  have hz0 : (0 : Int32).toInt = 0 := rfl
  have hS : va_S (qw_A o 132) s.heap s.heap [] := va_S.rf
  have hl := lv_entry ([.ref (o + 0), .int a1, .int a2]) (n := 6) (Nat.le_of_ble_eq_true rfl)
  rw [lg_entry_eq]
  generalize (lg_sl ([.ref (o + 0), .int a1, .int a2]) ++ List.replicate (6 - (lg_sl ([.ref (o + 0), .int a1, .int a2])).length) Slot.unset).toArray = ls at hl ⊢
  have hl : lv_has ls 6 [(0, .ref (o + 0)), (1, .int a1), (2, .int a2)] := hl
  refine lv_aload_n hx hb dX10_follows_0 rfl (lv_at hl 0 rfl) ?_
  refine lv_iload_n hx hb dX10_follows_1 rfl (lv_at hl 1 rfl) ?_
  refine qc_Vi (As := [.int a1]) (rest := []) (k0 := 1) (u1_areRemarks l D ca o z y a1 (h1_6)) kc_yX10_areRemarks ⟨hx, hb, hml, hown, hts⟩ wq_583 rfl rfl ⟨Nat.le_of_ble_eq_true rfl, Nat.le_of_ble_eq_true rfl⟩ wq_all hP hK hS qw_Ai (q0 := 0) (by decide) (hgU_0 ca o _ _) rfl rfl hl.1 rfl (Nat.le_of_ble_eq_true rfl) dX10_follows_2 ⟨Nat.zero_le _, Nat.zero_le _⟩ (fun r1 u1 H locs h1 hP hS _ _ => ?_)
  rcases h1 with ⟨h1r, h1a⟩ | ⟨h1r, h1a⟩
  · subst h1r
    obtain rfl : a1 = 0 := gr_eq (y := 0) h1a
    refine lv_if_eq (tgt := 17) hx hb dX10_follows_5 (by decide) (fun q => absurd q (by decide)) (fun _ => ?_)
    refine lv_iload_n hx hb dX10_follows_8 rfl (lv_at hl 2 rfl) ?_
    refine lv_if_lt (tgt := 17) hx hb dX10_follows_9 (by decide) (fun c2 => ?_) (fun c2 => ?_)
    · have t2 : a2.toInt < (0 : Int) := gl_lt c2
      refine lv_iconst (v := (-1)) hx hb dX10_follows_17 (by decide) ?_
      exact W.iret (v := (-1)) hx hb hr (fun t ht hW => ⟨⟨(-1), (z, y), rfl, (ga_n (by omega)), by rw [ht]; exact hP, va_K.moved hW.alike hK⟩, hS.F ht⟩) hS.2.2 dX10_follows_18
    · have t2 : a2.toInt ≥ (0 : Int) := gl_nlt c2
      refine lv_iload_n hx hb dX10_follows_12 rfl (lv_at hl 2 rfl) ?_
      refine lv_iconst (v := 1) hx hb dX10_follows_13 (by decide) ?_
      refine lv_icmp_le (tgt := 19) hx hb dX10_follows_14 (by decide) (fun c3 => ?_) (fun c3 => ?_)
      · have t3 : a2.toInt ≤ (1 : Int) := gl_le c3
        refine lv_aload_n hx hb dX10_follows_19 rfl (lv_at hl 0 rfl) ?_
        refine qf_get hx hb hts inX10 hown hK hP (q0 := 0) (by decide) (hgU_0 ca o) rfl 7 (by decide) wq_360 (v := .ref (o + 108)) rfl dX10_follows_20 ?_
        refine lv_aload_n hx hb dX10_follows_23 rfl (lv_at hl 0 rfl) ?_
        refine qf_get hx hb hts inX10 hown hK hP (q0 := 0) (by decide) (hgU_0 ca o) rfl 6 (by decide) wq_359 (v := .ref (o + 104)) rfl dX10_follows_24 ?_
        refine qc_Vi (As := [.ref (o + 104)]) (rest := []) (k0 := 1) (u1_isCounted l D ca o z y (h1_5) (h1_6) (h108_1)) kc_yX3_isCounted ⟨hx, hb, hml, hown, hts⟩ wq_627 rfl rfl ⟨Nat.le_of_ble_eq_true rfl, Nat.le_of_ble_eq_true rfl⟩ wq_all hP hK hS qw_Ai (q0 := 108) (by decide) (hgU_108 ca o _ _) rfl rfl hl.1 rfl (Nat.le_of_ble_eq_true rfl) dX10_follows_27 ⟨Nat.zero_le _, Nat.zero_le _⟩ (fun r4 u4 H locs h4 hP hS _ _ => ?_)
        obtain ⟨z4, y4⟩ := u4
        obtain ⟨h4r, h4f, h4y, h4m⟩ := h4
        dsimp only at h4f h4y h4m hP
        subst h4r; rw [h4y] at hP
        have f4_0_2 : z4 0 2 = 0 := (congrFun (h4f 0 (by decide) (by decide) (by decide) (by decide)) 2).trans (h0_2)
        have f4_0_4 : z4 0 4 = 0 := (congrFun (h4f 0 (by decide) (by decide) (by decide) (by decide)) 4).trans (h0_4)
        have f4_1_5 : z4 1 5 = 0 := (congrFun (h4f 1 (by decide) (by decide) (by decide) (by decide)) 5).trans (h1_5)
        have f4_1_6 : z4 1 6 = 0 := (congrFun (h4f 1 (by decide) (by decide) (by decide) (by decide)) 6).trans (h1_6)
        have f4_1_7 : z4 1 7 = 0 := (congrFun (h4f 1 (by decide) (by decide) (by decide) (by decide)) 7).trans (h1_7)
        refine lv_if_ne (tgt := 36) hx hb dX10_follows_30 (by decide) (fun _ => ?_) (fun q => absurd q (by decide))
        refine lv_iload_n hx hb dX10_follows_36 rfl (lv_at hl 2 rfl) ?_
        refine lv_if_ne (tgt := 51) hx hb dX10_follows_37 (by decide) (fun c5 => ?_) (fun c5 => ?_)
        · have t5 : a2.toInt ≠ (0 : Int) := gl_ne c5
          refine lv_iconst (v := 0) hx hb dX10_follows_51 (by decide) ?_
          refine lv_istore_n (lv' := [(3, .int 0), (0, .ref (o + 0)), (1, .int 0), (2, .int a2)]) hx hb dX10_follows_52 rfl hl (by decide) rfl (fun ls hl => ?_)
          refine lv_iconst (v := 0) hx hb dX10_follows_53 (by decide) ?_
          refine lv_istore (lv' := [(4, .int 0), (3, .int 0), (0, .ref (o + 0)), (1, .int 0), (2, .int a2)]) hx hb dX10_follows_54 hl (by decide) rfl (fun ls hl => ?_)
          refine lv_iconst (v := 0) hx hb dX10_follows_56 (by decide) ?_
          refine lv_istore (lv' := [(5, .int 0), (4, .int 0), (3, .int 0), (0, .ref (o + 0)), (1, .int 0), (2, .int a2)]) hx hb dX10_follows_57 hl (by decide) rfl (fun ls hl => ?_)
          refine lv_iload hx hb dX10_follows_59 (lv_at hl 0 rfl) ?_
          refine lv_bipush (v := 10) hx hb dX10_follows_61 (by decide) ?_
          refine lv_icmp_ge (tgt := 110) hx hb dX10_follows_63 (by decide) (fun q => absurd q (by decide)) (fun _ => ?_)
          refine lv_aload_n hx hb dX10_follows_66 rfl (lv_at hl 3 rfl) ?_
          refine qf_get hx hb hts inX10 hown hK hP (q0 := 0) (by decide) (hgU_0 ca o) rfl 0 (by decide) wq_353 (v := .ref (o + 1)) rfl dX10_follows_67 ?_
          refine lv_iload hx hb dX10_follows_70 (lv_at hl 0 rfl) ?_
          refine qc_Vi (As := [.int 0]) (rest := []) (k0 := 1) (u1_hasRemark l D ca o z4 y 0 (f4_1_6)) kc_yX9_hasRemark ⟨hx, hb, hml, hown, hts⟩ wq_527 rfl rfl ⟨Nat.le_of_ble_eq_true rfl, Nat.le_of_ble_eq_true rfl⟩ wq_all hP hK hS qw_Ai (q0 := 1) (by decide) (hgU_1 ca o _ _) rfl rfl hl.1 rfl (Nat.le_of_ble_eq_true rfl) dX10_follows_72 ⟨Nat.zero_le _, Nat.zero_le _⟩ (fun r6 u6 H locs h6 hP hS _ _ => ?_)
          subst h6
          refine lv_if_eq (tgt := 104) hx hb dX10_follows_75 (by decide) (fun _ => ?_) (fun q => absurd (by decide) q)
          refine lv_iinc (v := 1) (lv' := [(5, .int 1), (4, .int 0), (3, .int 0), (0, .ref (o + 0)), (1, .int 0), (2, .int a2)]) hx hb dX10_follows_104 hl (k := 0) rfl (by decide) (by decide) rfl (fun ls hl => ?_)
          refine lv_goto (tgt := 59) hx hb dX10_follows_107 (by decide) ?_
          refine lv_iload hx hb dX10_follows_59 (lv_at hl 0 rfl) ?_
          refine lv_bipush (v := 10) hx hb dX10_follows_61 (by decide) ?_
          refine lv_icmp_ge (tgt := 110) hx hb dX10_follows_63 (by decide) (fun q => absurd q (by decide)) (fun _ => ?_)
          refine lv_aload_n hx hb dX10_follows_66 rfl (lv_at hl 3 rfl) ?_
          refine qf_get hx hb hts inX10 hown hK hP (q0 := 0) (by decide) (hgU_0 ca o) rfl 0 (by decide) wq_353 (v := .ref (o + 1)) rfl dX10_follows_67 ?_
          refine lv_iload hx hb dX10_follows_70 (lv_at hl 0 rfl) ?_
          refine qc_Vi (As := [.int 1]) (rest := []) (k0 := 1) (u1_hasRemark l D ca o z4 y 1 (f4_1_6)) kc_yX9_hasRemark ⟨hx, hb, hml, hown, hts⟩ wq_527 rfl rfl ⟨Nat.le_of_ble_eq_true rfl, Nat.le_of_ble_eq_true rfl⟩ wq_all hP hK hS qw_Ai (q0 := 1) (by decide) (hgU_1 ca o _ _) rfl rfl hl.1 rfl (Nat.le_of_ble_eq_true rfl) dX10_follows_72 ⟨Nat.zero_le _, Nat.zero_le _⟩ (fun r7 u7 H locs h7 hP hS _ _ => ?_)
          subst h7
          refine lv_if_eq (tgt := 104) hx hb dX10_follows_75 (by decide) (fun _ => ?_) (fun q => absurd (by decide) q)
          refine lv_iinc (v := 2) (lv' := [(5, .int 2), (4, .int 0), (3, .int 0), (0, .ref (o + 0)), (1, .int 0), (2, .int a2)]) hx hb dX10_follows_104 hl (k := 0) rfl (by decide) (by decide) rfl (fun ls hl => ?_)
          refine lv_goto (tgt := 59) hx hb dX10_follows_107 (by decide) ?_
          refine lv_iload hx hb dX10_follows_59 (lv_at hl 0 rfl) ?_
          refine lv_bipush (v := 10) hx hb dX10_follows_61 (by decide) ?_
          refine lv_icmp_ge (tgt := 110) hx hb dX10_follows_63 (by decide) (fun q => absurd q (by decide)) (fun _ => ?_)
          refine lv_aload_n hx hb dX10_follows_66 rfl (lv_at hl 3 rfl) ?_
          refine qf_get hx hb hts inX10 hown hK hP (q0 := 0) (by decide) (hgU_0 ca o) rfl 0 (by decide) wq_353 (v := .ref (o + 1)) rfl dX10_follows_67 ?_
          refine lv_iload hx hb dX10_follows_70 (lv_at hl 0 rfl) ?_
          refine qc_Vi (As := [.int 2]) (rest := []) (k0 := 1) (u1_hasRemark l D ca o z4 y 2 (f4_1_6)) kc_yX9_hasRemark ⟨hx, hb, hml, hown, hts⟩ wq_527 rfl rfl ⟨Nat.le_of_ble_eq_true rfl, Nat.le_of_ble_eq_true rfl⟩ wq_all hP hK hS qw_Ai (q0 := 1) (by decide) (hgU_1 ca o _ _) rfl rfl hl.1 rfl (Nat.le_of_ble_eq_true rfl) dX10_follows_72 ⟨Nat.zero_le _, Nat.zero_le _⟩ (fun r8 u8 H locs h8 hP hS _ _ => ?_)
          subst h8
          refine lv_if_eq (tgt := 104) hx hb dX10_follows_75 (by decide) (fun _ => ?_) (fun q => absurd (by decide) q)
          refine lv_iinc (v := 3) (lv' := [(5, .int 3), (4, .int 0), (3, .int 0), (0, .ref (o + 0)), (1, .int 0), (2, .int a2)]) hx hb dX10_follows_104 hl (k := 0) rfl (by decide) (by decide) rfl (fun ls hl => ?_)
          refine lv_goto (tgt := 59) hx hb dX10_follows_107 (by decide) ?_
          refine lv_iload hx hb dX10_follows_59 (lv_at hl 0 rfl) ?_
          refine lv_bipush (v := 10) hx hb dX10_follows_61 (by decide) ?_
          refine lv_icmp_ge (tgt := 110) hx hb dX10_follows_63 (by decide) (fun q => absurd q (by decide)) (fun _ => ?_)
          refine lv_aload_n hx hb dX10_follows_66 rfl (lv_at hl 3 rfl) ?_
          refine qf_get hx hb hts inX10 hown hK hP (q0 := 0) (by decide) (hgU_0 ca o) rfl 0 (by decide) wq_353 (v := .ref (o + 1)) rfl dX10_follows_67 ?_
          refine lv_iload hx hb dX10_follows_70 (lv_at hl 0 rfl) ?_
          refine qc_Vi (As := [.int 3]) (rest := []) (k0 := 1) (u1_hasRemark l D ca o z4 y 3 (f4_1_6)) kc_yX9_hasRemark ⟨hx, hb, hml, hown, hts⟩ wq_527 rfl rfl ⟨Nat.le_of_ble_eq_true rfl, Nat.le_of_ble_eq_true rfl⟩ wq_all hP hK hS qw_Ai (q0 := 1) (by decide) (hgU_1 ca o _ _) rfl rfl hl.1 rfl (Nat.le_of_ble_eq_true rfl) dX10_follows_72 ⟨Nat.zero_le _, Nat.zero_le _⟩ (fun r9 u9 H locs h9 hP hS _ _ => ?_)
          subst h9
          refine lv_if_eq (tgt := 104) hx hb dX10_follows_75 (by decide) (fun _ => ?_) (fun q => absurd (by decide) q)
          refine lv_iinc (v := 4) (lv' := [(5, .int 4), (4, .int 0), (3, .int 0), (0, .ref (o + 0)), (1, .int 0), (2, .int a2)]) hx hb dX10_follows_104 hl (k := 0) rfl (by decide) (by decide) rfl (fun ls hl => ?_)
          refine lv_goto (tgt := 59) hx hb dX10_follows_107 (by decide) ?_
          refine lv_iload hx hb dX10_follows_59 (lv_at hl 0 rfl) ?_
          refine lv_bipush (v := 10) hx hb dX10_follows_61 (by decide) ?_
          refine lv_icmp_ge (tgt := 110) hx hb dX10_follows_63 (by decide) (fun q => absurd q (by decide)) (fun _ => ?_)
          refine lv_aload_n hx hb dX10_follows_66 rfl (lv_at hl 3 rfl) ?_
          refine qf_get hx hb hts inX10 hown hK hP (q0 := 0) (by decide) (hgU_0 ca o) rfl 0 (by decide) wq_353 (v := .ref (o + 1)) rfl dX10_follows_67 ?_
          refine lv_iload hx hb dX10_follows_70 (lv_at hl 0 rfl) ?_
          refine qc_Vi (As := [.int 4]) (rest := []) (k0 := 1) (u1_hasRemark l D ca o z4 y 4 (f4_1_6)) kc_yX9_hasRemark ⟨hx, hb, hml, hown, hts⟩ wq_527 rfl rfl ⟨Nat.le_of_ble_eq_true rfl, Nat.le_of_ble_eq_true rfl⟩ wq_all hP hK hS qw_Ai (q0 := 1) (by decide) (hgU_1 ca o _ _) rfl rfl hl.1 rfl (Nat.le_of_ble_eq_true rfl) dX10_follows_72 ⟨Nat.zero_le _, Nat.zero_le _⟩ (fun r10 u10 H locs h10 hP hS _ _ => ?_)
          subst h10
          refine lv_if_eq (tgt := 104) hx hb dX10_follows_75 (by decide) (fun _ => ?_) (fun q => absurd (by decide) q)
          refine lv_iinc (v := 5) (lv' := [(5, .int 5), (4, .int 0), (3, .int 0), (0, .ref (o + 0)), (1, .int 0), (2, .int a2)]) hx hb dX10_follows_104 hl (k := 0) rfl (by decide) (by decide) rfl (fun ls hl => ?_)
          refine lv_goto (tgt := 59) hx hb dX10_follows_107 (by decide) ?_
          refine lv_iload hx hb dX10_follows_59 (lv_at hl 0 rfl) ?_
          refine lv_bipush (v := 10) hx hb dX10_follows_61 (by decide) ?_
          refine lv_icmp_ge (tgt := 110) hx hb dX10_follows_63 (by decide) (fun q => absurd q (by decide)) (fun _ => ?_)
          refine lv_aload_n hx hb dX10_follows_66 rfl (lv_at hl 3 rfl) ?_
          refine qf_get hx hb hts inX10 hown hK hP (q0 := 0) (by decide) (hgU_0 ca o) rfl 0 (by decide) wq_353 (v := .ref (o + 1)) rfl dX10_follows_67 ?_
          refine lv_iload hx hb dX10_follows_70 (lv_at hl 0 rfl) ?_
          refine qc_Vi (As := [.int 5]) (rest := []) (k0 := 1) (u1_hasRemark l D ca o z4 y 5 (f4_1_6)) kc_yX9_hasRemark ⟨hx, hb, hml, hown, hts⟩ wq_527 rfl rfl ⟨Nat.le_of_ble_eq_true rfl, Nat.le_of_ble_eq_true rfl⟩ wq_all hP hK hS qw_Ai (q0 := 1) (by decide) (hgU_1 ca o _ _) rfl rfl hl.1 rfl (Nat.le_of_ble_eq_true rfl) dX10_follows_72 ⟨Nat.zero_le _, Nat.zero_le _⟩ (fun r11 u11 H locs h11 hP hS _ _ => ?_)
          subst h11
          refine lv_if_eq (tgt := 104) hx hb dX10_follows_75 (by decide) (fun _ => ?_) (fun q => absurd (by decide) q)
          refine lv_iinc (v := 6) (lv' := [(5, .int 6), (4, .int 0), (3, .int 0), (0, .ref (o + 0)), (1, .int 0), (2, .int a2)]) hx hb dX10_follows_104 hl (k := 0) rfl (by decide) (by decide) rfl (fun ls hl => ?_)
          refine lv_goto (tgt := 59) hx hb dX10_follows_107 (by decide) ?_
          refine lv_iload hx hb dX10_follows_59 (lv_at hl 0 rfl) ?_
          refine lv_bipush (v := 10) hx hb dX10_follows_61 (by decide) ?_
          refine lv_icmp_ge (tgt := 110) hx hb dX10_follows_63 (by decide) (fun q => absurd q (by decide)) (fun _ => ?_)
          refine lv_aload_n hx hb dX10_follows_66 rfl (lv_at hl 3 rfl) ?_
          refine qf_get hx hb hts inX10 hown hK hP (q0 := 0) (by decide) (hgU_0 ca o) rfl 0 (by decide) wq_353 (v := .ref (o + 1)) rfl dX10_follows_67 ?_
          refine lv_iload hx hb dX10_follows_70 (lv_at hl 0 rfl) ?_
          refine qc_Vi (As := [.int 6]) (rest := []) (k0 := 1) (u1_hasRemark l D ca o z4 y 6 (f4_1_6)) kc_yX9_hasRemark ⟨hx, hb, hml, hown, hts⟩ wq_527 rfl rfl ⟨Nat.le_of_ble_eq_true rfl, Nat.le_of_ble_eq_true rfl⟩ wq_all hP hK hS qw_Ai (q0 := 1) (by decide) (hgU_1 ca o _ _) rfl rfl hl.1 rfl (Nat.le_of_ble_eq_true rfl) dX10_follows_72 ⟨Nat.zero_le _, Nat.zero_le _⟩ (fun r12 u12 H locs h12 hP hS _ _ => ?_)
          subst h12
          refine lv_if_eq (tgt := 104) hx hb dX10_follows_75 (by decide) (fun _ => ?_) (fun q => absurd (by decide) q)
          refine lv_iinc (v := 7) (lv' := [(5, .int 7), (4, .int 0), (3, .int 0), (0, .ref (o + 0)), (1, .int 0), (2, .int a2)]) hx hb dX10_follows_104 hl (k := 0) rfl (by decide) (by decide) rfl (fun ls hl => ?_)
          refine lv_goto (tgt := 59) hx hb dX10_follows_107 (by decide) ?_
          refine lv_iload hx hb dX10_follows_59 (lv_at hl 0 rfl) ?_
          refine lv_bipush (v := 10) hx hb dX10_follows_61 (by decide) ?_
          refine lv_icmp_ge (tgt := 110) hx hb dX10_follows_63 (by decide) (fun q => absurd q (by decide)) (fun _ => ?_)
          refine lv_aload_n hx hb dX10_follows_66 rfl (lv_at hl 3 rfl) ?_
          refine qf_get hx hb hts inX10 hown hK hP (q0 := 0) (by decide) (hgU_0 ca o) rfl 0 (by decide) wq_353 (v := .ref (o + 1)) rfl dX10_follows_67 ?_
          refine lv_iload hx hb dX10_follows_70 (lv_at hl 0 rfl) ?_
          refine qc_Vi (As := [.int 7]) (rest := []) (k0 := 1) (u1_hasRemark l D ca o z4 y 7 (f4_1_6)) kc_yX9_hasRemark ⟨hx, hb, hml, hown, hts⟩ wq_527 rfl rfl ⟨Nat.le_of_ble_eq_true rfl, Nat.le_of_ble_eq_true rfl⟩ wq_all hP hK hS qw_Ai (q0 := 1) (by decide) (hgU_1 ca o _ _) rfl rfl hl.1 rfl (Nat.le_of_ble_eq_true rfl) dX10_follows_72 ⟨Nat.zero_le _, Nat.zero_le _⟩ (fun r13 u13 H locs h13 hP hS _ _ => ?_)
          subst h13
          refine lv_if_eq (tgt := 104) hx hb dX10_follows_75 (by decide) (fun _ => ?_) (fun q => absurd (by decide) q)
          refine lv_iinc (v := 8) (lv' := [(5, .int 8), (4, .int 0), (3, .int 0), (0, .ref (o + 0)), (1, .int 0), (2, .int a2)]) hx hb dX10_follows_104 hl (k := 0) rfl (by decide) (by decide) rfl (fun ls hl => ?_)
          refine lv_goto (tgt := 59) hx hb dX10_follows_107 (by decide) ?_
          refine lv_iload hx hb dX10_follows_59 (lv_at hl 0 rfl) ?_
          refine lv_bipush (v := 10) hx hb dX10_follows_61 (by decide) ?_
          refine lv_icmp_ge (tgt := 110) hx hb dX10_follows_63 (by decide) (fun q => absurd q (by decide)) (fun _ => ?_)
          refine lv_aload_n hx hb dX10_follows_66 rfl (lv_at hl 3 rfl) ?_
          refine qf_get hx hb hts inX10 hown hK hP (q0 := 0) (by decide) (hgU_0 ca o) rfl 0 (by decide) wq_353 (v := .ref (o + 1)) rfl dX10_follows_67 ?_
          refine lv_iload hx hb dX10_follows_70 (lv_at hl 0 rfl) ?_
          refine qc_Vi (As := [.int 8]) (rest := []) (k0 := 1) (u1_hasRemark l D ca o z4 y 8 (f4_1_6)) kc_yX9_hasRemark ⟨hx, hb, hml, hown, hts⟩ wq_527 rfl rfl ⟨Nat.le_of_ble_eq_true rfl, Nat.le_of_ble_eq_true rfl⟩ wq_all hP hK hS qw_Ai (q0 := 1) (by decide) (hgU_1 ca o _ _) rfl rfl hl.1 rfl (Nat.le_of_ble_eq_true rfl) dX10_follows_72 ⟨Nat.zero_le _, Nat.zero_le _⟩ (fun r14 u14 H locs h14 hP hS _ _ => ?_)
          subst h14
          refine lv_if_eq (tgt := 104) hx hb dX10_follows_75 (by decide) (fun _ => ?_) (fun q => absurd (by decide) q)
          refine lv_iinc (v := 9) (lv' := [(5, .int 9), (4, .int 0), (3, .int 0), (0, .ref (o + 0)), (1, .int 0), (2, .int a2)]) hx hb dX10_follows_104 hl (k := 0) rfl (by decide) (by decide) rfl (fun ls hl => ?_)
          refine lv_goto (tgt := 59) hx hb dX10_follows_107 (by decide) ?_
          refine lv_iload hx hb dX10_follows_59 (lv_at hl 0 rfl) ?_
          refine lv_bipush (v := 10) hx hb dX10_follows_61 (by decide) ?_
          refine lv_icmp_ge (tgt := 110) hx hb dX10_follows_63 (by decide) (fun q => absurd q (by decide)) (fun _ => ?_)
          refine lv_aload_n hx hb dX10_follows_66 rfl (lv_at hl 3 rfl) ?_
          refine qf_get hx hb hts inX10 hown hK hP (q0 := 0) (by decide) (hgU_0 ca o) rfl 0 (by decide) wq_353 (v := .ref (o + 1)) rfl dX10_follows_67 ?_
          refine lv_iload hx hb dX10_follows_70 (lv_at hl 0 rfl) ?_
          refine qc_Vi (As := [.int 9]) (rest := []) (k0 := 1) (u1_hasRemark l D ca o z4 y 9 (f4_1_6)) kc_yX9_hasRemark ⟨hx, hb, hml, hown, hts⟩ wq_527 rfl rfl ⟨Nat.le_of_ble_eq_true rfl, Nat.le_of_ble_eq_true rfl⟩ wq_all hP hK hS qw_Ai (q0 := 1) (by decide) (hgU_1 ca o _ _) rfl rfl hl.1 rfl (Nat.le_of_ble_eq_true rfl) dX10_follows_72 ⟨Nat.zero_le _, Nat.zero_le _⟩ (fun r15 u15 H locs h15 hP hS _ _ => ?_)
          subst h15
          refine lv_if_eq (tgt := 104) hx hb dX10_follows_75 (by decide) (fun _ => ?_) (fun q => absurd (by decide) q)
          refine lv_iinc (v := 10) (lv' := [(5, .int 10), (4, .int 0), (3, .int 0), (0, .ref (o + 0)), (1, .int 0), (2, .int a2)]) hx hb dX10_follows_104 hl (k := 0) rfl (by decide) (by decide) rfl (fun ls hl => ?_)
          refine lv_goto (tgt := 59) hx hb dX10_follows_107 (by decide) ?_
          refine lv_iload hx hb dX10_follows_59 (lv_at hl 0 rfl) ?_
          refine lv_bipush (v := 10) hx hb dX10_follows_61 (by decide) ?_
          refine lv_icmp_ge (tgt := 110) hx hb dX10_follows_63 (by decide) (fun _ => ?_) (fun q => absurd (by decide) q)
          refine lv_iload hx hb dX10_follows_110 (lv_at hl 1 rfl) ?_
          exact W.iret (v := 0) hx hb hr (fun t ht hW => ⟨⟨0, (z4, y), rfl, (ga_p (by omega)), by rw [ht]; exact hP, va_K.moved hW.alike hK⟩, hS.F ht⟩) hS.2.2 dX10_follows_112
        · have t5 : a2.toInt = (0 : Int) := gl_eq c5
          refine lv_aload_n hx hb dX10_follows_40 rfl (lv_at hl 0 rfl) ?_
          refine qf_get hx hb hts inX10 hown hK hP (q0 := 0) (by decide) (hgU_0 ca o) rfl 7 (by decide) wq_360 (v := .ref (o + 108)) rfl dX10_follows_41 ?_
          refine lv_iload_n hx hb dX10_follows_44 rfl (lv_at hl 1 rfl) ?_
          refine qc_Vi (As := [.int 0]) (rest := []) (k0 := 1) (u1_of0 l D ca o z4 y (h4m.1)) kc_yX3_of ⟨hx, hb, hml, hown, hts⟩ wq_644 rfl rfl ⟨Nat.le_of_ble_eq_true rfl, Nat.le_of_ble_eq_true rfl⟩ wq_all hP hK hS qw_Ai (q0 := 108) (by decide) (hgU_108 ca o _ _) rfl rfl hl.1 rfl (Nat.le_of_ble_eq_true rfl) dX10_follows_45 ⟨Nat.zero_le _, Nat.zero_le _⟩ (fun r16 u16 H locs h16 hP hS _ _ => ?_)
          subst h16
          refine lv_goto (tgt := 52) hx hb dX10_follows_48 (by decide) ?_
          refine lv_istore_n (lv' := [(3, .int 1), (0, .ref (o + 0)), (1, .int 0), (2, .int a2)]) hx hb dX10_follows_52 rfl hl (by decide) rfl (fun ls hl => ?_)
          refine lv_iconst (v := 0) hx hb dX10_follows_53 (by decide) ?_
          refine lv_istore (lv' := [(4, .int 0), (3, .int 1), (0, .ref (o + 0)), (1, .int 0), (2, .int a2)]) hx hb dX10_follows_54 hl (by decide) rfl (fun ls hl => ?_)
          refine lv_iconst (v := 0) hx hb dX10_follows_56 (by decide) ?_
          refine lv_istore (lv' := [(5, .int 0), (4, .int 0), (3, .int 1), (0, .ref (o + 0)), (1, .int 0), (2, .int a2)]) hx hb dX10_follows_57 hl (by decide) rfl (fun ls hl => ?_)
          refine lv_iload hx hb dX10_follows_59 (lv_at hl 0 rfl) ?_
          refine lv_bipush (v := 10) hx hb dX10_follows_61 (by decide) ?_
          refine lv_icmp_ge (tgt := 110) hx hb dX10_follows_63 (by decide) (fun q => absurd q (by decide)) (fun _ => ?_)
          refine lv_aload_n hx hb dX10_follows_66 rfl (lv_at hl 3 rfl) ?_
          refine qf_get hx hb hts inX10 hown hK hP (q0 := 0) (by decide) (hgU_0 ca o) rfl 0 (by decide) wq_353 (v := .ref (o + 1)) rfl dX10_follows_67 ?_
          refine lv_iload hx hb dX10_follows_70 (lv_at hl 0 rfl) ?_
          refine qc_Vi (As := [.int 0]) (rest := []) (k0 := 1) (u1_hasRemark l D ca o z4 y 0 (f4_1_6)) kc_yX9_hasRemark ⟨hx, hb, hml, hown, hts⟩ wq_527 rfl rfl ⟨Nat.le_of_ble_eq_true rfl, Nat.le_of_ble_eq_true rfl⟩ wq_all hP hK hS qw_Ai (q0 := 1) (by decide) (hgU_1 ca o _ _) rfl rfl hl.1 rfl (Nat.le_of_ble_eq_true rfl) dX10_follows_72 ⟨Nat.zero_le _, Nat.zero_le _⟩ (fun r17 u17 H locs h17 hP hS _ _ => ?_)
          subst h17
          refine lv_if_eq (tgt := 104) hx hb dX10_follows_75 (by decide) (fun _ => ?_) (fun q => absurd (by decide) q)
          refine lv_iinc (v := 1) (lv' := [(5, .int 1), (4, .int 0), (3, .int 1), (0, .ref (o + 0)), (1, .int 0), (2, .int a2)]) hx hb dX10_follows_104 hl (k := 0) rfl (by decide) (by decide) rfl (fun ls hl => ?_)
          refine lv_goto (tgt := 59) hx hb dX10_follows_107 (by decide) ?_
          refine lv_iload hx hb dX10_follows_59 (lv_at hl 0 rfl) ?_
          refine lv_bipush (v := 10) hx hb dX10_follows_61 (by decide) ?_
          refine lv_icmp_ge (tgt := 110) hx hb dX10_follows_63 (by decide) (fun q => absurd q (by decide)) (fun _ => ?_)
          refine lv_aload_n hx hb dX10_follows_66 rfl (lv_at hl 3 rfl) ?_
          refine qf_get hx hb hts inX10 hown hK hP (q0 := 0) (by decide) (hgU_0 ca o) rfl 0 (by decide) wq_353 (v := .ref (o + 1)) rfl dX10_follows_67 ?_
          refine lv_iload hx hb dX10_follows_70 (lv_at hl 0 rfl) ?_
          refine qc_Vi (As := [.int 1]) (rest := []) (k0 := 1) (u1_hasRemark l D ca o z4 y 1 (f4_1_6)) kc_yX9_hasRemark ⟨hx, hb, hml, hown, hts⟩ wq_527 rfl rfl ⟨Nat.le_of_ble_eq_true rfl, Nat.le_of_ble_eq_true rfl⟩ wq_all hP hK hS qw_Ai (q0 := 1) (by decide) (hgU_1 ca o _ _) rfl rfl hl.1 rfl (Nat.le_of_ble_eq_true rfl) dX10_follows_72 ⟨Nat.zero_le _, Nat.zero_le _⟩ (fun r18 u18 H locs h18 hP hS _ _ => ?_)
          subst h18
          refine lv_if_eq (tgt := 104) hx hb dX10_follows_75 (by decide) (fun _ => ?_) (fun q => absurd (by decide) q)
          refine lv_iinc (v := 2) (lv' := [(5, .int 2), (4, .int 0), (3, .int 1), (0, .ref (o + 0)), (1, .int 0), (2, .int a2)]) hx hb dX10_follows_104 hl (k := 0) rfl (by decide) (by decide) rfl (fun ls hl => ?_)
          refine lv_goto (tgt := 59) hx hb dX10_follows_107 (by decide) ?_
          refine lv_iload hx hb dX10_follows_59 (lv_at hl 0 rfl) ?_
          refine lv_bipush (v := 10) hx hb dX10_follows_61 (by decide) ?_
          refine lv_icmp_ge (tgt := 110) hx hb dX10_follows_63 (by decide) (fun q => absurd q (by decide)) (fun _ => ?_)
          refine lv_aload_n hx hb dX10_follows_66 rfl (lv_at hl 3 rfl) ?_
          refine qf_get hx hb hts inX10 hown hK hP (q0 := 0) (by decide) (hgU_0 ca o) rfl 0 (by decide) wq_353 (v := .ref (o + 1)) rfl dX10_follows_67 ?_
          refine lv_iload hx hb dX10_follows_70 (lv_at hl 0 rfl) ?_
          refine qc_Vi (As := [.int 2]) (rest := []) (k0 := 1) (u1_hasRemark l D ca o z4 y 2 (f4_1_6)) kc_yX9_hasRemark ⟨hx, hb, hml, hown, hts⟩ wq_527 rfl rfl ⟨Nat.le_of_ble_eq_true rfl, Nat.le_of_ble_eq_true rfl⟩ wq_all hP hK hS qw_Ai (q0 := 1) (by decide) (hgU_1 ca o _ _) rfl rfl hl.1 rfl (Nat.le_of_ble_eq_true rfl) dX10_follows_72 ⟨Nat.zero_le _, Nat.zero_le _⟩ (fun r19 u19 H locs h19 hP hS _ _ => ?_)
          subst h19
          refine lv_if_eq (tgt := 104) hx hb dX10_follows_75 (by decide) (fun _ => ?_) (fun q => absurd (by decide) q)
          refine lv_iinc (v := 3) (lv' := [(5, .int 3), (4, .int 0), (3, .int 1), (0, .ref (o + 0)), (1, .int 0), (2, .int a2)]) hx hb dX10_follows_104 hl (k := 0) rfl (by decide) (by decide) rfl (fun ls hl => ?_)
          refine lv_goto (tgt := 59) hx hb dX10_follows_107 (by decide) ?_
          refine lv_iload hx hb dX10_follows_59 (lv_at hl 0 rfl) ?_
          refine lv_bipush (v := 10) hx hb dX10_follows_61 (by decide) ?_
          refine lv_icmp_ge (tgt := 110) hx hb dX10_follows_63 (by decide) (fun q => absurd q (by decide)) (fun _ => ?_)
          refine lv_aload_n hx hb dX10_follows_66 rfl (lv_at hl 3 rfl) ?_
          refine qf_get hx hb hts inX10 hown hK hP (q0 := 0) (by decide) (hgU_0 ca o) rfl 0 (by decide) wq_353 (v := .ref (o + 1)) rfl dX10_follows_67 ?_
          refine lv_iload hx hb dX10_follows_70 (lv_at hl 0 rfl) ?_
          refine qc_Vi (As := [.int 3]) (rest := []) (k0 := 1) (u1_hasRemark l D ca o z4 y 3 (f4_1_6)) kc_yX9_hasRemark ⟨hx, hb, hml, hown, hts⟩ wq_527 rfl rfl ⟨Nat.le_of_ble_eq_true rfl, Nat.le_of_ble_eq_true rfl⟩ wq_all hP hK hS qw_Ai (q0 := 1) (by decide) (hgU_1 ca o _ _) rfl rfl hl.1 rfl (Nat.le_of_ble_eq_true rfl) dX10_follows_72 ⟨Nat.zero_le _, Nat.zero_le _⟩ (fun r20 u20 H locs h20 hP hS _ _ => ?_)
          subst h20
          refine lv_if_eq (tgt := 104) hx hb dX10_follows_75 (by decide) (fun _ => ?_) (fun q => absurd (by decide) q)
          refine lv_iinc (v := 4) (lv' := [(5, .int 4), (4, .int 0), (3, .int 1), (0, .ref (o + 0)), (1, .int 0), (2, .int a2)]) hx hb dX10_follows_104 hl (k := 0) rfl (by decide) (by decide) rfl (fun ls hl => ?_)
          refine lv_goto (tgt := 59) hx hb dX10_follows_107 (by decide) ?_
          refine lv_iload hx hb dX10_follows_59 (lv_at hl 0 rfl) ?_
          refine lv_bipush (v := 10) hx hb dX10_follows_61 (by decide) ?_
          refine lv_icmp_ge (tgt := 110) hx hb dX10_follows_63 (by decide) (fun q => absurd q (by decide)) (fun _ => ?_)
          refine lv_aload_n hx hb dX10_follows_66 rfl (lv_at hl 3 rfl) ?_
          refine qf_get hx hb hts inX10 hown hK hP (q0 := 0) (by decide) (hgU_0 ca o) rfl 0 (by decide) wq_353 (v := .ref (o + 1)) rfl dX10_follows_67 ?_
          refine lv_iload hx hb dX10_follows_70 (lv_at hl 0 rfl) ?_
          refine qc_Vi (As := [.int 4]) (rest := []) (k0 := 1) (u1_hasRemark l D ca o z4 y 4 (f4_1_6)) kc_yX9_hasRemark ⟨hx, hb, hml, hown, hts⟩ wq_527 rfl rfl ⟨Nat.le_of_ble_eq_true rfl, Nat.le_of_ble_eq_true rfl⟩ wq_all hP hK hS qw_Ai (q0 := 1) (by decide) (hgU_1 ca o _ _) rfl rfl hl.1 rfl (Nat.le_of_ble_eq_true rfl) dX10_follows_72 ⟨Nat.zero_le _, Nat.zero_le _⟩ (fun r21 u21 H locs h21 hP hS _ _ => ?_)
          subst h21
          refine lv_if_eq (tgt := 104) hx hb dX10_follows_75 (by decide) (fun _ => ?_) (fun q => absurd (by decide) q)
          refine lv_iinc (v := 5) (lv' := [(5, .int 5), (4, .int 0), (3, .int 1), (0, .ref (o + 0)), (1, .int 0), (2, .int a2)]) hx hb dX10_follows_104 hl (k := 0) rfl (by decide) (by decide) rfl (fun ls hl => ?_)
          refine lv_goto (tgt := 59) hx hb dX10_follows_107 (by decide) ?_
          refine lv_iload hx hb dX10_follows_59 (lv_at hl 0 rfl) ?_
          refine lv_bipush (v := 10) hx hb dX10_follows_61 (by decide) ?_
          refine lv_icmp_ge (tgt := 110) hx hb dX10_follows_63 (by decide) (fun q => absurd q (by decide)) (fun _ => ?_)
          refine lv_aload_n hx hb dX10_follows_66 rfl (lv_at hl 3 rfl) ?_
          refine qf_get hx hb hts inX10 hown hK hP (q0 := 0) (by decide) (hgU_0 ca o) rfl 0 (by decide) wq_353 (v := .ref (o + 1)) rfl dX10_follows_67 ?_
          refine lv_iload hx hb dX10_follows_70 (lv_at hl 0 rfl) ?_
          refine qc_Vi (As := [.int 5]) (rest := []) (k0 := 1) (u1_hasRemark l D ca o z4 y 5 (f4_1_6)) kc_yX9_hasRemark ⟨hx, hb, hml, hown, hts⟩ wq_527 rfl rfl ⟨Nat.le_of_ble_eq_true rfl, Nat.le_of_ble_eq_true rfl⟩ wq_all hP hK hS qw_Ai (q0 := 1) (by decide) (hgU_1 ca o _ _) rfl rfl hl.1 rfl (Nat.le_of_ble_eq_true rfl) dX10_follows_72 ⟨Nat.zero_le _, Nat.zero_le _⟩ (fun r22 u22 H locs h22 hP hS _ _ => ?_)
          subst h22
          refine lv_if_eq (tgt := 104) hx hb dX10_follows_75 (by decide) (fun _ => ?_) (fun q => absurd (by decide) q)
          refine lv_iinc (v := 6) (lv' := [(5, .int 6), (4, .int 0), (3, .int 1), (0, .ref (o + 0)), (1, .int 0), (2, .int a2)]) hx hb dX10_follows_104 hl (k := 0) rfl (by decide) (by decide) rfl (fun ls hl => ?_)
          refine lv_goto (tgt := 59) hx hb dX10_follows_107 (by decide) ?_
          refine lv_iload hx hb dX10_follows_59 (lv_at hl 0 rfl) ?_
          refine lv_bipush (v := 10) hx hb dX10_follows_61 (by decide) ?_
          refine lv_icmp_ge (tgt := 110) hx hb dX10_follows_63 (by decide) (fun q => absurd q (by decide)) (fun _ => ?_)
          refine lv_aload_n hx hb dX10_follows_66 rfl (lv_at hl 3 rfl) ?_
          refine qf_get hx hb hts inX10 hown hK hP (q0 := 0) (by decide) (hgU_0 ca o) rfl 0 (by decide) wq_353 (v := .ref (o + 1)) rfl dX10_follows_67 ?_
          refine lv_iload hx hb dX10_follows_70 (lv_at hl 0 rfl) ?_
          refine qc_Vi (As := [.int 6]) (rest := []) (k0 := 1) (u1_hasRemark l D ca o z4 y 6 (f4_1_6)) kc_yX9_hasRemark ⟨hx, hb, hml, hown, hts⟩ wq_527 rfl rfl ⟨Nat.le_of_ble_eq_true rfl, Nat.le_of_ble_eq_true rfl⟩ wq_all hP hK hS qw_Ai (q0 := 1) (by decide) (hgU_1 ca o _ _) rfl rfl hl.1 rfl (Nat.le_of_ble_eq_true rfl) dX10_follows_72 ⟨Nat.zero_le _, Nat.zero_le _⟩ (fun r23 u23 H locs h23 hP hS _ _ => ?_)
          subst h23
          refine lv_if_eq (tgt := 104) hx hb dX10_follows_75 (by decide) (fun _ => ?_) (fun q => absurd (by decide) q)
          refine lv_iinc (v := 7) (lv' := [(5, .int 7), (4, .int 0), (3, .int 1), (0, .ref (o + 0)), (1, .int 0), (2, .int a2)]) hx hb dX10_follows_104 hl (k := 0) rfl (by decide) (by decide) rfl (fun ls hl => ?_)
          refine lv_goto (tgt := 59) hx hb dX10_follows_107 (by decide) ?_
          refine lv_iload hx hb dX10_follows_59 (lv_at hl 0 rfl) ?_
          refine lv_bipush (v := 10) hx hb dX10_follows_61 (by decide) ?_
          refine lv_icmp_ge (tgt := 110) hx hb dX10_follows_63 (by decide) (fun q => absurd q (by decide)) (fun _ => ?_)
          refine lv_aload_n hx hb dX10_follows_66 rfl (lv_at hl 3 rfl) ?_
          refine qf_get hx hb hts inX10 hown hK hP (q0 := 0) (by decide) (hgU_0 ca o) rfl 0 (by decide) wq_353 (v := .ref (o + 1)) rfl dX10_follows_67 ?_
          refine lv_iload hx hb dX10_follows_70 (lv_at hl 0 rfl) ?_
          refine qc_Vi (As := [.int 7]) (rest := []) (k0 := 1) (u1_hasRemark l D ca o z4 y 7 (f4_1_6)) kc_yX9_hasRemark ⟨hx, hb, hml, hown, hts⟩ wq_527 rfl rfl ⟨Nat.le_of_ble_eq_true rfl, Nat.le_of_ble_eq_true rfl⟩ wq_all hP hK hS qw_Ai (q0 := 1) (by decide) (hgU_1 ca o _ _) rfl rfl hl.1 rfl (Nat.le_of_ble_eq_true rfl) dX10_follows_72 ⟨Nat.zero_le _, Nat.zero_le _⟩ (fun r24 u24 H locs h24 hP hS _ _ => ?_)
          subst h24
          refine lv_if_eq (tgt := 104) hx hb dX10_follows_75 (by decide) (fun _ => ?_) (fun q => absurd (by decide) q)
          refine lv_iinc (v := 8) (lv' := [(5, .int 8), (4, .int 0), (3, .int 1), (0, .ref (o + 0)), (1, .int 0), (2, .int a2)]) hx hb dX10_follows_104 hl (k := 0) rfl (by decide) (by decide) rfl (fun ls hl => ?_)
          refine lv_goto (tgt := 59) hx hb dX10_follows_107 (by decide) ?_
          refine lv_iload hx hb dX10_follows_59 (lv_at hl 0 rfl) ?_
          refine lv_bipush (v := 10) hx hb dX10_follows_61 (by decide) ?_
          refine lv_icmp_ge (tgt := 110) hx hb dX10_follows_63 (by decide) (fun q => absurd q (by decide)) (fun _ => ?_)
          refine lv_aload_n hx hb dX10_follows_66 rfl (lv_at hl 3 rfl) ?_
          refine qf_get hx hb hts inX10 hown hK hP (q0 := 0) (by decide) (hgU_0 ca o) rfl 0 (by decide) wq_353 (v := .ref (o + 1)) rfl dX10_follows_67 ?_
          refine lv_iload hx hb dX10_follows_70 (lv_at hl 0 rfl) ?_
          refine qc_Vi (As := [.int 8]) (rest := []) (k0 := 1) (u1_hasRemark l D ca o z4 y 8 (f4_1_6)) kc_yX9_hasRemark ⟨hx, hb, hml, hown, hts⟩ wq_527 rfl rfl ⟨Nat.le_of_ble_eq_true rfl, Nat.le_of_ble_eq_true rfl⟩ wq_all hP hK hS qw_Ai (q0 := 1) (by decide) (hgU_1 ca o _ _) rfl rfl hl.1 rfl (Nat.le_of_ble_eq_true rfl) dX10_follows_72 ⟨Nat.zero_le _, Nat.zero_le _⟩ (fun r25 u25 H locs h25 hP hS _ _ => ?_)
          subst h25
          refine lv_if_eq (tgt := 104) hx hb dX10_follows_75 (by decide) (fun _ => ?_) (fun q => absurd (by decide) q)
          refine lv_iinc (v := 9) (lv' := [(5, .int 9), (4, .int 0), (3, .int 1), (0, .ref (o + 0)), (1, .int 0), (2, .int a2)]) hx hb dX10_follows_104 hl (k := 0) rfl (by decide) (by decide) rfl (fun ls hl => ?_)
          refine lv_goto (tgt := 59) hx hb dX10_follows_107 (by decide) ?_
          refine lv_iload hx hb dX10_follows_59 (lv_at hl 0 rfl) ?_
          refine lv_bipush (v := 10) hx hb dX10_follows_61 (by decide) ?_
          refine lv_icmp_ge (tgt := 110) hx hb dX10_follows_63 (by decide) (fun q => absurd q (by decide)) (fun _ => ?_)
          refine lv_aload_n hx hb dX10_follows_66 rfl (lv_at hl 3 rfl) ?_
          refine qf_get hx hb hts inX10 hown hK hP (q0 := 0) (by decide) (hgU_0 ca o) rfl 0 (by decide) wq_353 (v := .ref (o + 1)) rfl dX10_follows_67 ?_
          refine lv_iload hx hb dX10_follows_70 (lv_at hl 0 rfl) ?_
          refine qc_Vi (As := [.int 9]) (rest := []) (k0 := 1) (u1_hasRemark l D ca o z4 y 9 (f4_1_6)) kc_yX9_hasRemark ⟨hx, hb, hml, hown, hts⟩ wq_527 rfl rfl ⟨Nat.le_of_ble_eq_true rfl, Nat.le_of_ble_eq_true rfl⟩ wq_all hP hK hS qw_Ai (q0 := 1) (by decide) (hgU_1 ca o _ _) rfl rfl hl.1 rfl (Nat.le_of_ble_eq_true rfl) dX10_follows_72 ⟨Nat.zero_le _, Nat.zero_le _⟩ (fun r26 u26 H locs h26 hP hS _ _ => ?_)
          subst h26
          refine lv_if_eq (tgt := 104) hx hb dX10_follows_75 (by decide) (fun _ => ?_) (fun q => absurd (by decide) q)
          refine lv_iinc (v := 10) (lv' := [(5, .int 10), (4, .int 0), (3, .int 1), (0, .ref (o + 0)), (1, .int 0), (2, .int a2)]) hx hb dX10_follows_104 hl (k := 0) rfl (by decide) (by decide) rfl (fun ls hl => ?_)
          refine lv_goto (tgt := 59) hx hb dX10_follows_107 (by decide) ?_
          refine lv_iload hx hb dX10_follows_59 (lv_at hl 0 rfl) ?_
          refine lv_bipush (v := 10) hx hb dX10_follows_61 (by decide) ?_
          refine lv_icmp_ge (tgt := 110) hx hb dX10_follows_63 (by decide) (fun _ => ?_) (fun q => absurd (by decide) q)
          refine lv_iload hx hb dX10_follows_110 (lv_at hl 1 rfl) ?_
          exact W.iret (v := 0) hx hb hr (fun t ht hW => ⟨⟨0, (z4, y), rfl, (ga_p (by omega)), by rw [ht]; exact hP, va_K.moved hW.alike hK⟩, hS.F ht⟩) hS.2.2 dX10_follows_112
      · have t3 : a2.toInt > (1 : Int) := gl_nle c3
        refine lv_iconst (v := (-1)) hx hb dX10_follows_17 (by decide) ?_
        exact W.iret (v := (-1)) hx hb hr (fun t ht hW => ⟨⟨(-1), (z, y), rfl, (ga_n (by omega)), by rw [ht]; exact hP, va_K.moved hW.alike hK⟩, hS.F ht⟩) hS.2.2 dX10_follows_18
  · subst h1r
    refine lv_if_eq (tgt := 17) hx hb dX10_follows_5 (by decide) (fun _ => ?_) (fun q => absurd (by decide) q)
    refine lv_iconst (v := (-1)) hx hb dX10_follows_17 (by decide) ?_
    exact W.iret (v := (-1)) hx hb hr (fun t ht hW => ⟨⟨(-1), (z, y), rfl, (ga_n (by omega)), by rw [ht]; exact hP, va_K.moved hW.alike hK⟩, hS.F ht⟩) hS.2.2 dX10_follows_18

set_option maxRecDepth 100000 in
set_option maxHeartbeats 4000000 in
theorem uP_clash (l : Launch) (D : va_G) (ca : Nat → ClassId) (o : Nat) (z : Nat → Nat → Int32) (y : Nat → Nat → Int64) (a1 : Int32) (a2 : Int32) (h1_5 : z 1 5 = 0) (h1_6 : z 1 6 = 0) (h1_7 : z 1 7 = 0) (h0_4 : z 0 4 = 0) (h0_2 : z 0 2 = 0) (h108_1 : z 108 1 = 0) : qM l yX10_clash cX10_clash 5 (some .int) 5 149 (qPre D vwCl (qT6 ca) o 132 (qG (GU ca o) z y) [.ref (o + 0), .int a1, .int a2]) (va_Qi (fun r _ => r = A_clash a1 a2) (qB D vwCl (qT6 ca) o 132 (fun u : qZ => qG (GU ca o) u.1 u.2)) (qw_A o 132)) (qw_A o 132) := by
  refine Met.ofW (cc := cX10_clash) (maxL := 5) (ret := (some .int)) (by decide) rfl ?_
  intro p e s m args below meth c s₁ B hml hv
  obtain ⟨rfl, hP, hK⟩ := hv
  have hx := B.exec
  have hb := B.bytes
  have hr := B.returns
  have hts0 := atoms_spec (ws := Cond.code yX10_clash cX10_clash 5 (some .int) :: qtbl) B.pre
  have hts : ∀ w ∈ qtbl, w.before _ s = true := fun w h => hts0 w (List.mem_cons_of_mem _ h)
  have hown : s.vm.findClass RX10 = some m.cls := findClass_of_methodNamed B.named
  have hlocks := B.notSynchronized
  have hz0 : (0 : Int32).toInt = 0 := rfl
  have hS : va_S (qw_A o 132) s.heap s.heap [] := va_S.rf
  have hl := lv_entry ([.ref (o + 0), .int a1, .int a2]) (n := 5) (Nat.le_of_ble_eq_true rfl)
  rw [lg_entry_eq]
  generalize (lg_sl ([.ref (o + 0), .int a1, .int a2]) ++ List.replicate (5 - (lg_sl ([.ref (o + 0), .int a1, .int a2])).length) Slot.unset).toArray = ls at hl ⊢
  have hl : lv_has ls 5 [(0, .ref (o + 0)), (1, .int a1), (2, .int a2)] := hl
  refine lv_aload_n hx hb dX10_clash_0 rfl (lv_at hl 0 rfl) ?_
  refine lv_iload_n hx hb dX10_clash_1 rfl (lv_at hl 1 rfl) ?_
  refine qc_Vi (As := [.int a1]) (rest := []) (k0 := 1) (u1_areRemarks l D ca o z y a1 (h1_6)) kc_yX10_areRemarks ⟨hx, hb, hml, hown, hts⟩ wq_583 rfl rfl ⟨Nat.le_of_ble_eq_true rfl, Nat.le_of_ble_eq_true rfl⟩ wq_all hP hK hS qw_Ai (q0 := 0) (by decide) (hgU_0 ca o _ _) rfl rfl hl.1 rfl (Nat.le_of_ble_eq_true rfl) dX10_clash_2 ⟨Nat.zero_le _, Nat.zero_le _⟩ (fun r1 u1 H locs h1 hP hS _ _ => ?_)
  rcases h1 with ⟨h1r, h1a⟩ | ⟨h1r, h1a⟩
  · subst h1r
    obtain rfl : a1 = 0 := gr_eq (y := 0) h1a
    refine lv_if_eq (tgt := 17) hx hb dX10_clash_5 (by decide) (fun q => absurd q (by decide)) (fun _ => ?_)
    refine lv_iload_n hx hb dX10_clash_8 rfl (lv_at hl 2 rfl) ?_
    refine lv_if_lt (tgt := 17) hx hb dX10_clash_9 (by decide) (fun c2 => ?_) (fun c2 => ?_)
    · have t2 : a2.toInt < (0 : Int) := gl_lt c2
      refine lv_iconst (v := (-1)) hx hb dX10_clash_17 (by decide) ?_
      exact W.iret (v := (-1)) hx hb hr (fun t ht hW => ⟨⟨(-1), (z, y), rfl, (ga_n (by omega)), by rw [ht]; exact hP, va_K.moved hW.alike hK⟩, hS.F ht⟩) hS.2.2 dX10_clash_18
    · have t2 : a2.toInt ≥ (0 : Int) := gl_nlt c2
      refine lv_iload_n hx hb dX10_clash_12 rfl (lv_at hl 2 rfl) ?_
      refine lv_iconst (v := 1) hx hb dX10_clash_13 (by decide) ?_
      refine lv_icmp_le (tgt := 19) hx hb dX10_clash_14 (by decide) (fun c3 => ?_) (fun c3 => ?_)
      · have t3 : a2.toInt ≤ (1 : Int) := gl_le c3
        refine lv_aload_n hx hb dX10_clash_19 rfl (lv_at hl 0 rfl) ?_
        refine qf_get hx hb hts inX10 hown hK hP (q0 := 0) (by decide) (hgU_0 ca o) rfl 7 (by decide) wq_360 (v := .ref (o + 108)) rfl dX10_clash_20 ?_
        refine lv_aload_n hx hb dX10_clash_23 rfl (lv_at hl 0 rfl) ?_
        refine qf_get hx hb hts inX10 hown hK hP (q0 := 0) (by decide) (hgU_0 ca o) rfl 6 (by decide) wq_359 (v := .ref (o + 104)) rfl dX10_clash_24 ?_
        refine qc_Vi (As := [.ref (o + 104)]) (rest := []) (k0 := 1) (u1_isCounted l D ca o z y (h1_5) (h1_6) (h108_1)) kc_yX3_isCounted ⟨hx, hb, hml, hown, hts⟩ wq_627 rfl rfl ⟨Nat.le_of_ble_eq_true rfl, Nat.le_of_ble_eq_true rfl⟩ wq_all hP hK hS qw_Ai (q0 := 108) (by decide) (hgU_108 ca o _ _) rfl rfl hl.1 rfl (Nat.le_of_ble_eq_true rfl) dX10_clash_27 ⟨Nat.zero_le _, Nat.zero_le _⟩ (fun r4 u4 H locs h4 hP hS _ _ => ?_)
        obtain ⟨z4, y4⟩ := u4
        obtain ⟨h4r, h4f, h4y, h4m⟩ := h4
        dsimp only at h4f h4y h4m hP
        subst h4r; rw [h4y] at hP
        have f4_0_2 : z4 0 2 = 0 := (congrFun (h4f 0 (by decide) (by decide) (by decide) (by decide)) 2).trans (h0_2)
        have f4_0_4 : z4 0 4 = 0 := (congrFun (h4f 0 (by decide) (by decide) (by decide) (by decide)) 4).trans (h0_4)
        have f4_1_5 : z4 1 5 = 0 := (congrFun (h4f 1 (by decide) (by decide) (by decide) (by decide)) 5).trans (h1_5)
        have f4_1_6 : z4 1 6 = 0 := (congrFun (h4f 1 (by decide) (by decide) (by decide) (by decide)) 6).trans (h1_6)
        have f4_1_7 : z4 1 7 = 0 := (congrFun (h4f 1 (by decide) (by decide) (by decide) (by decide)) 7).trans (h1_7)
        refine lv_if_ne (tgt := 36) hx hb dX10_clash_30 (by decide) (fun _ => ?_) (fun q => absurd q (by decide))
        refine lv_aload_n hx hb dX10_clash_36 rfl (lv_at hl 0 rfl) ?_
        refine qf_get hx hb hts inX10 hown hK hP (q0 := 0) (by decide) (hgU_0 ca o) rfl 7 (by decide) wq_360 (v := .ref (o + 108)) rfl dX10_clash_37 ?_
        refine lv_iload_n hx hb dX10_clash_40 rfl (lv_at hl 1 rfl) ?_
        refine qc_Vi (As := [.int 0]) (rest := []) (k0 := 1) (u1_of0 l D ca o z4 y (h4m.1)) kc_yX3_of ⟨hx, hb, hml, hown, hts⟩ wq_644 rfl rfl ⟨Nat.le_of_ble_eq_true rfl, Nat.le_of_ble_eq_true rfl⟩ wq_all hP hK hS qw_Ai (q0 := 108) (by decide) (hgU_108 ca o _ _) rfl rfl hl.1 rfl (Nat.le_of_ble_eq_true rfl) dX10_clash_41 ⟨Nat.zero_le _, Nat.zero_le _⟩ (fun r5 u5 H locs h5 hP hS _ _ => ?_)
        subst h5
        refine lv_if_le (tgt := 50) hx hb dX10_clash_44 (by decide) (fun q => absurd q (by decide)) (fun _ => ?_)
        refine lv_bipush (v := (-2)) hx hb dX10_clash_47 (by decide) ?_
        exact W.iret (v := (-2)) hx hb hr (fun t ht hW => ⟨⟨(-2), (z4, y), rfl, (ga_p (by omega)), by rw [ht]; exact hP, va_K.moved hW.alike hK⟩, hS.F ht⟩) hS.2.2 dX10_clash_49
      · have t3 : a2.toInt > (1 : Int) := gl_nle c3
        refine lv_iconst (v := (-1)) hx hb dX10_clash_17 (by decide) ?_
        exact W.iret (v := (-1)) hx hb hr (fun t ht hW => ⟨⟨(-1), (z, y), rfl, (ga_n (by omega)), by rw [ht]; exact hP, va_K.moved hW.alike hK⟩, hS.F ht⟩) hS.2.2 dX10_clash_18
  · subst h1r
    refine lv_if_eq (tgt := 17) hx hb dX10_clash_5 (by decide) (fun _ => ?_) (fun q => absurd (by decide) q)
    refine lv_iconst (v := (-1)) hx hb dX10_clash_17 (by decide) ?_
    exact W.iret (v := (-1)) hx hb hr (fun t ht hW => ⟨⟨(-1), (z, y), rfl, (ga_n (by omega)), by rw [ht]; exact hP, va_K.moved hW.alike hK⟩, hS.F ht⟩) hS.2.2 dX10_clash_18

set_option maxRecDepth 100000 in
set_option maxHeartbeats 4000000 in
theorem uP_needless (l : Launch) (D : va_G) (ca : Nat → ClassId) (o : Nat) (z : Nat → Nat → Int32) (y : Nat → Nat → Int64) (a1 : Int32) (h1_5 : z 1 5 = 0) (h1_6 : z 1 6 = 0) (h1_7 : z 1 7 = 0) (h0_4 : z 0 4 = 0) (h0_2 : z 0 2 = 0) (h108_1 : z 108 1 = 0) : qM l yX10_needless cX10_needless 5 (some .int) 5 149 (qPre D vwCl (qT6 ca) o 132 (qG (GU ca o) z y) [.ref (o + 0), .int a1]) (va_Qi (fun r _ => r = A_needless a1) (qB D vwCl (qT6 ca) o 132 (fun u : qZ => qG (GU ca o) u.1 u.2)) (qw_A o 132)) (qw_A o 132) := by
  refine Met.ofW (cc := cX10_needless) (maxL := 5) (ret := (some .int)) (by decide) rfl ?_
  intro p e s m args below meth c s₁ B hml hv
  obtain ⟨rfl, hP, hK⟩ := hv
  have hx := B.exec
  have hb := B.bytes
  have hr := B.returns
  have hts0 := atoms_spec (ws := Cond.code yX10_needless cX10_needless 5 (some .int) :: qtbl) B.pre
  have hts : ∀ w ∈ qtbl, w.before _ s = true := fun w h => hts0 w (List.mem_cons_of_mem _ h)
  have hown : s.vm.findClass RX10 = some m.cls := findClass_of_methodNamed B.named
  have hlocks := B.notSynchronized
  have hz0 : (0 : Int32).toInt = 0 := rfl
  have hS : va_S (qw_A o 132) s.heap s.heap [] := va_S.rf
  have hl := lv_entry ([.ref (o + 0), .int a1]) (n := 5) (Nat.le_of_ble_eq_true rfl)
  rw [lg_entry_eq]
  generalize (lg_sl ([.ref (o + 0), .int a1]) ++ List.replicate (5 - (lg_sl ([.ref (o + 0), .int a1])).length) Slot.unset).toArray = ls at hl ⊢
  have hl : lv_has ls 5 [(0, .ref (o + 0)), (1, .int a1)] := hl
  refine lv_aload_n hx hb dX10_needless_0 rfl (lv_at hl 0 rfl) ?_
  refine lv_iload_n hx hb dX10_needless_1 rfl (lv_at hl 1 rfl) ?_
  refine qc_Vi (As := [.int a1]) (rest := []) (k0 := 1) (u1_areRemarks l D ca o z y a1 (h1_6)) kc_yX10_areRemarks ⟨hx, hb, hml, hown, hts⟩ wq_583 rfl rfl ⟨Nat.le_of_ble_eq_true rfl, Nat.le_of_ble_eq_true rfl⟩ wq_all hP hK hS qw_Ai (q0 := 0) (by decide) (hgU_0 ca o _ _) rfl rfl hl.1 rfl (Nat.le_of_ble_eq_true rfl) dX10_needless_2 ⟨Nat.zero_le _, Nat.zero_le _⟩ (fun r1 u1 H locs h1 hP hS _ _ => ?_)
  rcases h1 with ⟨h1r, h1a⟩ | ⟨h1r, h1a⟩
  · subst h1r
    obtain rfl : a1 = 0 := gr_eq (y := 0) h1a
    refine lv_if_ne (tgt := 10) hx hb dX10_needless_5 (by decide) (fun _ => ?_) (fun q => absurd q (by decide))
    refine lv_aload_n hx hb dX10_needless_10 rfl (lv_at hl 0 rfl) ?_
    refine qf_get hx hb hts inX10 hown hK hP (q0 := 0) (by decide) (hgU_0 ca o) rfl 7 (by decide) wq_360 (v := .ref (o + 108)) rfl dX10_needless_11 ?_
    refine lv_aload_n hx hb dX10_needless_14 rfl (lv_at hl 0 rfl) ?_
    refine qf_get hx hb hts inX10 hown hK hP (q0 := 0) (by decide) (hgU_0 ca o) rfl 6 (by decide) wq_359 (v := .ref (o + 104)) rfl dX10_needless_15 ?_
    refine qc_Vi (As := [.ref (o + 104)]) (rest := []) (k0 := 1) (u1_isCounted l D ca o z y (h1_5) (h1_6) (h108_1)) kc_yX3_isCounted ⟨hx, hb, hml, hown, hts⟩ wq_627 rfl rfl ⟨Nat.le_of_ble_eq_true rfl, Nat.le_of_ble_eq_true rfl⟩ wq_all hP hK hS qw_Ai (q0 := 108) (by decide) (hgU_108 ca o _ _) rfl rfl hl.1 rfl (Nat.le_of_ble_eq_true rfl) dX10_needless_18 ⟨Nat.zero_le _, Nat.zero_le _⟩ (fun r2 u2 H locs h2 hP hS _ _ => ?_)
    obtain ⟨z2, y2⟩ := u2
    obtain ⟨h2r, h2f, h2y, h2m⟩ := h2
    dsimp only at h2f h2y h2m hP
    subst h2r; rw [h2y] at hP
    have f2_0_2 : z2 0 2 = 0 := (congrFun (h2f 0 (by decide) (by decide) (by decide) (by decide)) 2).trans (h0_2)
    have f2_0_4 : z2 0 4 = 0 := (congrFun (h2f 0 (by decide) (by decide) (by decide) (by decide)) 4).trans (h0_4)
    have f2_1_5 : z2 1 5 = 0 := (congrFun (h2f 1 (by decide) (by decide) (by decide) (by decide)) 5).trans (h1_5)
    have f2_1_6 : z2 1 6 = 0 := (congrFun (h2f 1 (by decide) (by decide) (by decide) (by decide)) 6).trans (h1_6)
    have f2_1_7 : z2 1 7 = 0 := (congrFun (h2f 1 (by decide) (by decide) (by decide) (by decide)) 7).trans (h1_7)
    refine lv_if_ne (tgt := 27) hx hb dX10_needless_21 (by decide) (fun _ => ?_) (fun q => absurd q (by decide))
    refine lv_iconst (v := 0) hx hb dX10_needless_27 (by decide) ?_
    refine lv_istore_n (lv' := [(2, .int 0), (0, .ref (o + 0)), (1, .int 0)]) hx hb dX10_needless_28 rfl hl (by decide) rfl (fun ls hl => ?_)
    refine lv_iconst (v := 0) hx hb dX10_needless_29 (by decide) ?_
    refine lv_istore_n (lv' := [(3, .int 0), (2, .int 0), (0, .ref (o + 0)), (1, .int 0)]) hx hb dX10_needless_30 rfl hl (by decide) rfl (fun ls hl => ?_)
    refine lv_iload_n hx hb dX10_needless_31 rfl (lv_at hl 0 rfl) ?_
    refine lv_bipush (v := 10) hx hb dX10_needless_32 (by decide) ?_
    refine lv_icmp_ge (tgt := 84) hx hb dX10_needless_34 (by decide) (fun q => absurd q (by decide)) (fun _ => ?_)
    refine lv_iconst (v := 1) hx hb dX10_needless_37 (by decide) ?_
    refine lv_iload_n hx hb dX10_needless_38 rfl (lv_at hl 0 rfl) ?_
    refine lv_ishl hx hb dX10_needless_39 ?_
    refine qtop (x' := 1) (by decide) ?_
    refine lv_istore (lv' := [(4, .int 1), (3, .int 0), (2, .int 0), (0, .ref (o + 0)), (1, .int 0)]) hx hb dX10_needless_40 hl (by decide) rfl (fun ls hl => ?_)
    refine lv_iload_n hx hb dX10_needless_42 rfl (lv_at hl 4 rfl) ?_
    refine lv_iload hx hb dX10_needless_43 (lv_at hl 0 rfl) ?_
    refine lv_iand hx hb dX10_needless_45 ?_
    refine qtop (x' := 0) (by decide) ?_
    refine lv_if_eq (tgt := 78) hx hb dX10_needless_46 (by decide) (fun _ => ?_) (fun q => absurd (by decide) q)
    refine lv_iinc (v := 1) (lv' := [(3, .int 1), (4, .int 1), (2, .int 0), (0, .ref (o + 0)), (1, .int 0)]) hx hb dX10_needless_78 hl (k := 1) rfl (by decide) (by decide) rfl (fun ls hl => ?_)
    refine lv_goto (tgt := 31) hx hb dX10_needless_81 (by decide) ?_
    refine lv_iload_n hx hb dX10_needless_31 rfl (lv_at hl 0 rfl) ?_
    refine lv_bipush (v := 10) hx hb dX10_needless_32 (by decide) ?_
    refine lv_icmp_ge (tgt := 84) hx hb dX10_needless_34 (by decide) (fun q => absurd q (by decide)) (fun _ => ?_)
    refine lv_iconst (v := 1) hx hb dX10_needless_37 (by decide) ?_
    refine lv_iload_n hx hb dX10_needless_38 rfl (lv_at hl 0 rfl) ?_
    refine lv_ishl hx hb dX10_needless_39 ?_
    refine qtop (x' := 2) (by decide) ?_
    refine lv_istore (lv' := [(4, .int 2), (3, .int 1), (2, .int 0), (0, .ref (o + 0)), (1, .int 0)]) hx hb dX10_needless_40 hl (by decide) rfl (fun ls hl => ?_)
    refine lv_iload_n hx hb dX10_needless_42 rfl (lv_at hl 4 rfl) ?_
    refine lv_iload hx hb dX10_needless_43 (lv_at hl 0 rfl) ?_
    refine lv_iand hx hb dX10_needless_45 ?_
    refine qtop (x' := 0) (by decide) ?_
    refine lv_if_eq (tgt := 78) hx hb dX10_needless_46 (by decide) (fun _ => ?_) (fun q => absurd (by decide) q)
    refine lv_iinc (v := 2) (lv' := [(3, .int 2), (4, .int 2), (2, .int 0), (0, .ref (o + 0)), (1, .int 0)]) hx hb dX10_needless_78 hl (k := 1) rfl (by decide) (by decide) rfl (fun ls hl => ?_)
    refine lv_goto (tgt := 31) hx hb dX10_needless_81 (by decide) ?_
    refine lv_iload_n hx hb dX10_needless_31 rfl (lv_at hl 0 rfl) ?_
    refine lv_bipush (v := 10) hx hb dX10_needless_32 (by decide) ?_
    refine lv_icmp_ge (tgt := 84) hx hb dX10_needless_34 (by decide) (fun q => absurd q (by decide)) (fun _ => ?_)
    refine lv_iconst (v := 1) hx hb dX10_needless_37 (by decide) ?_
    refine lv_iload_n hx hb dX10_needless_38 rfl (lv_at hl 0 rfl) ?_
    refine lv_ishl hx hb dX10_needless_39 ?_
    refine qtop (x' := 4) (by decide) ?_
    refine lv_istore (lv' := [(4, .int 4), (3, .int 2), (2, .int 0), (0, .ref (o + 0)), (1, .int 0)]) hx hb dX10_needless_40 hl (by decide) rfl (fun ls hl => ?_)
    refine lv_iload_n hx hb dX10_needless_42 rfl (lv_at hl 4 rfl) ?_
    refine lv_iload hx hb dX10_needless_43 (lv_at hl 0 rfl) ?_
    refine lv_iand hx hb dX10_needless_45 ?_
    refine qtop (x' := 0) (by decide) ?_
    refine lv_if_eq (tgt := 78) hx hb dX10_needless_46 (by decide) (fun _ => ?_) (fun q => absurd (by decide) q)
    refine lv_iinc (v := 3) (lv' := [(3, .int 3), (4, .int 4), (2, .int 0), (0, .ref (o + 0)), (1, .int 0)]) hx hb dX10_needless_78 hl (k := 1) rfl (by decide) (by decide) rfl (fun ls hl => ?_)
    refine lv_goto (tgt := 31) hx hb dX10_needless_81 (by decide) ?_
    refine lv_iload_n hx hb dX10_needless_31 rfl (lv_at hl 0 rfl) ?_
    refine lv_bipush (v := 10) hx hb dX10_needless_32 (by decide) ?_
    refine lv_icmp_ge (tgt := 84) hx hb dX10_needless_34 (by decide) (fun q => absurd q (by decide)) (fun _ => ?_)
    refine lv_iconst (v := 1) hx hb dX10_needless_37 (by decide) ?_
    refine lv_iload_n hx hb dX10_needless_38 rfl (lv_at hl 0 rfl) ?_
    refine lv_ishl hx hb dX10_needless_39 ?_
    refine qtop (x' := 8) (by decide) ?_
    refine lv_istore (lv' := [(4, .int 8), (3, .int 3), (2, .int 0), (0, .ref (o + 0)), (1, .int 0)]) hx hb dX10_needless_40 hl (by decide) rfl (fun ls hl => ?_)
    refine lv_iload_n hx hb dX10_needless_42 rfl (lv_at hl 4 rfl) ?_
    refine lv_iload hx hb dX10_needless_43 (lv_at hl 0 rfl) ?_
    refine lv_iand hx hb dX10_needless_45 ?_
    refine qtop (x' := 0) (by decide) ?_
    refine lv_if_eq (tgt := 78) hx hb dX10_needless_46 (by decide) (fun _ => ?_) (fun q => absurd (by decide) q)
    refine lv_iinc (v := 4) (lv' := [(3, .int 4), (4, .int 8), (2, .int 0), (0, .ref (o + 0)), (1, .int 0)]) hx hb dX10_needless_78 hl (k := 1) rfl (by decide) (by decide) rfl (fun ls hl => ?_)
    refine lv_goto (tgt := 31) hx hb dX10_needless_81 (by decide) ?_
    refine lv_iload_n hx hb dX10_needless_31 rfl (lv_at hl 0 rfl) ?_
    refine lv_bipush (v := 10) hx hb dX10_needless_32 (by decide) ?_
    refine lv_icmp_ge (tgt := 84) hx hb dX10_needless_34 (by decide) (fun q => absurd q (by decide)) (fun _ => ?_)
    refine lv_iconst (v := 1) hx hb dX10_needless_37 (by decide) ?_
    refine lv_iload_n hx hb dX10_needless_38 rfl (lv_at hl 0 rfl) ?_
    refine lv_ishl hx hb dX10_needless_39 ?_
    refine qtop (x' := 16) (by decide) ?_
    refine lv_istore (lv' := [(4, .int 16), (3, .int 4), (2, .int 0), (0, .ref (o + 0)), (1, .int 0)]) hx hb dX10_needless_40 hl (by decide) rfl (fun ls hl => ?_)
    refine lv_iload_n hx hb dX10_needless_42 rfl (lv_at hl 4 rfl) ?_
    refine lv_iload hx hb dX10_needless_43 (lv_at hl 0 rfl) ?_
    refine lv_iand hx hb dX10_needless_45 ?_
    refine qtop (x' := 0) (by decide) ?_
    refine lv_if_eq (tgt := 78) hx hb dX10_needless_46 (by decide) (fun _ => ?_) (fun q => absurd (by decide) q)
    refine lv_iinc (v := 5) (lv' := [(3, .int 5), (4, .int 16), (2, .int 0), (0, .ref (o + 0)), (1, .int 0)]) hx hb dX10_needless_78 hl (k := 1) rfl (by decide) (by decide) rfl (fun ls hl => ?_)
    refine lv_goto (tgt := 31) hx hb dX10_needless_81 (by decide) ?_
    refine lv_iload_n hx hb dX10_needless_31 rfl (lv_at hl 0 rfl) ?_
    refine lv_bipush (v := 10) hx hb dX10_needless_32 (by decide) ?_
    refine lv_icmp_ge (tgt := 84) hx hb dX10_needless_34 (by decide) (fun q => absurd q (by decide)) (fun _ => ?_)
    refine lv_iconst (v := 1) hx hb dX10_needless_37 (by decide) ?_
    refine lv_iload_n hx hb dX10_needless_38 rfl (lv_at hl 0 rfl) ?_
    refine lv_ishl hx hb dX10_needless_39 ?_
    refine qtop (x' := 32) (by decide) ?_
    refine lv_istore (lv' := [(4, .int 32), (3, .int 5), (2, .int 0), (0, .ref (o + 0)), (1, .int 0)]) hx hb dX10_needless_40 hl (by decide) rfl (fun ls hl => ?_)
    refine lv_iload_n hx hb dX10_needless_42 rfl (lv_at hl 4 rfl) ?_
    refine lv_iload hx hb dX10_needless_43 (lv_at hl 0 rfl) ?_
    refine lv_iand hx hb dX10_needless_45 ?_
    refine qtop (x' := 0) (by decide) ?_
    refine lv_if_eq (tgt := 78) hx hb dX10_needless_46 (by decide) (fun _ => ?_) (fun q => absurd (by decide) q)
    refine lv_iinc (v := 6) (lv' := [(3, .int 6), (4, .int 32), (2, .int 0), (0, .ref (o + 0)), (1, .int 0)]) hx hb dX10_needless_78 hl (k := 1) rfl (by decide) (by decide) rfl (fun ls hl => ?_)
    refine lv_goto (tgt := 31) hx hb dX10_needless_81 (by decide) ?_
    refine lv_iload_n hx hb dX10_needless_31 rfl (lv_at hl 0 rfl) ?_
    refine lv_bipush (v := 10) hx hb dX10_needless_32 (by decide) ?_
    refine lv_icmp_ge (tgt := 84) hx hb dX10_needless_34 (by decide) (fun q => absurd q (by decide)) (fun _ => ?_)
    refine lv_iconst (v := 1) hx hb dX10_needless_37 (by decide) ?_
    refine lv_iload_n hx hb dX10_needless_38 rfl (lv_at hl 0 rfl) ?_
    refine lv_ishl hx hb dX10_needless_39 ?_
    refine qtop (x' := 64) (by decide) ?_
    refine lv_istore (lv' := [(4, .int 64), (3, .int 6), (2, .int 0), (0, .ref (o + 0)), (1, .int 0)]) hx hb dX10_needless_40 hl (by decide) rfl (fun ls hl => ?_)
    refine lv_iload_n hx hb dX10_needless_42 rfl (lv_at hl 4 rfl) ?_
    refine lv_iload hx hb dX10_needless_43 (lv_at hl 0 rfl) ?_
    refine lv_iand hx hb dX10_needless_45 ?_
    refine qtop (x' := 0) (by decide) ?_
    refine lv_if_eq (tgt := 78) hx hb dX10_needless_46 (by decide) (fun _ => ?_) (fun q => absurd (by decide) q)
    refine lv_iinc (v := 7) (lv' := [(3, .int 7), (4, .int 64), (2, .int 0), (0, .ref (o + 0)), (1, .int 0)]) hx hb dX10_needless_78 hl (k := 1) rfl (by decide) (by decide) rfl (fun ls hl => ?_)
    refine lv_goto (tgt := 31) hx hb dX10_needless_81 (by decide) ?_
    refine lv_iload_n hx hb dX10_needless_31 rfl (lv_at hl 0 rfl) ?_
    refine lv_bipush (v := 10) hx hb dX10_needless_32 (by decide) ?_
    refine lv_icmp_ge (tgt := 84) hx hb dX10_needless_34 (by decide) (fun q => absurd q (by decide)) (fun _ => ?_)
    refine lv_iconst (v := 1) hx hb dX10_needless_37 (by decide) ?_
    refine lv_iload_n hx hb dX10_needless_38 rfl (lv_at hl 0 rfl) ?_
    refine lv_ishl hx hb dX10_needless_39 ?_
    refine qtop (x' := 128) (by decide) ?_
    refine lv_istore (lv' := [(4, .int 128), (3, .int 7), (2, .int 0), (0, .ref (o + 0)), (1, .int 0)]) hx hb dX10_needless_40 hl (by decide) rfl (fun ls hl => ?_)
    refine lv_iload_n hx hb dX10_needless_42 rfl (lv_at hl 4 rfl) ?_
    refine lv_iload hx hb dX10_needless_43 (lv_at hl 0 rfl) ?_
    refine lv_iand hx hb dX10_needless_45 ?_
    refine qtop (x' := 0) (by decide) ?_
    refine lv_if_eq (tgt := 78) hx hb dX10_needless_46 (by decide) (fun _ => ?_) (fun q => absurd (by decide) q)
    refine lv_iinc (v := 8) (lv' := [(3, .int 8), (4, .int 128), (2, .int 0), (0, .ref (o + 0)), (1, .int 0)]) hx hb dX10_needless_78 hl (k := 1) rfl (by decide) (by decide) rfl (fun ls hl => ?_)
    refine lv_goto (tgt := 31) hx hb dX10_needless_81 (by decide) ?_
    refine lv_iload_n hx hb dX10_needless_31 rfl (lv_at hl 0 rfl) ?_
    refine lv_bipush (v := 10) hx hb dX10_needless_32 (by decide) ?_
    refine lv_icmp_ge (tgt := 84) hx hb dX10_needless_34 (by decide) (fun q => absurd q (by decide)) (fun _ => ?_)
    refine lv_iconst (v := 1) hx hb dX10_needless_37 (by decide) ?_
    refine lv_iload_n hx hb dX10_needless_38 rfl (lv_at hl 0 rfl) ?_
    refine lv_ishl hx hb dX10_needless_39 ?_
    refine qtop (x' := 256) (by decide) ?_
    refine lv_istore (lv' := [(4, .int 256), (3, .int 8), (2, .int 0), (0, .ref (o + 0)), (1, .int 0)]) hx hb dX10_needless_40 hl (by decide) rfl (fun ls hl => ?_)
    refine lv_iload_n hx hb dX10_needless_42 rfl (lv_at hl 4 rfl) ?_
    refine lv_iload hx hb dX10_needless_43 (lv_at hl 0 rfl) ?_
    refine lv_iand hx hb dX10_needless_45 ?_
    refine qtop (x' := 0) (by decide) ?_
    refine lv_if_eq (tgt := 78) hx hb dX10_needless_46 (by decide) (fun _ => ?_) (fun q => absurd (by decide) q)
    refine lv_iinc (v := 9) (lv' := [(3, .int 9), (4, .int 256), (2, .int 0), (0, .ref (o + 0)), (1, .int 0)]) hx hb dX10_needless_78 hl (k := 1) rfl (by decide) (by decide) rfl (fun ls hl => ?_)
    refine lv_goto (tgt := 31) hx hb dX10_needless_81 (by decide) ?_
    refine lv_iload_n hx hb dX10_needless_31 rfl (lv_at hl 0 rfl) ?_
    refine lv_bipush (v := 10) hx hb dX10_needless_32 (by decide) ?_
    refine lv_icmp_ge (tgt := 84) hx hb dX10_needless_34 (by decide) (fun q => absurd q (by decide)) (fun _ => ?_)
    refine lv_iconst (v := 1) hx hb dX10_needless_37 (by decide) ?_
    refine lv_iload_n hx hb dX10_needless_38 rfl (lv_at hl 0 rfl) ?_
    refine lv_ishl hx hb dX10_needless_39 ?_
    refine qtop (x' := 512) (by decide) ?_
    refine lv_istore (lv' := [(4, .int 512), (3, .int 9), (2, .int 0), (0, .ref (o + 0)), (1, .int 0)]) hx hb dX10_needless_40 hl (by decide) rfl (fun ls hl => ?_)
    refine lv_iload_n hx hb dX10_needless_42 rfl (lv_at hl 4 rfl) ?_
    refine lv_iload hx hb dX10_needless_43 (lv_at hl 0 rfl) ?_
    refine lv_iand hx hb dX10_needless_45 ?_
    refine qtop (x' := 0) (by decide) ?_
    refine lv_if_eq (tgt := 78) hx hb dX10_needless_46 (by decide) (fun _ => ?_) (fun q => absurd (by decide) q)
    refine lv_iinc (v := 10) (lv' := [(3, .int 10), (4, .int 512), (2, .int 0), (0, .ref (o + 0)), (1, .int 0)]) hx hb dX10_needless_78 hl (k := 1) rfl (by decide) (by decide) rfl (fun ls hl => ?_)
    refine lv_goto (tgt := 31) hx hb dX10_needless_81 (by decide) ?_
    refine lv_iload_n hx hb dX10_needless_31 rfl (lv_at hl 0 rfl) ?_
    refine lv_bipush (v := 10) hx hb dX10_needless_32 (by decide) ?_
    refine lv_icmp_ge (tgt := 84) hx hb dX10_needless_34 (by decide) (fun _ => ?_) (fun q => absurd (by decide) q)
    refine lv_iload_n hx hb dX10_needless_84 rfl (lv_at hl 2 rfl) ?_
    exact W.iret (v := 0) hx hb hr (fun t ht hW => ⟨⟨0, (z2, y), rfl, (ga_p (by omega)), by rw [ht]; exact hP, va_K.moved hW.alike hK⟩, hS.F ht⟩) hS.2.2 dX10_needless_85
  · subst h1r
    refine lv_if_ne (tgt := 10) hx hb dX10_needless_5 (by decide) (fun q => absurd q (by decide)) (fun _ => ?_)
    refine lv_iconst (v := (-1)) hx hb dX10_needless_8 (by decide) ?_
    exact W.iret (v := (-1)) hx hb hr (fun t ht hW => ⟨⟨(-1), (z, y), rfl, (ga_n (by omega)), by rw [ht]; exact hP, va_K.moved hW.alike hK⟩, hS.F ht⟩) hS.2.2 dX10_needless_9

set_option maxRecDepth 100000 in
set_option maxHeartbeats 4000000 in
theorem uP_settles (l : Launch) (D : va_G) (ca : Nat → ClassId) (o : Nat) (z : Nat → Nat → Int32) (y : Nat → Nat → Int64) (a1 : Int32) (h1_5 : z 1 5 = 0) (h1_6 : z 1 6 = 0) (h1_7 : z 1 7 = 0) (h0_4 : z 0 4 = 0) (h0_2 : z 0 2 = 0) (h108_1 : z 108 1 = 0) : qM l yX10_settles cX10_settles 3 (some .int) 5 149 (qPre D vwCl (qT6 ca) o 132 (qG (GU ca o) z y) [.ref (o + 0), .int a1]) (va_Qi (fun r _ => r = A_settles a1) (qB D vwCl (qT6 ca) o 132 (fun u : qZ => qG (GU ca o) u.1 u.2)) (qw_A o 132)) (qw_A o 132) := by
  refine Met.ofW (cc := cX10_settles) (maxL := 3) (ret := (some .int)) (by decide) rfl ?_
  intro p e s m args below meth c s₁ B hml hv
  obtain ⟨rfl, hP, hK⟩ := hv
  have hx := B.exec
  have hb := B.bytes
  have hr := B.returns
  have hts0 := atoms_spec (ws := Cond.code yX10_settles cX10_settles 3 (some .int) :: qtbl) B.pre
  have hts : ∀ w ∈ qtbl, w.before _ s = true := fun w h => hts0 w (List.mem_cons_of_mem _ h)
  have hown : s.vm.findClass RX10 = some m.cls := findClass_of_methodNamed B.named
  have hlocks := B.notSynchronized
  have hz0 : (0 : Int32).toInt = 0 := rfl
  have hS : va_S (qw_A o 132) s.heap s.heap [] := va_S.rf
  have hl := lv_entry ([.ref (o + 0), .int a1]) (n := 3) (Nat.le_of_ble_eq_true rfl)
  rw [lg_entry_eq]
  generalize (lg_sl ([.ref (o + 0), .int a1]) ++ List.replicate (3 - (lg_sl ([.ref (o + 0), .int a1])).length) Slot.unset).toArray = ls at hl ⊢
  have hl : lv_has ls 3 [(0, .ref (o + 0)), (1, .int a1)] := hl
  refine lv_aload_n hx hb dX10_settles_0 rfl (lv_at hl 0 rfl) ?_
  refine lv_iload_n hx hb dX10_settles_1 rfl (lv_at hl 1 rfl) ?_
  refine qc_Vi (As := [.int a1]) (rest := []) (k0 := 1) (u1_areRemarks l D ca o z y a1 (h1_6)) kc_yX10_areRemarks ⟨hx, hb, hml, hown, hts⟩ wq_583 rfl rfl ⟨Nat.le_of_ble_eq_true rfl, Nat.le_of_ble_eq_true rfl⟩ wq_all hP hK hS qw_Ai (q0 := 0) (by decide) (hgU_0 ca o _ _) rfl rfl hl.1 rfl (Nat.le_of_ble_eq_true rfl) dX10_settles_2 ⟨Nat.zero_le _, Nat.zero_le _⟩ (fun r1 u1 H locs h1 hP hS _ _ => ?_)
  rcases h1 with ⟨h1r, h1a⟩ | ⟨h1r, h1a⟩
  · subst h1r
    obtain rfl : a1 = 0 := gr_eq (y := 0) h1a
    refine lv_if_ne (tgt := 10) hx hb dX10_settles_5 (by decide) (fun _ => ?_) (fun q => absurd q (by decide))
    refine lv_aload_n hx hb dX10_settles_10 rfl (lv_at hl 0 rfl) ?_
    refine qf_get hx hb hts inX10 hown hK hP (q0 := 0) (by decide) (hgU_0 ca o) rfl 7 (by decide) wq_360 (v := .ref (o + 108)) rfl dX10_settles_11 ?_
    refine lv_aload_n hx hb dX10_settles_14 rfl (lv_at hl 0 rfl) ?_
    refine qf_get hx hb hts inX10 hown hK hP (q0 := 0) (by decide) (hgU_0 ca o) rfl 6 (by decide) wq_359 (v := .ref (o + 104)) rfl dX10_settles_15 ?_
    refine qc_Vi (As := [.ref (o + 104)]) (rest := []) (k0 := 1) (u1_isCounted l D ca o z y (h1_5) (h1_6) (h108_1)) kc_yX3_isCounted ⟨hx, hb, hml, hown, hts⟩ wq_627 rfl rfl ⟨Nat.le_of_ble_eq_true rfl, Nat.le_of_ble_eq_true rfl⟩ wq_all hP hK hS qw_Ai (q0 := 108) (by decide) (hgU_108 ca o _ _) rfl rfl hl.1 rfl (Nat.le_of_ble_eq_true rfl) dX10_settles_18 ⟨Nat.zero_le _, Nat.zero_le _⟩ (fun r2 u2 H locs h2 hP hS _ _ => ?_)
    obtain ⟨z2, y2⟩ := u2
    obtain ⟨h2r, h2f, h2y, h2m⟩ := h2
    dsimp only at h2f h2y h2m hP
    subst h2r; rw [h2y] at hP
    have f2_0_2 : z2 0 2 = 0 := (congrFun (h2f 0 (by decide) (by decide) (by decide) (by decide)) 2).trans (h0_2)
    have f2_0_4 : z2 0 4 = 0 := (congrFun (h2f 0 (by decide) (by decide) (by decide) (by decide)) 4).trans (h0_4)
    have f2_1_5 : z2 1 5 = 0 := (congrFun (h2f 1 (by decide) (by decide) (by decide) (by decide)) 5).trans (h1_5)
    have f2_1_6 : z2 1 6 = 0 := (congrFun (h2f 1 (by decide) (by decide) (by decide) (by decide)) 6).trans (h1_6)
    have f2_1_7 : z2 1 7 = 0 := (congrFun (h2f 1 (by decide) (by decide) (by decide) (by decide)) 7).trans (h1_7)
    refine lv_if_ne (tgt := 27) hx hb dX10_settles_21 (by decide) (fun _ => ?_) (fun q => absurd q (by decide))
    refine lv_iconst (v := 0) hx hb dX10_settles_27 (by decide) ?_
    refine lv_istore_n (lv' := [(2, .int 0), (0, .ref (o + 0)), (1, .int 0)]) hx hb dX10_settles_28 rfl hl (by decide) rfl (fun ls hl => ?_)
    refine lv_iload_n hx hb dX10_settles_29 rfl (lv_at hl 0 rfl) ?_
    refine lv_bipush (v := 10) hx hb dX10_settles_30 (by decide) ?_
    refine lv_icmp_ge (tgt := 68) hx hb dX10_settles_32 (by decide) (fun q => absurd q (by decide)) (fun _ => ?_)
    refine lv_aload_n hx hb dX10_settles_35 rfl (lv_at hl 1 rfl) ?_
    refine lv_iload_n hx hb dX10_settles_36 rfl (lv_at hl 2 rfl) ?_
    refine lv_iload_n hx hb dX10_settles_37 rfl (lv_at hl 0 rfl) ?_
    refine qc_Vi (As := [.int 0, .int 0]) (rest := []) (k0 := 2) (u1_isOther l D ca o z2 y 0 0 (f2_1_6)) kc_yX10_isOther ⟨hx, hb, hml, hown, hts⟩ wq_717 rfl rfl ⟨Nat.le_of_ble_eq_true rfl, Nat.le_of_ble_eq_true rfl⟩ wq_all hP hK hS qw_Ai (q0 := 0) (by decide) (hgU_0 ca o _ _) rfl rfl hl.1 rfl (Nat.le_of_ble_eq_true rfl) dX10_settles_38 ⟨Nat.zero_le _, Nat.zero_le _⟩ (fun r3 u3 H locs h3 hP hS _ _ => ?_)
    subst h3
    refine lv_if_eq (tgt := 62) hx hb dX10_settles_41 (by decide) (fun _ => ?_) (fun q => absurd (by decide) q)
    refine lv_iinc (v := 1) (lv' := [(2, .int 1), (0, .ref (o + 0)), (1, .int 0)]) hx hb dX10_settles_62 hl (k := 0) rfl (by decide) (by decide) rfl (fun ls hl => ?_)
    refine lv_goto (tgt := 29) hx hb dX10_settles_65 (by decide) ?_
    refine lv_iload_n hx hb dX10_settles_29 rfl (lv_at hl 0 rfl) ?_
    refine lv_bipush (v := 10) hx hb dX10_settles_30 (by decide) ?_
    refine lv_icmp_ge (tgt := 68) hx hb dX10_settles_32 (by decide) (fun q => absurd q (by decide)) (fun _ => ?_)
    refine lv_aload_n hx hb dX10_settles_35 rfl (lv_at hl 1 rfl) ?_
    refine lv_iload_n hx hb dX10_settles_36 rfl (lv_at hl 2 rfl) ?_
    refine lv_iload_n hx hb dX10_settles_37 rfl (lv_at hl 0 rfl) ?_
    refine qc_Vi (As := [.int 0, .int 1]) (rest := []) (k0 := 2) (u1_isOther l D ca o z2 y 0 1 (f2_1_6)) kc_yX10_isOther ⟨hx, hb, hml, hown, hts⟩ wq_717 rfl rfl ⟨Nat.le_of_ble_eq_true rfl, Nat.le_of_ble_eq_true rfl⟩ wq_all hP hK hS qw_Ai (q0 := 0) (by decide) (hgU_0 ca o _ _) rfl rfl hl.1 rfl (Nat.le_of_ble_eq_true rfl) dX10_settles_38 ⟨Nat.zero_le _, Nat.zero_le _⟩ (fun r4 u4 H locs h4 hP hS _ _ => ?_)
    subst h4
    refine lv_if_eq (tgt := 62) hx hb dX10_settles_41 (by decide) (fun _ => ?_) (fun q => absurd (by decide) q)
    refine lv_iinc (v := 2) (lv' := [(2, .int 2), (0, .ref (o + 0)), (1, .int 0)]) hx hb dX10_settles_62 hl (k := 0) rfl (by decide) (by decide) rfl (fun ls hl => ?_)
    refine lv_goto (tgt := 29) hx hb dX10_settles_65 (by decide) ?_
    refine lv_iload_n hx hb dX10_settles_29 rfl (lv_at hl 0 rfl) ?_
    refine lv_bipush (v := 10) hx hb dX10_settles_30 (by decide) ?_
    refine lv_icmp_ge (tgt := 68) hx hb dX10_settles_32 (by decide) (fun q => absurd q (by decide)) (fun _ => ?_)
    refine lv_aload_n hx hb dX10_settles_35 rfl (lv_at hl 1 rfl) ?_
    refine lv_iload_n hx hb dX10_settles_36 rfl (lv_at hl 2 rfl) ?_
    refine lv_iload_n hx hb dX10_settles_37 rfl (lv_at hl 0 rfl) ?_
    refine qc_Vi (As := [.int 0, .int 2]) (rest := []) (k0 := 2) (u1_isOther l D ca o z2 y 0 2 (f2_1_6)) kc_yX10_isOther ⟨hx, hb, hml, hown, hts⟩ wq_717 rfl rfl ⟨Nat.le_of_ble_eq_true rfl, Nat.le_of_ble_eq_true rfl⟩ wq_all hP hK hS qw_Ai (q0 := 0) (by decide) (hgU_0 ca o _ _) rfl rfl hl.1 rfl (Nat.le_of_ble_eq_true rfl) dX10_settles_38 ⟨Nat.zero_le _, Nat.zero_le _⟩ (fun r5 u5 H locs h5 hP hS _ _ => ?_)
    subst h5
    refine lv_if_eq (tgt := 62) hx hb dX10_settles_41 (by decide) (fun _ => ?_) (fun q => absurd (by decide) q)
    refine lv_iinc (v := 3) (lv' := [(2, .int 3), (0, .ref (o + 0)), (1, .int 0)]) hx hb dX10_settles_62 hl (k := 0) rfl (by decide) (by decide) rfl (fun ls hl => ?_)
    refine lv_goto (tgt := 29) hx hb dX10_settles_65 (by decide) ?_
    refine lv_iload_n hx hb dX10_settles_29 rfl (lv_at hl 0 rfl) ?_
    refine lv_bipush (v := 10) hx hb dX10_settles_30 (by decide) ?_
    refine lv_icmp_ge (tgt := 68) hx hb dX10_settles_32 (by decide) (fun q => absurd q (by decide)) (fun _ => ?_)
    refine lv_aload_n hx hb dX10_settles_35 rfl (lv_at hl 1 rfl) ?_
    refine lv_iload_n hx hb dX10_settles_36 rfl (lv_at hl 2 rfl) ?_
    refine lv_iload_n hx hb dX10_settles_37 rfl (lv_at hl 0 rfl) ?_
    refine qc_Vi (As := [.int 0, .int 3]) (rest := []) (k0 := 2) (u1_isOther l D ca o z2 y 0 3 (f2_1_6)) kc_yX10_isOther ⟨hx, hb, hml, hown, hts⟩ wq_717 rfl rfl ⟨Nat.le_of_ble_eq_true rfl, Nat.le_of_ble_eq_true rfl⟩ wq_all hP hK hS qw_Ai (q0 := 0) (by decide) (hgU_0 ca o _ _) rfl rfl hl.1 rfl (Nat.le_of_ble_eq_true rfl) dX10_settles_38 ⟨Nat.zero_le _, Nat.zero_le _⟩ (fun r6 u6 H locs h6 hP hS _ _ => ?_)
    subst h6
    refine lv_if_eq (tgt := 62) hx hb dX10_settles_41 (by decide) (fun _ => ?_) (fun q => absurd (by decide) q)
    refine lv_iinc (v := 4) (lv' := [(2, .int 4), (0, .ref (o + 0)), (1, .int 0)]) hx hb dX10_settles_62 hl (k := 0) rfl (by decide) (by decide) rfl (fun ls hl => ?_)
    refine lv_goto (tgt := 29) hx hb dX10_settles_65 (by decide) ?_
    refine lv_iload_n hx hb dX10_settles_29 rfl (lv_at hl 0 rfl) ?_
    refine lv_bipush (v := 10) hx hb dX10_settles_30 (by decide) ?_
    refine lv_icmp_ge (tgt := 68) hx hb dX10_settles_32 (by decide) (fun q => absurd q (by decide)) (fun _ => ?_)
    refine lv_aload_n hx hb dX10_settles_35 rfl (lv_at hl 1 rfl) ?_
    refine lv_iload_n hx hb dX10_settles_36 rfl (lv_at hl 2 rfl) ?_
    refine lv_iload_n hx hb dX10_settles_37 rfl (lv_at hl 0 rfl) ?_
    refine qc_Vi (As := [.int 0, .int 4]) (rest := []) (k0 := 2) (u1_isOther l D ca o z2 y 0 4 (f2_1_6)) kc_yX10_isOther ⟨hx, hb, hml, hown, hts⟩ wq_717 rfl rfl ⟨Nat.le_of_ble_eq_true rfl, Nat.le_of_ble_eq_true rfl⟩ wq_all hP hK hS qw_Ai (q0 := 0) (by decide) (hgU_0 ca o _ _) rfl rfl hl.1 rfl (Nat.le_of_ble_eq_true rfl) dX10_settles_38 ⟨Nat.zero_le _, Nat.zero_le _⟩ (fun r7 u7 H locs h7 hP hS _ _ => ?_)
    subst h7
    refine lv_if_eq (tgt := 62) hx hb dX10_settles_41 (by decide) (fun _ => ?_) (fun q => absurd (by decide) q)
    refine lv_iinc (v := 5) (lv' := [(2, .int 5), (0, .ref (o + 0)), (1, .int 0)]) hx hb dX10_settles_62 hl (k := 0) rfl (by decide) (by decide) rfl (fun ls hl => ?_)
    refine lv_goto (tgt := 29) hx hb dX10_settles_65 (by decide) ?_
    refine lv_iload_n hx hb dX10_settles_29 rfl (lv_at hl 0 rfl) ?_
    refine lv_bipush (v := 10) hx hb dX10_settles_30 (by decide) ?_
    refine lv_icmp_ge (tgt := 68) hx hb dX10_settles_32 (by decide) (fun q => absurd q (by decide)) (fun _ => ?_)
    refine lv_aload_n hx hb dX10_settles_35 rfl (lv_at hl 1 rfl) ?_
    refine lv_iload_n hx hb dX10_settles_36 rfl (lv_at hl 2 rfl) ?_
    refine lv_iload_n hx hb dX10_settles_37 rfl (lv_at hl 0 rfl) ?_
    refine qc_Vi (As := [.int 0, .int 5]) (rest := []) (k0 := 2) (u1_isOther l D ca o z2 y 0 5 (f2_1_6)) kc_yX10_isOther ⟨hx, hb, hml, hown, hts⟩ wq_717 rfl rfl ⟨Nat.le_of_ble_eq_true rfl, Nat.le_of_ble_eq_true rfl⟩ wq_all hP hK hS qw_Ai (q0 := 0) (by decide) (hgU_0 ca o _ _) rfl rfl hl.1 rfl (Nat.le_of_ble_eq_true rfl) dX10_settles_38 ⟨Nat.zero_le _, Nat.zero_le _⟩ (fun r8 u8 H locs h8 hP hS _ _ => ?_)
    subst h8
    refine lv_if_eq (tgt := 62) hx hb dX10_settles_41 (by decide) (fun _ => ?_) (fun q => absurd (by decide) q)
    refine lv_iinc (v := 6) (lv' := [(2, .int 6), (0, .ref (o + 0)), (1, .int 0)]) hx hb dX10_settles_62 hl (k := 0) rfl (by decide) (by decide) rfl (fun ls hl => ?_)
    refine lv_goto (tgt := 29) hx hb dX10_settles_65 (by decide) ?_
    refine lv_iload_n hx hb dX10_settles_29 rfl (lv_at hl 0 rfl) ?_
    refine lv_bipush (v := 10) hx hb dX10_settles_30 (by decide) ?_
    refine lv_icmp_ge (tgt := 68) hx hb dX10_settles_32 (by decide) (fun q => absurd q (by decide)) (fun _ => ?_)
    refine lv_aload_n hx hb dX10_settles_35 rfl (lv_at hl 1 rfl) ?_
    refine lv_iload_n hx hb dX10_settles_36 rfl (lv_at hl 2 rfl) ?_
    refine lv_iload_n hx hb dX10_settles_37 rfl (lv_at hl 0 rfl) ?_
    refine qc_Vi (As := [.int 0, .int 6]) (rest := []) (k0 := 2) (u1_isOther l D ca o z2 y 0 6 (f2_1_6)) kc_yX10_isOther ⟨hx, hb, hml, hown, hts⟩ wq_717 rfl rfl ⟨Nat.le_of_ble_eq_true rfl, Nat.le_of_ble_eq_true rfl⟩ wq_all hP hK hS qw_Ai (q0 := 0) (by decide) (hgU_0 ca o _ _) rfl rfl hl.1 rfl (Nat.le_of_ble_eq_true rfl) dX10_settles_38 ⟨Nat.zero_le _, Nat.zero_le _⟩ (fun r9 u9 H locs h9 hP hS _ _ => ?_)
    subst h9
    refine lv_if_eq (tgt := 62) hx hb dX10_settles_41 (by decide) (fun _ => ?_) (fun q => absurd (by decide) q)
    refine lv_iinc (v := 7) (lv' := [(2, .int 7), (0, .ref (o + 0)), (1, .int 0)]) hx hb dX10_settles_62 hl (k := 0) rfl (by decide) (by decide) rfl (fun ls hl => ?_)
    refine lv_goto (tgt := 29) hx hb dX10_settles_65 (by decide) ?_
    refine lv_iload_n hx hb dX10_settles_29 rfl (lv_at hl 0 rfl) ?_
    refine lv_bipush (v := 10) hx hb dX10_settles_30 (by decide) ?_
    refine lv_icmp_ge (tgt := 68) hx hb dX10_settles_32 (by decide) (fun q => absurd q (by decide)) (fun _ => ?_)
    refine lv_aload_n hx hb dX10_settles_35 rfl (lv_at hl 1 rfl) ?_
    refine lv_iload_n hx hb dX10_settles_36 rfl (lv_at hl 2 rfl) ?_
    refine lv_iload_n hx hb dX10_settles_37 rfl (lv_at hl 0 rfl) ?_
    refine qc_Vi (As := [.int 0, .int 7]) (rest := []) (k0 := 2) (u1_isOther l D ca o z2 y 0 7 (f2_1_6)) kc_yX10_isOther ⟨hx, hb, hml, hown, hts⟩ wq_717 rfl rfl ⟨Nat.le_of_ble_eq_true rfl, Nat.le_of_ble_eq_true rfl⟩ wq_all hP hK hS qw_Ai (q0 := 0) (by decide) (hgU_0 ca o _ _) rfl rfl hl.1 rfl (Nat.le_of_ble_eq_true rfl) dX10_settles_38 ⟨Nat.zero_le _, Nat.zero_le _⟩ (fun r10 u10 H locs h10 hP hS _ _ => ?_)
    subst h10
    refine lv_if_eq (tgt := 62) hx hb dX10_settles_41 (by decide) (fun _ => ?_) (fun q => absurd (by decide) q)
    refine lv_iinc (v := 8) (lv' := [(2, .int 8), (0, .ref (o + 0)), (1, .int 0)]) hx hb dX10_settles_62 hl (k := 0) rfl (by decide) (by decide) rfl (fun ls hl => ?_)
    refine lv_goto (tgt := 29) hx hb dX10_settles_65 (by decide) ?_
    refine lv_iload_n hx hb dX10_settles_29 rfl (lv_at hl 0 rfl) ?_
    refine lv_bipush (v := 10) hx hb dX10_settles_30 (by decide) ?_
    refine lv_icmp_ge (tgt := 68) hx hb dX10_settles_32 (by decide) (fun q => absurd q (by decide)) (fun _ => ?_)
    refine lv_aload_n hx hb dX10_settles_35 rfl (lv_at hl 1 rfl) ?_
    refine lv_iload_n hx hb dX10_settles_36 rfl (lv_at hl 2 rfl) ?_
    refine lv_iload_n hx hb dX10_settles_37 rfl (lv_at hl 0 rfl) ?_
    refine qc_Vi (As := [.int 0, .int 8]) (rest := []) (k0 := 2) (u1_isOther l D ca o z2 y 0 8 (f2_1_6)) kc_yX10_isOther ⟨hx, hb, hml, hown, hts⟩ wq_717 rfl rfl ⟨Nat.le_of_ble_eq_true rfl, Nat.le_of_ble_eq_true rfl⟩ wq_all hP hK hS qw_Ai (q0 := 0) (by decide) (hgU_0 ca o _ _) rfl rfl hl.1 rfl (Nat.le_of_ble_eq_true rfl) dX10_settles_38 ⟨Nat.zero_le _, Nat.zero_le _⟩ (fun r11 u11 H locs h11 hP hS _ _ => ?_)
    subst h11
    refine lv_if_eq (tgt := 62) hx hb dX10_settles_41 (by decide) (fun _ => ?_) (fun q => absurd (by decide) q)
    refine lv_iinc (v := 9) (lv' := [(2, .int 9), (0, .ref (o + 0)), (1, .int 0)]) hx hb dX10_settles_62 hl (k := 0) rfl (by decide) (by decide) rfl (fun ls hl => ?_)
    refine lv_goto (tgt := 29) hx hb dX10_settles_65 (by decide) ?_
    refine lv_iload_n hx hb dX10_settles_29 rfl (lv_at hl 0 rfl) ?_
    refine lv_bipush (v := 10) hx hb dX10_settles_30 (by decide) ?_
    refine lv_icmp_ge (tgt := 68) hx hb dX10_settles_32 (by decide) (fun q => absurd q (by decide)) (fun _ => ?_)
    refine lv_aload_n hx hb dX10_settles_35 rfl (lv_at hl 1 rfl) ?_
    refine lv_iload_n hx hb dX10_settles_36 rfl (lv_at hl 2 rfl) ?_
    refine lv_iload_n hx hb dX10_settles_37 rfl (lv_at hl 0 rfl) ?_
    refine qc_Vi (As := [.int 0, .int 9]) (rest := []) (k0 := 2) (u1_isOther l D ca o z2 y 0 9 (f2_1_6)) kc_yX10_isOther ⟨hx, hb, hml, hown, hts⟩ wq_717 rfl rfl ⟨Nat.le_of_ble_eq_true rfl, Nat.le_of_ble_eq_true rfl⟩ wq_all hP hK hS qw_Ai (q0 := 0) (by decide) (hgU_0 ca o _ _) rfl rfl hl.1 rfl (Nat.le_of_ble_eq_true rfl) dX10_settles_38 ⟨Nat.zero_le _, Nat.zero_le _⟩ (fun r12 u12 H locs h12 hP hS _ _ => ?_)
    subst h12
    refine lv_if_eq (tgt := 62) hx hb dX10_settles_41 (by decide) (fun _ => ?_) (fun q => absurd (by decide) q)
    refine lv_iinc (v := 10) (lv' := [(2, .int 10), (0, .ref (o + 0)), (1, .int 0)]) hx hb dX10_settles_62 hl (k := 0) rfl (by decide) (by decide) rfl (fun ls hl => ?_)
    refine lv_goto (tgt := 29) hx hb dX10_settles_65 (by decide) ?_
    refine lv_iload_n hx hb dX10_settles_29 rfl (lv_at hl 0 rfl) ?_
    refine lv_bipush (v := 10) hx hb dX10_settles_30 (by decide) ?_
    refine lv_icmp_ge (tgt := 68) hx hb dX10_settles_32 (by decide) (fun _ => ?_) (fun q => absurd (by decide) q)
    refine lv_bipush (v := (-2)) hx hb dX10_settles_68 (by decide) ?_
    exact W.iret (v := (-2)) hx hb hr (fun t ht hW => ⟨⟨(-2), (z2, y), rfl, (ga_p (by omega)), by rw [ht]; exact hP, va_K.moved hW.alike hK⟩, hS.F ht⟩) hS.2.2 dX10_settles_70
  · subst h1r
    refine lv_if_ne (tgt := 10) hx hb dX10_settles_5 (by decide) (fun q => absurd q (by decide)) (fun _ => ?_)
    refine lv_iconst (v := (-1)) hx hb dX10_settles_8 (by decide) ?_
    exact W.iret (v := (-1)) hx hb hr (fun t ht hW => ⟨⟨(-1), (z, y), rfl, (ga_n (by omega)), by rw [ht]; exact hP, va_K.moved hW.alike hK⟩, hS.F ht⟩) hS.2.2 dX10_settles_9

set_option maxRecDepth 100000 in
set_option maxHeartbeats 4000000 in
theorem uP_fewest (l : Launch) (D : va_G) (ca : Nat → ClassId) (o : Nat) (z : Nat → Nat → Int32) (y : Nat → Nat → Int64) (a1 : Int32) (a2 : Int32) (h1_5 : z 1 5 = 0) (h1_6 : z 1 6 = 0) (h1_7 : z 1 7 = 0) (h0_4 : z 0 4 = 0) (h0_2 : z 0 2 = 0) (h108_1 : z 108 1 = 0) : qM l yX10_fewest cX10_fewest 6 (some .int) 5 149 (qPre D vwCl (qT6 ca) o 132 (qG (GU ca o) z y) [.ref (o + 0), .int a1, .int a2]) (va_Qi (fun r _ => r = A_fewest a1 a2) (qB D vwCl (qT6 ca) o 132 (fun u : qZ => qG (GU ca o) u.1 u.2)) (qw_A o 132)) (qw_A o 132) := by
  refine Met.ofW (cc := cX10_fewest) (maxL := 6) (ret := (some .int)) (by decide) rfl ?_
  intro p e s m args below meth c s₁ B hml hv
  obtain ⟨rfl, hP, hK⟩ := hv
  have hx := B.exec
  have hb := B.bytes
  have hr := B.returns
  have hts0 := atoms_spec (ws := Cond.code yX10_fewest cX10_fewest 6 (some .int) :: qtbl) B.pre
  have hts : ∀ w ∈ qtbl, w.before _ s = true := fun w h => hts0 w (List.mem_cons_of_mem _ h)
  have hown : s.vm.findClass RX10 = some m.cls := findClass_of_methodNamed B.named
  have hlocks := B.notSynchronized
  have hz0 : (0 : Int32).toInt = 0 := rfl
  have hS : va_S (qw_A o 132) s.heap s.heap [] := va_S.rf
  have hl := lv_entry ([.ref (o + 0), .int a1, .int a2]) (n := 6) (Nat.le_of_ble_eq_true rfl)
  rw [lg_entry_eq]
  generalize (lg_sl ([.ref (o + 0), .int a1, .int a2]) ++ List.replicate (6 - (lg_sl ([.ref (o + 0), .int a1, .int a2])).length) Slot.unset).toArray = ls at hl ⊢
  have hl : lv_has ls 6 [(0, .ref (o + 0)), (1, .int a1), (2, .int a2)] := hl
  refine lv_aload_n hx hb dX10_fewest_0 rfl (lv_at hl 0 rfl) ?_
  refine lv_iload_n hx hb dX10_fewest_1 rfl (lv_at hl 1 rfl) ?_
  refine qc_Vi (As := [.int a1]) (rest := []) (k0 := 1) (u1_areRemarks l D ca o z y a1 (h1_6)) kc_yX10_areRemarks ⟨hx, hb, hml, hown, hts⟩ wq_583 rfl rfl ⟨Nat.le_of_ble_eq_true rfl, Nat.le_of_ble_eq_true rfl⟩ wq_all hP hK hS qw_Ai (q0 := 0) (by decide) (hgU_0 ca o _ _) rfl rfl hl.1 rfl (Nat.le_of_ble_eq_true rfl) dX10_fewest_2 ⟨Nat.zero_le _, Nat.zero_le _⟩ (fun r1 u1 H locs h1 hP hS _ _ => ?_)
  rcases h1 with ⟨h1r, h1a⟩ | ⟨h1r, h1a⟩
  · subst h1r
    obtain rfl : a1 = 0 := gr_eq (y := 0) h1a
    refine lv_if_eq (tgt := 17) hx hb dX10_fewest_5 (by decide) (fun q => absurd q (by decide)) (fun _ => ?_)
    refine lv_iload_n hx hb dX10_fewest_8 rfl (lv_at hl 2 rfl) ?_
    refine lv_if_lt (tgt := 17) hx hb dX10_fewest_9 (by decide) (fun c2 => ?_) (fun c2 => ?_)
    · have t2 : a2.toInt < (0 : Int) := gl_lt c2
      refine lv_iconst (v := (-1)) hx hb dX10_fewest_17 (by decide) ?_
      exact W.iret (v := (-1)) hx hb hr (fun t ht hW => ⟨⟨(-1), (z, y), rfl, (ga_n (by omega)), by rw [ht]; exact hP, va_K.moved hW.alike hK⟩, hS.F ht⟩) hS.2.2 dX10_fewest_18
    · have t2 : a2.toInt ≥ (0 : Int) := gl_nlt c2
      refine lv_iload_n hx hb dX10_fewest_12 rfl (lv_at hl 2 rfl) ?_
      refine lv_iconst (v := 1) hx hb dX10_fewest_13 (by decide) ?_
      refine lv_icmp_le (tgt := 19) hx hb dX10_fewest_14 (by decide) (fun c3 => ?_) (fun c3 => ?_)
      · have t3 : a2.toInt ≤ (1 : Int) := gl_le c3
        refine lv_aload_n hx hb dX10_fewest_19 rfl (lv_at hl 0 rfl) ?_
        refine qf_get hx hb hts inX10 hown hK hP (q0 := 0) (by decide) (hgU_0 ca o) rfl 7 (by decide) wq_360 (v := .ref (o + 108)) rfl dX10_fewest_20 ?_
        refine lv_aload_n hx hb dX10_fewest_23 rfl (lv_at hl 0 rfl) ?_
        refine qf_get hx hb hts inX10 hown hK hP (q0 := 0) (by decide) (hgU_0 ca o) rfl 6 (by decide) wq_359 (v := .ref (o + 104)) rfl dX10_fewest_24 ?_
        refine qc_Vi (As := [.ref (o + 104)]) (rest := []) (k0 := 1) (u1_isCounted l D ca o z y (h1_5) (h1_6) (h108_1)) kc_yX3_isCounted ⟨hx, hb, hml, hown, hts⟩ wq_627 rfl rfl ⟨Nat.le_of_ble_eq_true rfl, Nat.le_of_ble_eq_true rfl⟩ wq_all hP hK hS qw_Ai (q0 := 108) (by decide) (hgU_108 ca o _ _) rfl rfl hl.1 rfl (Nat.le_of_ble_eq_true rfl) dX10_fewest_27 ⟨Nat.zero_le _, Nat.zero_le _⟩ (fun r4 u4 H locs h4 hP hS _ _ => ?_)
        obtain ⟨z4, y4⟩ := u4
        obtain ⟨h4r, h4f, h4y, h4m⟩ := h4
        dsimp only at h4f h4y h4m hP
        subst h4r; rw [h4y] at hP
        have f4_0_2 : z4 0 2 = 0 := (congrFun (h4f 0 (by decide) (by decide) (by decide) (by decide)) 2).trans (h0_2)
        have f4_0_4 : z4 0 4 = 0 := (congrFun (h4f 0 (by decide) (by decide) (by decide) (by decide)) 4).trans (h0_4)
        have f4_1_5 : z4 1 5 = 0 := (congrFun (h4f 1 (by decide) (by decide) (by decide) (by decide)) 5).trans (h1_5)
        have f4_1_6 : z4 1 6 = 0 := (congrFun (h4f 1 (by decide) (by decide) (by decide) (by decide)) 6).trans (h1_6)
        have f4_1_7 : z4 1 7 = 0 := (congrFun (h4f 1 (by decide) (by decide) (by decide) (by decide)) 7).trans (h1_7)
        refine lv_if_ne (tgt := 36) hx hb dX10_fewest_30 (by decide) (fun _ => ?_) (fun q => absurd q (by decide))
        refine lv_aload_n hx hb dX10_fewest_36 rfl (lv_at hl 0 rfl) ?_
        refine qf_get hx hb hts inX10 hown hK hP (q0 := 0) (by decide) (hgU_0 ca o) rfl 0 (by decide) wq_353 (v := .ref (o + 1)) rfl dX10_fewest_37 ?_
        refine qc_Vi (As := []) (rest := []) (k0 := 0) (u1_remarksSaid l D ca o z4 y (f4_1_6)) kc_yX9_remarksSaid ⟨hx, hb, hml, hown, hts⟩ wq_553 rfl rfl ⟨Nat.le_of_ble_eq_true rfl, Nat.le_of_ble_eq_true rfl⟩ wq_all hP hK hS qw_Ai (q0 := 1) (by decide) (hgU_1 ca o _ _) rfl rfl hl.1 rfl (Nat.le_of_ble_eq_true rfl) dX10_fewest_40 ⟨Nat.zero_le _, Nat.zero_le _⟩ (fun r5 u5 H locs h5 hP hS _ _ => ?_)
        subst h5
        refine lv_iload_n hx hb dX10_fewest_43 rfl (lv_at hl 1 rfl) ?_
        refine lv_iconst (v := (-1)) hx hb dX10_fewest_44 (by decide) ?_
        refine lv_ixor hx hb dX10_fewest_45 ?_
        refine qtop (x' := (-1)) (by decide) ?_
        refine lv_iand hx hb dX10_fewest_46 ?_
        refine qtop (x' := 0) (by decide) ?_
        refine lv_istore_n (lv' := [(3, .int 0), (0, .ref (o + 0)), (1, .int 0), (2, .int a2)]) hx hb dX10_fewest_47 rfl hl (by decide) rfl (fun ls hl => ?_)
        refine lv_iconst (v := (-1)) hx hb dX10_fewest_48 (by decide) ?_
        refine lv_istore (lv' := [(4, .int ((-1))), (3, .int 0), (0, .ref (o + 0)), (1, .int 0), (2, .int a2)]) hx hb dX10_fewest_49 hl (by decide) rfl (fun ls hl => ?_)
        refine lv_iconst (v := 0) hx hb dX10_fewest_51 (by decide) ?_
        refine lv_istore (lv' := [(5, .int 0), (4, .int ((-1))), (3, .int 0), (0, .ref (o + 0)), (1, .int 0), (2, .int a2)]) hx hb dX10_fewest_52 hl (by decide) rfl (fun ls hl => ?_)
        refine lv_iload hx hb dX10_fewest_54 (lv_at hl 0 rfl) ?_
        refine lv_sipush (v := 1024) hx hb dX10_fewest_56 (by decide) ?_
        refine lv_icmp_ge (tgt := 120) hx hb dX10_fewest_59 (by decide) (fun q => absurd q (by decide)) (fun _ => ?_)
        refine lv_iload hx hb dX10_fewest_62 (lv_at hl 0 rfl) ?_
        refine lv_iload_n hx hb dX10_fewest_64 rfl (lv_at hl 2 rfl) ?_
        refine lv_iconst (v := (-1)) hx hb dX10_fewest_65 (by decide) ?_
        refine lv_ixor hx hb dX10_fewest_66 ?_
        refine qtop (x' := (-1)) (by decide) ?_
        refine lv_iand hx hb dX10_fewest_67 ?_
        refine qtop (x' := 0) (by decide) ?_
        refine lv_if_ne (tgt := 114) hx hb dX10_fewest_68 (by decide) (fun q => absurd q (by decide)) (fun _ => ?_)
        refine lv_iload hx hb dX10_fewest_71 (lv_at hl 0 rfl) ?_
        refine qc_Si (As := [.int 0]) (rest := []) (k0 := 1) (u1_bit0 l D ca o z4 y) kc_yJ6_bitCount_0f7a4 ⟨hx, hb, hml, hown, hts⟩ wq_513 rfl rfl ⟨Nat.le_of_ble_eq_true rfl, Nat.le_of_ble_eq_true rfl⟩ wq_all hP hK hS qw_Ai rfl hl.1 rfl (Nat.le_of_ble_eq_true rfl) dX10_fewest_73 ⟨Nat.zero_le _, Nat.zero_le _⟩ (fun r6 u6 H locs h6 hP hS _ _ => ?_)
        subst h6
        refine lv_iconst (v := 3) hx hb dX10_fewest_76 (by decide) ?_
        refine lv_icmp_gt (tgt := 114) hx hb dX10_fewest_77 (by decide) (fun q => absurd q (by decide)) (fun _ => ?_)
        refine lv_aload_n hx hb dX10_fewest_80 rfl (lv_at hl 3 rfl) ?_
        refine qf_get hx hb hts inX10 hown hK hP (q0 := 0) (by decide) (hgU_0 ca o) rfl 7 (by decide) wq_360 (v := .ref (o + 108)) rfl dX10_fewest_81 ?_
        refine lv_iload_n hx hb dX10_fewest_84 rfl (lv_at hl 4 rfl) ?_
        refine lv_iload hx hb dX10_fewest_85 (lv_at hl 0 rfl) ?_
        refine lv_ior hx hb dX10_fewest_87 ?_
        refine qtop (x' := 0) (by decide) ?_
        refine qc_Vi (As := [.int 0]) (rest := []) (k0 := 1) (u1_of0 l D ca o z4 y (h4m.1)) kc_yX3_of ⟨hx, hb, hml, hown, hts⟩ wq_644 rfl rfl ⟨Nat.le_of_ble_eq_true rfl, Nat.le_of_ble_eq_true rfl⟩ wq_all hP hK hS qw_Ai (q0 := 108) (by decide) (hgU_108 ca o _ _) rfl rfl hl.1 rfl (Nat.le_of_ble_eq_true rfl) dX10_fewest_88 ⟨Nat.zero_le _, Nat.zero_le _⟩ (fun r7 u7 H locs h7 hP hS _ _ => ?_)
        subst h7
        refine lv_iconst (v := 1) hx hb dX10_fewest_91 (by decide) ?_
        refine lv_icmp_ne (tgt := 114) hx hb dX10_fewest_92 (by decide) (fun q => absurd q (by decide)) (fun _ => ?_)
        refine lv_iload hx hb dX10_fewest_95 (lv_at hl 1 rfl) ?_
        refine lv_if_lt (tgt := 110) hx hb dX10_fewest_97 (by decide) (fun _ => ?_) (fun q => absurd (by decide) q)
        refine lv_iload hx hb dX10_fewest_110 (lv_at hl 0 rfl) ?_
        refine lv_istore (lv' := [(4, .int 0), (5, .int 0), (3, .int 0), (0, .ref (o + 0)), (1, .int 0), (2, .int a2)]) hx hb dX10_fewest_112 hl (by decide) rfl (fun ls hl => ?_)
        refine lv_iinc (v := 1) (lv' := [(5, .int 1), (4, .int 0), (3, .int 0), (0, .ref (o + 0)), (1, .int 0), (2, .int a2)]) hx hb dX10_fewest_114 hl (k := 1) rfl (by decide) (by decide) rfl (fun ls hl => ?_)
        refine lv_goto (tgt := 54) hx hb dX10_fewest_117 (by decide) ?_
        have loop8 : ∀ (n i8 : Nat) (x8 : Int32), 1024 < i8 + n → i8 ≤ 1024 → 1 ≤ i8 → x8.toInt = (i8 : Int) → ∀ (H : Heap) (locs : List Loc), qw_P D vwCl o 132 (qG (GU ca o) z4 y) H → va_S (qw_A o 132) s.heap H locs → ∀ (ls : Array Slot), lv_has ls 6 [(5, .int x8), (4, .int 0), (3, .int 0), (0, .ref (o + 0)), (1, .int 0), (2, .int a2)] → W p l e (headSpec (Cond.code yX10_fewest cX10_fewest 6 (some .int) :: qtbl) ({ frames := 5, cells := 0, slots := 0, locals := 149 })).room s m (([.ref (o + 0), .int 0, .int a2] : List Value).toArray) below meth c H locs 0 0 (MQ below (va_Qi (fun r _ => r = A_fewest 0 a2) (qB D vwCl (qT6 ca) o 132 (fun u : qZ => qG (GU ca o) u.1 u.2)) (qw_A o 132)) (([.ref (o + 0), .int 0, .int a2] : List Value).toArray) s 0 0 (qw_A o 132)) (F0 m 54 ls []) := by
          intro n
          induction n with
          | zero => intro i8 x8 hb8 hi8; exact absurd hb8 (by omega)
          | succ n ih =>
            intro i8 x8 hb8 hi8 ho8 hx8 H locs hP hS ls hl
            refine lv_iload hx hb dX10_fewest_54 (lv_at hl 0 rfl) ?_
            refine lv_sipush (v := 1024) hx hb dX10_fewest_56 (by decide) ?_
            refine lv_icmp_ge (tgt := 120) hx hb dX10_fewest_59 (by decide) (fun c9 => ?_) (fun c9 => ?_)
            · have t9 : x8.toInt ≥ (1024 : Int) := gl_le c9
              refine lv_iload hx hb dX10_fewest_120 (lv_at hl 1 rfl) ?_
              refine lv_if_ge (tgt := 128) hx hb dX10_fewest_122 (by decide) (fun _ => ?_) (fun q => absurd (by decide) q)
              refine lv_iload_n hx hb dX10_fewest_128 rfl (lv_at hl 5 rfl) ?_
              refine lv_if_ne (tgt := 140) hx hb dX10_fewest_129 (by decide) (fun c10 => ?_) (fun c10 => ?_)
              · have t10 : a2.toInt ≠ (0 : Int) := gl_ne c10
                refine lv_iload hx hb dX10_fewest_140 (lv_at hl 1 rfl) ?_
                exact W.iret (v := 0) hx hb hr (fun t ht hW => ⟨⟨0, (z4, y), rfl, (ga_p (by omega)), by rw [ht]; exact hP, va_K.moved hW.alike hK⟩, hS.F ht⟩) hS.2.2 dX10_fewest_142
              · have t10 : a2.toInt = (0 : Int) := gl_eq c10
                refine lv_iload hx hb dX10_fewest_132 (lv_at hl 1 rfl) ?_
                refine qc_Si (As := [.int 0]) (rest := []) (k0 := 1) (u1_bit0 l D ca o z4 y) kc_yJ6_bitCount_0f7a4 ⟨hx, hb, hml, hown, hts⟩ wq_513 rfl rfl ⟨Nat.le_of_ble_eq_true rfl, Nat.le_of_ble_eq_true rfl⟩ wq_all hP hK hS qw_Ai rfl hl.1 rfl (Nat.le_of_ble_eq_true rfl) dX10_fewest_134 ⟨Nat.zero_le _, Nat.zero_le _⟩ (fun r11 u11 H locs h11 hP hS _ _ => ?_)
                subst h11
                refine lv_goto (tgt := 142) hx hb dX10_fewest_137 (by decide) ?_
                exact W.iret (v := 0) hx hb hr (fun t ht hW => ⟨⟨0, (z4, y), rfl, (ga_p (by omega)), by rw [ht]; exact hP, va_K.moved hW.alike hK⟩, hS.F ht⟩) hS.2.2 dX10_fewest_142
            · have t9 : x8.toInt < (1024 : Int) := gl_nle c9
              refine lv_iload hx hb dX10_fewest_62 (lv_at hl 0 rfl) ?_
              refine lv_iload_n hx hb dX10_fewest_64 rfl (lv_at hl 2 rfl) ?_
              refine lv_iconst (v := (-1)) hx hb dX10_fewest_65 (by decide) ?_
              refine lv_ixor hx hb dX10_fewest_66 ?_
              refine qtop (x' := (-1)) (by decide) ?_
              refine lv_iand hx hb dX10_fewest_67 ?_
              refine qtop (gi_m1 _) ?_
              refine lv_if_ne (tgt := 114) hx hb dX10_fewest_68 (by decide) (fun _ => ?_) (fun q => absurd q (gr_ne (show x8.toInt ≠ (0 : Int) from by omega)))
              obtain ⟨x12, e12⟩ : ∃ t : Int32, t = x8 + 1 := ⟨_, rfl⟩
              refine lv_iinc (v := x12) (lv' := [(5, .int x12), (4, .int 0), (3, .int 0), (0, .ref (o + 0)), (1, .int 0), (2, .int a2)]) hx hb dX10_fewest_114 hl (k := 0) rfl (by rw [e12]; rfl) (by decide) rfl (fun ls hl => ?_)
              refine lv_goto (tgt := 54) hx hb dX10_fewest_117 (by decide) ?_
              exact ih (i8 + 1) x12 (by omega) (by omega) (by omega) (by rw [e12]; rw [gi_add (by rw [hx8]; show _ ≤ _ + (1 : Int); omega) (by rw [hx8]; show _ + (1 : Int) ≤ _; omega), hx8]; rfl) _ _ hP hS _ (lv_sub hl [0, 1, 2, 3, 4, 5] rfl)
        exact loop8 1025 1 1 (by omega) (by omega) (by omega) rfl _ _ hP hS _ (lv_sub hl [0, 1, 2, 3, 4, 5] rfl)
      · have t3 : a2.toInt > (1 : Int) := gl_nle c3
        refine lv_iconst (v := (-1)) hx hb dX10_fewest_17 (by decide) ?_
        exact W.iret (v := (-1)) hx hb hr (fun t ht hW => ⟨⟨(-1), (z, y), rfl, (ga_n (by omega)), by rw [ht]; exact hP, va_K.moved hW.alike hK⟩, hS.F ht⟩) hS.2.2 dX10_fewest_18
  · subst h1r
    refine lv_if_eq (tgt := 17) hx hb dX10_fewest_5 (by decide) (fun _ => ?_) (fun q => absurd (by decide) q)
    refine lv_iconst (v := (-1)) hx hb dX10_fewest_17 (by decide) ?_
    exact W.iret (v := (-1)) hx hb hr (fun t ht hW => ⟨⟨(-1), (z, y), rfl, (ga_n (by omega)), by rw [ht]; exact hP, va_K.moved hW.alike hK⟩, hS.F ht⟩) hS.2.2 dX10_fewest_18

set_option maxRecDepth 100000 in
set_option maxHeartbeats 4000000 in
theorem uP_offByAYear (l : Launch) (D : va_G) (ca : Nat → ClassId) (o : Nat) (z : Nat → Nat → Int32) (y : Nat → Nat → Int64) (a1 : Int32) (a2 : Int32) (h1_5 : z 1 5 = 0) (h1_6 : z 1 6 = 0) (h1_7 : z 1 7 = 0) (h0_4 : z 0 4 = 0) (h0_2 : z 0 2 = 0) (h108_1 : z 108 1 = 0) : qM l yX10_offByAYear cX10_offByAYear 6 (some .int) 4 128 (qPre D vwCl (qT6 ca) o 132 (qG (GU ca o) z y) [.ref (o + 0), .int a1, .int a2]) (va_Qi (fun r _ => r = A_offByAYear a1 a2) (qB D vwCl (qT6 ca) o 132 (fun u : qZ => qG (GU ca o) u.1 u.2)) (qw_A o 132)) (qw_A o 132) := by
  refine Met.ofW (cc := cX10_offByAYear) (maxL := 6) (ret := (some .int)) (by decide) rfl ?_
  intro p e s m args below meth c s₁ B hml hv
  obtain ⟨rfl, hP, hK⟩ := hv
  have hx := B.exec
  have hb := B.bytes
  have hr := B.returns
  have hts0 := atoms_spec (ws := Cond.code yX10_offByAYear cX10_offByAYear 6 (some .int) :: qtbl) B.pre
  have hts : ∀ w ∈ qtbl, w.before _ s = true := fun w h => hts0 w (List.mem_cons_of_mem _ h)
  have hown : s.vm.findClass RX10 = some m.cls := findClass_of_methodNamed B.named
  have hlocks := B.notSynchronized
  have hz0 : (0 : Int32).toInt = 0 := rfl
  have hS : va_S (qw_A o 132) s.heap s.heap [] := va_S.rf
  have hl := lv_entry ([.ref (o + 0), .int a1, .int a2]) (n := 6) (Nat.le_of_ble_eq_true rfl)
  rw [lg_entry_eq]
  generalize (lg_sl ([.ref (o + 0), .int a1, .int a2]) ++ List.replicate (6 - (lg_sl ([.ref (o + 0), .int a1, .int a2])).length) Slot.unset).toArray = ls at hl ⊢
  have hl : lv_has ls 6 [(0, .ref (o + 0)), (1, .int a1), (2, .int a2)] := hl
  refine lv_aload_n hx hb dX10_offByAYear_0 rfl (lv_at hl 0 rfl) ?_
  refine lv_iload_n hx hb dX10_offByAYear_1 rfl (lv_at hl 1 rfl) ?_
  refine qc_Vi (As := [.int a1]) (rest := []) (k0 := 1) (u1_areRemarks l D ca o z y a1 (h1_6)) kc_yX10_areRemarks ⟨hx, hb, hml, hown, hts⟩ wq_583 rfl rfl ⟨Nat.le_of_ble_eq_true rfl, Nat.le_of_ble_eq_true rfl⟩ wq_all hP hK hS qw_Ai (q0 := 0) (by decide) (hgU_0 ca o _ _) rfl rfl hl.1 rfl (Nat.le_of_ble_eq_true rfl) dX10_offByAYear_2 ⟨Nat.zero_le _, Nat.zero_le _⟩ (fun r1 u1 H locs h1 hP hS _ _ => ?_)
  rcases h1 with ⟨h1r, h1a⟩ | ⟨h1r, h1a⟩
  · subst h1r
    obtain rfl : a1 = 0 := gr_eq (y := 0) h1a
    refine lv_if_eq (tgt := 17) hx hb dX10_offByAYear_5 (by decide) (fun q => absurd q (by decide)) (fun _ => ?_)
    refine lv_iload_n hx hb dX10_offByAYear_8 rfl (lv_at hl 2 rfl) ?_
    refine lv_if_lt (tgt := 17) hx hb dX10_offByAYear_9 (by decide) (fun c2 => ?_) (fun c2 => ?_)
    · have t2 : a2.toInt < (0 : Int) := gl_lt c2
      refine lv_iconst (v := (-1)) hx hb dX10_offByAYear_17 (by decide) ?_
      exact W.iret (v := (-1)) hx hb hr (fun t ht hW => ⟨⟨(-1), (z, y), rfl, (ga_n (by omega)), by rw [ht]; exact hP, va_K.moved hW.alike hK⟩, hS.F ht⟩) hS.2.2 dX10_offByAYear_18
    · have t2 : a2.toInt ≥ (0 : Int) := gl_nlt c2
      refine lv_iload_n hx hb dX10_offByAYear_12 rfl (lv_at hl 2 rfl) ?_
      refine lv_iconst (v := 1) hx hb dX10_offByAYear_13 (by decide) ?_
      refine lv_icmp_le (tgt := 19) hx hb dX10_offByAYear_14 (by decide) (fun c3 => ?_) (fun c3 => ?_)
      · have t3 : a2.toInt ≤ (1 : Int) := gl_le c3
        refine lv_aload_n hx hb dX10_offByAYear_19 rfl (lv_at hl 0 rfl) ?_
        refine qf_get hx hb hts inX10 hown hK hP (q0 := 0) (by decide) (hgU_0 ca o) rfl 6 (by decide) wq_359 (v := .ref (o + 104)) rfl dX10_offByAYear_20 ?_
        refine lv_iload_n hx hb dX10_offByAYear_23 rfl (lv_at hl 1 rfl) ?_
        refine qc_Vi (As := [.int 0]) (rest := []) (k0 := 1) (u1_start l D ca o z y (h1_5)) kc_yX7_start ⟨hx, hb, hml, hown, hts⟩ wq_661 rfl rfl ⟨Nat.le_of_ble_eq_true rfl, Nat.le_of_ble_eq_true rfl⟩ wq_all hP hK hS qw_Ai (q0 := 104) (by decide) (hgU_104 ca o _ _) rfl rfl hl.1 rfl (Nat.le_of_ble_eq_true rfl) dX10_offByAYear_24 ⟨Nat.zero_le _, Nat.zero_le _⟩ (fun r4 u4 H locs h4 hP hS _ _ => ?_)
        obtain ⟨z4, y4⟩ := u4
        obtain ⟨h4r, h4f, h4y, h4a, h4b, h4c⟩ := h4
        dsimp only at h4f h4y h4a h4b h4c hP
        subst h4r; rw [h4y] at hP
        have f4_0_2 : z4 0 2 = 0 := (congrFun (h4f 0 (by decide) (by decide)) 2).trans (h0_2)
        have f4_0_4 : z4 0 4 = 0 := (congrFun (h4f 0 (by decide) (by decide)) 4).trans (h0_4)
        have f4_1_5 : z4 1 5 = 0 := (congrFun (h4f 1 (by decide) (by decide)) 5).trans (h1_5)
        have f4_1_6 : z4 1 6 = 0 := (congrFun (h4f 1 (by decide) (by decide)) 6).trans (h1_6)
        have f4_1_7 : z4 1 7 = 0 := (congrFun (h4f 1 (by decide) (by decide)) 7).trans (h1_7)
        have f4_108_1 : z4 108 1 = 0 := (congrFun (h4f 108 (by decide) (by decide)) 1).trans (h108_1)
        refine lv_if_ne (tgt := 33) hx hb dX10_offByAYear_27 (by decide) (fun _ => ?_) (fun q => absurd q (by decide))
        refine lv_iconst (v := (-1)) hx hb dX10_offByAYear_33 (by decide) ?_
        refine lv_istore_n (lv' := [(3, .int ((-1))), (0, .ref (o + 0)), (1, .int 0), (2, .int a2)]) hx hb dX10_offByAYear_34 rfl hl (by decide) rfl (fun ls hl => ?_)
        refine lv_iconst (v := 0) hx hb dX10_offByAYear_35 (by decide) ?_
        refine lv_istore (lv' := [(4, .int 0), (3, .int ((-1))), (0, .ref (o + 0)), (1, .int 0), (2, .int a2)]) hx hb dX10_offByAYear_36 hl (by decide) rfl (fun ls hl => ?_)
        refine lv_iload hx hb dX10_offByAYear_38 (lv_at hl 0 rfl) ?_
        refine lv_ldc (v := 200000) hx hb hown (hts _ wq_663) dX10_offByAYear_40 ?_
        refine lv_icmp_ge (tgt := 91) hx hb dX10_offByAYear_42 (by decide) (fun q => absurd q (by decide)) (fun _ => ?_)
        refine lv_aload_n hx hb dX10_offByAYear_45 rfl (lv_at hl 2 rfl) ?_
        refine qf_get hx hb hts inX10 hown hK hP (q0 := 0) (by decide) (hgU_0 ca o) rfl 6 (by decide) wq_359 (v := .ref (o + 104)) rfl dX10_offByAYear_46 ?_
        refine qc_Vi (As := []) (rest := []) (k0 := 0) (u1_moveA l D ca o z4 y (h4b) (h4a)) kc_yX7_move ⟨hx, hb, hml, hown, hts⟩ wq_693 rfl rfl ⟨Nat.le_of_ble_eq_true rfl, Nat.le_of_ble_eq_true rfl⟩ wq_all hP hK hS qw_Ai (q0 := 104) (by decide) (hgU_104 ca o _ _) rfl rfl hl.1 rfl (Nat.le_of_ble_eq_true rfl) dX10_offByAYear_49 ⟨Nat.zero_le _, Nat.zero_le _⟩ (fun r5 u5 H locs h5 hP hS _ _ => ?_)
        obtain ⟨z5, y5⟩ := u5
        obtain ⟨hr5, hz5, hy5⟩ := h5
        subst hr5
        dsimp only at hz5 hy5 hP
        subst hz5; rw [hy5] at hP
        refine lv_if_eq (tgt := 91) hx hb dX10_offByAYear_52 (by decide) (fun q => absurd q (by decide)) (fun _ => ?_)
        refine lv_aload_n hx hb dX10_offByAYear_55 rfl (lv_at hl 2 rfl) ?_
        refine qf_get hx hb hts inX10 hown hK hP (q0 := 0) (by decide) (hgU_0 ca o) rfl 6 (by decide) wq_359 (v := .ref (o + 104)) rfl dX10_offByAYear_56 ?_
        refine qc_Vi (As := []) (rest := []) (k0 := 0) (u1_offByOne l D ca o (qu z4 104 6 1) y (h4c)) kc_yX7_offByOne ⟨hx, hb, hml, hown, hts⟩ wq_694 rfl rfl ⟨Nat.le_of_ble_eq_true rfl, Nat.le_of_ble_eq_true rfl⟩ wq_all hP hK hS qw_Ai (q0 := 104) (by decide) (hgU_104 ca o _ _) rfl rfl hl.1 rfl (Nat.le_of_ble_eq_true rfl) dX10_offByAYear_59 ⟨Nat.zero_le _, Nat.zero_le _⟩ (fun r6 u6 H locs h6 hP hS _ _ => ?_)
        subst h6
        refine lv_istore (lv' := [(5, .int 0), (4, .int 0), (3, .int ((-1))), (0, .ref (o + 0)), (1, .int 0), (2, .int a2)]) hx hb dX10_offByAYear_62 hl (by decide) rfl (fun ls hl => ?_)
        refine lv_iload hx hb dX10_offByAYear_64 (lv_at hl 0 rfl) ?_
        refine lv_if_lt (tgt := 85) hx hb dX10_offByAYear_66 (by decide) (fun q => absurd q (by decide)) (fun _ => ?_)
        refine lv_iload_n hx hb dX10_offByAYear_69 rfl (lv_at hl 2 rfl) ?_
        refine lv_if_lt (tgt := 82) hx hb dX10_offByAYear_70 (by decide) (fun _ => ?_) (fun q => absurd (by decide) q)
        refine lv_iload hx hb dX10_offByAYear_82 (lv_at hl 0 rfl) ?_
        refine lv_istore_n (lv' := [(3, .int 0), (5, .int 0), (4, .int 0), (0, .ref (o + 0)), (1, .int 0), (2, .int a2)]) hx hb dX10_offByAYear_84 rfl hl (by decide) rfl (fun ls hl => ?_)
        refine lv_iinc (v := 1) (lv' := [(4, .int 1), (3, .int 0), (5, .int 0), (0, .ref (o + 0)), (1, .int 0), (2, .int a2)]) hx hb dX10_offByAYear_85 hl (k := 2) rfl (by decide) (by decide) rfl (fun ls hl => ?_)
        refine lv_goto (tgt := 38) hx hb dX10_offByAYear_88 (by decide) ?_
        refine lv_iload hx hb dX10_offByAYear_38 (lv_at hl 0 rfl) ?_
        refine lv_ldc (v := 200000) hx hb hown (hts _ wq_663) dX10_offByAYear_40 ?_
        refine lv_icmp_ge (tgt := 91) hx hb dX10_offByAYear_42 (by decide) (fun q => absurd q (by decide)) (fun _ => ?_)
        refine lv_aload_n hx hb dX10_offByAYear_45 rfl (lv_at hl 3 rfl) ?_
        refine qf_get hx hb hts inX10 hown hK hP (q0 := 0) (by decide) (hgU_0 ca o) rfl 6 (by decide) wq_359 (v := .ref (o + 104)) rfl dX10_offByAYear_46 ?_
        refine qc_Vi (As := []) (rest := []) (k0 := 0) (u1_moveB l D ca o (qu z4 104 6 1) y rfl (h4a)) kc_yX7_move ⟨hx, hb, hml, hown, hts⟩ wq_693 rfl rfl ⟨Nat.le_of_ble_eq_true rfl, Nat.le_of_ble_eq_true rfl⟩ wq_all hP hK hS qw_Ai (q0 := 104) (by decide) (hgU_104 ca o _ _) rfl rfl hl.1 rfl (Nat.le_of_ble_eq_true rfl) dX10_offByAYear_49 ⟨Nat.zero_le _, Nat.zero_le _⟩ (fun r7 u7 H locs h7 hP hS _ _ => ?_)
        subst h7
        refine lv_if_eq (tgt := 91) hx hb dX10_offByAYear_52 (by decide) (fun _ => ?_) (fun q => absurd (by decide) q)
        refine lv_iload_n hx hb dX10_offByAYear_91 rfl (lv_at hl 1 rfl) ?_
        refine lv_if_ge (tgt := 98) hx hb dX10_offByAYear_92 (by decide) (fun _ => ?_) (fun q => absurd (by decide) q)
        refine lv_iload_n hx hb dX10_offByAYear_98 rfl (lv_at hl 5 rfl) ?_
        refine lv_if_ne (tgt := 109) hx hb dX10_offByAYear_99 (by decide) (fun c8 => ?_) (fun c8 => ?_)
        · have t8 : a2.toInt ≠ (0 : Int) := gl_ne c8
          refine lv_iload_n hx hb dX10_offByAYear_109 rfl (lv_at hl 1 rfl) ?_
          exact W.iret (v := 0) hx hb hr (fun t ht hW => ⟨⟨0, ((qu z4 104 6 1), y), rfl, (ga_p (by omega)), by rw [ht]; exact hP, va_K.moved hW.alike hK⟩, hS.F ht⟩) hS.2.2 dX10_offByAYear_110
        · have t8 : a2.toInt = (0 : Int) := gl_eq c8
          refine lv_iload_n hx hb dX10_offByAYear_102 rfl (lv_at hl 1 rfl) ?_
          refine qc_Si (As := [.int 0]) (rest := []) (k0 := 1) (u1_bit0 l D ca o (qu z4 104 6 1) y) kc_yJ6_bitCount_0f7a4 ⟨hx, hb, hml, hown, hts⟩ wq_513 rfl rfl ⟨Nat.le_of_ble_eq_true rfl, Nat.le_of_ble_eq_true rfl⟩ wq_all hP hK hS qw_Ai rfl hl.1 rfl (Nat.le_of_ble_eq_true rfl) dX10_offByAYear_103 ⟨Nat.zero_le _, Nat.zero_le _⟩ (fun r9 u9 H locs h9 hP hS _ _ => ?_)
          subst h9
          refine lv_goto (tgt := 110) hx hb dX10_offByAYear_106 (by decide) ?_
          exact W.iret (v := 0) hx hb hr (fun t ht hW => ⟨⟨0, ((qu z4 104 6 1), y), rfl, (ga_p (by omega)), by rw [ht]; exact hP, va_K.moved hW.alike hK⟩, hS.F ht⟩) hS.2.2 dX10_offByAYear_110
      · have t3 : a2.toInt > (1 : Int) := gl_nle c3
        refine lv_iconst (v := (-1)) hx hb dX10_offByAYear_17 (by decide) ?_
        exact W.iret (v := (-1)) hx hb hr (fun t ht hW => ⟨⟨(-1), (z, y), rfl, (ga_n (by omega)), by rw [ht]; exact hP, va_K.moved hW.alike hK⟩, hS.F ht⟩) hS.2.2 dX10_offByAYear_18
  · subst h1r
    refine lv_if_eq (tgt := 17) hx hb dX10_offByAYear_5 (by decide) (fun _ => ?_) (fun q => absurd (by decide) q)
    refine lv_iconst (v := (-1)) hx hb dX10_offByAYear_17 (by decide) ?_
    exact W.iret (v := (-1)) hx hb hr (fun t ht hW => ⟨⟨(-1), (z, y), rfl, (ga_n (by omega)), by rw [ht]; exact hP, va_K.moved hW.alike hK⟩, hS.F ht⟩) hS.2.2 dX10_offByAYear_18

set_option maxRecDepth 100000 in
set_option maxHeartbeats 4000000 in
theorem uP_known (l : Launch) (D : va_G) (ca : Nat → ClassId) (o : Nat) (z : Nat → Nat → Int32) (y : Nat → Nat → Int64) (a1 : Int32) (a2 : Int32) (h1_5 : z 1 5 = 0) (h1_6 : z 1 6 = 0) (h1_7 : z 1 7 = 0) (h0_4 : z 0 4 = 0) (h0_2 : z 0 2 = 0) (h108_1 : z 108 1 = 0) : qM l yX10_known cX10_known 3 (some .int) 3 102 (qPre D vwCl (qT6 ca) o 132 (qG (GU ca o) z y) [.ref (o + 0), .int a1, .int a2]) (va_Qi (fun r _ => r = A_known a1 a2) (qB D vwCl (qT6 ca) o 132 (fun u : qZ => qG (GU ca o) u.1 u.2)) (qw_A o 132)) (qw_A o 132) := by
  refine Met.ofW (cc := cX10_known) (maxL := 3) (ret := (some .int)) (by decide) rfl ?_
  intro p e s m args below meth c s₁ B hml hv
  obtain ⟨rfl, hP, hK⟩ := hv
  have hx := B.exec
  have hb := B.bytes
  have hr := B.returns
  have hts0 := atoms_spec (ws := Cond.code yX10_known cX10_known 3 (some .int) :: qtbl) B.pre
  have hts : ∀ w ∈ qtbl, w.before _ s = true := fun w h => hts0 w (List.mem_cons_of_mem _ h)
  have hown : s.vm.findClass RX10 = some m.cls := findClass_of_methodNamed B.named
  have hlocks := B.notSynchronized
  have hz0 : (0 : Int32).toInt = 0 := rfl
  have hS : va_S (qw_A o 132) s.heap s.heap [] := va_S.rf
  have hl := lv_entry ([.ref (o + 0), .int a1, .int a2]) (n := 3) (Nat.le_of_ble_eq_true rfl)
  rw [lg_entry_eq]
  generalize (lg_sl ([.ref (o + 0), .int a1, .int a2]) ++ List.replicate (3 - (lg_sl ([.ref (o + 0), .int a1, .int a2])).length) Slot.unset).toArray = ls at hl ⊢
  have hl : lv_has ls 3 [(0, .ref (o + 0)), (1, .int a1), (2, .int a2)] := hl
  refine lv_aload_n hx hb dX10_known_0 rfl (lv_at hl 0 rfl) ?_
  refine lv_iload_n hx hb dX10_known_1 rfl (lv_at hl 1 rfl) ?_
  refine qc_Vi (As := [.int a1]) (rest := []) (k0 := 1) (u1_areRemarks l D ca o z y a1 (h1_6)) kc_yX10_areRemarks ⟨hx, hb, hml, hown, hts⟩ wq_583 rfl rfl ⟨Nat.le_of_ble_eq_true rfl, Nat.le_of_ble_eq_true rfl⟩ wq_all hP hK hS qw_Ai (q0 := 0) (by decide) (hgU_0 ca o _ _) rfl rfl hl.1 rfl (Nat.le_of_ble_eq_true rfl) dX10_known_2 ⟨Nat.zero_le _, Nat.zero_le _⟩ (fun r1 u1 H locs h1 hP hS _ _ => ?_)
  rcases h1 with ⟨h1r, h1a⟩ | ⟨h1r, h1a⟩
  · subst h1r
    obtain rfl : a1 = 0 := gr_eq (y := 0) h1a
    refine lv_if_eq (tgt := 19) hx hb dX10_known_5 (by decide) (fun q => absurd q (by decide)) (fun _ => ?_)
    refine lv_aload_n hx hb dX10_known_8 rfl (lv_at hl 0 rfl) ?_
    refine qf_get hx hb hts inX10 hown hK hP (q0 := 0) (by decide) (hgU_0 ca o) rfl 0 (by decide) wq_353 (v := .ref (o + 1)) rfl dX10_known_9 ?_
    refine lv_iload_n hx hb dX10_known_12 rfl (lv_at hl 2 rfl) ?_
    refine qc_Vi (As := [.int a2]) (rest := []) (k0 := 1) (u1_hasForm l D ca o z y a2 (h1_6)) kc_yX9_hasForm ⟨hx, hb, hml, hown, hts⟩ wq_743 rfl rfl ⟨Nat.le_of_ble_eq_true rfl, Nat.le_of_ble_eq_true rfl⟩ wq_all hP hK hS qw_Ai (q0 := 1) (by decide) (hgU_1 ca o _ _) rfl rfl hl.1 rfl (Nat.le_of_ble_eq_true rfl) dX10_known_13 ⟨Nat.zero_le _, Nat.zero_le _⟩ (fun r2 u2 H locs h2 hP hS _ _ => ?_)
    subst h2
    refine lv_if_ne (tgt := 21) hx hb dX10_known_16 (by decide) (fun q => absurd q (by decide)) (fun _ => ?_)
    refine lv_iconst (v := (-1)) hx hb dX10_known_19 (by decide) ?_
    exact W.iret (v := (-1)) hx hb hr (fun t ht hW => ⟨⟨(-1), (z, y), rfl, rfl, by rw [ht]; exact hP, va_K.moved hW.alike hK⟩, hS.F ht⟩) hS.2.2 dX10_known_20
  · subst h1r
    refine lv_if_eq (tgt := 19) hx hb dX10_known_5 (by decide) (fun _ => ?_) (fun q => absurd (by decide) q)
    refine lv_iconst (v := (-1)) hx hb dX10_known_19 (by decide) ?_
    exact W.iret (v := (-1)) hx hb hr (fun t ht hW => ⟨⟨(-1), (z, y), rfl, rfl, by rw [ht]; exact hP, va_K.moved hW.alike hK⟩, hS.F ht⟩) hS.2.2 dX10_known_20

set_option maxRecDepth 100000 in
set_option maxHeartbeats 4000000 in
theorem uP_sayings (l : Launch) (D : va_G) (ca : Nat → ClassId) (o : Nat) (z : Nat → Nat → Int32) (y : Nat → Nat → Int64) (a1 : Int32) (a2 : Int32) (a3 : Int32) (h1_5 : z 1 5 = 0) (h1_6 : z 1 6 = 0) (h1_7 : z 1 7 = 0) (h0_4 : z 0 4 = 0) (h0_2 : z 0 2 = 0) (h108_1 : z 108 1 = 0) : qM l yX10_sayings cX10_sayings 7 (some .int) 3 101 (qPre D vwCl (qT6 ca) o 132 (qG (GU ca o) z y) [.ref (o + 0), .int a1, .int a2, .int a3]) (va_Qi (fun r _ => r = A_sayings a1 a2 a3) (qB D vwCl (qT6 ca) o 132 (fun u : qZ => qG (GU ca o) u.1 u.2)) (qw_A o 132)) (qw_A o 132) := by
  refine Met.ofW (cc := cX10_sayings) (maxL := 7) (ret := (some .int)) (by decide) rfl ?_
  intro p e s m args below meth c s₁ B hml hv
  obtain ⟨rfl, hP, hK⟩ := hv
  have hx := B.exec
  have hb := B.bytes
  have hr := B.returns
  have hts0 := atoms_spec (ws := Cond.code yX10_sayings cX10_sayings 7 (some .int) :: qtbl) B.pre
  have hts : ∀ w ∈ qtbl, w.before _ s = true := fun w h => hts0 w (List.mem_cons_of_mem _ h)
  have hown : s.vm.findClass RX10 = some m.cls := findClass_of_methodNamed B.named
  have hlocks := B.notSynchronized
  have hz0 : (0 : Int32).toInt = 0 := rfl
  have hS : va_S (qw_A o 132) s.heap s.heap [] := va_S.rf
  have hl := lv_entry ([.ref (o + 0), .int a1, .int a2, .int a3]) (n := 7) (Nat.le_of_ble_eq_true rfl)
  rw [lg_entry_eq]
  generalize (lg_sl ([.ref (o + 0), .int a1, .int a2, .int a3]) ++ List.replicate (7 - (lg_sl ([.ref (o + 0), .int a1, .int a2, .int a3])).length) Slot.unset).toArray = ls at hl ⊢
  have hl : lv_has ls 7 [(0, .ref (o + 0)), (1, .int a1), (2, .int a2), (3, .int a3)] := hl
  refine lv_aload_n hx hb dX10_sayings_0 rfl (lv_at hl 0 rfl) ?_
  refine lv_iload_n hx hb dX10_sayings_1 rfl (lv_at hl 1 rfl) ?_
  refine qc_Vi (As := [.int a1]) (rest := []) (k0 := 1) (u1_areRemarks l D ca o z y a1 (h1_6)) kc_yX10_areRemarks ⟨hx, hb, hml, hown, hts⟩ wq_583 rfl rfl ⟨Nat.le_of_ble_eq_true rfl, Nat.le_of_ble_eq_true rfl⟩ wq_all hP hK hS qw_Ai (q0 := 0) (by decide) (hgU_0 ca o _ _) rfl rfl hl.1 rfl (Nat.le_of_ble_eq_true rfl) dX10_sayings_2 ⟨Nat.zero_le _, Nat.zero_le _⟩ (fun r1 u1 H locs h1 hP hS _ _ => ?_)
  rcases h1 with ⟨h1r, h1a⟩ | ⟨h1r, h1a⟩
  · subst h1r
    obtain rfl : a1 = 0 := gr_eq (y := 0) h1a
    refine lv_if_eq (tgt := 35) hx hb dX10_sayings_5 (by decide) (fun q => absurd q (by decide)) (fun _ => ?_)
    refine lv_iload_n hx hb dX10_sayings_8 rfl (lv_at hl 3 rfl) ?_
    refine lv_bipush (v := 100) hx hb dX10_sayings_9 (by decide) ?_
    refine lv_icmp_eq (tgt := 25) hx hb dX10_sayings_11 (by decide) (fun c2 => ?_) (fun c2 => ?_)
    · have t2 : a3.toInt = (100 : Int) := gl_eq c2
      refine lv_aload_n hx hb dX10_sayings_25 rfl (lv_at hl 0 rfl) ?_
      refine lv_iload_n hx hb dX10_sayings_26 rfl (lv_at hl 2 rfl) ?_
      refine lv_bipush (v := 20) hx hb dX10_sayings_27 (by decide) ?_
      refine qc_Vi (As := [.int a2, .int 20]) (rest := []) (k0 := 2) (u1_isText l D ca o z y a2 20 (h0_4)) kc_yX10_isText ⟨hx, hb, hml, hown, hts⟩ wq_431 rfl rfl ⟨Nat.le_of_ble_eq_true rfl, Nat.le_of_ble_eq_true rfl⟩ wq_all hP hK hS qw_Ai (q0 := 0) (by decide) (hgU_0 ca o _ _) rfl rfl hl.1 rfl (Nat.le_of_ble_eq_true rfl) dX10_sayings_29 ⟨Nat.zero_le _, Nat.zero_le _⟩ (fun r3 u3 H locs h3 hP hS _ _ => ?_)
      subst h3
      refine lv_if_ne (tgt := 37) hx hb dX10_sayings_32 (by decide) (fun q => absurd q (by decide)) (fun _ => ?_)
      refine lv_iconst (v := (-1)) hx hb dX10_sayings_35 (by decide) ?_
      exact W.iret (v := (-1)) hx hb hr (fun t ht hW => ⟨⟨(-1), (z, y), rfl, rfl, by rw [ht]; exact hP, va_K.moved hW.alike hK⟩, hS.F ht⟩) hS.2.2 dX10_sayings_36
    · have t2 : a3.toInt ≠ (100 : Int) := gl_ne c2
      refine lv_aload_n hx hb dX10_sayings_14 rfl (lv_at hl 0 rfl) ?_
      refine qf_get hx hb hts inX10 hown hK hP (q0 := 0) (by decide) (hgU_0 ca o) rfl 0 (by decide) wq_353 (v := .ref (o + 1)) rfl dX10_sayings_15 ?_
      refine lv_iload_n hx hb dX10_sayings_18 rfl (lv_at hl 3 rfl) ?_
      refine qc_Vi (As := [.int a3]) (rest := []) (k0 := 1) (u1_hasPerson l D ca o z y a3 (h1_5)) kc_yX9_hasPerson ⟨hx, hb, hml, hown, hts⟩ wq_411 rfl rfl ⟨Nat.le_of_ble_eq_true rfl, Nat.le_of_ble_eq_true rfl⟩ wq_all hP hK hS qw_Ai (q0 := 1) (by decide) (hgU_1 ca o _ _) rfl rfl hl.1 rfl (Nat.le_of_ble_eq_true rfl) dX10_sayings_19 ⟨Nat.zero_le _, Nat.zero_le _⟩ (fun r4 u4 H locs h4 hP hS _ _ => ?_)
      subst h4
      refine lv_if_eq (tgt := 35) hx hb dX10_sayings_22 (by decide) (fun _ => ?_) (fun q => absurd (by decide) q)
      refine lv_iconst (v := (-1)) hx hb dX10_sayings_35 (by decide) ?_
      exact W.iret (v := (-1)) hx hb hr (fun t ht hW => ⟨⟨(-1), (z, y), rfl, rfl, by rw [ht]; exact hP, va_K.moved hW.alike hK⟩, hS.F ht⟩) hS.2.2 dX10_sayings_36
  · subst h1r
    refine lv_if_eq (tgt := 35) hx hb dX10_sayings_5 (by decide) (fun _ => ?_) (fun q => absurd (by decide) q)
    refine lv_iconst (v := (-1)) hx hb dX10_sayings_35 (by decide) ?_
    exact W.iret (v := (-1)) hx hb hr (fun t ht hW => ⟨⟨(-1), (z, y), rfl, rfl, by rw [ht]; exact hP, va_K.moved hW.alike hK⟩, hS.F ht⟩) hS.2.2 dX10_sayings_36

set_option maxRecDepth 100000 in
set_option maxHeartbeats 4000000 in
theorem uP_isTrue (l : Launch) (D : va_G) (ca : Nat → ClassId) (o : Nat) (z : Nat → Nat → Int32) (y : Nat → Nat → Int64) (a1 : Int32) (a2 : Int32) (a3 : Int32) (h1_5 : z 1 5 = 0) (h1_6 : z 1 6 = 0) (h1_7 : z 1 7 = 0) (h0_4 : z 0 4 = 0) (h0_2 : z 0 2 = 0) (h108_1 : z 108 1 = 0) : qM l yX10_isTrue cX10_isTrue 6 (some .int) 3 102 (qPre D vwCl (qT6 ca) o 132 (qG (GU ca o) z y) [.ref (o + 0), .int a1, .int a2, .int a3]) (va_Qi (fun r _ => r = A_isTrue a1 a2 a3) (qB D vwCl (qT6 ca) o 132 (fun u : qZ => qG (GU ca o) u.1 u.2)) (qw_A o 132)) (qw_A o 132) := by
  refine Met.ofW (cc := cX10_isTrue) (maxL := 6) (ret := (some .int)) (by decide) rfl ?_
  intro p e s m args below meth c s₁ B hml hv
  obtain ⟨rfl, hP, hK⟩ := hv
  have hx := B.exec
  have hb := B.bytes
  have hr := B.returns
  have hts0 := atoms_spec (ws := Cond.code yX10_isTrue cX10_isTrue 6 (some .int) :: qtbl) B.pre
  have hts : ∀ w ∈ qtbl, w.before _ s = true := fun w h => hts0 w (List.mem_cons_of_mem _ h)
  have hown : s.vm.findClass RX10 = some m.cls := findClass_of_methodNamed B.named
  have hlocks := B.notSynchronized
  have hz0 : (0 : Int32).toInt = 0 := rfl
  have hS : va_S (qw_A o 132) s.heap s.heap [] := va_S.rf
  have hl := lv_entry ([.ref (o + 0), .int a1, .int a2, .int a3]) (n := 6) (Nat.le_of_ble_eq_true rfl)
  rw [lg_entry_eq]
  generalize (lg_sl ([.ref (o + 0), .int a1, .int a2, .int a3]) ++ List.replicate (6 - (lg_sl ([.ref (o + 0), .int a1, .int a2, .int a3])).length) Slot.unset).toArray = ls at hl ⊢
  have hl : lv_has ls 6 [(0, .ref (o + 0)), (1, .int a1), (2, .int a2), (3, .int a3)] := hl
  refine lv_aload_n hx hb dX10_isTrue_0 rfl (lv_at hl 0 rfl) ?_
  refine lv_iload_n hx hb dX10_isTrue_1 rfl (lv_at hl 1 rfl) ?_
  refine qc_Vi (As := [.int a1]) (rest := []) (k0 := 1) (u1_areRemarks l D ca o z y a1 (h1_6)) kc_yX10_areRemarks ⟨hx, hb, hml, hown, hts⟩ wq_583 rfl rfl ⟨Nat.le_of_ble_eq_true rfl, Nat.le_of_ble_eq_true rfl⟩ wq_all hP hK hS qw_Ai (q0 := 0) (by decide) (hgU_0 ca o _ _) rfl rfl hl.1 rfl (Nat.le_of_ble_eq_true rfl) dX10_isTrue_2 ⟨Nat.zero_le _, Nat.zero_le _⟩ (fun r1 u1 H locs h1 hP hS _ _ => ?_)
  rcases h1 with ⟨h1r, h1a⟩ | ⟨h1r, h1a⟩
  · subst h1r
    obtain rfl : a1 = 0 := gr_eq (y := 0) h1a
    refine lv_if_eq (tgt := 28) hx hb dX10_isTrue_5 (by decide) (fun q => absurd q (by decide)) (fun _ => ?_)
    refine lv_aload_n hx hb dX10_isTrue_8 rfl (lv_at hl 0 rfl) ?_
    refine qf_get hx hb hts inX10 hown hK hP (q0 := 0) (by decide) (hgU_0 ca o) rfl 0 (by decide) wq_353 (v := .ref (o + 1)) rfl dX10_isTrue_9 ?_
    refine lv_iload_n hx hb dX10_isTrue_12 rfl (lv_at hl 2 rfl) ?_
    refine qc_Vi (As := [.int a2]) (rest := []) (k0 := 1) (u1_hasRemark l D ca o z y a2 (h1_6)) kc_yX9_hasRemark ⟨hx, hb, hml, hown, hts⟩ wq_527 rfl rfl ⟨Nat.le_of_ble_eq_true rfl, Nat.le_of_ble_eq_true rfl⟩ wq_all hP hK hS qw_Ai (q0 := 1) (by decide) (hgU_1 ca o _ _) rfl rfl hl.1 rfl (Nat.le_of_ble_eq_true rfl) dX10_isTrue_13 ⟨Nat.zero_le _, Nat.zero_le _⟩ (fun r2 u2 H locs h2 hP hS _ _ => ?_)
    subst h2
    refine lv_if_eq (tgt := 28) hx hb dX10_isTrue_16 (by decide) (fun _ => ?_) (fun q => absurd (by decide) q)
    refine lv_sipush (v := (-204)) hx hb dX10_isTrue_28 (by decide) ?_
    exact W.iret (v := (-204)) hx hb hr (fun t ht hW => ⟨⟨(-204), (z, y), rfl, rfl, by rw [ht]; exact hP, va_K.moved hW.alike hK⟩, hS.F ht⟩) hS.2.2 dX10_isTrue_31
  · subst h1r
    refine lv_if_eq (tgt := 28) hx hb dX10_isTrue_5 (by decide) (fun _ => ?_) (fun q => absurd (by decide) q)
    refine lv_sipush (v := (-204)) hx hb dX10_isTrue_28 (by decide) ?_
    exact W.iret (v := (-204)) hx hb hr (fun t ht hW => ⟨⟨(-204), (z, y), rfl, rfl, by rw [ht]; exact hP, va_K.moved hW.alike hK⟩, hS.F ht⟩) hS.2.2 dX10_isTrue_31

set_option maxRecDepth 100000 in
set_option maxHeartbeats 4000000 in
theorem uP_together (l : Launch) (D : va_G) (ca : Nat → ClassId) (o : Nat) (z : Nat → Nat → Int32) (y : Nat → Nat → Int64) (a1 : Int32) (a2 : Int32) (a3 : Int32) (h1_5 : z 1 5 = 0) (h1_6 : z 1 6 = 0) (h1_7 : z 1 7 = 0) (h0_4 : z 0 4 = 0) (h0_2 : z 0 2 = 0) (h108_1 : z 108 1 = 0) : qM l yX10_together cX10_together 8 (some .int) 3 101 (qPre D vwCl (qT6 ca) o 132 (qG (GU ca o) z y) [.ref (o + 0), .int a1, .int a2, .int a3]) (va_Qi (fun r _ => r = A_together a1 a2 a3) (qB D vwCl (qT6 ca) o 132 (fun u : qZ => qG (GU ca o) u.1 u.2)) (qw_A o 132)) (qw_A o 132) := by
  refine Met.ofW (cc := cX10_together) (maxL := 8) (ret := (some .int)) (by decide) rfl ?_
  intro p e s m args below meth c s₁ B hml hv
  obtain ⟨rfl, hP, hK⟩ := hv
  have hx := B.exec
  have hb := B.bytes
  have hr := B.returns
  have hts0 := atoms_spec (ws := Cond.code yX10_together cX10_together 8 (some .int) :: qtbl) B.pre
  have hts : ∀ w ∈ qtbl, w.before _ s = true := fun w h => hts0 w (List.mem_cons_of_mem _ h)
  have hown : s.vm.findClass RX10 = some m.cls := findClass_of_methodNamed B.named
  have hlocks := B.notSynchronized
  have hz0 : (0 : Int32).toInt = 0 := rfl
  have hS : va_S (qw_A o 132) s.heap s.heap [] := va_S.rf
  have hl := lv_entry ([.ref (o + 0), .int a1, .int a2, .int a3]) (n := 8) (Nat.le_of_ble_eq_true rfl)
  rw [lg_entry_eq]
  generalize (lg_sl ([.ref (o + 0), .int a1, .int a2, .int a3]) ++ List.replicate (8 - (lg_sl ([.ref (o + 0), .int a1, .int a2, .int a3])).length) Slot.unset).toArray = ls at hl ⊢
  have hl : lv_has ls 8 [(0, .ref (o + 0)), (1, .int a1), (2, .int a2), (3, .int a3)] := hl
  refine lv_iload_n hx hb dX10_together_0 rfl (lv_at hl 3 rfl) ?_
  refine qc_Si (As := [.int a3]) (rest := []) (k0 := 1) (u1_bitAny l D ca o z y a3) kc_yJ6_bitCount_0f7a4 ⟨hx, hb, hml, hown, hts⟩ wq_513 rfl rfl ⟨Nat.le_of_ble_eq_true rfl, Nat.le_of_ble_eq_true rfl⟩ wq_all hP hK hS qw_Ai rfl hl.1 rfl (Nat.le_of_ble_eq_true rfl) dX10_together_1 ⟨Nat.zero_le _, Nat.zero_le _⟩ (fun r1 u1 H locs h1 hP hS _ _ => ?_)
  refine lv_istore (lv' := [(4, .int r1), (0, .ref (o + 0)), (1, .int a1), (2, .int a2), (3, .int a3)]) hx hb dX10_together_4 hl (by decide) rfl (fun ls hl => ?_)
  refine lv_aload_n hx hb dX10_together_6 rfl (lv_at hl 1 rfl) ?_
  refine lv_iload_n hx hb dX10_together_7 rfl (lv_at hl 2 rfl) ?_
  refine qc_Vi (As := [.int a1]) (rest := []) (k0 := 1) (u1_areRemarks l D ca o z y a1 (h1_6)) kc_yX10_areRemarks ⟨hx, hb, hml, hown, hts⟩ wq_583 rfl rfl ⟨Nat.le_of_ble_eq_true rfl, Nat.le_of_ble_eq_true rfl⟩ wq_all hP hK hS qw_Ai (q0 := 0) (by decide) (hgU_0 ca o _ _) rfl rfl hl.1 rfl (Nat.le_of_ble_eq_true rfl) dX10_together_8 ⟨Nat.zero_le _, Nat.zero_le _⟩ (fun r2 u2 H locs h2 hP hS _ _ => ?_)
  rcases h2 with ⟨h2r, h2a⟩ | ⟨h2r, h2a⟩
  · subst h2r
    obtain rfl : a1 = 0 := gr_eq (y := 0) h2a
    refine lv_if_eq (tgt := 59) hx hb dX10_together_11 (by decide) (fun q => absurd q (by decide)) (fun _ => ?_)
    refine lv_aload_n hx hb dX10_together_14 rfl (lv_at hl 1 rfl) ?_
    refine qf_get hx hb hts inX10 hown hK hP (q0 := 0) (by decide) (hgU_0 ca o) rfl 0 (by decide) wq_353 (v := .ref (o + 1)) rfl dX10_together_15 ?_
    refine lv_iload_n hx hb dX10_together_18 rfl (lv_at hl 3 rfl) ?_
    refine qc_Vi (As := [.int a2]) (rest := []) (k0 := 1) (u1_hasPerson l D ca o z y a2 (h1_5)) kc_yX9_hasPerson ⟨hx, hb, hml, hown, hts⟩ wq_411 rfl rfl ⟨Nat.le_of_ble_eq_true rfl, Nat.le_of_ble_eq_true rfl⟩ wq_all hP hK hS qw_Ai (q0 := 1) (by decide) (hgU_1 ca o _ _) rfl rfl hl.1 rfl (Nat.le_of_ble_eq_true rfl) dX10_together_19 ⟨Nat.zero_le _, Nat.zero_le _⟩ (fun r3 u3 H locs h3 hP hS _ _ => ?_)
    subst h3
    refine lv_if_eq (tgt := 59) hx hb dX10_together_22 (by decide) (fun _ => ?_) (fun q => absurd (by decide) q)
    refine lv_sipush (v := (-4000)) hx hb dX10_together_59 (by decide) ?_
    exact W.iret (v := (-4000)) hx hb hr (fun t ht hW => ⟨⟨(-4000), (z, y), rfl, rfl, by rw [ht]; exact hP, va_K.moved hW.alike hK⟩, hS.F ht⟩) hS.2.2 dX10_together_62
  · subst h2r
    refine lv_if_eq (tgt := 59) hx hb dX10_together_11 (by decide) (fun _ => ?_) (fun q => absurd (by decide) q)
    refine lv_sipush (v := (-4000)) hx hb dX10_together_59 (by decide) ?_
    exact W.iret (v := (-4000)) hx hb hr (fun t ht hW => ⟨⟨(-4000), (z, y), rfl, rfl, by rw [ht]; exact hP, va_K.moved hW.alike hK⟩, hS.F ht⟩) hS.2.2 dX10_together_62

set_option maxRecDepth 100000 in
set_option maxHeartbeats 4000000 in
theorem uP_turned (l : Launch) (D : va_G) (ca : Nat → ClassId) (o : Nat) (z : Nat → Nat → Int32) (y : Nat → Nat → Int64) (a1 : Int32) (a2 : Int32) (a3 : Int32) (a4 : Int32) (h1_5 : z 1 5 = 0) (h1_6 : z 1 6 = 0) (h1_7 : z 1 7 = 0) (h0_4 : z 0 4 = 0) (h0_2 : z 0 2 = 0) (h108_1 : z 108 1 = 0) : qM l yX10_turned cX10_turned 9 (some .int) 3 101 (qPre D vwCl (qT6 ca) o 132 (qG (GU ca o) z y) [.ref (o + 0), .int a1, .int a2, .int a3, .int a4]) (va_Qi (fun r _ => r = A_turned a1 a2 a3 a4) (qB D vwCl (qT6 ca) o 132 (fun u : qZ => qG (GU ca o) u.1 u.2)) (qw_A o 132)) (qw_A o 132) := by
  refine Met.ofW (cc := cX10_turned) (maxL := 9) (ret := (some .int)) (by decide) rfl ?_
  intro p e s m args below meth c s₁ B hml hv
  obtain ⟨rfl, hP, hK⟩ := hv
  have hx := B.exec
  have hb := B.bytes
  have hr := B.returns
  have hts0 := atoms_spec (ws := Cond.code yX10_turned cX10_turned 9 (some .int) :: qtbl) B.pre
  have hts : ∀ w ∈ qtbl, w.before _ s = true := fun w h => hts0 w (List.mem_cons_of_mem _ h)
  have hown : s.vm.findClass RX10 = some m.cls := findClass_of_methodNamed B.named
  have hlocks := B.notSynchronized
  have hz0 : (0 : Int32).toInt = 0 := rfl
  have hS : va_S (qw_A o 132) s.heap s.heap [] := va_S.rf
  have hl := lv_entry ([.ref (o + 0), .int a1, .int a2, .int a3, .int a4]) (n := 9) (Nat.le_of_ble_eq_true rfl)
  rw [lg_entry_eq]
  generalize (lg_sl ([.ref (o + 0), .int a1, .int a2, .int a3, .int a4]) ++ List.replicate (9 - (lg_sl ([.ref (o + 0), .int a1, .int a2, .int a3, .int a4])).length) Slot.unset).toArray = ls at hl ⊢
  have hl : lv_has ls 9 [(0, .ref (o + 0)), (1, .int a1), (2, .int a2), (3, .int a3), (4, .int a4)] := hl
  refine lv_aload_n hx hb dX10_turned_0 rfl (lv_at hl 0 rfl) ?_
  refine lv_iload_n hx hb dX10_turned_1 rfl (lv_at hl 1 rfl) ?_
  refine qc_Vi (As := [.int a1]) (rest := []) (k0 := 1) (u1_areRemarks l D ca o z y a1 (h1_6)) kc_yX10_areRemarks ⟨hx, hb, hml, hown, hts⟩ wq_583 rfl rfl ⟨Nat.le_of_ble_eq_true rfl, Nat.le_of_ble_eq_true rfl⟩ wq_all hP hK hS qw_Ai (q0 := 0) (by decide) (hgU_0 ca o _ _) rfl rfl hl.1 rfl (Nat.le_of_ble_eq_true rfl) dX10_turned_2 ⟨Nat.zero_le _, Nat.zero_le _⟩ (fun r1 u1 H locs h1 hP hS _ _ => ?_)
  rcases h1 with ⟨h1r, h1a⟩ | ⟨h1r, h1a⟩
  · subst h1r
    obtain rfl : a1 = 0 := gr_eq (y := 0) h1a
    refine lv_if_eq (tgt := 46) hx hb dX10_turned_5 (by decide) (fun q => absurd q (by decide)) (fun _ => ?_)
    refine lv_aload_n hx hb dX10_turned_8 rfl (lv_at hl 0 rfl) ?_
    refine qf_get hx hb hts inX10 hown hK hP (q0 := 0) (by decide) (hgU_0 ca o) rfl 0 (by decide) wq_353 (v := .ref (o + 1)) rfl dX10_turned_9 ?_
    refine lv_iload_n hx hb dX10_turned_12 rfl (lv_at hl 2 rfl) ?_
    refine qc_Vi (As := [.int a2]) (rest := []) (k0 := 1) (u1_hasPerson l D ca o z y a2 (h1_5)) kc_yX9_hasPerson ⟨hx, hb, hml, hown, hts⟩ wq_411 rfl rfl ⟨Nat.le_of_ble_eq_true rfl, Nat.le_of_ble_eq_true rfl⟩ wq_all hP hK hS qw_Ai (q0 := 1) (by decide) (hgU_1 ca o _ _) rfl rfl hl.1 rfl (Nat.le_of_ble_eq_true rfl) dX10_turned_13 ⟨Nat.zero_le _, Nat.zero_le _⟩ (fun r2 u2 H locs h2 hP hS _ _ => ?_)
    subst h2
    refine lv_if_eq (tgt := 46) hx hb dX10_turned_16 (by decide) (fun _ => ?_) (fun q => absurd (by decide) q)
    refine lv_iconst (v := (-1)) hx hb dX10_turned_46 (by decide) ?_
    exact W.iret (v := (-1)) hx hb hr (fun t ht hW => ⟨⟨(-1), (z, y), rfl, rfl, by rw [ht]; exact hP, va_K.moved hW.alike hK⟩, hS.F ht⟩) hS.2.2 dX10_turned_47
  · subst h1r
    refine lv_if_eq (tgt := 46) hx hb dX10_turned_5 (by decide) (fun _ => ?_) (fun q => absurd (by decide) q)
    refine lv_iconst (v := (-1)) hx hb dX10_turned_46 (by decide) ?_
    exact W.iret (v := (-1)) hx hb hr (fun t ht hW => ⟨⟨(-1), (z, y), rfl, rfl, by rw [ht]; exact hP, va_K.moved hW.alike hK⟩, hS.F ht⟩) hS.2.2 dX10_turned_47

set_option maxRecDepth 100000 in
set_option maxHeartbeats 4000000 in
theorem uP_squares (l : Launch) (D : va_G) (ca : Nat → ClassId) (o : Nat) (z : Nat → Nat → Int32) (y : Nat → Nat → Int64) (a1 : Int32) (a2 : Int32) (h1_5 : z 1 5 = 0) (h1_6 : z 1 6 = 0) (h1_7 : z 1 7 = 0) (h0_4 : z 0 4 = 0) (h0_2 : z 0 2 = 0) (h108_1 : z 108 1 = 0) : qM l yX10_squares cX10_squares 6 (some .int) 5 149 (qPre D vwCl (qT6 ca) o 132 (qG (GU ca o) z y) [.ref (o + 0), .int a1, .int a2]) (va_Qi (fun r _ => r = A_squares a1 a2) (qB D vwCl (qT6 ca) o 132 (fun u : qZ => qG (GU ca o) u.1 u.2)) (qw_A o 132)) (qw_A o 132) := by
  refine Met.ofW (cc := cX10_squares) (maxL := 6) (ret := (some .int)) (by decide) rfl ?_
  intro p e s m args below meth c s₁ B hml hv
  obtain ⟨rfl, hP, hK⟩ := hv
  have hx := B.exec
  have hb := B.bytes
  have hr := B.returns
  have hts0 := atoms_spec (ws := Cond.code yX10_squares cX10_squares 6 (some .int) :: qtbl) B.pre
  have hts : ∀ w ∈ qtbl, w.before _ s = true := fun w h => hts0 w (List.mem_cons_of_mem _ h)
  have hown : s.vm.findClass RX10 = some m.cls := findClass_of_methodNamed B.named
  have hlocks := B.notSynchronized
  have hz0 : (0 : Int32).toInt = 0 := rfl
  have hS : va_S (qw_A o 132) s.heap s.heap [] := va_S.rf
  have hl := lv_entry ([.ref (o + 0), .int a1, .int a2]) (n := 6) (Nat.le_of_ble_eq_true rfl)
  rw [lg_entry_eq]
  generalize (lg_sl ([.ref (o + 0), .int a1, .int a2]) ++ List.replicate (6 - (lg_sl ([.ref (o + 0), .int a1, .int a2])).length) Slot.unset).toArray = ls at hl ⊢
  have hl : lv_has ls 6 [(0, .ref (o + 0)), (1, .int a1), (2, .int a2)] := hl
  refine lv_aload_n hx hb dX10_squares_0 rfl (lv_at hl 0 rfl) ?_
  refine lv_iload_n hx hb dX10_squares_1 rfl (lv_at hl 1 rfl) ?_
  refine qc_Vi (As := [.int a1]) (rest := []) (k0 := 1) (u1_areRemarks l D ca o z y a1 (h1_6)) kc_yX10_areRemarks ⟨hx, hb, hml, hown, hts⟩ wq_583 rfl rfl ⟨Nat.le_of_ble_eq_true rfl, Nat.le_of_ble_eq_true rfl⟩ wq_all hP hK hS qw_Ai (q0 := 0) (by decide) (hgU_0 ca o _ _) rfl rfl hl.1 rfl (Nat.le_of_ble_eq_true rfl) dX10_squares_2 ⟨Nat.zero_le _, Nat.zero_le _⟩ (fun r1 u1 H locs h1 hP hS _ _ => ?_)
  rcases h1 with ⟨h1r, h1a⟩ | ⟨h1r, h1a⟩
  · subst h1r
    obtain rfl : a1 = 0 := gr_eq (y := 0) h1a
    refine lv_if_eq (tgt := 18) hx hb dX10_squares_5 (by decide) (fun q => absurd q (by decide)) (fun _ => ?_)
    refine lv_iload_n hx hb dX10_squares_8 rfl (lv_at hl 2 rfl) ?_
    refine lv_if_lt (tgt := 18) hx hb dX10_squares_9 (by decide) (fun c2 => ?_) (fun c2 => ?_)
    · have t2 : a2.toInt < (0 : Int) := gl_lt c2
      refine lv_iconst (v := (-1)) hx hb dX10_squares_18 (by decide) ?_
      exact W.iret (v := (-1)) hx hb hr (fun t ht hW => ⟨⟨(-1), (z, y), rfl, (ga_n (by omega)), by rw [ht]; exact hP, va_K.moved hW.alike hK⟩, hS.F ht⟩) hS.2.2 dX10_squares_19
    · have t2 : a2.toInt ≥ (0 : Int) := gl_nlt c2
      refine lv_iload_n hx hb dX10_squares_12 rfl (lv_at hl 2 rfl) ?_
      refine lv_bipush (v := 100) hx hb dX10_squares_13 (by decide) ?_
      refine lv_icmp_le (tgt := 20) hx hb dX10_squares_15 (by decide) (fun c3 => ?_) (fun c3 => ?_)
      · have t3 : a2.toInt ≤ (100 : Int) := gl_le c3
        refine lv_aload_n hx hb dX10_squares_20 rfl (lv_at hl 0 rfl) ?_
        refine qf_get hx hb hts inX10 hown hK hP (q0 := 0) (by decide) (hgU_0 ca o) rfl 6 (by decide) wq_359 (v := .ref (o + 104)) rfl dX10_squares_21 ?_
        refine lv_iload_n hx hb dX10_squares_24 rfl (lv_at hl 1 rfl) ?_
        refine qc_Vi (As := [.int 0]) (rest := []) (k0 := 1) (u1_seek l D ca o z y (h1_5)) kc_yX7_seek ⟨hx, hb, hml, hown, hts⟩ wq_587 rfl rfl ⟨Nat.le_of_ble_eq_true rfl, Nat.le_of_ble_eq_true rfl⟩ wq_all hP hK hS qw_Ai (q0 := 104) (by decide) (hgU_104 ca o _ _) rfl rfl hl.1 rfl (Nat.le_of_ble_eq_true rfl) dX10_squares_25 ⟨Nat.zero_le _, Nat.zero_le _⟩ (fun r4 u4 H locs h4 hP hS _ _ => ?_)
        obtain ⟨z4, y4⟩ := u4
        obtain ⟨h4r, h4f, h4y⟩ := h4
        dsimp only at h4f h4y hP
        subst h4r; rw [h4y] at hP
        have f4_0_2 : z4 0 2 = 0 := (congrFun (h4f 0 (by decide) (by decide)) 2).trans (h0_2)
        have f4_0_4 : z4 0 4 = 0 := (congrFun (h4f 0 (by decide) (by decide)) 4).trans (h0_4)
        have f4_1_5 : z4 1 5 = 0 := (congrFun (h4f 1 (by decide) (by decide)) 5).trans (h1_5)
        have f4_1_6 : z4 1 6 = 0 := (congrFun (h4f 1 (by decide) (by decide)) 6).trans (h1_6)
        have f4_1_7 : z4 1 7 = 0 := (congrFun (h4f 1 (by decide) (by decide)) 7).trans (h1_7)
        have f4_108_1 : z4 108 1 = 0 := (congrFun (h4f 108 (by decide) (by decide)) 1).trans (h108_1)
        refine lv_istore_n (lv' := [(3, .int 0), (0, .ref (o + 0)), (1, .int 0), (2, .int a2)]) hx hb dX10_squares_28 rfl hl (by decide) rfl (fun ls hl => ?_)
        refine lv_iload_n hx hb dX10_squares_29 rfl (lv_at hl 0 rfl) ?_
        refine lv_if_ge (tgt := 35) hx hb dX10_squares_30 (by decide) (fun _ => ?_) (fun q => absurd (by decide) q)
        refine lv_iload_n hx hb dX10_squares_35 rfl (lv_at hl 3 rfl) ?_
        refine lv_bipush (v := 100) hx hb dX10_squares_36 (by decide) ?_
        refine lv_icmp_ge (tgt := 55) hx hb dX10_squares_38 (by decide) (fun c5 => ?_) (fun c5 => ?_)
        · have t5 : a2.toInt ≥ (100 : Int) := gl_le c5
          refine lv_iconst (v := 0) hx hb dX10_squares_55 (by decide) ?_
          refine lv_istore (lv' := [(4, .int 0), (3, .int 0), (0, .ref (o + 0)), (1, .int 0), (2, .int a2)]) hx hb dX10_squares_56 hl (by decide) rfl (fun ls hl => ?_)
          refine lv_iconst (v := 1) hx hb dX10_squares_58 (by decide) ?_
          refine lv_istore (lv' := [(5, .int 1), (4, .int 0), (3, .int 0), (0, .ref (o + 0)), (1, .int 0), (2, .int a2)]) hx hb dX10_squares_59 hl (by decide) rfl (fun ls hl => ?_)
          have loop6 : ∀ (n i6 : Nat) (x6 : Int32), 100 < i6 + n → i6 ≤ 100 → 1 ≤ i6 → x6.toInt = (i6 : Int) → ∀ (H : Heap) (locs : List Loc), qw_P D vwCl o 132 (qG (GU ca o) z4 y) H → va_S (qw_A o 132) s.heap H locs → ∀ (ls : Array Slot), lv_has ls 6 [(5, .int x6), (4, .int 0), (3, .int 0), (0, .ref (o + 0)), (1, .int 0), (2, .int a2)] → W p l e (headSpec (Cond.code yX10_squares cX10_squares 6 (some .int) :: qtbl) ({ frames := 5, cells := 0, slots := 0, locals := 149 })).room s m (([.ref (o + 0), .int 0, .int a2] : List Value).toArray) below meth c H locs 0 0 (MQ below (va_Qi (fun r _ => r = A_squares 0 a2) (qB D vwCl (qT6 ca) o 132 (fun u : qZ => qG (GU ca o) u.1 u.2)) (qw_A o 132)) (([.ref (o + 0), .int 0, .int a2] : List Value).toArray) s 0 0 (qw_A o 132)) (F0 m 61 ls []) := by
            intro n
            induction n with
            | zero => intro i6 x6 hb6 hi6; exact absurd hb6 (by omega)
            | succ n ih =>
              intro i6 x6 hb6 hi6 ho6 hx6 H locs hP hS ls hl
              refine lv_iload hx hb dX10_squares_61 (lv_at hl 0 rfl) ?_
              refine lv_bipush (v := 100) hx hb dX10_squares_63 (by decide) ?_
              refine lv_icmp_ge (tgt := 109) hx hb dX10_squares_65 (by decide) (fun c7 => ?_) (fun c7 => ?_)
              · have t7 : x6.toInt ≥ (100 : Int) := gl_le c7
                refine lv_iload hx hb dX10_squares_109 (lv_at hl 1 rfl) ?_
                exact W.iret (v := 0) hx hb hr (fun t ht hW => ⟨⟨0, (z4, y), rfl, (ga_p (by omega)), by rw [ht]; exact hP, va_K.moved hW.alike hK⟩, hS.F ht⟩) hS.2.2 dX10_squares_111
              · have t7 : x6.toInt < (100 : Int) := gl_nle c7
                refine lv_aload_n hx hb dX10_squares_68 rfl (lv_at hl 3 rfl) ?_
                refine lv_aload_n hx hb dX10_squares_69 rfl (lv_at hl 3 rfl) ?_
                refine qf_get hx hb hts inX10 hown hK hP (q0 := 0) (by decide) (hgU_0 ca o) rfl 0 (by decide) wq_353 (v := .ref (o + 1)) rfl dX10_squares_70 ?_
                refine qf_get hx hb hts inX9 hown hK hP (q0 := 1) (by decide) (hgU_1 ca o) rfl 7 (by decide) wq_104 (v := .int (z4 1 7)) rfl dX10_squares_73 ?_
                refine qtop (x' := 0) f4_1_7 ?_
                refine lv_iload hx hb dX10_squares_76 (lv_at hl 0 rfl) ?_
                refine lv_iadd hx hb dX10_squares_78 ?_
                refine lv_topi (fun x8 e8 => ?_)
                refine qc_Vi (As := [.int x8]) (rest := []) (k0 := 1) (u1_squaresIn l D ca o z4 y x8 (f4_1_5)) kc_yX10_squaresIn ⟨hx, hb, hml, hown, hts⟩ wq_841 rfl rfl ⟨Nat.le_of_ble_eq_true rfl, Nat.le_of_ble_eq_true rfl⟩ wq_all hP hK hS qw_Ai (q0 := 0) (by decide) (hgU_0 ca o _ _) rfl rfl hl.1 rfl (Nat.le_of_ble_eq_true rfl) dX10_squares_79 ⟨Nat.zero_le _, Nat.zero_le _⟩ (fun r9 u9 H locs h9 hP hS _ _ => ?_)
                subst h9
                refine lv_aload_n hx hb dX10_squares_82 rfl (lv_at hl 3 rfl) ?_
                refine lv_aload_n hx hb dX10_squares_83 rfl (lv_at hl 3 rfl) ?_
                refine qf_get hx hb hts inX10 hown hK hP (q0 := 0) (by decide) (hgU_0 ca o) rfl 0 (by decide) wq_353 (v := .ref (o + 1)) rfl dX10_squares_84 ?_
                refine qf_get hx hb hts inX9 hown hK hP (q0 := 1) (by decide) (hgU_1 ca o) rfl 7 (by decide) wq_104 (v := .int (z4 1 7)) rfl dX10_squares_87 ?_
                refine qtop (x' := 0) f4_1_7 ?_
                refine lv_iload hx hb dX10_squares_90 (lv_at hl 1 rfl) ?_
                refine lv_iadd hx hb dX10_squares_92 ?_
                refine qtop (x' := 0) (by decide) ?_
                refine qc_Vi (As := [.int 0]) (rest := [.int 0]) (k0 := 1) (u1_squaresIn l D ca o z4 y 0 (f4_1_5)) kc_yX10_squaresIn ⟨hx, hb, hml, hown, hts⟩ wq_841 rfl rfl ⟨Nat.le_of_ble_eq_true rfl, Nat.le_of_ble_eq_true rfl⟩ wq_all hP hK hS qw_Ai (q0 := 0) (by decide) (hgU_0 ca o _ _) rfl rfl hl.1 rfl (Nat.le_of_ble_eq_true rfl) dX10_squares_93 ⟨Nat.zero_le _, Nat.zero_le _⟩ (fun r10 u10 H locs h10 hP hS _ _ => ?_)
                subst h10
                refine lv_icmp_le (tgt := 103) hx hb dX10_squares_96 (by decide) (fun _ => ?_) (fun q => absurd (by decide) q)
                obtain ⟨x11, e11⟩ : ∃ t : Int32, t = x6 + 1 := ⟨_, rfl⟩
                refine lv_iinc (v := x11) (lv' := [(5, .int x11), (4, .int 0), (3, .int 0), (0, .ref (o + 0)), (1, .int 0), (2, .int a2)]) hx hb dX10_squares_103 hl (k := 0) rfl (by rw [e11]; rfl) (by decide) rfl (fun ls hl => ?_)
                refine lv_goto (tgt := 61) hx hb dX10_squares_106 (by decide) ?_
                exact ih (i6 + 1) x11 (by omega) (by omega) (by omega) (by rw [e11]; rw [gi_add (by rw [hx6]; show _ ≤ _ + (1 : Int); omega) (by rw [hx6]; show _ + (1 : Int) ≤ _; omega), hx6]; rfl) _ _ hP hS _ (lv_sub hl [0, 1, 2, 3, 4, 5] rfl)
          exact loop6 101 1 1 (by omega) (by omega) (by omega) rfl _ _ hP hS _ (lv_sub hl [0, 1, 2, 3, 4, 5] rfl)
        · have t5 : a2.toInt < (100 : Int) := gl_nle c5
          refine lv_aload_n hx hb dX10_squares_41 rfl (lv_at hl 1 rfl) ?_
          refine lv_aload_n hx hb dX10_squares_42 rfl (lv_at hl 1 rfl) ?_
          refine qf_get hx hb hts inX10 hown hK hP (q0 := 0) (by decide) (hgU_0 ca o) rfl 0 (by decide) wq_353 (v := .ref (o + 1)) rfl dX10_squares_43 ?_
          refine qf_get hx hb hts inX9 hown hK hP (q0 := 1) (by decide) (hgU_1 ca o) rfl 7 (by decide) wq_104 (v := .int (z4 1 7)) rfl dX10_squares_46 ?_
          refine qtop (x' := 0) f4_1_7 ?_
          refine lv_iload_n hx hb dX10_squares_49 rfl (lv_at hl 3 rfl) ?_
          refine lv_iadd hx hb dX10_squares_50 ?_
          refine lv_topi (fun x12 e12 => ?_)
          refine qc_Vi (As := [.int x12]) (rest := []) (k0 := 1) (u1_squaresIn l D ca o z4 y x12 (f4_1_5)) kc_yX10_squaresIn ⟨hx, hb, hml, hown, hts⟩ wq_841 rfl rfl ⟨Nat.le_of_ble_eq_true rfl, Nat.le_of_ble_eq_true rfl⟩ wq_all hP hK hS qw_Ai (q0 := 0) (by decide) (hgU_0 ca o _ _) rfl rfl hl.1 rfl (Nat.le_of_ble_eq_true rfl) dX10_squares_51 ⟨Nat.zero_le _, Nat.zero_le _⟩ (fun r13 u13 H locs h13 hP hS _ _ => ?_)
          subst h13
          exact W.iret (v := 0) hx hb hr (fun t ht hW => ⟨⟨0, (z4, y), rfl, (ga_p (by omega)), by rw [ht]; exact hP, va_K.moved hW.alike hK⟩, hS.F ht⟩) hS.2.2 dX10_squares_54
      · have t3 : a2.toInt > (100 : Int) := gl_nle c3
        refine lv_iconst (v := (-1)) hx hb dX10_squares_18 (by decide) ?_
        exact W.iret (v := (-1)) hx hb hr (fun t ht hW => ⟨⟨(-1), (z, y), rfl, (ga_n (by omega)), by rw [ht]; exact hP, va_K.moved hW.alike hK⟩, hS.F ht⟩) hS.2.2 dX10_squares_19
  · subst h1r
    refine lv_if_eq (tgt := 18) hx hb dX10_squares_5 (by decide) (fun _ => ?_) (fun q => absurd (by decide) q)
    refine lv_iconst (v := (-1)) hx hb dX10_squares_18 (by decide) ?_
    exact W.iret (v := (-1)) hx hb hr (fun t ht hW => ⟨⟨(-1), (z, y), rfl, (ga_n (by omega)), by rw [ht]; exact hP, va_K.moved hW.alike hK⟩, hS.F ht⟩) hS.2.2 dX10_squares_19

set_option maxRecDepth 100000 in
set_option maxHeartbeats 4000000 in
theorem uP_when (l : Launch) (D : va_G) (ca : Nat → ClassId) (o : Nat) (z : Nat → Nat → Int32) (y : Nat → Nat → Int64) (a1 : Int32) (a2 : Int32) (a3 : Int32) (a4 : Int32) (h1_5 : z 1 5 = 0) (h1_6 : z 1 6 = 0) (h1_7 : z 1 7 = 0) (h0_4 : z 0 4 = 0) (h0_2 : z 0 2 = 0) (h108_1 : z 108 1 = 0) : qM l yX10_when cX10_when 6 (some .int) 3 101 (qPre D vwCl (qT6 ca) o 132 (qG (GU ca o) z y) [.ref (o + 0), .int a1, .int a2, .int a3, .int a4]) (va_Qi (fun r _ => r = A_when a1 a2 a3 a4) (qB D vwCl (qT6 ca) o 132 (fun u : qZ => qG (GU ca o) u.1 u.2)) (qw_A o 132)) (qw_A o 132) := by
  refine Met.ofW (cc := cX10_when) (maxL := 6) (ret := (some .int)) (by decide) rfl ?_
  intro p e s m args below meth c s₁ B hml hv
  obtain ⟨rfl, hP, hK⟩ := hv
  have hx := B.exec
  have hb := B.bytes
  have hr := B.returns
  have hts0 := atoms_spec (ws := Cond.code yX10_when cX10_when 6 (some .int) :: qtbl) B.pre
  have hts : ∀ w ∈ qtbl, w.before _ s = true := fun w h => hts0 w (List.mem_cons_of_mem _ h)
  have hown : s.vm.findClass RX10 = some m.cls := findClass_of_methodNamed B.named
  have hlocks := B.notSynchronized
  have hz0 : (0 : Int32).toInt = 0 := rfl
  have hS : va_S (qw_A o 132) s.heap s.heap [] := va_S.rf
  have hl := lv_entry ([.ref (o + 0), .int a1, .int a2, .int a3, .int a4]) (n := 6) (Nat.le_of_ble_eq_true rfl)
  rw [lg_entry_eq]
  generalize (lg_sl ([.ref (o + 0), .int a1, .int a2, .int a3, .int a4]) ++ List.replicate (6 - (lg_sl ([.ref (o + 0), .int a1, .int a2, .int a3, .int a4])).length) Slot.unset).toArray = ls at hl ⊢
  have hl : lv_has ls 6 [(0, .ref (o + 0)), (1, .int a1), (2, .int a2), (3, .int a3), (4, .int a4)] := hl
  refine lv_aload_n hx hb dX10_when_0 rfl (lv_at hl 0 rfl) ?_
  refine lv_iload_n hx hb dX10_when_1 rfl (lv_at hl 1 rfl) ?_
  refine qc_Vi (As := [.int a1]) (rest := []) (k0 := 1) (u1_areRemarks l D ca o z y a1 (h1_6)) kc_yX10_areRemarks ⟨hx, hb, hml, hown, hts⟩ wq_583 rfl rfl ⟨Nat.le_of_ble_eq_true rfl, Nat.le_of_ble_eq_true rfl⟩ wq_all hP hK hS qw_Ai (q0 := 0) (by decide) (hgU_0 ca o _ _) rfl rfl hl.1 rfl (Nat.le_of_ble_eq_true rfl) dX10_when_2 ⟨Nat.zero_le _, Nat.zero_le _⟩ (fun r1 u1 H locs h1 hP hS _ _ => ?_)
  rcases h1 with ⟨h1r, h1a⟩ | ⟨h1r, h1a⟩
  · subst h1r
    obtain rfl : a1 = 0 := gr_eq (y := 0) h1a
    refine lv_if_eq (tgt := 43) hx hb dX10_when_5 (by decide) (fun q => absurd q (by decide)) (fun _ => ?_)
    refine lv_aload_n hx hb dX10_when_8 rfl (lv_at hl 0 rfl) ?_
    refine qf_get hx hb hts inX10 hown hK hP (q0 := 0) (by decide) (hgU_0 ca o) rfl 0 (by decide) wq_353 (v := .ref (o + 1)) rfl dX10_when_9 ?_
    refine lv_iload_n hx hb dX10_when_12 rfl (lv_at hl 2 rfl) ?_
    refine qc_Vi (As := [.int a2]) (rest := []) (k0 := 1) (u1_hasPerson l D ca o z y a2 (h1_5)) kc_yX9_hasPerson ⟨hx, hb, hml, hown, hts⟩ wq_411 rfl rfl ⟨Nat.le_of_ble_eq_true rfl, Nat.le_of_ble_eq_true rfl⟩ wq_all hP hK hS qw_Ai (q0 := 1) (by decide) (hgU_1 ca o _ _) rfl rfl hl.1 rfl (Nat.le_of_ble_eq_true rfl) dX10_when_13 ⟨Nat.zero_le _, Nat.zero_le _⟩ (fun r2 u2 H locs h2 hP hS _ _ => ?_)
    subst h2
    refine lv_if_eq (tgt := 43) hx hb dX10_when_16 (by decide) (fun _ => ?_) (fun q => absurd (by decide) q)
    refine lv_sipush (v := (-4000)) hx hb dX10_when_43 (by decide) ?_
    exact W.iret (v := (-4000)) hx hb hr (fun t ht hW => ⟨⟨(-4000), (z, y), rfl, rfl, by rw [ht]; exact hP, va_K.moved hW.alike hK⟩, hS.F ht⟩) hS.2.2 dX10_when_46
  · subst h1r
    refine lv_if_eq (tgt := 43) hx hb dX10_when_5 (by decide) (fun _ => ?_) (fun q => absurd (by decide) q)
    refine lv_sipush (v := (-4000)) hx hb dX10_when_43 (by decide) ?_
    exact W.iret (v := (-4000)) hx hb hr (fun t ht hW => ⟨⟨(-4000), (z, y), rfl, rfl, by rw [ht]; exact hP, va_K.moved hW.alike hK⟩, hS.F ht⟩) hS.2.2 dX10_when_46

set_option maxRecDepth 100000 in
set_option maxHeartbeats 4000000 in
theorem uP_whoIsWho (l : Launch) (D : va_G) (ca : Nat → ClassId) (o : Nat) (z : Nat → Nat → Int32) (y : Nat → Nat → Int64) (a1 : Int32) (a2 : Int32) (a3 : Int32) (a4 : Int32) (h1_5 : z 1 5 = 0) (h1_6 : z 1 6 = 0) (h1_7 : z 1 7 = 0) (h0_4 : z 0 4 = 0) (h0_2 : z 0 2 = 0) (h108_1 : z 108 1 = 0) : qM l yX10_whoIsWho cX10_whoIsWho 5 (some .int) 2 82 (qPre D vwCl (qT6 ca) o 132 (qG (GU ca o) z y) [.ref (o + 0), .int a1, .int a2, .int a3, .int a4]) (va_Qi (fun r _ => r = A_whoIsWho a1 a2 a3 a4) (qB D vwCl (qT6 ca) o 132 (fun u : qZ => qG (GU ca o) u.1 u.2)) (qw_A o 132)) (qw_A o 132) := by
  refine Met.ofW (cc := cX10_whoIsWho) (maxL := 5) (ret := (some .int)) (by decide) rfl ?_
  intro p e s m args below meth c s₁ B hml hv
  obtain ⟨rfl, hP, hK⟩ := hv
  have hx := B.exec
  have hb := B.bytes
  have hr := B.returns
  have hts0 := atoms_spec (ws := Cond.code yX10_whoIsWho cX10_whoIsWho 5 (some .int) :: qtbl) B.pre
  have hts : ∀ w ∈ qtbl, w.before _ s = true := fun w h => hts0 w (List.mem_cons_of_mem _ h)
  have hown : s.vm.findClass RX10 = some m.cls := findClass_of_methodNamed B.named
  have hlocks := B.notSynchronized
  have hz0 : (0 : Int32).toInt = 0 := rfl
  have hS : va_S (qw_A o 132) s.heap s.heap [] := va_S.rf
  have hl := lv_entry ([.ref (o + 0), .int a1, .int a2, .int a3, .int a4]) (n := 5) (Nat.le_of_ble_eq_true rfl)
  rw [lg_entry_eq]
  generalize (lg_sl ([.ref (o + 0), .int a1, .int a2, .int a3, .int a4]) ++ List.replicate (5 - (lg_sl ([.ref (o + 0), .int a1, .int a2, .int a3, .int a4])).length) Slot.unset).toArray = ls at hl ⊢
  have hl : lv_has ls 5 [(0, .ref (o + 0)), (1, .int a1), (2, .int a2), (3, .int a3), (4, .int a4)] := hl
  refine lv_aload_n hx hb dX10_whoIsWho_0 rfl (lv_at hl 0 rfl) ?_
  refine lv_iload_n hx hb dX10_whoIsWho_1 rfl (lv_at hl 1 rfl) ?_
  refine lv_bipush (v := 6) hx hb dX10_whoIsWho_2 (by decide) ?_
  refine qc_Vi (As := [.int a1, .int 6]) (rest := []) (k0 := 2) (u1_isText l D ca o z y a1 6 (h0_4)) kc_yX10_isText ⟨hx, hb, hml, hown, hts⟩ wq_431 rfl rfl ⟨Nat.le_of_ble_eq_true rfl, Nat.le_of_ble_eq_true rfl⟩ wq_all hP hK hS qw_Ai (q0 := 0) (by decide) (hgU_0 ca o _ _) rfl rfl hl.1 rfl (Nat.le_of_ble_eq_true rfl) dX10_whoIsWho_4 ⟨Nat.zero_le _, Nat.zero_le _⟩ (fun r1 u1 H locs h1 hP hS _ _ => ?_)
  subst h1
  refine lv_if_eq (tgt := 64) hx hb dX10_whoIsWho_7 (by decide) (fun _ => ?_) (fun q => absurd (by decide) q)
  refine lv_iconst (v := (-1)) hx hb dX10_whoIsWho_64 (by decide) ?_
  exact W.iret (v := (-1)) hx hb hr (fun t ht hW => ⟨⟨(-1), (z, y), rfl, rfl, by rw [ht]; exact hP, va_K.moved hW.alike hK⟩, hS.F ht⟩) hS.2.2 dX10_whoIsWho_65

set_option maxRecDepth 100000 in
set_option maxHeartbeats 4000000 in
theorem uP_asks (l : Launch) (D : va_G) (ca : Nat → ClassId) (o : Nat) (z : Nat → Nat → Int32) (y : Nat → Nat → Int64) (a1 : Int32) (a2 : Int32) (h1_5 : z 1 5 = 0) (h1_6 : z 1 6 = 0) (h1_7 : z 1 7 = 0) (h0_4 : z 0 4 = 0) (h0_2 : z 0 2 = 0) (h108_1 : z 108 1 = 0) : qM l yX10_asks cX10_asks 9 (some .int) 5 149 (qPre D vwCl (qT6 ca) o 132 (qG (GU ca o) z y) [.ref (o + 0), .int a1, .int a2]) (va_Qi (fun r _ => r = A_asks a1 a2) (qB D vwCl (qT6 ca) o 132 (fun u : qZ => qG (GU ca o) u.1 u.2)) (qw_A o 132)) (qw_A o 132) := by
  refine Met.ofW (cc := cX10_asks) (maxL := 9) (ret := (some .int)) (by decide) rfl ?_
  intro p e s m args below meth c s₁ B hml hv
  obtain ⟨rfl, hP, hK⟩ := hv
  have hx := B.exec
  have hb := B.bytes
  have hr := B.returns
  have hts0 := atoms_spec (ws := Cond.code yX10_asks cX10_asks 9 (some .int) :: qtbl) B.pre
  have hts : ∀ w ∈ qtbl, w.before _ s = true := fun w h => hts0 w (List.mem_cons_of_mem _ h)
  have hown : s.vm.findClass RX10 = some m.cls := findClass_of_methodNamed B.named
  have hlocks := B.notSynchronized
  have hz0 : (0 : Int32).toInt = 0 := rfl
  have hS : va_S (qw_A o 132) s.heap s.heap [] := va_S.rf
  have hl := lv_entry ([.ref (o + 0), .int a1, .int a2]) (n := 9) (Nat.le_of_ble_eq_true rfl)
  rw [lg_entry_eq]
  generalize (lg_sl ([.ref (o + 0), .int a1, .int a2]) ++ List.replicate (9 - (lg_sl ([.ref (o + 0), .int a1, .int a2])).length) Slot.unset).toArray = ls at hl ⊢
  have hl : lv_has ls 9 [(0, .ref (o + 0)), (1, .int a1), (2, .int a2)] := hl
  refine lv_aload_n hx hb dX10_asks_0 rfl (lv_at hl 0 rfl) ?_
  refine lv_iload_n hx hb dX10_asks_1 rfl (lv_at hl 1 rfl) ?_
  refine qc_Vi (As := [.int a1]) (rest := []) (k0 := 1) (u1_areRemarks l D ca o z y a1 (h1_6)) kc_yX10_areRemarks ⟨hx, hb, hml, hown, hts⟩ wq_583 rfl rfl ⟨Nat.le_of_ble_eq_true rfl, Nat.le_of_ble_eq_true rfl⟩ wq_all hP hK hS qw_Ai (q0 := 0) (by decide) (hgU_0 ca o _ _) rfl rfl hl.1 rfl (Nat.le_of_ble_eq_true rfl) dX10_asks_2 ⟨Nat.zero_le _, Nat.zero_le _⟩ (fun r1 u1 H locs h1 hP hS _ _ => ?_)
  rcases h1 with ⟨h1r, h1a⟩ | ⟨h1r, h1a⟩
  · subst h1r
    obtain rfl : a1 = 0 := gr_eq (y := 0) h1a
    refine lv_if_eq (tgt := 17) hx hb dX10_asks_5 (by decide) (fun q => absurd q (by decide)) (fun _ => ?_)
    refine lv_iload_n hx hb dX10_asks_8 rfl (lv_at hl 2 rfl) ?_
    refine lv_if_lt (tgt := 17) hx hb dX10_asks_9 (by decide) (fun c2 => ?_) (fun c2 => ?_)
    · have t2 : a2.toInt < (0 : Int) := gl_lt c2
      refine lv_iconst (v := (-1)) hx hb dX10_asks_17 (by decide) ?_
      exact W.iret (v := (-1)) hx hb hr (fun t ht hW => ⟨⟨(-1), (z, y), rfl, (ga_n (by omega)), by rw [ht]; exact hP, va_K.moved hW.alike hK⟩, hS.F ht⟩) hS.2.2 dX10_asks_18
    · have t2 : a2.toInt ≥ (0 : Int) := gl_nlt c2
      refine lv_iload_n hx hb dX10_asks_12 rfl (lv_at hl 2 rfl) ?_
      refine lv_iconst (v := 2) hx hb dX10_asks_13 (by decide) ?_
      refine lv_icmp_le (tgt := 19) hx hb dX10_asks_14 (by decide) (fun c3 => ?_) (fun c3 => ?_)
      · have t3 : a2.toInt ≤ (2 : Int) := gl_le c3
        refine lv_aload_n hx hb dX10_asks_19 rfl (lv_at hl 0 rfl) ?_
        refine qf_get hx hb hts inX10 hown hK hP (q0 := 0) (by decide) (hgU_0 ca o) rfl 7 (by decide) wq_360 (v := .ref (o + 108)) rfl dX10_asks_20 ?_
        refine lv_aload_n hx hb dX10_asks_23 rfl (lv_at hl 0 rfl) ?_
        refine qf_get hx hb hts inX10 hown hK hP (q0 := 0) (by decide) (hgU_0 ca o) rfl 6 (by decide) wq_359 (v := .ref (o + 104)) rfl dX10_asks_24 ?_
        refine qc_Vi (As := [.ref (o + 104)]) (rest := []) (k0 := 1) (u1_isCounted l D ca o z y (h1_5) (h1_6) (h108_1)) kc_yX3_isCounted ⟨hx, hb, hml, hown, hts⟩ wq_627 rfl rfl ⟨Nat.le_of_ble_eq_true rfl, Nat.le_of_ble_eq_true rfl⟩ wq_all hP hK hS qw_Ai (q0 := 108) (by decide) (hgU_108 ca o _ _) rfl rfl hl.1 rfl (Nat.le_of_ble_eq_true rfl) dX10_asks_27 ⟨Nat.zero_le _, Nat.zero_le _⟩ (fun r4 u4 H locs h4 hP hS _ _ => ?_)
        obtain ⟨z4, y4⟩ := u4
        obtain ⟨h4r, h4f, h4y, h4m⟩ := h4
        dsimp only at h4f h4y h4m hP
        subst h4r; rw [h4y] at hP
        have f4_0_2 : z4 0 2 = 0 := (congrFun (h4f 0 (by decide) (by decide) (by decide) (by decide)) 2).trans (h0_2)
        have f4_0_4 : z4 0 4 = 0 := (congrFun (h4f 0 (by decide) (by decide) (by decide) (by decide)) 4).trans (h0_4)
        have f4_1_5 : z4 1 5 = 0 := (congrFun (h4f 1 (by decide) (by decide) (by decide) (by decide)) 5).trans (h1_5)
        have f4_1_6 : z4 1 6 = 0 := (congrFun (h4f 1 (by decide) (by decide) (by decide) (by decide)) 6).trans (h1_6)
        have f4_1_7 : z4 1 7 = 0 := (congrFun (h4f 1 (by decide) (by decide) (by decide) (by decide)) 7).trans (h1_7)
        refine lv_if_ne (tgt := 36) hx hb dX10_asks_30 (by decide) (fun _ => ?_) (fun q => absurd q (by decide))
        refine lv_aload_n hx hb dX10_asks_36 rfl (lv_at hl 0 rfl) ?_
        refine qf_get hx hb hts inX10 hown hK hP (q0 := 0) (by decide) (hgU_0 ca o) rfl 7 (by decide) wq_360 (v := .ref (o + 108)) rfl dX10_asks_37 ?_
        refine lv_iload_n hx hb dX10_asks_40 rfl (lv_at hl 1 rfl) ?_
        refine qc_Vi (As := [.int 0]) (rest := []) (k0 := 1) (u1_of0 l D ca o z4 y (h4m.1)) kc_yX3_of ⟨hx, hb, hml, hown, hts⟩ wq_644 rfl rfl ⟨Nat.le_of_ble_eq_true rfl, Nat.le_of_ble_eq_true rfl⟩ wq_all hP hK hS qw_Ai (q0 := 108) (by decide) (hgU_108 ca o _ _) rfl rfl hl.1 rfl (Nat.le_of_ble_eq_true rfl) dX10_asks_41 ⟨Nat.zero_le _, Nat.zero_le _⟩ (fun r5 u5 H locs h5 hP hS _ _ => ?_)
        subst h5
        refine lv_istore_n (lv' := [(3, .int 1), (0, .ref (o + 0)), (1, .int 0), (2, .int a2)]) hx hb dX10_asks_44 rfl hl (by decide) rfl (fun ls hl => ?_)
        refine lv_bipush (v := (-2)) hx hb dX10_asks_45 (by decide) ?_
        refine lv_istore (lv' := [(4, .int ((-2))), (3, .int 1), (0, .ref (o + 0)), (1, .int 0), (2, .int a2)]) hx hb dX10_asks_47 hl (by decide) rfl (fun ls hl => ?_)
        refine lv_iconst (v := 0) hx hb dX10_asks_49 (by decide) ?_
        refine lv_istore (lv' := [(5, .int 0), (4, .int ((-2))), (3, .int 1), (0, .ref (o + 0)), (1, .int 0), (2, .int a2)]) hx hb dX10_asks_50 hl (by decide) rfl (fun ls hl => ?_)
        refine lv_iconst (v := 0) hx hb dX10_asks_52 (by decide) ?_
        refine lv_istore (lv' := [(6, .int 0), (5, .int 0), (4, .int ((-2))), (3, .int 1), (0, .ref (o + 0)), (1, .int 0), (2, .int a2)]) hx hb dX10_asks_53 hl (by decide) rfl (fun ls hl => ?_)
        refine lv_iload hx hb dX10_asks_55 (lv_at hl 0 rfl) ?_
        refine lv_bipush (v := 10) hx hb dX10_asks_57 (by decide) ?_
        refine lv_icmp_ge (tgt := 135) hx hb dX10_asks_59 (by decide) (fun q => absurd q (by decide)) (fun _ => ?_)
        refine lv_iload_n hx hb dX10_asks_62 rfl (lv_at hl 3 rfl) ?_
        refine lv_if_le (tgt := 135) hx hb dX10_asks_63 (by decide) (fun q => absurd q (by decide)) (fun _ => ?_)
        refine lv_aload_n hx hb dX10_asks_66 rfl (lv_at hl 4 rfl) ?_
        refine qf_get hx hb hts inX10 hown hK hP (q0 := 0) (by decide) (hgU_0 ca o) rfl 7 (by decide) wq_360 (v := .ref (o + 108)) rfl dX10_asks_67 ?_
        refine lv_iload_n hx hb dX10_asks_70 rfl (lv_at hl 5 rfl) ?_
        refine lv_iconst (v := 1) hx hb dX10_asks_71 (by decide) ?_
        refine lv_iload hx hb dX10_asks_72 (lv_at hl 0 rfl) ?_
        refine lv_ishl hx hb dX10_asks_74 ?_
        refine qtop (x' := 1) (by decide) ?_
        refine lv_ior hx hb dX10_asks_75 ?_
        refine qtop (x' := 1) (by decide) ?_
        refine qc_Vi (As := [.int 1]) (rest := []) (k0 := 1) (u1_ofAny l D ca o z4 y 1) kc_yX3_of ⟨hx, hb, hml, hown, hts⟩ wq_644 rfl rfl ⟨Nat.le_of_ble_eq_true rfl, Nat.le_of_ble_eq_true rfl⟩ wq_all hP hK hS qw_Ai (q0 := 108) (by decide) (hgU_108 ca o _ _) rfl rfl hl.1 rfl (Nat.le_of_ble_eq_true rfl) dX10_asks_76 ⟨Nat.zero_le _, Nat.zero_le _⟩ (fun r6 u6 H locs h6 hP hS _ _ => ?_)
        refine lv_istore (lv' := [(7, .int r6), (6, .int 0), (5, .int 0), (4, .int ((-2))), (3, .int 1), (0, .ref (o + 0)), (1, .int 0), (2, .int a2)]) hx hb dX10_asks_79 hl (by decide) rfl (fun ls hl => ?_)
        refine lv_aload_n hx hb dX10_asks_81 rfl (lv_at hl 5 rfl) ?_
        refine lv_iload_n hx hb dX10_asks_82 rfl (lv_at hl 6 rfl) ?_
        refine lv_iload hx hb dX10_asks_83 (lv_at hl 1 rfl) ?_
        refine qc_Vi (As := [.int 0, .int 0]) (rest := []) (k0 := 2) (u1_isOther l D ca o z4 y 0 0 (f4_1_6)) kc_yX10_isOther ⟨hx, hb, hml, hown, hts⟩ wq_717 rfl rfl ⟨Nat.le_of_ble_eq_true rfl, Nat.le_of_ble_eq_true rfl⟩ wq_all hP hK hS qw_Ai (q0 := 0) (by decide) (hgU_0 ca o _ _) rfl rfl hl.1 rfl (Nat.le_of_ble_eq_true rfl) dX10_asks_85 ⟨Nat.zero_le _, Nat.zero_le _⟩ (fun r7 u7 H locs h7 hP hS _ _ => ?_)
        subst h7
        refine lv_if_eq (tgt := 129) hx hb dX10_asks_88 (by decide) (fun _ => ?_) (fun q => absurd (by decide) q)
        refine lv_iinc (v := 1) (lv' := [(6, .int 1), (7, .int r6), (5, .int 0), (4, .int ((-2))), (3, .int 1), (0, .ref (o + 0)), (1, .int 0), (2, .int a2)]) hx hb dX10_asks_129 hl (k := 1) rfl (by decide) (by decide) rfl (fun ls hl => ?_)
        refine lv_goto (tgt := 55) hx hb dX10_asks_132 (by decide) ?_
        refine lv_iload hx hb dX10_asks_55 (lv_at hl 0 rfl) ?_
        refine lv_bipush (v := 10) hx hb dX10_asks_57 (by decide) ?_
        refine lv_icmp_ge (tgt := 135) hx hb dX10_asks_59 (by decide) (fun q => absurd q (by decide)) (fun _ => ?_)
        refine lv_iload_n hx hb dX10_asks_62 rfl (lv_at hl 4 rfl) ?_
        refine lv_if_le (tgt := 135) hx hb dX10_asks_63 (by decide) (fun q => absurd q (by decide)) (fun _ => ?_)
        refine lv_aload_n hx hb dX10_asks_66 rfl (lv_at hl 5 rfl) ?_
        refine qf_get hx hb hts inX10 hown hK hP (q0 := 0) (by decide) (hgU_0 ca o) rfl 7 (by decide) wq_360 (v := .ref (o + 108)) rfl dX10_asks_67 ?_
        refine lv_iload_n hx hb dX10_asks_70 rfl (lv_at hl 6 rfl) ?_
        refine lv_iconst (v := 1) hx hb dX10_asks_71 (by decide) ?_
        refine lv_iload hx hb dX10_asks_72 (lv_at hl 0 rfl) ?_
        refine lv_ishl hx hb dX10_asks_74 ?_
        refine qtop (x' := 2) (by decide) ?_
        refine lv_ior hx hb dX10_asks_75 ?_
        refine qtop (x' := 2) (by decide) ?_
        refine qc_Vi (As := [.int 2]) (rest := []) (k0 := 1) (u1_ofAny l D ca o z4 y 2) kc_yX3_of ⟨hx, hb, hml, hown, hts⟩ wq_644 rfl rfl ⟨Nat.le_of_ble_eq_true rfl, Nat.le_of_ble_eq_true rfl⟩ wq_all hP hK hS qw_Ai (q0 := 108) (by decide) (hgU_108 ca o _ _) rfl rfl hl.1 rfl (Nat.le_of_ble_eq_true rfl) dX10_asks_76 ⟨Nat.zero_le _, Nat.zero_le _⟩ (fun r8 u8 H locs h8 hP hS _ _ => ?_)
        refine lv_istore (lv' := [(7, .int r8), (6, .int 1), (5, .int 0), (4, .int ((-2))), (3, .int 1), (0, .ref (o + 0)), (1, .int 0), (2, .int a2)]) hx hb dX10_asks_79 hl (by decide) rfl (fun ls hl => ?_)
        refine lv_aload_n hx hb dX10_asks_81 rfl (lv_at hl 5 rfl) ?_
        refine lv_iload_n hx hb dX10_asks_82 rfl (lv_at hl 6 rfl) ?_
        refine lv_iload hx hb dX10_asks_83 (lv_at hl 1 rfl) ?_
        refine qc_Vi (As := [.int 0, .int 1]) (rest := []) (k0 := 2) (u1_isOther l D ca o z4 y 0 1 (f4_1_6)) kc_yX10_isOther ⟨hx, hb, hml, hown, hts⟩ wq_717 rfl rfl ⟨Nat.le_of_ble_eq_true rfl, Nat.le_of_ble_eq_true rfl⟩ wq_all hP hK hS qw_Ai (q0 := 0) (by decide) (hgU_0 ca o _ _) rfl rfl hl.1 rfl (Nat.le_of_ble_eq_true rfl) dX10_asks_85 ⟨Nat.zero_le _, Nat.zero_le _⟩ (fun r9 u9 H locs h9 hP hS _ _ => ?_)
        subst h9
        refine lv_if_eq (tgt := 129) hx hb dX10_asks_88 (by decide) (fun _ => ?_) (fun q => absurd (by decide) q)
        refine lv_iinc (v := 2) (lv' := [(6, .int 2), (7, .int r8), (5, .int 0), (4, .int ((-2))), (3, .int 1), (0, .ref (o + 0)), (1, .int 0), (2, .int a2)]) hx hb dX10_asks_129 hl (k := 1) rfl (by decide) (by decide) rfl (fun ls hl => ?_)
        refine lv_goto (tgt := 55) hx hb dX10_asks_132 (by decide) ?_
        refine lv_iload hx hb dX10_asks_55 (lv_at hl 0 rfl) ?_
        refine lv_bipush (v := 10) hx hb dX10_asks_57 (by decide) ?_
        refine lv_icmp_ge (tgt := 135) hx hb dX10_asks_59 (by decide) (fun q => absurd q (by decide)) (fun _ => ?_)
        refine lv_iload_n hx hb dX10_asks_62 rfl (lv_at hl 4 rfl) ?_
        refine lv_if_le (tgt := 135) hx hb dX10_asks_63 (by decide) (fun q => absurd q (by decide)) (fun _ => ?_)
        refine lv_aload_n hx hb dX10_asks_66 rfl (lv_at hl 5 rfl) ?_
        refine qf_get hx hb hts inX10 hown hK hP (q0 := 0) (by decide) (hgU_0 ca o) rfl 7 (by decide) wq_360 (v := .ref (o + 108)) rfl dX10_asks_67 ?_
        refine lv_iload_n hx hb dX10_asks_70 rfl (lv_at hl 6 rfl) ?_
        refine lv_iconst (v := 1) hx hb dX10_asks_71 (by decide) ?_
        refine lv_iload hx hb dX10_asks_72 (lv_at hl 0 rfl) ?_
        refine lv_ishl hx hb dX10_asks_74 ?_
        refine qtop (x' := 4) (by decide) ?_
        refine lv_ior hx hb dX10_asks_75 ?_
        refine qtop (x' := 4) (by decide) ?_
        refine qc_Vi (As := [.int 4]) (rest := []) (k0 := 1) (u1_ofAny l D ca o z4 y 4) kc_yX3_of ⟨hx, hb, hml, hown, hts⟩ wq_644 rfl rfl ⟨Nat.le_of_ble_eq_true rfl, Nat.le_of_ble_eq_true rfl⟩ wq_all hP hK hS qw_Ai (q0 := 108) (by decide) (hgU_108 ca o _ _) rfl rfl hl.1 rfl (Nat.le_of_ble_eq_true rfl) dX10_asks_76 ⟨Nat.zero_le _, Nat.zero_le _⟩ (fun r10 u10 H locs h10 hP hS _ _ => ?_)
        refine lv_istore (lv' := [(7, .int r10), (6, .int 2), (5, .int 0), (4, .int ((-2))), (3, .int 1), (0, .ref (o + 0)), (1, .int 0), (2, .int a2)]) hx hb dX10_asks_79 hl (by decide) rfl (fun ls hl => ?_)
        refine lv_aload_n hx hb dX10_asks_81 rfl (lv_at hl 5 rfl) ?_
        refine lv_iload_n hx hb dX10_asks_82 rfl (lv_at hl 6 rfl) ?_
        refine lv_iload hx hb dX10_asks_83 (lv_at hl 1 rfl) ?_
        refine qc_Vi (As := [.int 0, .int 2]) (rest := []) (k0 := 2) (u1_isOther l D ca o z4 y 0 2 (f4_1_6)) kc_yX10_isOther ⟨hx, hb, hml, hown, hts⟩ wq_717 rfl rfl ⟨Nat.le_of_ble_eq_true rfl, Nat.le_of_ble_eq_true rfl⟩ wq_all hP hK hS qw_Ai (q0 := 0) (by decide) (hgU_0 ca o _ _) rfl rfl hl.1 rfl (Nat.le_of_ble_eq_true rfl) dX10_asks_85 ⟨Nat.zero_le _, Nat.zero_le _⟩ (fun r11 u11 H locs h11 hP hS _ _ => ?_)
        subst h11
        refine lv_if_eq (tgt := 129) hx hb dX10_asks_88 (by decide) (fun _ => ?_) (fun q => absurd (by decide) q)
        refine lv_iinc (v := 3) (lv' := [(6, .int 3), (7, .int r10), (5, .int 0), (4, .int ((-2))), (3, .int 1), (0, .ref (o + 0)), (1, .int 0), (2, .int a2)]) hx hb dX10_asks_129 hl (k := 1) rfl (by decide) (by decide) rfl (fun ls hl => ?_)
        refine lv_goto (tgt := 55) hx hb dX10_asks_132 (by decide) ?_
        refine lv_iload hx hb dX10_asks_55 (lv_at hl 0 rfl) ?_
        refine lv_bipush (v := 10) hx hb dX10_asks_57 (by decide) ?_
        refine lv_icmp_ge (tgt := 135) hx hb dX10_asks_59 (by decide) (fun q => absurd q (by decide)) (fun _ => ?_)
        refine lv_iload_n hx hb dX10_asks_62 rfl (lv_at hl 4 rfl) ?_
        refine lv_if_le (tgt := 135) hx hb dX10_asks_63 (by decide) (fun q => absurd q (by decide)) (fun _ => ?_)
        refine lv_aload_n hx hb dX10_asks_66 rfl (lv_at hl 5 rfl) ?_
        refine qf_get hx hb hts inX10 hown hK hP (q0 := 0) (by decide) (hgU_0 ca o) rfl 7 (by decide) wq_360 (v := .ref (o + 108)) rfl dX10_asks_67 ?_
        refine lv_iload_n hx hb dX10_asks_70 rfl (lv_at hl 6 rfl) ?_
        refine lv_iconst (v := 1) hx hb dX10_asks_71 (by decide) ?_
        refine lv_iload hx hb dX10_asks_72 (lv_at hl 0 rfl) ?_
        refine lv_ishl hx hb dX10_asks_74 ?_
        refine qtop (x' := 8) (by decide) ?_
        refine lv_ior hx hb dX10_asks_75 ?_
        refine qtop (x' := 8) (by decide) ?_
        refine qc_Vi (As := [.int 8]) (rest := []) (k0 := 1) (u1_ofAny l D ca o z4 y 8) kc_yX3_of ⟨hx, hb, hml, hown, hts⟩ wq_644 rfl rfl ⟨Nat.le_of_ble_eq_true rfl, Nat.le_of_ble_eq_true rfl⟩ wq_all hP hK hS qw_Ai (q0 := 108) (by decide) (hgU_108 ca o _ _) rfl rfl hl.1 rfl (Nat.le_of_ble_eq_true rfl) dX10_asks_76 ⟨Nat.zero_le _, Nat.zero_le _⟩ (fun r12 u12 H locs h12 hP hS _ _ => ?_)
        refine lv_istore (lv' := [(7, .int r12), (6, .int 3), (5, .int 0), (4, .int ((-2))), (3, .int 1), (0, .ref (o + 0)), (1, .int 0), (2, .int a2)]) hx hb dX10_asks_79 hl (by decide) rfl (fun ls hl => ?_)
        refine lv_aload_n hx hb dX10_asks_81 rfl (lv_at hl 5 rfl) ?_
        refine lv_iload_n hx hb dX10_asks_82 rfl (lv_at hl 6 rfl) ?_
        refine lv_iload hx hb dX10_asks_83 (lv_at hl 1 rfl) ?_
        refine qc_Vi (As := [.int 0, .int 3]) (rest := []) (k0 := 2) (u1_isOther l D ca o z4 y 0 3 (f4_1_6)) kc_yX10_isOther ⟨hx, hb, hml, hown, hts⟩ wq_717 rfl rfl ⟨Nat.le_of_ble_eq_true rfl, Nat.le_of_ble_eq_true rfl⟩ wq_all hP hK hS qw_Ai (q0 := 0) (by decide) (hgU_0 ca o _ _) rfl rfl hl.1 rfl (Nat.le_of_ble_eq_true rfl) dX10_asks_85 ⟨Nat.zero_le _, Nat.zero_le _⟩ (fun r13 u13 H locs h13 hP hS _ _ => ?_)
        subst h13
        refine lv_if_eq (tgt := 129) hx hb dX10_asks_88 (by decide) (fun _ => ?_) (fun q => absurd (by decide) q)
        refine lv_iinc (v := 4) (lv' := [(6, .int 4), (7, .int r12), (5, .int 0), (4, .int ((-2))), (3, .int 1), (0, .ref (o + 0)), (1, .int 0), (2, .int a2)]) hx hb dX10_asks_129 hl (k := 1) rfl (by decide) (by decide) rfl (fun ls hl => ?_)
        refine lv_goto (tgt := 55) hx hb dX10_asks_132 (by decide) ?_
        refine lv_iload hx hb dX10_asks_55 (lv_at hl 0 rfl) ?_
        refine lv_bipush (v := 10) hx hb dX10_asks_57 (by decide) ?_
        refine lv_icmp_ge (tgt := 135) hx hb dX10_asks_59 (by decide) (fun q => absurd q (by decide)) (fun _ => ?_)
        refine lv_iload_n hx hb dX10_asks_62 rfl (lv_at hl 4 rfl) ?_
        refine lv_if_le (tgt := 135) hx hb dX10_asks_63 (by decide) (fun q => absurd q (by decide)) (fun _ => ?_)
        refine lv_aload_n hx hb dX10_asks_66 rfl (lv_at hl 5 rfl) ?_
        refine qf_get hx hb hts inX10 hown hK hP (q0 := 0) (by decide) (hgU_0 ca o) rfl 7 (by decide) wq_360 (v := .ref (o + 108)) rfl dX10_asks_67 ?_
        refine lv_iload_n hx hb dX10_asks_70 rfl (lv_at hl 6 rfl) ?_
        refine lv_iconst (v := 1) hx hb dX10_asks_71 (by decide) ?_
        refine lv_iload hx hb dX10_asks_72 (lv_at hl 0 rfl) ?_
        refine lv_ishl hx hb dX10_asks_74 ?_
        refine qtop (x' := 16) (by decide) ?_
        refine lv_ior hx hb dX10_asks_75 ?_
        refine qtop (x' := 16) (by decide) ?_
        refine qc_Vi (As := [.int 16]) (rest := []) (k0 := 1) (u1_ofAny l D ca o z4 y 16) kc_yX3_of ⟨hx, hb, hml, hown, hts⟩ wq_644 rfl rfl ⟨Nat.le_of_ble_eq_true rfl, Nat.le_of_ble_eq_true rfl⟩ wq_all hP hK hS qw_Ai (q0 := 108) (by decide) (hgU_108 ca o _ _) rfl rfl hl.1 rfl (Nat.le_of_ble_eq_true rfl) dX10_asks_76 ⟨Nat.zero_le _, Nat.zero_le _⟩ (fun r14 u14 H locs h14 hP hS _ _ => ?_)
        refine lv_istore (lv' := [(7, .int r14), (6, .int 4), (5, .int 0), (4, .int ((-2))), (3, .int 1), (0, .ref (o + 0)), (1, .int 0), (2, .int a2)]) hx hb dX10_asks_79 hl (by decide) rfl (fun ls hl => ?_)
        refine lv_aload_n hx hb dX10_asks_81 rfl (lv_at hl 5 rfl) ?_
        refine lv_iload_n hx hb dX10_asks_82 rfl (lv_at hl 6 rfl) ?_
        refine lv_iload hx hb dX10_asks_83 (lv_at hl 1 rfl) ?_
        refine qc_Vi (As := [.int 0, .int 4]) (rest := []) (k0 := 2) (u1_isOther l D ca o z4 y 0 4 (f4_1_6)) kc_yX10_isOther ⟨hx, hb, hml, hown, hts⟩ wq_717 rfl rfl ⟨Nat.le_of_ble_eq_true rfl, Nat.le_of_ble_eq_true rfl⟩ wq_all hP hK hS qw_Ai (q0 := 0) (by decide) (hgU_0 ca o _ _) rfl rfl hl.1 rfl (Nat.le_of_ble_eq_true rfl) dX10_asks_85 ⟨Nat.zero_le _, Nat.zero_le _⟩ (fun r15 u15 H locs h15 hP hS _ _ => ?_)
        subst h15
        refine lv_if_eq (tgt := 129) hx hb dX10_asks_88 (by decide) (fun _ => ?_) (fun q => absurd (by decide) q)
        refine lv_iinc (v := 5) (lv' := [(6, .int 5), (7, .int r14), (5, .int 0), (4, .int ((-2))), (3, .int 1), (0, .ref (o + 0)), (1, .int 0), (2, .int a2)]) hx hb dX10_asks_129 hl (k := 1) rfl (by decide) (by decide) rfl (fun ls hl => ?_)
        refine lv_goto (tgt := 55) hx hb dX10_asks_132 (by decide) ?_
        refine lv_iload hx hb dX10_asks_55 (lv_at hl 0 rfl) ?_
        refine lv_bipush (v := 10) hx hb dX10_asks_57 (by decide) ?_
        refine lv_icmp_ge (tgt := 135) hx hb dX10_asks_59 (by decide) (fun q => absurd q (by decide)) (fun _ => ?_)
        refine lv_iload_n hx hb dX10_asks_62 rfl (lv_at hl 4 rfl) ?_
        refine lv_if_le (tgt := 135) hx hb dX10_asks_63 (by decide) (fun q => absurd q (by decide)) (fun _ => ?_)
        refine lv_aload_n hx hb dX10_asks_66 rfl (lv_at hl 5 rfl) ?_
        refine qf_get hx hb hts inX10 hown hK hP (q0 := 0) (by decide) (hgU_0 ca o) rfl 7 (by decide) wq_360 (v := .ref (o + 108)) rfl dX10_asks_67 ?_
        refine lv_iload_n hx hb dX10_asks_70 rfl (lv_at hl 6 rfl) ?_
        refine lv_iconst (v := 1) hx hb dX10_asks_71 (by decide) ?_
        refine lv_iload hx hb dX10_asks_72 (lv_at hl 0 rfl) ?_
        refine lv_ishl hx hb dX10_asks_74 ?_
        refine qtop (x' := 32) (by decide) ?_
        refine lv_ior hx hb dX10_asks_75 ?_
        refine qtop (x' := 32) (by decide) ?_
        refine qc_Vi (As := [.int 32]) (rest := []) (k0 := 1) (u1_ofAny l D ca o z4 y 32) kc_yX3_of ⟨hx, hb, hml, hown, hts⟩ wq_644 rfl rfl ⟨Nat.le_of_ble_eq_true rfl, Nat.le_of_ble_eq_true rfl⟩ wq_all hP hK hS qw_Ai (q0 := 108) (by decide) (hgU_108 ca o _ _) rfl rfl hl.1 rfl (Nat.le_of_ble_eq_true rfl) dX10_asks_76 ⟨Nat.zero_le _, Nat.zero_le _⟩ (fun r16 u16 H locs h16 hP hS _ _ => ?_)
        refine lv_istore (lv' := [(7, .int r16), (6, .int 5), (5, .int 0), (4, .int ((-2))), (3, .int 1), (0, .ref (o + 0)), (1, .int 0), (2, .int a2)]) hx hb dX10_asks_79 hl (by decide) rfl (fun ls hl => ?_)
        refine lv_aload_n hx hb dX10_asks_81 rfl (lv_at hl 5 rfl) ?_
        refine lv_iload_n hx hb dX10_asks_82 rfl (lv_at hl 6 rfl) ?_
        refine lv_iload hx hb dX10_asks_83 (lv_at hl 1 rfl) ?_
        refine qc_Vi (As := [.int 0, .int 5]) (rest := []) (k0 := 2) (u1_isOther l D ca o z4 y 0 5 (f4_1_6)) kc_yX10_isOther ⟨hx, hb, hml, hown, hts⟩ wq_717 rfl rfl ⟨Nat.le_of_ble_eq_true rfl, Nat.le_of_ble_eq_true rfl⟩ wq_all hP hK hS qw_Ai (q0 := 0) (by decide) (hgU_0 ca o _ _) rfl rfl hl.1 rfl (Nat.le_of_ble_eq_true rfl) dX10_asks_85 ⟨Nat.zero_le _, Nat.zero_le _⟩ (fun r17 u17 H locs h17 hP hS _ _ => ?_)
        subst h17
        refine lv_if_eq (tgt := 129) hx hb dX10_asks_88 (by decide) (fun _ => ?_) (fun q => absurd (by decide) q)
        refine lv_iinc (v := 6) (lv' := [(6, .int 6), (7, .int r16), (5, .int 0), (4, .int ((-2))), (3, .int 1), (0, .ref (o + 0)), (1, .int 0), (2, .int a2)]) hx hb dX10_asks_129 hl (k := 1) rfl (by decide) (by decide) rfl (fun ls hl => ?_)
        refine lv_goto (tgt := 55) hx hb dX10_asks_132 (by decide) ?_
        refine lv_iload hx hb dX10_asks_55 (lv_at hl 0 rfl) ?_
        refine lv_bipush (v := 10) hx hb dX10_asks_57 (by decide) ?_
        refine lv_icmp_ge (tgt := 135) hx hb dX10_asks_59 (by decide) (fun q => absurd q (by decide)) (fun _ => ?_)
        refine lv_iload_n hx hb dX10_asks_62 rfl (lv_at hl 4 rfl) ?_
        refine lv_if_le (tgt := 135) hx hb dX10_asks_63 (by decide) (fun q => absurd q (by decide)) (fun _ => ?_)
        refine lv_aload_n hx hb dX10_asks_66 rfl (lv_at hl 5 rfl) ?_
        refine qf_get hx hb hts inX10 hown hK hP (q0 := 0) (by decide) (hgU_0 ca o) rfl 7 (by decide) wq_360 (v := .ref (o + 108)) rfl dX10_asks_67 ?_
        refine lv_iload_n hx hb dX10_asks_70 rfl (lv_at hl 6 rfl) ?_
        refine lv_iconst (v := 1) hx hb dX10_asks_71 (by decide) ?_
        refine lv_iload hx hb dX10_asks_72 (lv_at hl 0 rfl) ?_
        refine lv_ishl hx hb dX10_asks_74 ?_
        refine qtop (x' := 64) (by decide) ?_
        refine lv_ior hx hb dX10_asks_75 ?_
        refine qtop (x' := 64) (by decide) ?_
        refine qc_Vi (As := [.int 64]) (rest := []) (k0 := 1) (u1_ofAny l D ca o z4 y 64) kc_yX3_of ⟨hx, hb, hml, hown, hts⟩ wq_644 rfl rfl ⟨Nat.le_of_ble_eq_true rfl, Nat.le_of_ble_eq_true rfl⟩ wq_all hP hK hS qw_Ai (q0 := 108) (by decide) (hgU_108 ca o _ _) rfl rfl hl.1 rfl (Nat.le_of_ble_eq_true rfl) dX10_asks_76 ⟨Nat.zero_le _, Nat.zero_le _⟩ (fun r18 u18 H locs h18 hP hS _ _ => ?_)
        refine lv_istore (lv' := [(7, .int r18), (6, .int 6), (5, .int 0), (4, .int ((-2))), (3, .int 1), (0, .ref (o + 0)), (1, .int 0), (2, .int a2)]) hx hb dX10_asks_79 hl (by decide) rfl (fun ls hl => ?_)
        refine lv_aload_n hx hb dX10_asks_81 rfl (lv_at hl 5 rfl) ?_
        refine lv_iload_n hx hb dX10_asks_82 rfl (lv_at hl 6 rfl) ?_
        refine lv_iload hx hb dX10_asks_83 (lv_at hl 1 rfl) ?_
        refine qc_Vi (As := [.int 0, .int 6]) (rest := []) (k0 := 2) (u1_isOther l D ca o z4 y 0 6 (f4_1_6)) kc_yX10_isOther ⟨hx, hb, hml, hown, hts⟩ wq_717 rfl rfl ⟨Nat.le_of_ble_eq_true rfl, Nat.le_of_ble_eq_true rfl⟩ wq_all hP hK hS qw_Ai (q0 := 0) (by decide) (hgU_0 ca o _ _) rfl rfl hl.1 rfl (Nat.le_of_ble_eq_true rfl) dX10_asks_85 ⟨Nat.zero_le _, Nat.zero_le _⟩ (fun r19 u19 H locs h19 hP hS _ _ => ?_)
        subst h19
        refine lv_if_eq (tgt := 129) hx hb dX10_asks_88 (by decide) (fun _ => ?_) (fun q => absurd (by decide) q)
        refine lv_iinc (v := 7) (lv' := [(6, .int 7), (7, .int r18), (5, .int 0), (4, .int ((-2))), (3, .int 1), (0, .ref (o + 0)), (1, .int 0), (2, .int a2)]) hx hb dX10_asks_129 hl (k := 1) rfl (by decide) (by decide) rfl (fun ls hl => ?_)
        refine lv_goto (tgt := 55) hx hb dX10_asks_132 (by decide) ?_
        refine lv_iload hx hb dX10_asks_55 (lv_at hl 0 rfl) ?_
        refine lv_bipush (v := 10) hx hb dX10_asks_57 (by decide) ?_
        refine lv_icmp_ge (tgt := 135) hx hb dX10_asks_59 (by decide) (fun q => absurd q (by decide)) (fun _ => ?_)
        refine lv_iload_n hx hb dX10_asks_62 rfl (lv_at hl 4 rfl) ?_
        refine lv_if_le (tgt := 135) hx hb dX10_asks_63 (by decide) (fun q => absurd q (by decide)) (fun _ => ?_)
        refine lv_aload_n hx hb dX10_asks_66 rfl (lv_at hl 5 rfl) ?_
        refine qf_get hx hb hts inX10 hown hK hP (q0 := 0) (by decide) (hgU_0 ca o) rfl 7 (by decide) wq_360 (v := .ref (o + 108)) rfl dX10_asks_67 ?_
        refine lv_iload_n hx hb dX10_asks_70 rfl (lv_at hl 6 rfl) ?_
        refine lv_iconst (v := 1) hx hb dX10_asks_71 (by decide) ?_
        refine lv_iload hx hb dX10_asks_72 (lv_at hl 0 rfl) ?_
        refine lv_ishl hx hb dX10_asks_74 ?_
        refine qtop (x' := 128) (by decide) ?_
        refine lv_ior hx hb dX10_asks_75 ?_
        refine qtop (x' := 128) (by decide) ?_
        refine qc_Vi (As := [.int 128]) (rest := []) (k0 := 1) (u1_ofAny l D ca o z4 y 128) kc_yX3_of ⟨hx, hb, hml, hown, hts⟩ wq_644 rfl rfl ⟨Nat.le_of_ble_eq_true rfl, Nat.le_of_ble_eq_true rfl⟩ wq_all hP hK hS qw_Ai (q0 := 108) (by decide) (hgU_108 ca o _ _) rfl rfl hl.1 rfl (Nat.le_of_ble_eq_true rfl) dX10_asks_76 ⟨Nat.zero_le _, Nat.zero_le _⟩ (fun r20 u20 H locs h20 hP hS _ _ => ?_)
        refine lv_istore (lv' := [(7, .int r20), (6, .int 7), (5, .int 0), (4, .int ((-2))), (3, .int 1), (0, .ref (o + 0)), (1, .int 0), (2, .int a2)]) hx hb dX10_asks_79 hl (by decide) rfl (fun ls hl => ?_)
        refine lv_aload_n hx hb dX10_asks_81 rfl (lv_at hl 5 rfl) ?_
        refine lv_iload_n hx hb dX10_asks_82 rfl (lv_at hl 6 rfl) ?_
        refine lv_iload hx hb dX10_asks_83 (lv_at hl 1 rfl) ?_
        refine qc_Vi (As := [.int 0, .int 7]) (rest := []) (k0 := 2) (u1_isOther l D ca o z4 y 0 7 (f4_1_6)) kc_yX10_isOther ⟨hx, hb, hml, hown, hts⟩ wq_717 rfl rfl ⟨Nat.le_of_ble_eq_true rfl, Nat.le_of_ble_eq_true rfl⟩ wq_all hP hK hS qw_Ai (q0 := 0) (by decide) (hgU_0 ca o _ _) rfl rfl hl.1 rfl (Nat.le_of_ble_eq_true rfl) dX10_asks_85 ⟨Nat.zero_le _, Nat.zero_le _⟩ (fun r21 u21 H locs h21 hP hS _ _ => ?_)
        subst h21
        refine lv_if_eq (tgt := 129) hx hb dX10_asks_88 (by decide) (fun _ => ?_) (fun q => absurd (by decide) q)
        refine lv_iinc (v := 8) (lv' := [(6, .int 8), (7, .int r20), (5, .int 0), (4, .int ((-2))), (3, .int 1), (0, .ref (o + 0)), (1, .int 0), (2, .int a2)]) hx hb dX10_asks_129 hl (k := 1) rfl (by decide) (by decide) rfl (fun ls hl => ?_)
        refine lv_goto (tgt := 55) hx hb dX10_asks_132 (by decide) ?_
        refine lv_iload hx hb dX10_asks_55 (lv_at hl 0 rfl) ?_
        refine lv_bipush (v := 10) hx hb dX10_asks_57 (by decide) ?_
        refine lv_icmp_ge (tgt := 135) hx hb dX10_asks_59 (by decide) (fun q => absurd q (by decide)) (fun _ => ?_)
        refine lv_iload_n hx hb dX10_asks_62 rfl (lv_at hl 4 rfl) ?_
        refine lv_if_le (tgt := 135) hx hb dX10_asks_63 (by decide) (fun q => absurd q (by decide)) (fun _ => ?_)
        refine lv_aload_n hx hb dX10_asks_66 rfl (lv_at hl 5 rfl) ?_
        refine qf_get hx hb hts inX10 hown hK hP (q0 := 0) (by decide) (hgU_0 ca o) rfl 7 (by decide) wq_360 (v := .ref (o + 108)) rfl dX10_asks_67 ?_
        refine lv_iload_n hx hb dX10_asks_70 rfl (lv_at hl 6 rfl) ?_
        refine lv_iconst (v := 1) hx hb dX10_asks_71 (by decide) ?_
        refine lv_iload hx hb dX10_asks_72 (lv_at hl 0 rfl) ?_
        refine lv_ishl hx hb dX10_asks_74 ?_
        refine qtop (x' := 256) (by decide) ?_
        refine lv_ior hx hb dX10_asks_75 ?_
        refine qtop (x' := 256) (by decide) ?_
        refine qc_Vi (As := [.int 256]) (rest := []) (k0 := 1) (u1_ofAny l D ca o z4 y 256) kc_yX3_of ⟨hx, hb, hml, hown, hts⟩ wq_644 rfl rfl ⟨Nat.le_of_ble_eq_true rfl, Nat.le_of_ble_eq_true rfl⟩ wq_all hP hK hS qw_Ai (q0 := 108) (by decide) (hgU_108 ca o _ _) rfl rfl hl.1 rfl (Nat.le_of_ble_eq_true rfl) dX10_asks_76 ⟨Nat.zero_le _, Nat.zero_le _⟩ (fun r22 u22 H locs h22 hP hS _ _ => ?_)
        refine lv_istore (lv' := [(7, .int r22), (6, .int 8), (5, .int 0), (4, .int ((-2))), (3, .int 1), (0, .ref (o + 0)), (1, .int 0), (2, .int a2)]) hx hb dX10_asks_79 hl (by decide) rfl (fun ls hl => ?_)
        refine lv_aload_n hx hb dX10_asks_81 rfl (lv_at hl 5 rfl) ?_
        refine lv_iload_n hx hb dX10_asks_82 rfl (lv_at hl 6 rfl) ?_
        refine lv_iload hx hb dX10_asks_83 (lv_at hl 1 rfl) ?_
        refine qc_Vi (As := [.int 0, .int 8]) (rest := []) (k0 := 2) (u1_isOther l D ca o z4 y 0 8 (f4_1_6)) kc_yX10_isOther ⟨hx, hb, hml, hown, hts⟩ wq_717 rfl rfl ⟨Nat.le_of_ble_eq_true rfl, Nat.le_of_ble_eq_true rfl⟩ wq_all hP hK hS qw_Ai (q0 := 0) (by decide) (hgU_0 ca o _ _) rfl rfl hl.1 rfl (Nat.le_of_ble_eq_true rfl) dX10_asks_85 ⟨Nat.zero_le _, Nat.zero_le _⟩ (fun r23 u23 H locs h23 hP hS _ _ => ?_)
        subst h23
        refine lv_if_eq (tgt := 129) hx hb dX10_asks_88 (by decide) (fun _ => ?_) (fun q => absurd (by decide) q)
        refine lv_iinc (v := 9) (lv' := [(6, .int 9), (7, .int r22), (5, .int 0), (4, .int ((-2))), (3, .int 1), (0, .ref (o + 0)), (1, .int 0), (2, .int a2)]) hx hb dX10_asks_129 hl (k := 1) rfl (by decide) (by decide) rfl (fun ls hl => ?_)
        refine lv_goto (tgt := 55) hx hb dX10_asks_132 (by decide) ?_
        refine lv_iload hx hb dX10_asks_55 (lv_at hl 0 rfl) ?_
        refine lv_bipush (v := 10) hx hb dX10_asks_57 (by decide) ?_
        refine lv_icmp_ge (tgt := 135) hx hb dX10_asks_59 (by decide) (fun q => absurd q (by decide)) (fun _ => ?_)
        refine lv_iload_n hx hb dX10_asks_62 rfl (lv_at hl 4 rfl) ?_
        refine lv_if_le (tgt := 135) hx hb dX10_asks_63 (by decide) (fun q => absurd q (by decide)) (fun _ => ?_)
        refine lv_aload_n hx hb dX10_asks_66 rfl (lv_at hl 5 rfl) ?_
        refine qf_get hx hb hts inX10 hown hK hP (q0 := 0) (by decide) (hgU_0 ca o) rfl 7 (by decide) wq_360 (v := .ref (o + 108)) rfl dX10_asks_67 ?_
        refine lv_iload_n hx hb dX10_asks_70 rfl (lv_at hl 6 rfl) ?_
        refine lv_iconst (v := 1) hx hb dX10_asks_71 (by decide) ?_
        refine lv_iload hx hb dX10_asks_72 (lv_at hl 0 rfl) ?_
        refine lv_ishl hx hb dX10_asks_74 ?_
        refine qtop (x' := 512) (by decide) ?_
        refine lv_ior hx hb dX10_asks_75 ?_
        refine qtop (x' := 512) (by decide) ?_
        refine qc_Vi (As := [.int 512]) (rest := []) (k0 := 1) (u1_ofAny l D ca o z4 y 512) kc_yX3_of ⟨hx, hb, hml, hown, hts⟩ wq_644 rfl rfl ⟨Nat.le_of_ble_eq_true rfl, Nat.le_of_ble_eq_true rfl⟩ wq_all hP hK hS qw_Ai (q0 := 108) (by decide) (hgU_108 ca o _ _) rfl rfl hl.1 rfl (Nat.le_of_ble_eq_true rfl) dX10_asks_76 ⟨Nat.zero_le _, Nat.zero_le _⟩ (fun r24 u24 H locs h24 hP hS _ _ => ?_)
        refine lv_istore (lv' := [(7, .int r24), (6, .int 9), (5, .int 0), (4, .int ((-2))), (3, .int 1), (0, .ref (o + 0)), (1, .int 0), (2, .int a2)]) hx hb dX10_asks_79 hl (by decide) rfl (fun ls hl => ?_)
        refine lv_aload_n hx hb dX10_asks_81 rfl (lv_at hl 5 rfl) ?_
        refine lv_iload_n hx hb dX10_asks_82 rfl (lv_at hl 6 rfl) ?_
        refine lv_iload hx hb dX10_asks_83 (lv_at hl 1 rfl) ?_
        refine qc_Vi (As := [.int 0, .int 9]) (rest := []) (k0 := 2) (u1_isOther l D ca o z4 y 0 9 (f4_1_6)) kc_yX10_isOther ⟨hx, hb, hml, hown, hts⟩ wq_717 rfl rfl ⟨Nat.le_of_ble_eq_true rfl, Nat.le_of_ble_eq_true rfl⟩ wq_all hP hK hS qw_Ai (q0 := 0) (by decide) (hgU_0 ca o _ _) rfl rfl hl.1 rfl (Nat.le_of_ble_eq_true rfl) dX10_asks_85 ⟨Nat.zero_le _, Nat.zero_le _⟩ (fun r25 u25 H locs h25 hP hS _ _ => ?_)
        subst h25
        refine lv_if_eq (tgt := 129) hx hb dX10_asks_88 (by decide) (fun _ => ?_) (fun q => absurd (by decide) q)
        refine lv_iinc (v := 10) (lv' := [(6, .int 10), (7, .int r24), (5, .int 0), (4, .int ((-2))), (3, .int 1), (0, .ref (o + 0)), (1, .int 0), (2, .int a2)]) hx hb dX10_asks_129 hl (k := 1) rfl (by decide) (by decide) rfl (fun ls hl => ?_)
        refine lv_goto (tgt := 55) hx hb dX10_asks_132 (by decide) ?_
        refine lv_iload hx hb dX10_asks_55 (lv_at hl 0 rfl) ?_
        refine lv_bipush (v := 10) hx hb dX10_asks_57 (by decide) ?_
        refine lv_icmp_ge (tgt := 135) hx hb dX10_asks_59 (by decide) (fun _ => ?_) (fun q => absurd (by decide) q)
        refine lv_iload hx hb dX10_asks_135 (lv_at hl 3 rfl) ?_
        exact W.iret (v := (-2)) hx hb hr (fun t ht hW => ⟨⟨(-2), (z4, y), rfl, (ga_p (by omega)), by rw [ht]; exact hP, va_K.moved hW.alike hK⟩, hS.F ht⟩) hS.2.2 dX10_asks_137
      · have t3 : a2.toInt > (2 : Int) := gl_nle c3
        refine lv_iconst (v := (-1)) hx hb dX10_asks_17 (by decide) ?_
        exact W.iret (v := (-1)) hx hb hr (fun t ht hW => ⟨⟨(-1), (z, y), rfl, (ga_n (by omega)), by rw [ht]; exact hP, va_K.moved hW.alike hK⟩, hS.F ht⟩) hS.2.2 dX10_asks_18
  · subst h1r
    refine lv_if_eq (tgt := 17) hx hb dX10_asks_5 (by decide) (fun _ => ?_) (fun q => absurd (by decide) q)
    refine lv_iconst (v := (-1)) hx hb dX10_asks_17 (by decide) ?_
    exact W.iret (v := (-1)) hx hb hr (fun t ht hW => ⟨⟨(-1), (z, y), rfl, (ga_n (by omega)), by rw [ht]; exact hP, va_K.moved hW.alike hK⟩, hS.F ht⟩) hS.2.2 dX10_asks_18

set_option maxRecDepth 100000 in
set_option maxHeartbeats 4000000 in
theorem uP_unlike (l : Launch) (D : va_G) (ca : Nat → ClassId) (o : Nat) (z : Nat → Nat → Int32) (y : Nat → Nat → Int64) (a1 : Int32) (a2 : Int32) (h1_5 : z 1 5 = 0) (h1_6 : z 1 6 = 0) (h1_7 : z 1 7 = 0) (h0_4 : z 0 4 = 0) (h0_2 : z 0 2 = 0) (h108_1 : z 108 1 = 0) : qM l yX10_unlike cX10_unlike 3 (some .int) 5 149 (qPre D vwCl (qT6 ca) o 132 (qG (GU ca o) z y) [.ref (o + 0), .int a1, .int a2]) (va_Qi (fun r _ => r = A_unlike a1 a2) (qB D vwCl (qT6 ca) o 132 (fun u : qZ => qG (GU ca o) u.1 u.2)) (qw_A o 132)) (qw_A o 132) := by
  refine Met.ofW (cc := cX10_unlike) (maxL := 3) (ret := (some .int)) (by decide) rfl ?_
  intro p e s m args below meth c s₁ B hml hv
  obtain ⟨rfl, hP, hK⟩ := hv
  have hx := B.exec
  have hb := B.bytes
  have hr := B.returns
  have hts0 := atoms_spec (ws := Cond.code yX10_unlike cX10_unlike 3 (some .int) :: qtbl) B.pre
  have hts : ∀ w ∈ qtbl, w.before _ s = true := fun w h => hts0 w (List.mem_cons_of_mem _ h)
  have hown : s.vm.findClass RX10 = some m.cls := findClass_of_methodNamed B.named
  have hlocks := B.notSynchronized
  have hz0 : (0 : Int32).toInt = 0 := rfl
  have hS : va_S (qw_A o 132) s.heap s.heap [] := va_S.rf
  have hl := lv_entry ([.ref (o + 0), .int a1, .int a2]) (n := 3) (Nat.le_of_ble_eq_true rfl)
  rw [lg_entry_eq]
  generalize (lg_sl ([.ref (o + 0), .int a1, .int a2]) ++ List.replicate (3 - (lg_sl ([.ref (o + 0), .int a1, .int a2])).length) Slot.unset).toArray = ls at hl ⊢
  have hl : lv_has ls 3 [(0, .ref (o + 0)), (1, .int a1), (2, .int a2)] := hl
  refine lv_aload_n hx hb dX10_unlike_0 rfl (lv_at hl 0 rfl) ?_
  refine lv_iload_n hx hb dX10_unlike_1 rfl (lv_at hl 1 rfl) ?_
  refine qc_Vi (As := [.int a1]) (rest := []) (k0 := 1) (u1_areRemarks l D ca o z y a1 (h1_6)) kc_yX10_areRemarks ⟨hx, hb, hml, hown, hts⟩ wq_583 rfl rfl ⟨Nat.le_of_ble_eq_true rfl, Nat.le_of_ble_eq_true rfl⟩ wq_all hP hK hS qw_Ai (q0 := 0) (by decide) (hgU_0 ca o _ _) rfl rfl hl.1 rfl (Nat.le_of_ble_eq_true rfl) dX10_unlike_2 ⟨Nat.zero_le _, Nat.zero_le _⟩ (fun r1 u1 H locs h1 hP hS _ _ => ?_)
  rcases h1 with ⟨h1r, h1a⟩ | ⟨h1r, h1a⟩
  · subst h1r
    obtain rfl : a1 = 0 := gr_eq (y := 0) h1a
    refine lv_if_eq (tgt := 16) hx hb dX10_unlike_5 (by decide) (fun q => absurd q (by decide)) (fun _ => ?_)
    refine lv_aload_n hx hb dX10_unlike_8 rfl (lv_at hl 0 rfl) ?_
    refine lv_iload_n hx hb dX10_unlike_9 rfl (lv_at hl 2 rfl) ?_
    refine qc_Vi (As := [.int a2]) (rest := []) (k0 := 1) (u1_areRemarks l D ca o z y a2 (h1_6)) kc_yX10_areRemarks ⟨hx, hb, hml, hown, hts⟩ wq_583 rfl rfl ⟨Nat.le_of_ble_eq_true rfl, Nat.le_of_ble_eq_true rfl⟩ wq_all hP hK hS qw_Ai (q0 := 0) (by decide) (hgU_0 ca o _ _) rfl rfl hl.1 rfl (Nat.le_of_ble_eq_true rfl) dX10_unlike_10 ⟨Nat.zero_le _, Nat.zero_le _⟩ (fun r2 u2 H locs h2 hP hS _ _ => ?_)
    rcases h2 with ⟨h2r, h2a⟩ | ⟨h2r, h2a⟩
    · subst h2r
      obtain rfl : a2 = 0 := gr_eq (y := 0) h2a
      refine lv_if_ne (tgt := 18) hx hb dX10_unlike_13 (by decide) (fun _ => ?_) (fun q => absurd q (by decide))
      refine lv_aload_n hx hb dX10_unlike_18 rfl (lv_at hl 0 rfl) ?_
      refine qf_get hx hb hts inX10 hown hK hP (q0 := 0) (by decide) (hgU_0 ca o) rfl 7 (by decide) wq_360 (v := .ref (o + 108)) rfl dX10_unlike_19 ?_
      refine lv_aload_n hx hb dX10_unlike_22 rfl (lv_at hl 0 rfl) ?_
      refine qf_get hx hb hts inX10 hown hK hP (q0 := 0) (by decide) (hgU_0 ca o) rfl 6 (by decide) wq_359 (v := .ref (o + 104)) rfl dX10_unlike_23 ?_
      refine qc_Vi (As := [.ref (o + 104)]) (rest := []) (k0 := 1) (u1_isCounted l D ca o z y (h1_5) (h1_6) (h108_1)) kc_yX3_isCounted ⟨hx, hb, hml, hown, hts⟩ wq_627 rfl rfl ⟨Nat.le_of_ble_eq_true rfl, Nat.le_of_ble_eq_true rfl⟩ wq_all hP hK hS qw_Ai (q0 := 108) (by decide) (hgU_108 ca o _ _) rfl rfl hl.1 rfl (Nat.le_of_ble_eq_true rfl) dX10_unlike_26 ⟨Nat.zero_le _, Nat.zero_le _⟩ (fun r3 u3 H locs h3 hP hS _ _ => ?_)
      obtain ⟨z3, y3⟩ := u3
      obtain ⟨h3r, h3f, h3y, h3m⟩ := h3
      dsimp only at h3f h3y h3m hP
      subst h3r; rw [h3y] at hP
      have f3_0_2 : z3 0 2 = 0 := (congrFun (h3f 0 (by decide) (by decide) (by decide) (by decide)) 2).trans (h0_2)
      have f3_0_4 : z3 0 4 = 0 := (congrFun (h3f 0 (by decide) (by decide) (by decide) (by decide)) 4).trans (h0_4)
      have f3_1_5 : z3 1 5 = 0 := (congrFun (h3f 1 (by decide) (by decide) (by decide) (by decide)) 5).trans (h1_5)
      have f3_1_6 : z3 1 6 = 0 := (congrFun (h3f 1 (by decide) (by decide) (by decide) (by decide)) 6).trans (h1_6)
      have f3_1_7 : z3 1 7 = 0 := (congrFun (h3f 1 (by decide) (by decide) (by decide) (by decide)) 7).trans (h1_7)
      refine lv_if_ne (tgt := 35) hx hb dX10_unlike_29 (by decide) (fun _ => ?_) (fun q => absurd q (by decide))
      refine lv_aload_n hx hb dX10_unlike_35 rfl (lv_at hl 0 rfl) ?_
      refine qf_get hx hb hts inX10 hown hK hP (q0 := 0) (by decide) (hgU_0 ca o) rfl 7 (by decide) wq_360 (v := .ref (o + 108)) rfl dX10_unlike_36 ?_
      refine lv_iload_n hx hb dX10_unlike_39 rfl (lv_at hl 1 rfl) ?_
      refine qc_Vi (As := [.int 0]) (rest := []) (k0 := 1) (u1_of0 l D ca o z3 y (h3m.1)) kc_yX3_of ⟨hx, hb, hml, hown, hts⟩ wq_644 rfl rfl ⟨Nat.le_of_ble_eq_true rfl, Nat.le_of_ble_eq_true rfl⟩ wq_all hP hK hS qw_Ai (q0 := 108) (by decide) (hgU_108 ca o _ _) rfl rfl hl.1 rfl (Nat.le_of_ble_eq_true rfl) dX10_unlike_40 ⟨Nat.zero_le _, Nat.zero_le _⟩ (fun r4 u4 H locs h4 hP hS _ _ => ?_)
      subst h4
      refine lv_aload_n hx hb dX10_unlike_43 rfl (lv_at hl 0 rfl) ?_
      refine qf_get hx hb hts inX10 hown hK hP (q0 := 0) (by decide) (hgU_0 ca o) rfl 7 (by decide) wq_360 (v := .ref (o + 108)) rfl dX10_unlike_44 ?_
      refine lv_iload_n hx hb dX10_unlike_47 rfl (lv_at hl 2 rfl) ?_
      refine qc_Vi (As := [.int 0]) (rest := [.int 1]) (k0 := 1) (u1_of0 l D ca o z3 y (h3m.1)) kc_yX3_of ⟨hx, hb, hml, hown, hts⟩ wq_644 rfl rfl ⟨Nat.le_of_ble_eq_true rfl, Nat.le_of_ble_eq_true rfl⟩ wq_all hP hK hS qw_Ai (q0 := 108) (by decide) (hgU_108 ca o _ _) rfl rfl hl.1 rfl (Nat.le_of_ble_eq_true rfl) dX10_unlike_48 ⟨Nat.zero_le _, Nat.zero_le _⟩ (fun r5 u5 H locs h5 hP hS _ _ => ?_)
      subst h5
      refine lv_iadd hx hb dX10_unlike_51 ?_
      refine qtop (x' := 2) (by decide) ?_
      refine lv_iconst (v := 2) hx hb dX10_unlike_52 (by decide) ?_
      refine lv_aload_n hx hb dX10_unlike_53 rfl (lv_at hl 0 rfl) ?_
      refine qf_get hx hb hts inX10 hown hK hP (q0 := 0) (by decide) (hgU_0 ca o) rfl 7 (by decide) wq_360 (v := .ref (o + 108)) rfl dX10_unlike_54 ?_
      refine lv_iload_n hx hb dX10_unlike_57 rfl (lv_at hl 1 rfl) ?_
      refine lv_iload_n hx hb dX10_unlike_58 rfl (lv_at hl 2 rfl) ?_
      refine lv_ior hx hb dX10_unlike_59 ?_
      refine qtop (x' := 0) (by decide) ?_
      refine qc_Vi (As := [.int 0]) (rest := [.int 2, .int 2]) (k0 := 1) (u1_of0 l D ca o z3 y (h3m.1)) kc_yX3_of ⟨hx, hb, hml, hown, hts⟩ wq_644 rfl rfl ⟨Nat.le_of_ble_eq_true rfl, Nat.le_of_ble_eq_true rfl⟩ wq_all hP hK hS qw_Ai (q0 := 108) (by decide) (hgU_108 ca o _ _) rfl rfl hl.1 rfl (Nat.le_of_ble_eq_true rfl) dX10_unlike_60 ⟨Nat.zero_le _, Nat.zero_le _⟩ (fun r6 u6 H locs h6 hP hS _ _ => ?_)
      subst h6
      refine lv_imul hx hb dX10_unlike_63 ?_
      refine qtop (x' := 2) (by decide) ?_
      refine lv_isub hx hb dX10_unlike_64 ?_
      refine qtop (x' := 0) (by decide) ?_
      exact W.iret (v := 0) hx hb hr (fun t ht hW => ⟨⟨0, (z3, y), rfl, (ga_p (by omega)), by rw [ht]; exact hP, va_K.moved hW.alike hK⟩, hS.F ht⟩) hS.2.2 dX10_unlike_65
    · subst h2r
      refine lv_if_ne (tgt := 18) hx hb dX10_unlike_13 (by decide) (fun q => absurd q (by decide)) (fun _ => ?_)
      refine lv_iconst (v := (-1)) hx hb dX10_unlike_16 (by decide) ?_
      exact W.iret (v := (-1)) hx hb hr (fun t ht hW => ⟨⟨(-1), (z, y), rfl, (ga_n (by omega)), by rw [ht]; exact hP, va_K.moved hW.alike hK⟩, hS.F ht⟩) hS.2.2 dX10_unlike_17
  · subst h1r
    refine lv_if_eq (tgt := 16) hx hb dX10_unlike_5 (by decide) (fun _ => ?_) (fun q => absurd (by decide) q)
    refine lv_iconst (v := (-1)) hx hb dX10_unlike_16 (by decide) ?_
    exact W.iret (v := (-1)) hx hb hr (fun t ht hW => ⟨⟨(-1), (z, y), rfl, (ga_n (by omega)), by rw [ht]; exact hP, va_K.moved hW.alike hK⟩, hS.F ht⟩) hS.2.2 dX10_unlike_17

set_option maxRecDepth 100000 in
set_option maxHeartbeats 4000000 in
theorem uP_shortest (l : Launch) (D : va_G) (ca : Nat → ClassId) (o : Nat) (z : Nat → Nat → Int32) (y : Nat → Nat → Int64) (a1 : Int32) (a2 : Int32) (h1_5 : z 1 5 = 0) (h1_6 : z 1 6 = 0) (h1_7 : z 1 7 = 0) (h0_4 : z 0 4 = 0) (h0_2 : z 0 2 = 0) (h108_1 : z 108 1 = 0) : qM l yX10_shortest cX10_shortest 3 (some .int) 5 151 (qPre D vwCl (qT6 ca) o 132 (qG (GU ca o) z y) [.ref (o + 0), .int a1, .int a2]) (va_Qi (fun r _ => r = A_shortest a1 a2) (qB D vwCl (qT6 ca) o 132 (fun u : qZ => qG (GU ca o) u.1 u.2)) (qw_A o 132)) (qw_A o 132) := by
  refine Met.ofW (cc := cX10_shortest) (maxL := 3) (ret := (some .int)) (by decide) rfl ?_
  intro p e s m args below meth c s₁ B hml hv
  obtain ⟨rfl, hP, hK⟩ := hv
  have hx := B.exec
  have hb := B.bytes
  have hr := B.returns
  have hts0 := atoms_spec (ws := Cond.code yX10_shortest cX10_shortest 3 (some .int) :: qtbl) B.pre
  have hts : ∀ w ∈ qtbl, w.before _ s = true := fun w h => hts0 w (List.mem_cons_of_mem _ h)
  have hown : s.vm.findClass RX10 = some m.cls := findClass_of_methodNamed B.named
  have hlocks := B.notSynchronized
  have hz0 : (0 : Int32).toInt = 0 := rfl
  have hS : va_S (qw_A o 132) s.heap s.heap [] := va_S.rf
  have hl := lv_entry ([.ref (o + 0), .int a1, .int a2]) (n := 3) (Nat.le_of_ble_eq_true rfl)
  rw [lg_entry_eq]
  generalize (lg_sl ([.ref (o + 0), .int a1, .int a2]) ++ List.replicate (3 - (lg_sl ([.ref (o + 0), .int a1, .int a2])).length) Slot.unset).toArray = ls at hl ⊢
  have hl : lv_has ls 3 [(0, .ref (o + 0)), (1, .int a1), (2, .int a2)] := hl
  refine lv_aload_n hx hb dX10_shortest_0 rfl (lv_at hl 0 rfl) ?_
  refine lv_iload_n hx hb dX10_shortest_1 rfl (lv_at hl 1 rfl) ?_
  refine qc_Vi (As := [.int a1]) (rest := []) (k0 := 1) (u1_areRemarks l D ca o z y a1 (h1_6)) kc_yX10_areRemarks ⟨hx, hb, hml, hown, hts⟩ wq_583 rfl rfl ⟨Nat.le_of_ble_eq_true rfl, Nat.le_of_ble_eq_true rfl⟩ wq_all hP hK hS qw_Ai (q0 := 0) (by decide) (hgU_0 ca o _ _) rfl rfl hl.1 rfl (Nat.le_of_ble_eq_true rfl) dX10_shortest_2 ⟨Nat.zero_le _, Nat.zero_le _⟩ (fun r1 u1 H locs h1 hP hS _ _ => ?_)
  rcases h1 with ⟨h1r, h1a⟩ | ⟨h1r, h1a⟩
  · subst h1r
    obtain rfl : a1 = 0 := gr_eq (y := 0) h1a
    refine lv_if_eq (tgt := 17) hx hb dX10_shortest_5 (by decide) (fun q => absurd q (by decide)) (fun _ => ?_)
    refine lv_iload_n hx hb dX10_shortest_8 rfl (lv_at hl 2 rfl) ?_
    refine lv_if_lt (tgt := 17) hx hb dX10_shortest_9 (by decide) (fun c2 => ?_) (fun c2 => ?_)
    · have t2 : a2.toInt < (0 : Int) := gl_lt c2
      refine lv_iconst (v := (-1)) hx hb dX10_shortest_17 (by decide) ?_
      exact W.iret (v := (-1)) hx hb hr (fun t ht hW => ⟨⟨(-1), (z, y), rfl, (ga_n (by omega)), by rw [ht]; exact hP, va_K.moved hW.alike hK⟩, hS.F ht⟩) hS.2.2 dX10_shortest_18
    · have t2 : a2.toInt ≥ (0 : Int) := gl_nlt c2
      refine lv_iload_n hx hb dX10_shortest_12 rfl (lv_at hl 2 rfl) ?_
      refine lv_iconst (v := 4) hx hb dX10_shortest_13 (by decide) ?_
      refine lv_icmp_le (tgt := 19) hx hb dX10_shortest_14 (by decide) (fun c3 => ?_) (fun c3 => ?_)
      · have t3 : a2.toInt ≤ (4 : Int) := gl_le c3
        refine lv_aload_n hx hb dX10_shortest_19 rfl (lv_at hl 0 rfl) ?_
        refine qf_get hx hb hts inX10 hown hK hP (q0 := 0) (by decide) (hgU_0 ca o) rfl 8 (by decide) wq_361 (v := .ref (o + 110)) rfl dX10_shortest_20 ?_
        refine lv_aload_n hx hb dX10_shortest_23 rfl (lv_at hl 0 rfl) ?_
        refine qf_get hx hb hts inX10 hown hK hP (q0 := 0) (by decide) (hgU_0 ca o) rfl 6 (by decide) wq_359 (v := .ref (o + 104)) rfl dX10_shortest_24 ?_
        refine lv_iload_n hx hb dX10_shortest_27 rfl (lv_at hl 1 rfl) ?_
        refine qc_Vi (As := [.ref (o + 104), .int 0]) (rest := []) (k0 := 2) (u1_gather l D ca o z y (h1_5)) kc_yX2_gather ⟨hx, hb, hml, hown, hts⟩ wq_747 rfl rfl ⟨Nat.le_of_ble_eq_true rfl, Nat.le_of_ble_eq_true rfl⟩ wq_all hP hK hS qw_Ai (q0 := 110) (by decide) (hgU_110 ca o _ _) rfl rfl hl.1 rfl (Nat.le_of_ble_eq_true rfl) dX10_shortest_28 ⟨Nat.zero_le _, Nat.zero_le _⟩ (fun r4 u4 H locs h4 hP hS _ _ => ?_)
        obtain ⟨z4, y4⟩ := u4
        obtain ⟨h4r, h4f, h4y, h4m⟩ := h4
        dsimp only at h4f h4y h4m hP
        subst h4r; rw [h4y] at hP
        have f4_0_2 : z4 0 2 = 0 := (congrFun (h4f 0 (by decide) (by decide) (by decide) (by decide)) 2).trans (h0_2)
        have f4_0_4 : z4 0 4 = 0 := (congrFun (h4f 0 (by decide) (by decide) (by decide) (by decide)) 4).trans (h0_4)
        have f4_1_5 : z4 1 5 = 0 := (congrFun (h4f 1 (by decide) (by decide) (by decide) (by decide)) 5).trans (h1_5)
        have f4_1_6 : z4 1 6 = 0 := (congrFun (h4f 1 (by decide) (by decide) (by decide) (by decide)) 6).trans (h1_6)
        have f4_1_7 : z4 1 7 = 0 := (congrFun (h4f 1 (by decide) (by decide) (by decide) (by decide)) 7).trans (h1_7)
        have f4_108_1 : z4 108 1 = 0 := (congrFun (h4f 108 (by decide) (by decide) (by decide) (by decide)) 1).trans (h108_1)
        refine lv_if_ne (tgt := 37) hx hb dX10_shortest_31 (by decide) (fun _ => ?_) (fun q => absurd q (by decide))
        refine lv_aload_n hx hb dX10_shortest_37 rfl (lv_at hl 0 rfl) ?_
        refine qf_get hx hb hts inX10 hown hK hP (q0 := 0) (by decide) (hgU_0 ca o) rfl 8 (by decide) wq_361 (v := .ref (o + 110)) rfl dX10_shortest_38 ?_
        refine qf_get hx hb hts inX2 hown hK hP (q0 := 110) (by decide) (hgU_110 ca o) rfl 3 (by decide) wq_235 (v := .int (z4 110 3)) rfl dX10_shortest_41 ?_
        refine qtop (x' := 1) h4m ?_
        refine lv_if_eq (tgt := 65) hx hb dX10_shortest_44 (by decide) (fun q => absurd q (by decide)) (fun _ => ?_)
        refine lv_aload_n hx hb dX10_shortest_47 rfl (lv_at hl 0 rfl) ?_
        refine qf_get hx hb hts inX10 hown hK hP (q0 := 0) (by decide) (hgU_0 ca o) rfl 9 (by decide) wq_362 (v := .ref (o + 114)) rfl dX10_shortest_48 ?_
        refine lv_aload_n hx hb dX10_shortest_51 rfl (lv_at hl 0 rfl) ?_
        refine qf_get hx hb hts inX10 hown hK hP (q0 := 0) (by decide) (hgU_0 ca o) rfl 8 (by decide) wq_361 (v := .ref (o + 110)) rfl dX10_shortest_52 ?_
        refine lv_aload_n hx hb dX10_shortest_55 rfl (lv_at hl 0 rfl) ?_
        refine qf_get hx hb hts inX10 hown hK hP (q0 := 0) (by decide) (hgU_0 ca o) rfl 0 (by decide) wq_353 (v := .ref (o + 1)) rfl dX10_shortest_56 ?_
        refine qc_Vi (As := [.ref (o + 110), .ref (o + 1)]) (rest := []) (k0 := 2) (u1_find l D ca o z4 y (f4_1_5)) kc_yX8_find ⟨hx, hb, hml, hown, hts⟩ wq_860 rfl rfl ⟨Nat.le_of_ble_eq_true rfl, Nat.le_of_ble_eq_true rfl⟩ wq_all hP hK hS qw_Ai (q0 := 114) (by decide) (hgU_114 ca o _ _) rfl rfl hl.1 rfl (Nat.le_of_ble_eq_true rfl) dX10_shortest_59 ⟨Nat.zero_le _, Nat.zero_le _⟩ (fun r5 u5 H locs h5 hP hS _ _ => ?_)
        obtain ⟨z5, y5⟩ := u5
        obtain ⟨h5r, h5f, h5y⟩ := h5
        dsimp only at h5f h5y hP
        subst h5r; rw [h5y] at hP
        have f5_0_2 : z5 0 2 = 0 := (congrFun (h5f 0 (by decide) (by decide)) 2).trans (f4_0_2)
        have f5_0_4 : z5 0 4 = 0 := (congrFun (h5f 0 (by decide) (by decide)) 4).trans (f4_0_4)
        have f5_1_5 : z5 1 5 = 0 := (congrFun (h5f 1 (by decide) (by decide)) 5).trans (f4_1_5)
        have f5_1_6 : z5 1 6 = 0 := (congrFun (h5f 1 (by decide) (by decide)) 6).trans (f4_1_6)
        have f5_1_7 : z5 1 7 = 0 := (congrFun (h5f 1 (by decide) (by decide)) 7).trans (f4_1_7)
        have f5_108_1 : z5 108 1 = 0 := (congrFun (h5f 108 (by decide) (by decide)) 1).trans (f4_108_1)
        have f5_110_3 : z5 110 3 = 1 := (congrFun (h5f 110 (by decide) (by decide)) 3).trans (h4m)
        refine lv_if_ne (tgt := 68) hx hb dX10_shortest_62 (by decide) (fun q => absurd q (by decide)) (fun _ => ?_)
        refine lv_bipush (v := (-2)) hx hb dX10_shortest_65 (by decide) ?_
        exact W.iret (v := (-2)) hx hb hr (fun t ht hW => ⟨⟨(-2), (z5, y), rfl, (ga_p (by omega)), by rw [ht]; exact hP, va_K.moved hW.alike hK⟩, hS.F ht⟩) hS.2.2 dX10_shortest_67
      · have t3 : a2.toInt > (4 : Int) := gl_nle c3
        refine lv_iconst (v := (-1)) hx hb dX10_shortest_17 (by decide) ?_
        exact W.iret (v := (-1)) hx hb hr (fun t ht hW => ⟨⟨(-1), (z, y), rfl, (ga_n (by omega)), by rw [ht]; exact hP, va_K.moved hW.alike hK⟩, hS.F ht⟩) hS.2.2 dX10_shortest_18
  · subst h1r
    refine lv_if_eq (tgt := 17) hx hb dX10_shortest_5 (by decide) (fun _ => ?_) (fun q => absurd (by decide) q)
    refine lv_iconst (v := (-1)) hx hb dX10_shortest_17 (by decide) ?_
    exact W.iret (v := (-1)) hx hb hr (fun t ht hW => ⟨⟨(-1), (z, y), rfl, (ga_n (by omega)), by rw [ht]; exact hP, va_K.moved hW.alike hK⟩, hS.F ht⟩) hS.2.2 dX10_shortest_18

set_option maxRecDepth 100000 in
set_option maxHeartbeats 4000000 in
theorem uP_often (l : Launch) (D : va_G) (ca : Nat → ClassId) (o : Nat) (z : Nat → Nat → Int32) (y : Nat → Nat → Int64) (a1 : Int32) (a2 : Int32) (a3 : Int32) (h1_5 : z 1 5 = 0) (h1_6 : z 1 6 = 0) (h1_7 : z 1 7 = 0) (h0_4 : z 0 4 = 0) (h0_2 : z 0 2 = 0) (h108_1 : z 108 1 = 0) : qM l yX10_often cX10_often 4 (some .int) 3 102 (qPre D vwCl (qT6 ca) o 132 (qG (GU ca o) z y) [.ref (o + 0), .int a1, .int a2, .int a3]) (va_Qi (fun r _ => r = A_often a1 a2 a3) (qB D vwCl (qT6 ca) o 132 (fun u : qZ => qG (GU ca o) u.1 u.2)) (qw_A o 132)) (qw_A o 132) := by
  refine Met.ofW (cc := cX10_often) (maxL := 4) (ret := (some .int)) (by decide) rfl ?_
  intro p e s m args below meth c s₁ B hml hv
  obtain ⟨rfl, hP, hK⟩ := hv
  have hx := B.exec
  have hb := B.bytes
  have hr := B.returns
  have hts0 := atoms_spec (ws := Cond.code yX10_often cX10_often 4 (some .int) :: qtbl) B.pre
  have hts : ∀ w ∈ qtbl, w.before _ s = true := fun w h => hts0 w (List.mem_cons_of_mem _ h)
  have hown : s.vm.findClass RX10 = some m.cls := findClass_of_methodNamed B.named
  have hlocks := B.notSynchronized
  have hz0 : (0 : Int32).toInt = 0 := rfl
  have hS : va_S (qw_A o 132) s.heap s.heap [] := va_S.rf
  have hl := lv_entry ([.ref (o + 0), .int a1, .int a2, .int a3]) (n := 4) (Nat.le_of_ble_eq_true rfl)
  rw [lg_entry_eq]
  generalize (lg_sl ([.ref (o + 0), .int a1, .int a2, .int a3]) ++ List.replicate (4 - (lg_sl ([.ref (o + 0), .int a1, .int a2, .int a3])).length) Slot.unset).toArray = ls at hl ⊢
  have hl : lv_has ls 4 [(0, .ref (o + 0)), (1, .int a1), (2, .int a2), (3, .int a3)] := hl
  refine lv_aload_n hx hb dX10_often_0 rfl (lv_at hl 0 rfl) ?_
  refine lv_iload_n hx hb dX10_often_1 rfl (lv_at hl 1 rfl) ?_
  refine qc_Vi (As := [.int a1]) (rest := []) (k0 := 1) (u1_areRemarks l D ca o z y a1 (h1_6)) kc_yX10_areRemarks ⟨hx, hb, hml, hown, hts⟩ wq_583 rfl rfl ⟨Nat.le_of_ble_eq_true rfl, Nat.le_of_ble_eq_true rfl⟩ wq_all hP hK hS qw_Ai (q0 := 0) (by decide) (hgU_0 ca o _ _) rfl rfl hl.1 rfl (Nat.le_of_ble_eq_true rfl) dX10_often_2 ⟨Nat.zero_le _, Nat.zero_le _⟩ (fun r1 u1 H locs h1 hP hS _ _ => ?_)
  rcases h1 with ⟨h1r, h1a⟩ | ⟨h1r, h1a⟩
  · subst h1r
    obtain rfl : a1 = 0 := gr_eq (y := 0) h1a
    refine lv_if_eq (tgt := 28) hx hb dX10_often_5 (by decide) (fun q => absurd q (by decide)) (fun _ => ?_)
    refine lv_aload_n hx hb dX10_often_8 rfl (lv_at hl 0 rfl) ?_
    refine qf_get hx hb hts inX10 hown hK hP (q0 := 0) (by decide) (hgU_0 ca o) rfl 0 (by decide) wq_353 (v := .ref (o + 1)) rfl dX10_often_9 ?_
    refine lv_iload_n hx hb dX10_often_12 rfl (lv_at hl 2 rfl) ?_
    refine qc_Vi (As := [.int a2]) (rest := []) (k0 := 1) (u1_hasForm l D ca o z y a2 (h1_6)) kc_yX9_hasForm ⟨hx, hb, hml, hown, hts⟩ wq_743 rfl rfl ⟨Nat.le_of_ble_eq_true rfl, Nat.le_of_ble_eq_true rfl⟩ wq_all hP hK hS qw_Ai (q0 := 1) (by decide) (hgU_1 ca o _ _) rfl rfl hl.1 rfl (Nat.le_of_ble_eq_true rfl) dX10_often_13 ⟨Nat.zero_le _, Nat.zero_le _⟩ (fun r2 u2 H locs h2 hP hS _ _ => ?_)
    subst h2
    refine lv_if_eq (tgt := 28) hx hb dX10_often_16 (by decide) (fun _ => ?_) (fun q => absurd (by decide) q)
    refine lv_iconst (v := (-1)) hx hb dX10_often_28 (by decide) ?_
    exact W.iret (v := (-1)) hx hb hr (fun t ht hW => ⟨⟨(-1), (z, y), rfl, rfl, by rw [ht]; exact hP, va_K.moved hW.alike hK⟩, hS.F ht⟩) hS.2.2 dX10_often_29
  · subst h1r
    refine lv_if_eq (tgt := 28) hx hb dX10_often_5 (by decide) (fun _ => ?_) (fun q => absurd (by decide) q)
    refine lv_iconst (v := (-1)) hx hb dX10_often_28 (by decide) ?_
    exact W.iret (v := (-1)) hx hb hr (fun t ht hW => ⟨⟨(-1), (z, y), rfl, rfl, by rw [ht]; exact hP, va_K.moved hW.alike hK⟩, hS.F ht⟩) hS.2.2 dX10_often_29

set_option maxRecDepth 100000 in
set_option maxHeartbeats 4000000 in
theorem uP_middle (l : Launch) (D : va_G) (ca : Nat → ClassId) (o : Nat) (z : Nat → Nat → Int32) (y : Nat → Nat → Int64) (a1 : Int32) (a2 : Int32) (h1_5 : z 1 5 = 0) (h1_6 : z 1 6 = 0) (h1_7 : z 1 7 = 0) (h0_4 : z 0 4 = 0) (h0_2 : z 0 2 = 0) (h108_1 : z 108 1 = 0) : qM l yX10_middle cX10_middle 4 (some .int) 3 101 (qPre D vwCl (qT6 ca) o 132 (qG (GU ca o) z y) [.ref (o + 0), .int a1, .int a2]) (va_Qi (fun r _ => r = A_middle a1 a2) (qB D vwCl (qT6 ca) o 132 (fun u : qZ => qG (GU ca o) u.1 u.2)) (qw_A o 132)) (qw_A o 132) := by
  refine Met.ofW (cc := cX10_middle) (maxL := 4) (ret := (some .int)) (by decide) rfl ?_
  intro p e s m args below meth c s₁ B hml hv
  obtain ⟨rfl, hP, hK⟩ := hv
  have hx := B.exec
  have hb := B.bytes
  have hr := B.returns
  have hts0 := atoms_spec (ws := Cond.code yX10_middle cX10_middle 4 (some .int) :: qtbl) B.pre
  have hts : ∀ w ∈ qtbl, w.before _ s = true := fun w h => hts0 w (List.mem_cons_of_mem _ h)
  have hown : s.vm.findClass RX10 = some m.cls := findClass_of_methodNamed B.named
  have hlocks := B.notSynchronized
  have hz0 : (0 : Int32).toInt = 0 := rfl
  have hS : va_S (qw_A o 132) s.heap s.heap [] := va_S.rf
  have hl := lv_entry ([.ref (o + 0), .int a1, .int a2]) (n := 4) (Nat.le_of_ble_eq_true rfl)
  rw [lg_entry_eq]
  generalize (lg_sl ([.ref (o + 0), .int a1, .int a2]) ++ List.replicate (4 - (lg_sl ([.ref (o + 0), .int a1, .int a2])).length) Slot.unset).toArray = ls at hl ⊢
  have hl : lv_has ls 4 [(0, .ref (o + 0)), (1, .int a1), (2, .int a2)] := hl
  refine lv_aload_n hx hb dX10_middle_0 rfl (lv_at hl 0 rfl) ?_
  refine lv_iload_n hx hb dX10_middle_1 rfl (lv_at hl 1 rfl) ?_
  refine qc_Vi (As := [.int a1]) (rest := []) (k0 := 1) (u1_areRemarks l D ca o z y a1 (h1_6)) kc_yX10_areRemarks ⟨hx, hb, hml, hown, hts⟩ wq_583 rfl rfl ⟨Nat.le_of_ble_eq_true rfl, Nat.le_of_ble_eq_true rfl⟩ wq_all hP hK hS qw_Ai (q0 := 0) (by decide) (hgU_0 ca o _ _) rfl rfl hl.1 rfl (Nat.le_of_ble_eq_true rfl) dX10_middle_2 ⟨Nat.zero_le _, Nat.zero_le _⟩ (fun r1 u1 H locs h1 hP hS _ _ => ?_)
  rcases h1 with ⟨h1r, h1a⟩ | ⟨h1r, h1a⟩
  · subst h1r
    obtain rfl : a1 = 0 := gr_eq (y := 0) h1a
    refine lv_if_eq (tgt := 19) hx hb dX10_middle_5 (by decide) (fun q => absurd q (by decide)) (fun _ => ?_)
    refine lv_aload_n hx hb dX10_middle_8 rfl (lv_at hl 0 rfl) ?_
    refine qf_get hx hb hts inX10 hown hK hP (q0 := 0) (by decide) (hgU_0 ca o) rfl 0 (by decide) wq_353 (v := .ref (o + 1)) rfl dX10_middle_9 ?_
    refine lv_iload_n hx hb dX10_middle_12 rfl (lv_at hl 2 rfl) ?_
    refine qc_Vi (As := [.int a2]) (rest := []) (k0 := 1) (u1_hasPerson l D ca o z y a2 (h1_5)) kc_yX9_hasPerson ⟨hx, hb, hml, hown, hts⟩ wq_411 rfl rfl ⟨Nat.le_of_ble_eq_true rfl, Nat.le_of_ble_eq_true rfl⟩ wq_all hP hK hS qw_Ai (q0 := 1) (by decide) (hgU_1 ca o _ _) rfl rfl hl.1 rfl (Nat.le_of_ble_eq_true rfl) dX10_middle_13 ⟨Nat.zero_le _, Nat.zero_le _⟩ (fun r2 u2 H locs h2 hP hS _ _ => ?_)
    subst h2
    refine lv_if_ne (tgt := 21) hx hb dX10_middle_16 (by decide) (fun q => absurd q (by decide)) (fun _ => ?_)
    refine lv_iconst (v := (-1)) hx hb dX10_middle_19 (by decide) ?_
    exact W.iret (v := (-1)) hx hb hr (fun t ht hW => ⟨⟨(-1), (z, y), rfl, rfl, by rw [ht]; exact hP, va_K.moved hW.alike hK⟩, hS.F ht⟩) hS.2.2 dX10_middle_20
  · subst h1r
    refine lv_if_eq (tgt := 19) hx hb dX10_middle_5 (by decide) (fun _ => ?_) (fun q => absurd (by decide) q)
    refine lv_iconst (v := (-1)) hx hb dX10_middle_19 (by decide) ?_
    exact W.iret (v := (-1)) hx hb hr (fun t ht hW => ⟨⟨(-1), (z, y), rfl, rfl, by rw [ht]; exact hP, va_K.moved hW.alike hK⟩, hS.F ht⟩) hS.2.2 dX10_middle_20

set_option maxRecDepth 100000 in
set_option maxHeartbeats 4000000 in
theorem uP_apart (l : Launch) (D : va_G) (ca : Nat → ClassId) (o : Nat) (z : Nat → Nat → Int32) (y : Nat → Nat → Int64) (a1 : Int32) (a2 : Int32) (a3 : Int32) (a4 : Int32) (h1_5 : z 1 5 = 0) (h1_6 : z 1 6 = 0) (h1_7 : z 1 7 = 0) (h0_4 : z 0 4 = 0) (h0_2 : z 0 2 = 0) (h108_1 : z 108 1 = 0) : qM l yX10_apart cX10_apart 11 (some .int) 3 101 (qPre D vwCl (qT6 ca) o 132 (qG (GU ca o) z y) [.ref (o + 0), .int a1, .int a2, .int a3, .int a4]) (va_Qi (fun r _ => r = A_apart a1 a2 a3 a4) (qB D vwCl (qT6 ca) o 132 (fun u : qZ => qG (GU ca o) u.1 u.2)) (qw_A o 132)) (qw_A o 132) := by
  refine Met.ofW (cc := cX10_apart) (maxL := 11) (ret := (some .int)) (by decide) rfl ?_
  intro p e s m args below meth c s₁ B hml hv
  obtain ⟨rfl, hP, hK⟩ := hv
  have hx := B.exec
  have hb := B.bytes
  have hr := B.returns
  have hts0 := atoms_spec (ws := Cond.code yX10_apart cX10_apart 11 (some .int) :: qtbl) B.pre
  have hts : ∀ w ∈ qtbl, w.before _ s = true := fun w h => hts0 w (List.mem_cons_of_mem _ h)
  have hown : s.vm.findClass RX10 = some m.cls := findClass_of_methodNamed B.named
  have hlocks := B.notSynchronized
  have hz0 : (0 : Int32).toInt = 0 := rfl
  have hS : va_S (qw_A o 132) s.heap s.heap [] := va_S.rf
  have hl := lv_entry ([.ref (o + 0), .int a1, .int a2, .int a3, .int a4]) (n := 11) (Nat.le_of_ble_eq_true rfl)
  rw [lg_entry_eq]
  generalize (lg_sl ([.ref (o + 0), .int a1, .int a2, .int a3, .int a4]) ++ List.replicate (11 - (lg_sl ([.ref (o + 0), .int a1, .int a2, .int a3, .int a4])).length) Slot.unset).toArray = ls at hl ⊢
  have hl : lv_has ls 11 [(0, .ref (o + 0)), (1, .int a1), (2, .int a2), (3, .int a3), (4, .int a4)] := hl
  refine lv_aload_n hx hb dX10_apart_0 rfl (lv_at hl 0 rfl) ?_
  refine lv_iload_n hx hb dX10_apart_1 rfl (lv_at hl 1 rfl) ?_
  refine qc_Vi (As := [.int a1]) (rest := []) (k0 := 1) (u1_areRemarks l D ca o z y a1 (h1_6)) kc_yX10_areRemarks ⟨hx, hb, hml, hown, hts⟩ wq_583 rfl rfl ⟨Nat.le_of_ble_eq_true rfl, Nat.le_of_ble_eq_true rfl⟩ wq_all hP hK hS qw_Ai (q0 := 0) (by decide) (hgU_0 ca o _ _) rfl rfl hl.1 rfl (Nat.le_of_ble_eq_true rfl) dX10_apart_2 ⟨Nat.zero_le _, Nat.zero_le _⟩ (fun r1 u1 H locs h1 hP hS _ _ => ?_)
  rcases h1 with ⟨h1r, h1a⟩ | ⟨h1r, h1a⟩
  · subst h1r
    obtain rfl : a1 = 0 := gr_eq (y := 0) h1a
    refine lv_if_eq (tgt := 46) hx hb dX10_apart_5 (by decide) (fun q => absurd q (by decide)) (fun _ => ?_)
    refine lv_aload_n hx hb dX10_apart_8 rfl (lv_at hl 0 rfl) ?_
    refine qf_get hx hb hts inX10 hown hK hP (q0 := 0) (by decide) (hgU_0 ca o) rfl 0 (by decide) wq_353 (v := .ref (o + 1)) rfl dX10_apart_9 ?_
    refine lv_iload_n hx hb dX10_apart_12 rfl (lv_at hl 2 rfl) ?_
    refine qc_Vi (As := [.int a2]) (rest := []) (k0 := 1) (u1_hasPerson l D ca o z y a2 (h1_5)) kc_yX9_hasPerson ⟨hx, hb, hml, hown, hts⟩ wq_411 rfl rfl ⟨Nat.le_of_ble_eq_true rfl, Nat.le_of_ble_eq_true rfl⟩ wq_all hP hK hS qw_Ai (q0 := 1) (by decide) (hgU_1 ca o _ _) rfl rfl hl.1 rfl (Nat.le_of_ble_eq_true rfl) dX10_apart_13 ⟨Nat.zero_le _, Nat.zero_le _⟩ (fun r2 u2 H locs h2 hP hS _ _ => ?_)
    subst h2
    refine lv_if_eq (tgt := 46) hx hb dX10_apart_16 (by decide) (fun _ => ?_) (fun q => absurd (by decide) q)
    refine lv_sipush (v := (-400)) hx hb dX10_apart_46 (by decide) ?_
    exact W.iret (v := (-400)) hx hb hr (fun t ht hW => ⟨⟨(-400), (z, y), rfl, rfl, by rw [ht]; exact hP, va_K.moved hW.alike hK⟩, hS.F ht⟩) hS.2.2 dX10_apart_49
  · subst h1r
    refine lv_if_eq (tgt := 46) hx hb dX10_apart_5 (by decide) (fun _ => ?_) (fun q => absurd (by decide) q)
    refine lv_sipush (v := (-400)) hx hb dX10_apart_46 (by decide) ?_
    exact W.iret (v := (-400)) hx hb hr (fun t ht hW => ⟨⟨(-400), (z, y), rfl, rfl, by rw [ht]; exact hP, va_K.moved hW.alike hK⟩, hS.F ht⟩) hS.2.2 dX10_apart_49

set_option maxRecDepth 100000 in
set_option maxHeartbeats 4000000 in
theorem uP_parent (l : Launch) (D : va_G) (ca : Nat → ClassId) (o : Nat) (z : Nat → Nat → Int32) (y : Nat → Nat → Int64) (a1 : Int32) (a2 : Int32) (a3 : Int32) (h1_5 : z 1 5 = 0) (h1_6 : z 1 6 = 0) (h1_7 : z 1 7 = 0) (h0_4 : z 0 4 = 0) (h0_2 : z 0 2 = 0) (h108_1 : z 108 1 = 0) : qM l yX10_parent cX10_parent 4 (some .boolean) 2 81 (qPre D vwCl (qT6 ca) o 132 (qG (GU ca o) z y) [.ref (o + 0), .int a1, .int a2, .int a3]) (va_Qi (fun r _ => r = A_parent a1 a2 a3) (qB D vwCl (qT6 ca) o 132 (fun u : qZ => qG (GU ca o) u.1 u.2)) (qw_A o 132)) (qw_A o 132) := by
  refine Met.ofW (cc := cX10_parent) (maxL := 4) (ret := (some .boolean)) (by decide) rfl ?_
  intro p e s m args below meth c s₁ B hml hv
  obtain ⟨rfl, hP, hK⟩ := hv
  have hx := B.exec
  have hb := B.bytes
  have hr := B.returns
  have hts0 := atoms_spec (ws := Cond.code yX10_parent cX10_parent 4 (some .boolean) :: qtbl) B.pre
  have hts : ∀ w ∈ qtbl, w.before _ s = true := fun w h => hts0 w (List.mem_cons_of_mem _ h)
  have hown : s.vm.findClass RX10 = some m.cls := findClass_of_methodNamed B.named
  have hlocks := B.notSynchronized
  have hz0 : (0 : Int32).toInt = 0 := rfl
  have hS : va_S (qw_A o 132) s.heap s.heap [] := va_S.rf
  have hl := lv_entry ([.ref (o + 0), .int a1, .int a2, .int a3]) (n := 4) (Nat.le_of_ble_eq_true rfl)
  rw [lg_entry_eq]
  generalize (lg_sl ([.ref (o + 0), .int a1, .int a2, .int a3]) ++ List.replicate (4 - (lg_sl ([.ref (o + 0), .int a1, .int a2, .int a3])).length) Slot.unset).toArray = ls at hl ⊢
  have hl : lv_has ls 4 [(0, .ref (o + 0)), (1, .int a1), (2, .int a2), (3, .int a3)] := hl
  refine lv_aload_n hx hb dX10_parent_0 rfl (lv_at hl 0 rfl) ?_
  refine qf_get hx hb hts inX10 hown hK hP (q0 := 0) (by decide) (hgU_0 ca o) rfl 0 (by decide) wq_353 (v := .ref (o + 1)) rfl dX10_parent_1 ?_
  refine lv_iload_n hx hb dX10_parent_4 rfl (lv_at hl 1 rfl) ?_
  refine qc_Vi (As := [.int a1]) (rest := []) (k0 := 1) (u1_hasPerson l D ca o z y a1 (h1_5)) kc_yX9_hasPerson ⟨hx, hb, hml, hown, hts⟩ wq_411 rfl rfl ⟨Nat.le_of_ble_eq_true rfl, Nat.le_of_ble_eq_true rfl⟩ wq_all hP hK hS qw_Ai (q0 := 1) (by decide) (hgU_1 ca o _ _) rfl rfl hl.1 rfl (Nat.le_of_ble_eq_true rfl) dX10_parent_5 ⟨Nat.zero_le _, Nat.zero_le _⟩ (fun r1 u1 H locs h1 hP hS _ _ => ?_)
  subst h1
  refine lv_if_eq (tgt := 38) hx hb dX10_parent_8 (by decide) (fun _ => ?_) (fun q => absurd (by decide) q)
  refine lv_iconst (v := 0) hx hb dX10_parent_38 (by decide) ?_
  exact W.zret (v := 0) (ty := .boolean) hx hb hr rfl (fun t ht hW => ⟨⟨0, (z, y), rfl, rfl, by rw [ht]; exact hP, va_K.moved hW.alike hK⟩, hS.F ht⟩) hS.2.2 dX10_parent_39

set_option maxRecDepth 100000 in
set_option maxHeartbeats 4000000 in
theorem uP_tree (l : Launch) (D : va_G) (ca : Nat → ClassId) (o : Nat) (z : Nat → Nat → Int32) (y : Nat → Nat → Int64) (a1 : Int32) (a2 : Int32) (h1_5 : z 1 5 = 0) (h1_6 : z 1 6 = 0) (h1_7 : z 1 7 = 0) (h0_4 : z 0 4 = 0) (h0_2 : z 0 2 = 0) (h108_1 : z 108 1 = 0) : qM l yX10_tree cX10_tree 3 (some .int) 2 81 (qPre D vwCl (qT6 ca) o 132 (qG (GU ca o) z y) [.ref (o + 0), .int a1, .int a2]) (va_Qi (fun r _ => r = A_tree a1 a2) (qB D vwCl (qT6 ca) o 132 (fun u : qZ => qG (GU ca o) u.1 u.2)) (qw_A o 132)) (qw_A o 132) := by
  refine Met.ofW (cc := cX10_tree) (maxL := 3) (ret := (some .int)) (by decide) rfl ?_
  intro p e s m args below meth c s₁ B hml hv
  obtain ⟨rfl, hP, hK⟩ := hv
  have hx := B.exec
  have hb := B.bytes
  have hr := B.returns
  have hts0 := atoms_spec (ws := Cond.code yX10_tree cX10_tree 3 (some .int) :: qtbl) B.pre
  have hts : ∀ w ∈ qtbl, w.before _ s = true := fun w h => hts0 w (List.mem_cons_of_mem _ h)
  have hown : s.vm.findClass RX10 = some m.cls := findClass_of_methodNamed B.named
  have hlocks := B.notSynchronized
  have hz0 : (0 : Int32).toInt = 0 := rfl
  have hS : va_S (qw_A o 132) s.heap s.heap [] := va_S.rf
  have hl := lv_entry ([.ref (o + 0), .int a1, .int a2]) (n := 3) (Nat.le_of_ble_eq_true rfl)
  rw [lg_entry_eq]
  generalize (lg_sl ([.ref (o + 0), .int a1, .int a2]) ++ List.replicate (3 - (lg_sl ([.ref (o + 0), .int a1, .int a2])).length) Slot.unset).toArray = ls at hl ⊢
  have hl : lv_has ls 3 [(0, .ref (o + 0)), (1, .int a1), (2, .int a2)] := hl
  refine lv_aload_n hx hb dX10_tree_0 rfl (lv_at hl 0 rfl) ?_
  refine qf_get hx hb hts inX10 hown hK hP (q0 := 0) (by decide) (hgU_0 ca o) rfl 0 (by decide) wq_353 (v := .ref (o + 1)) rfl dX10_tree_1 ?_
  refine lv_iload_n hx hb dX10_tree_4 rfl (lv_at hl 1 rfl) ?_
  refine qc_Vi (As := [.int a1]) (rest := []) (k0 := 1) (u1_hasPerson l D ca o z y a1 (h1_5)) kc_yX9_hasPerson ⟨hx, hb, hml, hown, hts⟩ wq_411 rfl rfl ⟨Nat.le_of_ble_eq_true rfl, Nat.le_of_ble_eq_true rfl⟩ wq_all hP hK hS qw_Ai (q0 := 1) (by decide) (hgU_1 ca o _ _) rfl rfl hl.1 rfl (Nat.le_of_ble_eq_true rfl) dX10_tree_5 ⟨Nat.zero_le _, Nat.zero_le _⟩ (fun r1 u1 H locs h1 hP hS _ _ => ?_)
  subst h1
  refine lv_if_eq (tgt := 20) hx hb dX10_tree_8 (by decide) (fun _ => ?_) (fun q => absurd (by decide) q)
  refine lv_iconst (v := (-1)) hx hb dX10_tree_20 (by decide) ?_
  exact W.iret (v := (-1)) hx hb hr (fun t ht hW => ⟨⟨(-1), (z, y), rfl, rfl, by rw [ht]; exact hP, va_K.moved hW.alike hK⟩, hS.F ht⟩) hS.2.2 dX10_tree_21

set_option maxRecDepth 100000 in
set_option maxHeartbeats 4000000 in
theorem uP_tyres (l : Launch) (D : va_G) (ca : Nat → ClassId) (o : Nat) (z : Nat → Nat → Int32) (y : Nat → Nat → Int64) (a1 : Int32) (a2 : Int32) (h1_5 : z 1 5 = 0) (h1_6 : z 1 6 = 0) (h1_7 : z 1 7 = 0) (h0_4 : z 0 4 = 0) (h0_2 : z 0 2 = 0) (h108_1 : z 108 1 = 0) : qM l yX10_tyres cX10_tyres 4 (some .int) 2 82 (qPre D vwCl (qT6 ca) o 132 (qG (GU ca o) z y) [.ref (o + 0), .int a1, .int a2]) (va_Qi (fun r _ => r = A_tyres a1 a2) (qB D vwCl (qT6 ca) o 132 (fun u : qZ => qG (GU ca o) u.1 u.2)) (qw_A o 132)) (qw_A o 132) := by
  refine Met.ofW (cc := cX10_tyres) (maxL := 4) (ret := (some .int)) (by decide) rfl ?_
  intro p e s m args below meth c s₁ B hml hv
  obtain ⟨rfl, hP, hK⟩ := hv
  have hx := B.exec
  have hb := B.bytes
  have hr := B.returns
  have hts0 := atoms_spec (ws := Cond.code yX10_tyres cX10_tyres 4 (some .int) :: qtbl) B.pre
  have hts : ∀ w ∈ qtbl, w.before _ s = true := fun w h => hts0 w (List.mem_cons_of_mem _ h)
  have hown : s.vm.findClass RX10 = some m.cls := findClass_of_methodNamed B.named
  have hlocks := B.notSynchronized
  have hz0 : (0 : Int32).toInt = 0 := rfl
  have hS : va_S (qw_A o 132) s.heap s.heap [] := va_S.rf
  have hl := lv_entry ([.ref (o + 0), .int a1, .int a2]) (n := 4) (Nat.le_of_ble_eq_true rfl)
  rw [lg_entry_eq]
  generalize (lg_sl ([.ref (o + 0), .int a1, .int a2]) ++ List.replicate (4 - (lg_sl ([.ref (o + 0), .int a1, .int a2])).length) Slot.unset).toArray = ls at hl ⊢
  have hl : lv_has ls 4 [(0, .ref (o + 0)), (1, .int a1), (2, .int a2)] := hl
  refine lv_aload_n hx hb dX10_tyres_0 rfl (lv_at hl 0 rfl) ?_
  refine lv_iload_n hx hb dX10_tyres_1 rfl (lv_at hl 1 rfl) ?_
  refine lv_bipush (v := 8) hx hb dX10_tyres_2 (by decide) ?_
  refine qc_Vi (As := [.int a1, .int 8]) (rest := []) (k0 := 2) (u1_isText l D ca o z y a1 8 (h0_4)) kc_yX10_isText ⟨hx, hb, hml, hown, hts⟩ wq_431 rfl rfl ⟨Nat.le_of_ble_eq_true rfl, Nat.le_of_ble_eq_true rfl⟩ wq_all hP hK hS qw_Ai (q0 := 0) (by decide) (hgU_0 ca o _ _) rfl rfl hl.1 rfl (Nat.le_of_ble_eq_true rfl) dX10_tyres_4 ⟨Nat.zero_le _, Nat.zero_le _⟩ (fun r1 u1 H locs h1 hP hS _ _ => ?_)
  subst h1
  refine lv_if_eq (tgt := 21) hx hb dX10_tyres_7 (by decide) (fun _ => ?_) (fun q => absurd (by decide) q)
  refine lv_iconst (v := (-1)) hx hb dX10_tyres_21 (by decide) ?_
  exact W.iret (v := (-1)) hx hb hr (fun t ht hW => ⟨⟨(-1), (z, y), rfl, rfl, by rw [ht]; exact hP, va_K.moved hW.alike hK⟩, hS.F ht⟩) hS.2.2 dX10_tyres_22

set_option maxRecDepth 100000 in
set_option maxHeartbeats 4000000 in
theorem uP_butts (l : Launch) (D : va_G) (ca : Nat → ClassId) (o : Nat) (z : Nat → Nat → Int32) (y : Nat → Nat → Int64) (a1 : Int32) (h1_5 : z 1 5 = 0) (h1_6 : z 1 6 = 0) (h1_7 : z 1 7 = 0) (h0_4 : z 0 4 = 0) (h0_2 : z 0 2 = 0) (h108_1 : z 108 1 = 0) : qM l yX10_butts cX10_butts 2 (some .int) 1 60 (qPre D vwCl (qT6 ca) o 132 (qG (GU ca o) z y) [.ref (o + 0), .int a1]) (va_Qi (fun r _ => r = A_butts a1) (qB D vwCl (qT6 ca) o 132 (fun u : qZ => qG (GU ca o) u.1 u.2)) (qw_A o 132)) (qw_A o 132) := by
  refine Met.ofW (cc := cX10_butts) (maxL := 2) (ret := (some .int)) (by decide) rfl ?_
  intro p e s m args below meth c s₁ B hml hv
  obtain ⟨rfl, hP, hK⟩ := hv
  have hx := B.exec
  have hb := B.bytes
  have hr := B.returns
  have hts0 := atoms_spec (ws := Cond.code yX10_butts cX10_butts 2 (some .int) :: qtbl) B.pre
  have hts : ∀ w ∈ qtbl, w.before _ s = true := fun w h => hts0 w (List.mem_cons_of_mem _ h)
  have hown : s.vm.findClass RX10 = some m.cls := findClass_of_methodNamed B.named
  have hlocks := B.notSynchronized
  have hz0 : (0 : Int32).toInt = 0 := rfl
  have hS : va_S (qw_A o 132) s.heap s.heap [] := va_S.rf
  have hl := lv_entry ([.ref (o + 0), .int a1]) (n := 2) (Nat.le_of_ble_eq_true rfl)
  rw [lg_entry_eq]
  generalize (lg_sl ([.ref (o + 0), .int a1]) ++ List.replicate (2 - (lg_sl ([.ref (o + 0), .int a1])).length) Slot.unset).toArray = ls at hl ⊢
  have hl : lv_has ls 2 [(0, .ref (o + 0)), (1, .int a1)] := hl
  refine lv_iload_n hx hb dX10_butts_0 rfl (lv_at hl 1 rfl) ?_
  refine lv_if_lt (tgt := 19) hx hb dX10_butts_1 (by decide) (fun c1 => ?_) (fun c1 => ?_)
  · have t1 : a1.toInt < (0 : Int) := gl_lt c1
    refine lv_iconst (v := (-1)) hx hb dX10_butts_19 (by decide) ?_
    exact W.iret (v := (-1)) hx hb hr (fun t ht hW => ⟨⟨(-1), (z, y), rfl, rfl, by rw [ht]; exact hP, va_K.moved hW.alike hK⟩, hS.F ht⟩) hS.2.2 dX10_butts_20
  · have t1 : a1.toInt ≥ (0 : Int) := gl_nlt c1
    refine lv_iload_n hx hb dX10_butts_4 rfl (lv_at hl 1 rfl) ?_
    refine lv_bipush (v := 20) hx hb dX10_butts_5 (by decide) ?_
    refine lv_icmp_gt (tgt := 19) hx hb dX10_butts_7 (by decide) (fun c2 => ?_) (fun c2 => ?_)
    · have t2 : a1.toInt > (20 : Int) := gl_lt c2
      refine lv_iconst (v := (-1)) hx hb dX10_butts_19 (by decide) ?_
      exact W.iret (v := (-1)) hx hb hr (fun t ht hW => ⟨⟨(-1), (z, y), rfl, rfl, by rw [ht]; exact hP, va_K.moved hW.alike hK⟩, hS.F ht⟩) hS.2.2 dX10_butts_20
    · have t2 : a1.toInt ≤ (20 : Int) := gl_nlt c2
      refine lv_aload_n hx hb dX10_butts_10 rfl (lv_at hl 0 rfl) ?_
      refine qf_get hx hb hts inX10 hown hK hP (q0 := 0) (by decide) (hgU_0 ca o) rfl 4 (by decide) wq_357 (v := .int (z 0 4)) rfl dX10_butts_11 ?_
      refine qtop (x' := 0) h0_4 ?_
      refine lv_bipush (v := 6) hx hb dX10_butts_14 (by decide) ?_
      refine lv_icmp_ge (tgt := 21) hx hb dX10_butts_16 (by decide) (fun q => absurd q (by decide)) (fun _ => ?_)
      refine lv_iconst (v := (-1)) hx hb dX10_butts_19 (by decide) ?_
      exact W.iret (v := (-1)) hx hb hr (fun t ht hW => ⟨⟨(-1), (z, y), rfl, rfl, by rw [ht]; exact hP, va_K.moved hW.alike hK⟩, hS.F ht⟩) hS.2.2 dX10_butts_20

set_option maxRecDepth 100000 in
set_option maxHeartbeats 4000000 in
theorem uP_plain (l : Launch) (D : va_G) (ca : Nat → ClassId) (o : Nat) (z : Nat → Nat → Int32) (y : Nat → Nat → Int64) (a1 : Int32) (a2 : Int32) (h1_5 : z 1 5 = 0) (h1_6 : z 1 6 = 0) (h1_7 : z 1 7 = 0) (h0_4 : z 0 4 = 0) (h0_2 : z 0 2 = 0) (h108_1 : z 108 1 = 0) : qM l yX10_plain cX10_plain 4 (some .int) 2 81 (qPre D vwCl (qT6 ca) o 132 (qG (GU ca o) z y) [.ref (o + 0), .int a1, .int a2]) (va_Qi (fun r _ => r = A_plain a1 a2) (qB D vwCl (qT6 ca) o 132 (fun u : qZ => qG (GU ca o) u.1 u.2)) (qw_A o 132)) (qw_A o 132) := by
  refine Met.ofW (cc := cX10_plain) (maxL := 4) (ret := (some .int)) (by decide) rfl ?_
  intro p e s m args below meth c s₁ B hml hv
  obtain ⟨rfl, hP, hK⟩ := hv
  have hx := B.exec
  have hb := B.bytes
  have hr := B.returns
  have hts0 := atoms_spec (ws := Cond.code yX10_plain cX10_plain 4 (some .int) :: qtbl) B.pre
  have hts : ∀ w ∈ qtbl, w.before _ s = true := fun w h => hts0 w (List.mem_cons_of_mem _ h)
  have hown : s.vm.findClass RX10 = some m.cls := findClass_of_methodNamed B.named
  have hlocks := B.notSynchronized
  have hz0 : (0 : Int32).toInt = 0 := rfl
  have hS : va_S (qw_A o 132) s.heap s.heap [] := va_S.rf
  have hl := lv_entry ([.ref (o + 0), .int a1, .int a2]) (n := 4) (Nat.le_of_ble_eq_true rfl)
  rw [lg_entry_eq]
  generalize (lg_sl ([.ref (o + 0), .int a1, .int a2]) ++ List.replicate (4 - (lg_sl ([.ref (o + 0), .int a1, .int a2])).length) Slot.unset).toArray = ls at hl ⊢
  have hl : lv_has ls 4 [(0, .ref (o + 0)), (1, .int a1), (2, .int a2)] := hl
  refine lv_aload_n hx hb dX10_plain_0 rfl (lv_at hl 0 rfl) ?_
  refine qf_get hx hb hts inX10 hown hK hP (q0 := 0) (by decide) (hgU_0 ca o) rfl 0 (by decide) wq_353 (v := .ref (o + 1)) rfl dX10_plain_1 ?_
  refine lv_iload_n hx hb dX10_plain_4 rfl (lv_at hl 1 rfl) ?_
  refine qc_Vi (As := [.int a1]) (rest := []) (k0 := 1) (u1_hasLine l D ca o z y a1 (h1_6)) kc_yX9_hasLine ⟨hx, hb, hml, hown, hts⟩ wq_982 rfl rfl ⟨Nat.le_of_ble_eq_true rfl, Nat.le_of_ble_eq_true rfl⟩ wq_all hP hK hS qw_Ai (q0 := 1) (by decide) (hgU_1 ca o _ _) rfl rfl hl.1 rfl (Nat.le_of_ble_eq_true rfl) dX10_plain_5 ⟨Nat.zero_le _, Nat.zero_le _⟩ (fun r1 u1 H locs h1 hP hS _ _ => ?_)
  subst h1
  refine lv_if_eq (tgt := 21) hx hb dX10_plain_8 (by decide) (fun _ => ?_) (fun q => absurd (by decide) q)
  refine lv_iconst (v := 0) hx hb dX10_plain_21 (by decide) ?_
  exact W.iret (v := 0) hx hb hr (fun t ht hW => ⟨⟨0, (z, y), rfl, rfl, by rw [ht]; exact hP, va_K.moved hW.alike hK⟩, hS.F ht⟩) hS.2.2 dX10_plain_22

set_option maxRecDepth 100000 in
set_option maxHeartbeats 4000000 in
theorem uP_remarkIs (l : Launch) (D : va_G) (ca : Nat → ClassId) (o : Nat) (z : Nat → Nat → Int32) (y : Nat → Nat → Int64) (a1 : Int32) (a2 : Int32) (h1_5 : z 1 5 = 0) (h1_6 : z 1 6 = 0) (h1_7 : z 1 7 = 0) (h0_4 : z 0 4 = 0) (h0_2 : z 0 2 = 0) (h108_1 : z 108 1 = 0) : qM l yX10_remarkIs cX10_remarkIs 4 (some .int) 2 81 (qPre D vwCl (qT6 ca) o 132 (qG (GU ca o) z y) [.ref (o + 0), .int a1, .int a2]) (va_Qi (fun r _ => r = A_remarkIs a1 a2) (qB D vwCl (qT6 ca) o 132 (fun u : qZ => qG (GU ca o) u.1 u.2)) (qw_A o 132)) (qw_A o 132) := by
  refine Met.ofW (cc := cX10_remarkIs) (maxL := 4) (ret := (some .int)) (by decide) rfl ?_
  intro p e s m args below meth c s₁ B hml hv
  obtain ⟨rfl, hP, hK⟩ := hv
  have hx := B.exec
  have hb := B.bytes
  have hr := B.returns
  have hts0 := atoms_spec (ws := Cond.code yX10_remarkIs cX10_remarkIs 4 (some .int) :: qtbl) B.pre
  have hts : ∀ w ∈ qtbl, w.before _ s = true := fun w h => hts0 w (List.mem_cons_of_mem _ h)
  have hown : s.vm.findClass RX10 = some m.cls := findClass_of_methodNamed B.named
  have hlocks := B.notSynchronized
  have hz0 : (0 : Int32).toInt = 0 := rfl
  have hS : va_S (qw_A o 132) s.heap s.heap [] := va_S.rf
  have hl := lv_entry ([.ref (o + 0), .int a1, .int a2]) (n := 4) (Nat.le_of_ble_eq_true rfl)
  rw [lg_entry_eq]
  generalize (lg_sl ([.ref (o + 0), .int a1, .int a2]) ++ List.replicate (4 - (lg_sl ([.ref (o + 0), .int a1, .int a2])).length) Slot.unset).toArray = ls at hl ⊢
  have hl : lv_has ls 4 [(0, .ref (o + 0)), (1, .int a1), (2, .int a2)] := hl
  refine lv_aload_n hx hb dX10_remarkIs_0 rfl (lv_at hl 0 rfl) ?_
  refine qf_get hx hb hts inX10 hown hK hP (q0 := 0) (by decide) (hgU_0 ca o) rfl 0 (by decide) wq_353 (v := .ref (o + 1)) rfl dX10_remarkIs_1 ?_
  refine lv_iload_n hx hb dX10_remarkIs_4 rfl (lv_at hl 1 rfl) ?_
  refine qc_Vi (As := [.int a1]) (rest := []) (k0 := 1) (u1_hasLine l D ca o z y a1 (h1_6)) kc_yX9_hasLine ⟨hx, hb, hml, hown, hts⟩ wq_982 rfl rfl ⟨Nat.le_of_ble_eq_true rfl, Nat.le_of_ble_eq_true rfl⟩ wq_all hP hK hS qw_Ai (q0 := 1) (by decide) (hgU_1 ca o _ _) rfl rfl hl.1 rfl (Nat.le_of_ble_eq_true rfl) dX10_remarkIs_5 ⟨Nat.zero_le _, Nat.zero_le _⟩ (fun r1 u1 H locs h1 hP hS _ _ => ?_)
  subst h1
  refine lv_if_ne (tgt := 13) hx hb dX10_remarkIs_8 (by decide) (fun q => absurd q (by decide)) (fun _ => ?_)
  refine lv_iconst (v := (-1)) hx hb dX10_remarkIs_11 (by decide) ?_
  exact W.iret (v := (-1)) hx hb hr (fun t ht hW => ⟨⟨(-1), (z, y), rfl, rfl, by rw [ht]; exact hP, va_K.moved hW.alike hK⟩, hS.F ht⟩) hS.2.2 dX10_remarkIs_12

set_option maxRecDepth 100000 in
set_option maxHeartbeats 4000000 in
theorem uP_worth (l : Launch) (D : va_G) (ca : Nat → ClassId) (o : Nat) (z : Nat → Nat → Int32) (y : Nat → Nat → Int64) (a1 : Int32) (a2 : Int32) (h1_5 : z 1 5 = 0) (h1_6 : z 1 6 = 0) (h1_7 : z 1 7 = 0) (h0_4 : z 0 4 = 0) (h0_2 : z 0 2 = 0) (h108_1 : z 108 1 = 0) : qM l yX10_worth cX10_worth 3 (some .int) 3 102 (qPre D vwCl (qT6 ca) o 132 (qG (GU ca o) z y) [.ref (o + 0), .int a1, .int a2]) (va_Qi (fun r _ => r = A_worth a1 a2) (qB D vwCl (qT6 ca) o 132 (fun u : qZ => qG (GU ca o) u.1 u.2)) (qw_A o 132)) (qw_A o 132) := by
  refine Met.ofW (cc := cX10_worth) (maxL := 3) (ret := (some .int)) (by decide) rfl ?_
  intro p e s m args below meth c s₁ B hml hv
  obtain ⟨rfl, hP, hK⟩ := hv
  have hx := B.exec
  have hb := B.bytes
  have hr := B.returns
  have hts0 := atoms_spec (ws := Cond.code yX10_worth cX10_worth 3 (some .int) :: qtbl) B.pre
  have hts : ∀ w ∈ qtbl, w.before _ s = true := fun w h => hts0 w (List.mem_cons_of_mem _ h)
  have hown : s.vm.findClass RX10 = some m.cls := findClass_of_methodNamed B.named
  have hlocks := B.notSynchronized
  have hz0 : (0 : Int32).toInt = 0 := rfl
  have hS : va_S (qw_A o 132) s.heap s.heap [] := va_S.rf
  have hl := lv_entry ([.ref (o + 0), .int a1, .int a2]) (n := 3) (Nat.le_of_ble_eq_true rfl)
  rw [lg_entry_eq]
  generalize (lg_sl ([.ref (o + 0), .int a1, .int a2]) ++ List.replicate (3 - (lg_sl ([.ref (o + 0), .int a1, .int a2])).length) Slot.unset).toArray = ls at hl ⊢
  have hl : lv_has ls 3 [(0, .ref (o + 0)), (1, .int a1), (2, .int a2)] := hl
  refine lv_aload_n hx hb dX10_worth_0 rfl (lv_at hl 0 rfl) ?_
  refine lv_iload_n hx hb dX10_worth_1 rfl (lv_at hl 1 rfl) ?_
  refine qc_Vi (As := [.int a1]) (rest := []) (k0 := 1) (u1_areRemarks l D ca o z y a1 (h1_6)) kc_yX10_areRemarks ⟨hx, hb, hml, hown, hts⟩ wq_583 rfl rfl ⟨Nat.le_of_ble_eq_true rfl, Nat.le_of_ble_eq_true rfl⟩ wq_all hP hK hS qw_Ai (q0 := 0) (by decide) (hgU_0 ca o _ _) rfl rfl hl.1 rfl (Nat.le_of_ble_eq_true rfl) dX10_worth_2 ⟨Nat.zero_le _, Nat.zero_le _⟩ (fun r1 u1 H locs h1 hP hS _ _ => ?_)
  rcases h1 with ⟨h1r, h1a⟩ | ⟨h1r, h1a⟩
  · subst h1r
    obtain rfl : a1 = 0 := gr_eq (y := 0) h1a
    refine lv_if_eq (tgt := 30) hx hb dX10_worth_5 (by decide) (fun q => absurd q (by decide)) (fun _ => ?_)
    refine lv_aload_n hx hb dX10_worth_8 rfl (lv_at hl 0 rfl) ?_
    refine qf_get hx hb hts inX10 hown hK hP (q0 := 0) (by decide) (hgU_0 ca o) rfl 0 (by decide) wq_353 (v := .ref (o + 1)) rfl dX10_worth_9 ?_
    refine lv_iload_n hx hb dX10_worth_12 rfl (lv_at hl 2 rfl) ?_
    refine qc_Vi (As := [.int a2]) (rest := []) (k0 := 1) (u1_hasForm l D ca o z y a2 (h1_6)) kc_yX9_hasForm ⟨hx, hb, hml, hown, hts⟩ wq_743 rfl rfl ⟨Nat.le_of_ble_eq_true rfl, Nat.le_of_ble_eq_true rfl⟩ wq_all hP hK hS qw_Ai (q0 := 1) (by decide) (hgU_1 ca o _ _) rfl rfl hl.1 rfl (Nat.le_of_ble_eq_true rfl) dX10_worth_13 ⟨Nat.zero_le _, Nat.zero_le _⟩ (fun r2 u2 H locs h2 hP hS _ _ => ?_)
    subst h2
    refine lv_if_eq (tgt := 30) hx hb dX10_worth_16 (by decide) (fun _ => ?_) (fun q => absurd (by decide) q)
    refine lv_iconst (v := 0) hx hb dX10_worth_30 (by decide) ?_
    exact W.iret (v := 0) hx hb hr (fun t ht hW => ⟨⟨0, (z, y), rfl, rfl, by rw [ht]; exact hP, va_K.moved hW.alike hK⟩, hS.F ht⟩) hS.2.2 dX10_worth_31
  · subst h1r
    refine lv_if_eq (tgt := 30) hx hb dX10_worth_5 (by decide) (fun _ => ?_) (fun q => absurd (by decide) q)
    refine lv_iconst (v := 0) hx hb dX10_worth_30 (by decide) ?_
    exact W.iret (v := 0) hx hb hr (fun t ht hW => ⟨⟨0, (z, y), rfl, rfl, by rw [ht]; exact hP, va_K.moved hW.alike hK⟩, hS.F ht⟩) hS.2.2 dX10_worth_31

set_option maxRecDepth 100000 in
set_option maxHeartbeats 4000000 in
theorem uP_between (l : Launch) (D : va_G) (ca : Nat → ClassId) (o : Nat) (z : Nat → Nat → Int32) (y : Nat → Nat → Int64) (a1 : Int32) (a2 : Int32) (a3 : Int32) (h1_5 : z 1 5 = 0) (h1_6 : z 1 6 = 0) (h1_7 : z 1 7 = 0) (h0_4 : z 0 4 = 0) (h0_2 : z 0 2 = 0) (h108_1 : z 108 1 = 0) : qM l yX10_between cX10_between 9 (some .int) 3 102 (qPre D vwCl (qT6 ca) o 132 (qG (GU ca o) z y) [.ref (o + 0), .int a1, .int a2, .int a3]) (va_Qi (fun r _ => r = A_between a1 a2 a3) (qB D vwCl (qT6 ca) o 132 (fun u : qZ => qG (GU ca o) u.1 u.2)) (qw_A o 132)) (qw_A o 132) := by
  refine Met.ofW (cc := cX10_between) (maxL := 9) (ret := (some .int)) (by decide) rfl ?_
  intro p e s m args below meth c s₁ B hml hv
  obtain ⟨rfl, hP, hK⟩ := hv
  have hx := B.exec
  have hb := B.bytes
  have hr := B.returns
  have hts0 := atoms_spec (ws := Cond.code yX10_between cX10_between 9 (some .int) :: qtbl) B.pre
  have hts : ∀ w ∈ qtbl, w.before _ s = true := fun w h => hts0 w (List.mem_cons_of_mem _ h)
  have hown : s.vm.findClass RX10 = some m.cls := findClass_of_methodNamed B.named
  have hlocks := B.notSynchronized
  have hz0 : (0 : Int32).toInt = 0 := rfl
  have hS : va_S (qw_A o 132) s.heap s.heap [] := va_S.rf
  have hl := lv_entry ([.ref (o + 0), .int a1, .int a2, .int a3]) (n := 9) (Nat.le_of_ble_eq_true rfl)
  rw [lg_entry_eq]
  generalize (lg_sl ([.ref (o + 0), .int a1, .int a2, .int a3]) ++ List.replicate (9 - (lg_sl ([.ref (o + 0), .int a1, .int a2, .int a3])).length) Slot.unset).toArray = ls at hl ⊢
  have hl : lv_has ls 9 [(0, .ref (o + 0)), (1, .int a1), (2, .int a2), (3, .int a3)] := hl
  refine lv_aload_n hx hb dX10_between_0 rfl (lv_at hl 0 rfl) ?_
  refine lv_iload_n hx hb dX10_between_1 rfl (lv_at hl 1 rfl) ?_
  refine qc_Vi (As := [.int a1]) (rest := []) (k0 := 1) (u1_areRemarks l D ca o z y a1 (h1_6)) kc_yX10_areRemarks ⟨hx, hb, hml, hown, hts⟩ wq_583 rfl rfl ⟨Nat.le_of_ble_eq_true rfl, Nat.le_of_ble_eq_true rfl⟩ wq_all hP hK hS qw_Ai (q0 := 0) (by decide) (hgU_0 ca o _ _) rfl rfl hl.1 rfl (Nat.le_of_ble_eq_true rfl) dX10_between_2 ⟨Nat.zero_le _, Nat.zero_le _⟩ (fun r1 u1 H locs h1 hP hS _ _ => ?_)
  rcases h1 with ⟨h1r, h1a⟩ | ⟨h1r, h1a⟩
  · subst h1r
    obtain rfl : a1 = 0 := gr_eq (y := 0) h1a
    refine lv_if_eq (tgt := 39) hx hb dX10_between_5 (by decide) (fun q => absurd q (by decide)) (fun _ => ?_)
    refine lv_aload_n hx hb dX10_between_8 rfl (lv_at hl 0 rfl) ?_
    refine qf_get hx hb hts inX10 hown hK hP (q0 := 0) (by decide) (hgU_0 ca o) rfl 0 (by decide) wq_353 (v := .ref (o + 1)) rfl dX10_between_9 ?_
    refine lv_iload_n hx hb dX10_between_12 rfl (lv_at hl 2 rfl) ?_
    refine qc_Vi (As := [.int a2]) (rest := []) (k0 := 1) (u1_hasForm l D ca o z y a2 (h1_6)) kc_yX9_hasForm ⟨hx, hb, hml, hown, hts⟩ wq_743 rfl rfl ⟨Nat.le_of_ble_eq_true rfl, Nat.le_of_ble_eq_true rfl⟩ wq_all hP hK hS qw_Ai (q0 := 1) (by decide) (hgU_1 ca o _ _) rfl rfl hl.1 rfl (Nat.le_of_ble_eq_true rfl) dX10_between_13 ⟨Nat.zero_le _, Nat.zero_le _⟩ (fun r2 u2 H locs h2 hP hS _ _ => ?_)
    subst h2
    refine lv_if_eq (tgt := 39) hx hb dX10_between_16 (by decide) (fun _ => ?_) (fun q => absurd (by decide) q)
    refine lv_iconst (v := 0) hx hb dX10_between_39 (by decide) ?_
    exact W.iret (v := 0) hx hb hr (fun t ht hW => ⟨⟨0, (z, y), rfl, rfl, by rw [ht]; exact hP, va_K.moved hW.alike hK⟩, hS.F ht⟩) hS.2.2 dX10_between_40
  · subst h1r
    refine lv_if_eq (tgt := 39) hx hb dX10_between_5 (by decide) (fun _ => ?_) (fun q => absurd (by decide) q)
    refine lv_iconst (v := 0) hx hb dX10_between_39 (by decide) ?_
    exact W.iret (v := 0) hx hb hr (fun t ht hW => ⟨⟨0, (z, y), rfl, rfl, by rw [ht]; exact hP, va_K.moved hW.alike hK⟩, hS.F ht⟩) hS.2.2 dX10_between_40

set_option maxRecDepth 100000 in
set_option maxHeartbeats 4000000 in
theorem uP_keep (l : Launch) (D : va_G) (ca : Nat → ClassId) (o : Nat) (z : Nat → Nat → Int32) (y : Nat → Nat → Int64)  (h1_5 : z 1 5 = 0) (h1_6 : z 1 6 = 0) (h1_7 : z 1 7 = 0) (h0_4 : z 0 4 = 0) (h0_2 : z 0 2 = 0) (h108_1 : z 108 1 = 0) : qM l yX10_keep cX10_keep 1 (some .int) 4 123 (qPre D vwCl (qT6 ca) o 132 (qG (GU ca o) z y) [.ref (o + 0)]) (va_Qi (fun r _ => r = A_keep ) (qB D vwCl (qT6 ca) o 132 (fun u : qZ => qG (GU ca o) u.1 u.2)) (qw_A o 132)) (qw_A o 132) := by
  refine Met.ofW (cc := cX10_keep) (maxL := 1) (ret := (some .int)) (by decide) rfl ?_
  intro p e s m args below meth c s₁ B hml hv
  obtain ⟨rfl, hP, hK⟩ := hv
  have hx := B.exec
  have hb := B.bytes
  have hr := B.returns
  have hts0 := atoms_spec (ws := Cond.code yX10_keep cX10_keep 1 (some .int) :: qtbl) B.pre
  have hts : ∀ w ∈ qtbl, w.before _ s = true := fun w h => hts0 w (List.mem_cons_of_mem _ h)
  have hown : s.vm.findClass RX10 = some m.cls := findClass_of_methodNamed B.named
  have hlocks := B.notSynchronized
  have hz0 : (0 : Int32).toInt = 0 := rfl
  have hS : va_S (qw_A o 132) s.heap s.heap [] := va_S.rf
  have hl := lv_entry ([.ref (o + 0)]) (n := 1) (Nat.le_of_ble_eq_true rfl)
  rw [lg_entry_eq]
  generalize (lg_sl ([.ref (o + 0)]) ++ List.replicate (1 - (lg_sl ([.ref (o + 0)])).length) Slot.unset).toArray = ls at hl ⊢
  have hl : lv_has ls 1 [(0, .ref (o + 0))] := hl
  refine lv_aload_n hx hb dX10_keep_0 rfl (lv_at hl 0 rfl) ?_
  refine qf_get hx hb hts inX10 hown hK hP (q0 := 0) (by decide) (hgU_0 ca o) rfl 1 (by decide) wq_354 (v := .ref (o + 39)) rfl dX10_keep_1 ?_
  refine lv_aload_n hx hb dX10_keep_4 rfl (lv_at hl 0 rfl) ?_
  refine qf_get hx hb hts inX10 hown hK hP (q0 := 0) (by decide) (hgU_0 ca o) rfl 0 (by decide) wq_353 (v := .ref (o + 1)) rfl dX10_keep_5 ?_
  refine qc_Vv (As := [.ref (o + 1)]) (rest := []) (k0 := 1) (u1_toldBecome l D ca o z y) kc_yX9_become ⟨hx, hb, hml, hown, hts⟩ wq_543 rfl rfl ⟨Nat.le_of_ble_eq_true rfl, Nat.le_of_ble_eq_true rfl⟩ wq_all hP hK hS qw_Ai (q0 := 39) (by decide) (hgU_39 ca o _ _) rfl rfl hl.1 rfl (Nat.le_of_ble_eq_true rfl) dX10_keep_8 ⟨Nat.zero_le _, Nat.zero_le _⟩ (fun u1 H locs h1 hP hS _ _ => ?_)
  obtain ⟨z1, y1⟩ := u1
  obtain ⟨h1f, h1y⟩ := h1
  dsimp only at h1f h1y hP
  rw [h1y] at hP
  have f1_0_2 : z1 0 2 = 0 := (congrFun (h1f 0 (by decide)) 2).trans (h0_2)
  have f1_0_4 : z1 0 4 = 0 := (congrFun (h1f 0 (by decide)) 4).trans (h0_4)
  have f1_1_5 : z1 1 5 = 0 := (congrFun (h1f 1 (by decide)) 5).trans (h1_5)
  have f1_1_6 : z1 1 6 = 0 := (congrFun (h1f 1 (by decide)) 6).trans (h1_6)
  have f1_1_7 : z1 1 7 = 0 := (congrFun (h1f 1 (by decide)) 7).trans (h1_7)
  have f1_108_1 : z1 108 1 = 0 := (congrFun (h1f 108 (by decide)) 1).trans (h108_1)
  refine lv_aload_n hx hb dX10_keep_11 rfl (lv_at hl 0 rfl) ?_
  refine lv_iconst (v := 1) hx hb dX10_keep_12 (by decide) ?_
  refine qf_put hx hb hts inX10 tyX10 tyX10_ok nmX10 hown hK hP hS qw_Ai (q0 := 0) (by decide) (hgU_0 ca o) rfl 2 (by decide) wq_355 rfl (x := 1) 2 rfl rfl rfl (Nat.le_of_ble_eq_true rfl) dX10_keep_13 (fun H locs hP hS => ?_)
  refine lv_aload_n hx hb dX10_keep_16 rfl (lv_at hl 0 rfl) ?_
  refine qf_get hx hb hts inX10 hown hK hP (q0 := 0) (by decide) (hgU_0 ca o) rfl 0 (by decide) wq_353 (v := .ref (o + 1)) rfl dX10_keep_17 ?_
  refine qc_Vi (As := []) (rest := []) (k0 := 0) (u1_remarksSaid l D ca o (qu z1 0 2 1) y (f1_1_6)) kc_yX9_remarksSaid ⟨hx, hb, hml, hown, hts⟩ wq_553 rfl rfl ⟨Nat.le_of_ble_eq_true rfl, Nat.le_of_ble_eq_true rfl⟩ wq_all hP hK hS qw_Ai (q0 := 1) (by decide) (hgU_1 ca o _ _) rfl rfl hl.1 rfl (Nat.le_of_ble_eq_true rfl) dX10_keep_20 ⟨Nat.zero_le _, Nat.zero_le _⟩ (fun r2 u2 H locs h2 hP hS _ _ => ?_)
  subst h2
  refine qc_Si (As := [.int 0]) (rest := []) (k0 := 1) (u1_bit0 l D ca o (qu z1 0 2 1) y) kc_yJ6_bitCount_0f7a4 ⟨hx, hb, hml, hown, hts⟩ wq_513 rfl rfl ⟨Nat.le_of_ble_eq_true rfl, Nat.le_of_ble_eq_true rfl⟩ wq_all hP hK hS qw_Ai rfl hl.1 rfl (Nat.le_of_ble_eq_true rfl) dX10_keep_23 ⟨Nat.zero_le _, Nat.zero_le _⟩ (fun r3 u3 H locs h3 hP hS _ _ => ?_)
  subst h3
  exact W.iret (v := 0) hx hb hr (fun t ht hW => ⟨⟨0, ((qu z1 0 2 1), y), rfl, rfl, by rw [ht]; exact hP, va_K.moved hW.alike hK⟩, hS.F ht⟩) hS.2.2 dX10_keep_26

set_option maxRecDepth 100000 in
set_option maxHeartbeats 4000000 in
theorem uP_undo (l : Launch) (D : va_G) (ca : Nat → ClassId) (o : Nat) (z : Nat → Nat → Int32) (y : Nat → Nat → Int64)  (h1_5 : z 1 5 = 0) (h1_6 : z 1 6 = 0) (h1_7 : z 1 7 = 0) (h0_4 : z 0 4 = 0) (h0_2 : z 0 2 = 0) (h108_1 : z 108 1 = 0) : qM l yX10_undo cX10_undo 1 (some .boolean) 1 60 (qPre D vwCl (qT6 ca) o 132 (qG (GU ca o) z y) [.ref (o + 0)]) (va_Qi (fun r _ => r = A_undo ) (qB D vwCl (qT6 ca) o 132 (fun u : qZ => qG (GU ca o) u.1 u.2)) (qw_A o 132)) (qw_A o 132) := by
  refine Met.ofW (cc := cX10_undo) (maxL := 1) (ret := (some .boolean)) (by decide) rfl ?_
  intro p e s m args below meth c s₁ B hml hv
  obtain ⟨rfl, hP, hK⟩ := hv
  have hx := B.exec
  have hb := B.bytes
  have hr := B.returns
  have hts0 := atoms_spec (ws := Cond.code yX10_undo cX10_undo 1 (some .boolean) :: qtbl) B.pre
  have hts : ∀ w ∈ qtbl, w.before _ s = true := fun w h => hts0 w (List.mem_cons_of_mem _ h)
  have hown : s.vm.findClass RX10 = some m.cls := findClass_of_methodNamed B.named
  have hlocks := B.notSynchronized
  have hz0 : (0 : Int32).toInt = 0 := rfl
  have hS : va_S (qw_A o 132) s.heap s.heap [] := va_S.rf
  have hl := lv_entry ([.ref (o + 0)]) (n := 1) (Nat.le_of_ble_eq_true rfl)
  rw [lg_entry_eq]
  generalize (lg_sl ([.ref (o + 0)]) ++ List.replicate (1 - (lg_sl ([.ref (o + 0)])).length) Slot.unset).toArray = ls at hl ⊢
  have hl : lv_has ls 1 [(0, .ref (o + 0))] := hl
  refine lv_aload_n hx hb dX10_undo_0 rfl (lv_at hl 0 rfl) ?_
  refine qf_get hx hb hts inX10 hown hK hP (q0 := 0) (by decide) (hgU_0 ca o) rfl 2 (by decide) wq_355 (v := .int (z 0 2)) rfl dX10_undo_1 ?_
  refine qtop (x' := 0) h0_2 ?_
  refine lv_if_ne (tgt := 9) hx hb dX10_undo_4 (by decide) (fun q => absurd q (by decide)) (fun _ => ?_)
  refine lv_iconst (v := 0) hx hb dX10_undo_7 (by decide) ?_
  exact W.zret (v := 0) (ty := .boolean) hx hb hr rfl (fun t ht hW => ⟨⟨0, (z, y), rfl, rfl, by rw [ht]; exact hP, va_K.moved hW.alike hK⟩, hS.F ht⟩) hS.2.2 dX10_undo_8

set_option maxRecDepth 100000 in
set_option maxHeartbeats 4000000 in
theorem uP_check (l : Launch) (D : va_G) (ca : Nat → ClassId) (o : Nat) (z : Nat → Nat → Int32) (y : Nat → Nat → Int64) (a1 : Int32) (h1_5 : z 1 5 = 0) (h1_6 : z 1 6 = 0) (h1_7 : z 1 7 = 0) (h0_4 : z 0 4 = 0) (h0_2 : z 0 2 = 0) (h108_1 : z 108 1 = 0) : qM l yX10_check cX10_check 4 (some .int) 5 149 (qPre D vwCl (qT6 ca) o 132 (qG (GU ca o) z y) [.ref (o + 0), .int a1]) (va_Qi (fun r _ => r = A_check a1) (qB D vwCl (qT6 ca) o 132 (fun u : qZ => qG (GU ca o) u.1 u.2)) (qw_A o 132)) (qw_A o 132) := by
  refine Met.ofW (cc := cX10_check) (maxL := 4) (ret := (some .int)) (by decide) rfl ?_
  intro p e s m args below meth c s₁ B hml hv
  obtain ⟨rfl, hP, hK⟩ := hv
  have hx := B.exec
  have hb := B.bytes
  have hr := B.returns
  have hts0 := atoms_spec (ws := Cond.code yX10_check cX10_check 4 (some .int) :: qtbl) B.pre
  have hts : ∀ w ∈ qtbl, w.before _ s = true := fun w h => hts0 w (List.mem_cons_of_mem _ h)
  have hown : s.vm.findClass RX10 = some m.cls := findClass_of_methodNamed B.named
  have hlocks := B.notSynchronized
  have hz0 : (0 : Int32).toInt = 0 := rfl
  have hS : va_S (qw_A o 132) s.heap s.heap [] := va_S.rf
  have hl := lv_entry ([.ref (o + 0), .int a1]) (n := 4) (Nat.le_of_ble_eq_true rfl)
  rw [lg_entry_eq]
  generalize (lg_sl ([.ref (o + 0), .int a1]) ++ List.replicate (4 - (lg_sl ([.ref (o + 0), .int a1])).length) Slot.unset).toArray = ls at hl ⊢
  have hl : lv_has ls 4 [(0, .ref (o + 0)), (1, .int a1)] := hl
  refine lv_iload_n hx hb dX10_check_0 rfl (lv_at hl 1 rfl) ?_
  refine lv_if_lt (tgt := 18) hx hb dX10_check_1 (by decide) (fun c1 => ?_) (fun c1 => ?_)
  · have t1 : a1.toInt < (0 : Int) := gl_lt c1
    refine lv_bipush (v := (-2)) hx hb dX10_check_18 (by decide) ?_
    exact W.iret (v := (-2)) hx hb hr (fun t ht hW => ⟨⟨(-2), (z, y), rfl, (ga_n (by omega)), by rw [ht]; exact hP, va_K.moved hW.alike hK⟩, hS.F ht⟩) hS.2.2 dX10_check_20
  · have t1 : a1.toInt ≥ (0 : Int) := gl_nlt c1
    refine lv_iload_n hx hb dX10_check_4 rfl (lv_at hl 1 rfl) ?_
    refine lv_bipush (v := 6) hx hb dX10_check_5 (by decide) ?_
    refine lv_icmp_gt (tgt := 18) hx hb dX10_check_7 (by decide) (fun c2 => ?_) (fun c2 => ?_)
    · have t2 : a1.toInt > (6 : Int) := gl_lt c2
      refine lv_bipush (v := (-2)) hx hb dX10_check_18 (by decide) ?_
      exact W.iret (v := (-2)) hx hb hr (fun t ht hW => ⟨⟨(-2), (z, y), rfl, (ga_n (by omega)), by rw [ht]; exact hP, va_K.moved hW.alike hK⟩, hS.F ht⟩) hS.2.2 dX10_check_20
    · have t2 : a1.toInt ≤ (6 : Int) := gl_nlt c2
      refine lv_iload_n hx hb dX10_check_10 rfl (lv_at hl 1 rfl) ?_
      refine lv_aload_n hx hb dX10_check_11 rfl (lv_at hl 0 rfl) ?_
      refine qf_get hx hb hts inX10 hown hK hP (q0 := 0) (by decide) (hgU_0 ca o) rfl 4 (by decide) wq_357 (v := .int (z 0 4)) rfl dX10_check_12 ?_
      refine qtop (x' := 0) h0_4 ?_
      refine lv_icmp_le (tgt := 21) hx hb dX10_check_15 (by decide) (fun c3 => ?_) (fun c3 => ?_)
      · have t3 : a1.toInt ≤ (0 : Int) := gl_le c3
        refine lv_aload_n hx hb dX10_check_21 rfl (lv_at hl 0 rfl) ?_
        refine lv_iconst (v := 0) hx hb dX10_check_22 (by decide) ?_
        refine qf_put hx hb hts inX10 tyX10 tyX10_ok nmX10 hown hK hP hS qw_Ai (q0 := 0) (by decide) (hgU_0 ca o) rfl 4 (by decide) wq_357 rfl (x := 0) 4 rfl rfl rfl (Nat.le_of_ble_eq_true rfl) dX10_check_23 (fun H locs hP hS => ?_)
        refine lv_aload_n hx hb dX10_check_26 rfl (lv_at hl 0 rfl) ?_
        refine qf_get hx hb hts inX10 hown hK hP (q0 := 0) (by decide) (hgU_0 ca o) rfl 6 (by decide) wq_359 (v := .ref (o + 104)) rfl dX10_check_27 ?_
        refine lv_aload_n hx hb dX10_check_30 rfl (lv_at hl 0 rfl) ?_
        refine qf_get hx hb hts inX10 hown hK hP (q0 := 0) (by decide) (hgU_0 ca o) rfl 0 (by decide) wq_353 (v := .ref (o + 1)) rfl dX10_check_31 ?_
        refine qc_Vi (As := []) (rest := [.ref (o + 104)]) (k0 := 0) (u1_remarksSaid l D ca o (qu z 0 4 0) y (h1_6)) kc_yX9_remarksSaid ⟨hx, hb, hml, hown, hts⟩ wq_553 rfl rfl ⟨Nat.le_of_ble_eq_true rfl, Nat.le_of_ble_eq_true rfl⟩ wq_all hP hK hS qw_Ai (q0 := 1) (by decide) (hgU_1 ca o _ _) rfl rfl hl.1 rfl (Nat.le_of_ble_eq_true rfl) dX10_check_34 ⟨Nat.zero_le _, Nat.zero_le _⟩ (fun r4 u4 H locs h4 hP hS _ _ => ?_)
        subst h4
        refine qc_Vi (As := [.int 0]) (rest := []) (k0 := 1) (u1_seek l D ca o (qu z 0 4 0) y (h1_5)) kc_yX7_seek ⟨hx, hb, hml, hown, hts⟩ wq_587 rfl rfl ⟨Nat.le_of_ble_eq_true rfl, Nat.le_of_ble_eq_true rfl⟩ wq_all hP hK hS qw_Ai (q0 := 104) (by decide) (hgU_104 ca o _ _) rfl rfl hl.1 rfl (Nat.le_of_ble_eq_true rfl) dX10_check_37 ⟨Nat.zero_le _, Nat.zero_le _⟩ (fun r5 u5 H locs h5 hP hS _ _ => ?_)
        obtain ⟨z5, y5⟩ := u5
        obtain ⟨h5r, h5f, h5y⟩ := h5
        dsimp only at h5f h5y hP
        subst h5r; rw [h5y] at hP
        have f5_0_2 : z5 0 2 = 0 := (congrFun (h5f 0 (by decide) (by decide)) 2).trans (h0_2)
        have f5_0_4 : z5 0 4 = 0 := (congrFun (h5f 0 (by decide) (by decide)) 4).trans rfl
        have f5_1_5 : z5 1 5 = 0 := (congrFun (h5f 1 (by decide) (by decide)) 5).trans (h1_5)
        have f5_1_6 : z5 1 6 = 0 := (congrFun (h5f 1 (by decide) (by decide)) 6).trans (h1_6)
        have f5_1_7 : z5 1 7 = 0 := (congrFun (h5f 1 (by decide) (by decide)) 7).trans (h1_7)
        have f5_108_1 : z5 108 1 = 0 := (congrFun (h5f 108 (by decide) (by decide)) 1).trans (h108_1)
        refine lv_if_ge (tgt := 46) hx hb dX10_check_40 (by decide) (fun _ => ?_) (fun q => absurd (by decide) q)
        refine lv_iconst (v := 0) hx hb dX10_check_46 (by decide) ?_
        refine lv_istore_n (lv' := [(2, .int 0), (0, .ref (o + 0)), (1, .int a1)]) hx hb dX10_check_47 rfl hl (by decide) rfl (fun ls hl => ?_)
        refine lv_iload_n hx hb dX10_check_48 rfl (lv_at hl 0 rfl) ?_
        refine lv_iload_n hx hb dX10_check_49 rfl (lv_at hl 2 rfl) ?_
        refine lv_icmp_ge (tgt := 96) hx hb dX10_check_50 (by decide) (fun _ => ?_) (fun q => absurd (gr_le (by show a1.toInt ≤ (0 : Int); omega)) q)
        refine lv_iconst (v := (-1)) hx hb dX10_check_96 (by decide) ?_
        exact W.iret (v := (-1)) hx hb hr (fun t ht hW => ⟨⟨(-1), (z5, y), rfl, (ga_p (by omega)), by rw [ht]; exact hP, va_K.moved hW.alike hK⟩, hS.F ht⟩) hS.2.2 dX10_check_97
      · have t3 : a1.toInt > (0 : Int) := gl_nle c3
        refine lv_bipush (v := (-2)) hx hb dX10_check_18 (by decide) ?_
        exact W.iret (v := (-2)) hx hb hr (fun t ht hW => ⟨⟨(-2), (z, y), rfl, (ga_n (by omega)), by rw [ht]; exact hP, va_K.moved hW.alike hK⟩, hS.F ht⟩) hS.2.2 dX10_check_20

set_option maxRecDepth 100000 in
set_option maxHeartbeats 4000000 in
theorem uP_count (l : Launch) (D : va_G) (ca : Nat → ClassId) (o : Nat) (z : Nat → Nat → Int32) (y : Nat → Nat → Int64) (a1 : Int32) (h1_5 : z 1 5 = 0) (h1_6 : z 1 6 = 0) (h1_7 : z 1 7 = 0) (h0_4 : z 0 4 = 0) (h0_2 : z 0 2 = 0) (h108_1 : z 108 1 = 0) : qM l yX10_count cX10_count 2 (some .int) 3 103 (qPre D vwCl (qT6 ca) o 132 (qG (GU ca o) z y) [.ref (o + 0), .int a1]) (va_Qi (fun r _ => r = A_count a1) (qB D vwCl (qT6 ca) o 132 (fun u : qZ => qG (GU ca o) u.1 u.2)) (qw_A o 132)) (qw_A o 132) := by
  refine Met.ofW (cc := cX10_count) (maxL := 2) (ret := (some .int)) (by decide) rfl ?_
  intro p e s m args below meth c s₁ B hml hv
  obtain ⟨rfl, hP, hK⟩ := hv
  have hx := B.exec
  have hb := B.bytes
  have hr := B.returns
  have hts0 := atoms_spec (ws := Cond.code yX10_count cX10_count 2 (some .int) :: qtbl) B.pre
  have hts : ∀ w ∈ qtbl, w.before _ s = true := fun w h => hts0 w (List.mem_cons_of_mem _ h)
  have hown : s.vm.findClass RX10 = some m.cls := findClass_of_methodNamed B.named
  have hlocks := B.notSynchronized
  have hz0 : (0 : Int32).toInt = 0 := rfl
  have hS : va_S (qw_A o 132) s.heap s.heap [] := va_S.rf
  have hl := lv_entry ([.ref (o + 0), .int a1]) (n := 2) (Nat.le_of_ble_eq_true rfl)
  rw [lg_entry_eq]
  generalize (lg_sl ([.ref (o + 0), .int a1]) ++ List.replicate (2 - (lg_sl ([.ref (o + 0), .int a1])).length) Slot.unset).toArray = ls at hl ⊢
  have hl : lv_has ls 2 [(0, .ref (o + 0)), (1, .int a1)] := hl
  refine lv_iload_n hx hb dX10_count_0 rfl (lv_at hl 1 rfl) ?_
  rcases (by omega : a1.toInt = 0 ∨ a1.toInt = 1 ∨ a1.toInt = 2 ∨ a1.toInt = 3 ∨ a1.toInt = 4 ∨ a1.toInt < 0 ∨ 4 < a1.toInt) with c1 | c1 | c1 | c1 | c1 | c1 | c1
  · refine lv_tableIn (tgt := 36) hx hb dX10_count_1 (by omega) (by omega) (by rw [c1]; rfl) (by decide) ?_
    refine lv_aload_n hx hb dX10_count_36 rfl (lv_at hl 0 rfl) ?_
    refine qf_get hx hb hts inX10 hown hK hP (q0 := 0) (by decide) (hgU_0 ca o) rfl 0 (by decide) wq_353 (v := .ref (o + 1)) rfl dX10_count_37 ?_
    refine qf_get hx hb hts inX9 hown hK hP (q0 := 1) (by decide) (hgU_1 ca o) rfl 7 (by decide) wq_104 (v := .int (z 1 7)) rfl dX10_count_40 ?_
    refine qtop (x' := 0) h1_7 ?_
    exact W.iret (v := 0) hx hb hr (fun t ht hW => ⟨⟨0, (z, y), rfl, (ga_p (by omega)), by rw [ht]; exact hP, va_K.moved hW.alike hK⟩, hS.F ht⟩) hS.2.2 dX10_count_43
  · refine lv_tableIn (tgt := 44) hx hb dX10_count_1 (by omega) (by omega) (by rw [c1]; rfl) (by decide) ?_
    refine lv_aload_n hx hb dX10_count_44 rfl (lv_at hl 0 rfl) ?_
    refine qf_get hx hb hts inX10 hown hK hP (q0 := 0) (by decide) (hgU_0 ca o) rfl 0 (by decide) wq_353 (v := .ref (o + 1)) rfl dX10_count_45 ?_
    refine qf_get hx hb hts inX9 hown hK hP (q0 := 1) (by decide) (hgU_1 ca o) rfl 5 (by decide) wq_98 (v := .int (z 1 5)) rfl dX10_count_48 ?_
    refine qtop (x' := 0) h1_5 ?_
    exact W.iret (v := 0) hx hb hr (fun t ht hW => ⟨⟨0, (z, y), rfl, (ga_p (by omega)), by rw [ht]; exact hP, va_K.moved hW.alike hK⟩, hS.F ht⟩) hS.2.2 dX10_count_51
  · refine lv_tableIn (tgt := 52) hx hb dX10_count_1 (by omega) (by omega) (by rw [c1]; rfl) (by decide) ?_
    refine lv_aload_n hx hb dX10_count_52 rfl (lv_at hl 0 rfl) ?_
    refine qf_get hx hb hts inX10 hown hK hP (q0 := 0) (by decide) (hgU_0 ca o) rfl 0 (by decide) wq_353 (v := .ref (o + 1)) rfl dX10_count_53 ?_
    refine qc_Vi (As := []) (rest := []) (k0 := 0) (u1_remarksSaid l D ca o z y (h1_6)) kc_yX9_remarksSaid ⟨hx, hb, hml, hown, hts⟩ wq_553 rfl rfl ⟨Nat.le_of_ble_eq_true rfl, Nat.le_of_ble_eq_true rfl⟩ wq_all hP hK hS qw_Ai (q0 := 1) (by decide) (hgU_1 ca o _ _) rfl rfl hl.1 rfl (Nat.le_of_ble_eq_true rfl) dX10_count_56 ⟨Nat.zero_le _, Nat.zero_le _⟩ (fun r2 u2 H locs h2 hP hS _ _ => ?_)
    subst h2
    exact W.iret (v := 0) hx hb hr (fun t ht hW => ⟨⟨0, (z, y), rfl, (ga_p (by omega)), by rw [ht]; exact hP, va_K.moved hW.alike hK⟩, hS.F ht⟩) hS.2.2 dX10_count_59
  · refine lv_tableIn (tgt := 60) hx hb dX10_count_1 (by omega) (by omega) (by rw [c1]; rfl) (by decide) ?_
    refine lv_aload_n hx hb dX10_count_60 rfl (lv_at hl 0 rfl) ?_
    refine qf_get hx hb hts inX10 hown hK hP (q0 := 0) (by decide) (hgU_0 ca o) rfl 0 (by decide) wq_353 (v := .ref (o + 1)) rfl dX10_count_61 ?_
    refine qf_get hx hb hts inX9 hown hK hP (q0 := 1) (by decide) (hgU_1 ca o) rfl 6 (by decide) wq_101 (v := .int (z 1 6)) rfl dX10_count_64 ?_
    refine qtop (x' := 0) h1_6 ?_
    refine lv_bipush (v := 10) hx hb dX10_count_67 (by decide) ?_
    refine lv_ishr hx hb dX10_count_69 ?_
    refine qtop (x' := 0) (by decide) ?_
    exact W.iret (v := 0) hx hb hr (fun t ht hW => ⟨⟨0, (z, y), rfl, (ga_p (by omega)), by rw [ht]; exact hP, va_K.moved hW.alike hK⟩, hS.F ht⟩) hS.2.2 dX10_count_70
  · refine lv_tableIn (tgt := 71) hx hb dX10_count_1 (by omega) (by omega) (by rw [c1]; rfl) (by decide) ?_
    refine lv_aload_n hx hb dX10_count_71 rfl (lv_at hl 0 rfl) ?_
    refine qf_get hx hb hts inX10 hown hK hP (q0 := 0) (by decide) (hgU_0 ca o) rfl 4 (by decide) wq_357 (v := .int (z 0 4)) rfl dX10_count_72 ?_
    refine qtop (x' := 0) h0_4 ?_
    exact W.iret (v := 0) hx hb hr (fun t ht hW => ⟨⟨0, (z, y), rfl, (ga_p (by omega)), by rw [ht]; exact hP, va_K.moved hW.alike hK⟩, hS.F ht⟩) hS.2.2 dX10_count_75
  · refine lv_tableOut (tgt := 76) hx hb dX10_count_1 (Or.inl c1) (by decide) ?_
    refine lv_aload_n hx hb dX10_count_76 rfl (lv_at hl 0 rfl) ?_
    refine lv_iload_n hx hb dX10_count_77 rfl (lv_at hl 1 rfl) ?_
    refine qc_Vi (As := [.int a1]) (rest := []) (k0 := 1) (u1_countOfPerson l D ca o z y a1 (h1_5)) kc_yX10_countOfPerson ⟨hx, hb, hml, hown, hts⟩ wq_565 rfl rfl ⟨Nat.le_of_ble_eq_true rfl, Nat.le_of_ble_eq_true rfl⟩ wq_all hP hK hS qw_Ai (q0 := 0) (by decide) (hgU_0 ca o _ _) rfl rfl hl.1 rfl (Nat.le_of_ble_eq_true rfl) dX10_count_78 ⟨Nat.zero_le _, Nat.zero_le _⟩ (fun r3 u3 H locs h3 hP hS _ _ => ?_)
    subst h3
    exact W.iret (v := (-1)) hx hb hr (fun t ht hW => ⟨⟨(-1), (z, y), rfl, (ga_n (by omega)), by rw [ht]; exact hP, va_K.moved hW.alike hK⟩, hS.F ht⟩) hS.2.2 dX10_count_81
  · refine lv_tableOut (tgt := 76) hx hb dX10_count_1 (Or.inr c1) (by decide) ?_
    refine lv_aload_n hx hb dX10_count_76 rfl (lv_at hl 0 rfl) ?_
    refine lv_iload_n hx hb dX10_count_77 rfl (lv_at hl 1 rfl) ?_
    refine qc_Vi (As := [.int a1]) (rest := []) (k0 := 1) (u1_countOfPerson l D ca o z y a1 (h1_5)) kc_yX10_countOfPerson ⟨hx, hb, hml, hown, hts⟩ wq_565 rfl rfl ⟨Nat.le_of_ble_eq_true rfl, Nat.le_of_ble_eq_true rfl⟩ wq_all hP hK hS qw_Ai (q0 := 0) (by decide) (hgU_0 ca o _ _) rfl rfl hl.1 rfl (Nat.le_of_ble_eq_true rfl) dX10_count_78 ⟨Nat.zero_le _, Nat.zero_le _⟩ (fun r4 u4 H locs h4 hP hS _ _ => ?_)
    subst h4
    exact W.iret (v := (-1)) hx hb hr (fun t ht hW => ⟨⟨(-1), (z, y), rfl, (ga_n (by omega)), by rw [ht]; exact hP, va_K.moved hW.alike hK⟩, hS.F ht⟩) hS.2.2 dX10_count_81
