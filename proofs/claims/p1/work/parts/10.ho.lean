/-! HOW OLD, as both lay it: 401 sums for each number of people -/
def ho1 (v k : Nat) : Nat → Nat → (Nat → Int64) → (Nat → Int64)
  | 0, _, f => f
  | n + 1, s, f => ho1 v k n (s + 1) (vp_updL f (401 * k + s) (f (401 * k + s) + f (401 * (k - 1) + s - v)))
def ho2 (v sm : Nat) : Nat → Nat → (Nat → Int64) → (Nat → Int64)
  | 0, _, f => f
  | n + 1, k, f => ho2 v sm n (k + 1) (ho1 v k (sm + 1 - v) v f)
def ho3 (sm kn : Nat) : Nat → Nat → (Nat → Int64) → (Nat → Int64)
  | 0, _, f => f
  | n + 1, v, f => ho3 sm kn n (v + 1) (ho2 v sm kn 1 f)
def ho0 : Nat → Int64 := fun j => if j = 0 then 1 else 0
def A_howOld (n sm lo hi : Int32) : Int64 := if 1 ≤ n.toInt ∧ n.toInt ≤ 6 ∧ 0 ≤ sm.toInt ∧ sm.toInt ≤ 400 ∧ 0 ≤ lo.toInt ∧ hi.toInt ≤ 99 ∧ lo.toInt ≤ hi.toInt then ho3 sm.toInt.toNat n.toInt.toNat (hi.toInt.toNat + 1 - lo.toInt.toNat) lo.toInt.toNat ho0 (401 * n.toInt.toNat + sm.toInt.toNat) else -1
theorem ho3_s {M N h i : Nat} {f G : Nat → Int64} (hi : i ≤ h) (hb : ho3 M N (h + 1 - i) i f = G) : ho3 M N (h - i) (i + 1) (ho2 i M (N + 1 - 1) 1 f) = G := by
  rw [show h + 1 - i = (h - i) + 1 from by omega] at hb
  exact hb
theorem ho3_e {M N h i : Nat} {f G : Nat → Int64} (hi : h + 1 ≤ i) (hb : ho3 M N (h + 1 - i) i f = G) : f = G := by
  rw [show h + 1 - i = 0 from by omega] at hb
  exact hb
theorem ho2_s {M N h i k : Nat} {f G : Nat → Int64} (hk : k ≤ N) (hb : ho3 M N (h - i) (i + 1) (ho2 i M (N + 1 - k) k f) = G) : ho3 M N (h - i) (i + 1) (ho2 i M (N - k) (k + 1) (ho1 i k (M + 1 - i) i f)) = G := by
  rw [show N + 1 - k = (N - k) + 1 from by omega] at hb
  exact hb
theorem ho2_e {M N h i k : Nat} {f G : Nat → Int64} (hk : N + 1 ≤ k) (hi : i ≤ h) (hb : ho3 M N (h - i) (i + 1) (ho2 i M (N + 1 - k) k f) = G) : ho3 M N (h + 1 - (i + 1)) (i + 1) f = G := by
  rw [show N + 1 - k = 0 from by omega] at hb
  rw [show h + 1 - (i + 1) = h - i from by omega]
  exact hb
theorem ho1_s {M N h i k s : Nat} {f G : Nat → Int64} (hs : s ≤ M) (hb : ho3 M N (h - i) (i + 1) (ho2 i M (N - k) (k + 1) (ho1 i k (M + 1 - s) s f)) = G) : ho3 M N (h - i) (i + 1) (ho2 i M (N - k) (k + 1) (ho1 i k (M + 1 - (s + 1)) (s + 1) (vp_updL f (401 * k + s) (f (401 * k + s) + f (401 * (k - 1) + s - i))))) = G := by
  rw [show M + 1 - s = (M + 1 - (s + 1)) + 1 from by omega] at hb
  exact hb
theorem ho1_e {M N h i k s : Nat} {f G : Nat → Int64} (hs : M + 1 ≤ s) (hk : k ≤ N) (hb : ho3 M N (h - i) (i + 1) (ho2 i M (N - k) (k + 1) (ho1 i k (M + 1 - s) s f)) = G) : ho3 M N (h - i) (i + 1) (ho2 i M (N + 1 - (k + 1)) (k + 1) f) = G := by
  rw [show M + 1 - s = 0 from by omega] at hb
  rw [show N + 1 - (k + 1) = N - k from by omega]
  exact hb
theorem ho_ld {y : Nat → Nat → Int64} {C m : Nat} {f : Nat → Int64} {x : Int32} (h : ∀ j : Nat, j < 2807 → y C j = f j) (hx : x.toInt = (m : Int)) (hm : m < 2807) : y C x.toNatClampNeg = f m := by
  rw [gi_nat hx]; exact h m hm
theorem ho_upd {y : Nat → Nat → Int64} {C m : Nat} {f : Nat → Int64} {x : Int32} {v w : Int64} (h : ∀ j : Nat, j < 2807 → y C j = f j) (hx : x.toInt = (m : Int)) (hv : v = w) : ∀ j : Nat, j < 2807 → qul y C x.toNatClampNeg v C j = vp_updL f m w j := by
  intro j hj
  rw [gi_nat hx, qul_eq, hv]
  unfold vp_updL
  by_cases e : j = m
  · rw [if_pos e, if_pos e]
  · rw [if_neg e, if_neg e]; exact h j hj
theorem ho_first {y : Nat → Nat → Int64} {C : Nat} (h : ∀ j : Nat, j < 2807 → y C j = 0) : ∀ j : Nat, j < 2807 → qul y C ((0 : Int32).toNatClampNeg) 1 C j = ho0 j := by
  intro j hj
  rw [show (0 : Int32).toNatClampNeg = 0 from by decide, qul_eq]
  unfold vp_updL ho0
  by_cases e : j = 0
  · rw [if_pos e, if_pos e]
  · rw [if_neg e, if_neg e]; exact h j hj
theorem ho_fill {y : Nat → Nat → Int64} {c i : Nat} {x : Int32} {v : Int64} (hx : x.toInt = (i : Int)) (h : ∀ j : Nat, j < i → y c j = v) : ∀ j : Nat, j < i + 1 → qul y c x.toNatClampNeg v c j = v := by
  intro j hj
  rw [gi_nat hx, qul_eq]
  unfold vp_updL
  by_cases e : j = i
  · rw [if_pos e]
  · rw [if_neg e]; exact h j (by omega)
theorem gaL_p {c : Prop} [Decidable c] {a b : Int64} (h : c) : a = if c then a else b := (if_pos h).symm
theorem gaL_n {c : Prop} [Decidable c] {a b : Int64} (h : ¬ c) : b = if c then a else b := (if_neg h).symm
theorem ho_end {n sm lo hi : Int32} {N M L T : Nat} {r : Int64} (hn : n.toInt = (N : Int)) (hm : sm.toInt = (M : Int)) (hl : lo.toInt = (L : Int)) (hh : hi.toInt = (T : Int)) (hc : 1 ≤ n.toInt ∧ n.toInt ≤ 6 ∧ 0 ≤ sm.toInt ∧ sm.toInt ≤ 400 ∧ 0 ≤ lo.toInt ∧ hi.toInt ≤ 99 ∧ lo.toInt ≤ hi.toInt) (hr : r = ho3 M N (T + 1 - L) L ho0 (401 * N + M)) : r = A_howOld n sm lo hi := by
  unfold A_howOld
  rw [if_pos hc, hn, hm, hl, hh]
  simpa using hr
theorem kc_yJ7_fill_d0a16 : qT yJ7_fill_d0a16 cJ7_fill_d0a16 5 none 2 := ⟨wq_976, wq_3, wq_977, by decide +kernel, by decide +kernel, by decide +kernel⟩
set_option maxRecDepth 100000 in
set_option maxHeartbeats 4000000 in
theorem u1_fillWays (l : Launch) (D : va_G) (ca : Nat → ClassId) (o : Nat) (z : Nat → Nat → Int32) (y : Nat → Nat → Int64)   : qM l yJ7_fill_d0a16 cJ7_fill_d0a16 5 none 1 60 (qPre D vwCl (qT6 ca) o 132 (qG (GU ca o) z y) [.ref (o + 131), .long 0]) (va_Qv (fun u => u.1 = z ∧ ∀ j : Nat, j < 2807 → u.2 131 j = 0) (qB D vwCl (qT6 ca) o 132 (fun u : qZ => qG (GU ca o) u.1 u.2)) (qw_A o 132)) (qw_A o 132) := by
  refine Met.ofW (cc := cJ7_fill_d0a16) (maxL := 5) (ret := none) (by decide) rfl ?_
  intro p e s m args below meth c s₁ B hml hv
  obtain ⟨rfl, hP, hK⟩ := hv
  have hx := B.exec
  have hb := B.bytes
  have hr := B.returns
  have hts0 := atoms_spec (ws := Cond.code yJ7_fill_d0a16 cJ7_fill_d0a16 5 none :: qtbl) B.pre
  have hts : ∀ w ∈ qtbl, w.before _ s = true := fun w h => hts0 w (List.mem_cons_of_mem _ h)
  have hown : s.vm.findClass RJ7 = some m.cls := findClass_of_methodNamed B.named
  have hlocks := B.notSynchronized
  have hz0 : (0 : Int32).toInt = 0 := rfl
  have hS : va_S (qw_A o 132) s.heap s.heap [] := va_S.rf
  have hl := lv_entry ([.ref (o + 131), .long 0]) (n := 5) (Nat.le_of_ble_eq_true rfl)
  rw [lg_entry_eq]
  generalize (lg_sl ([.ref (o + 131), .long 0]) ++ List.replicate (5 - (lg_sl ([.ref (o + 131), .long 0])).length) Slot.unset).toArray = ls at hl ⊢
  have hl : lv_has ls 5 [(0, .ref (o + 131)), (1, .long 0)] := hl
  refine lv_iconst (v := 0) hx hb dJ7_fill_d0a16_0 (by decide) ?_
  refine lv_istore_n (lv' := [(3, .int 0), (0, .ref (o + 131)), (1, .long 0)]) hx hb dJ7_fill_d0a16_1 rfl hl (by decide) rfl (fun ls hl => ?_)
  refine lv_aload_n hx hb dJ7_fill_d0a16_2 rfl (lv_at hl 1 rfl) ?_
  refine qa_len hx hb hK hP (q0 := 131) (by decide) 1 (hgU_131 ca o) rfl (v := 2807) rfl dJ7_fill_d0a16_3 ?_
  refine lv_istore (lv' := [(4, .int 2807), (3, .int 0), (0, .ref (o + 131)), (1, .long 0)]) hx hb dJ7_fill_d0a16_4 hl (by decide) rfl (fun ls hl => ?_)
  have loop1 : ∀ (n i1 : Nat) (x1 : Int32) (y1 : Nat → Nat → Int64), 2807 < i1 + n → i1 ≤ 2807 → 0 ≤ i1 → x1.toInt = (i1 : Int) → (∀ j : Nat, j < i1 → y1 131 j = 0) → ∀ (H : Heap) (locs : List Loc), qw_P D vwCl o 132 (qG (GU ca o) z y1) H → va_S (qw_A o 132) s.heap H locs → ∀ (ls : Array Slot), lv_has ls 5 [(4, .int 2807), (3, .int x1), (0, .ref (o + 131)), (1, .long 0)] → W p l e (headSpec (Cond.code yJ7_fill_d0a16 cJ7_fill_d0a16 5 none :: qtbl) ({ frames := 1, cells := 0, slots := 0, locals := 60 })).room s m (([.ref (o + 131), .long 0] : List Value).toArray) below meth c H locs 0 0 (MQ below (va_Qv (fun u => u.1 = z ∧ ∀ j : Nat, j < 2807 → u.2 131 j = 0) (qB D vwCl (qT6 ca) o 132 (fun u : qZ => qG (GU ca o) u.1 u.2)) (qw_A o 132)) (([.ref (o + 131), .long 0] : List Value).toArray) s 0 0 (qw_A o 132)) (F0 m 6 ls []) := by
    intro n
    induction n with
    | zero => intro i1 x1 y1 hb1 hi1; exact absurd hb1 (by omega)
    | succ n1 ih1 =>
      intro i1 x1 y1 hb1 hi1 ho1 hx1 n1 H locs hP hS ls hl
      refine lv_iload_n hx hb dJ7_fill_d0a16_6 rfl (lv_at hl 1 rfl) ?_
      refine lv_iload hx hb dJ7_fill_d0a16_7 (lv_at hl 0 rfl) ?_
      refine lv_icmp_ge (tgt := 22) hx hb dJ7_fill_d0a16_9 (by decide) (fun c2 => ?_) (fun c2 => ?_)
      · have t2 : x1.toInt ≥ (2807 : Int) := gl_le c2
        exact W.vret hx hb hr (fun t ht hW => ⟨⟨(z, y1), rfl, ⟨rfl, fun j h => n1 j (by omega)⟩, by rw [ht]; exact hP, va_K.moved hW.alike hK⟩, hS.F ht⟩) hS.2.2 dJ7_fill_d0a16_22
      · have t2 : x1.toInt < (2807 : Int) := gl_nle c2
        refine lv_aload_n hx hb dJ7_fill_d0a16_12 rfl (lv_at hl 2 rfl) ?_
        refine lv_iload_n hx hb dJ7_fill_d0a16_13 rfl (lv_at hl 1 rfl) ?_
        refine lv_lload_n hx hb dJ7_fill_d0a16_14 rfl (lv_at hl 3 rfl) ?_
        refine qa_last hx hb hK hP hS qw_Ai (q0 := 131) (by decide) 1 (N := 2807) (hgU_131 ca o) rfl (gi_in (by omega) (by omega)) dJ7_fill_d0a16_15 (fun H locs hP hS => ?_)
        obtain ⟨x3, e3⟩ : ∃ t : Int32, t = x1 + 1 := ⟨_, rfl⟩
        refine lv_iinc (v := x3) (lv' := [(3, .int x3), (4, .int 2807), (0, .ref (o + 131)), (1, .long 0)]) hx hb dJ7_fill_d0a16_16 hl (k := 1) rfl (by rw [e3]; rfl) (by decide) rfl (fun ls hl => ?_)
        refine lv_goto (tgt := 6) hx hb dJ7_fill_d0a16_19 (by decide) ?_
        exact ih1 (i1 + 1) x3 (qul y1 131 (x1.toNatClampNeg) 0) (by omega) (by omega) (by omega) (by rw [e3]; rw [gi_add (by rw [hx1]; show _ ≤ _ + (1 : Int); omega) (by rw [hx1]; show _ + (1 : Int) ≤ _; omega), hx1]; rfl) (ho_fill hx1 n1) _ _ hP hS _ (lv_sub hl [1, 0, 2, 3] rfl)
  exact loop1 2808 0 0 y (by omega) (by omega) (by omega) rfl (fun j h => absurd h (by omega)) _ _ hP hS _ (lv_sub hl [0, 1, 2, 3] rfl)

set_option maxRecDepth 100000 in
set_option maxHeartbeats 4000000 in
theorem uP_howOld (l : Launch) (D : va_G) (ca : Nat → ClassId) (o : Nat) (z : Nat → Nat → Int32) (y : Nat → Nat → Int64) (a1 a2 a3 a4 : Int32) (h1_5 : z 1 5 = 0) (h1_6 : z 1 6 = 0) (h1_7 : z 1 7 = 0) (h0_4 : z 0 4 = 0) (h0_2 : z 0 2 = 0) (h108_1 : z 108 1 = 0) : qM l yX10_howOld cX10_howOld 9 (some .long) 2 84 (qPre D vwCl (qT6 ca) o 132 (qG (GU ca o) z y) [.ref (o + 0), .int a1, .int a2, .int a3, .int a4]) (va_Ql (fun r _ => r = A_howOld a1 a2 a3 a4) (qB D vwCl (qT6 ca) o 132 (fun u : qZ => qG (GU ca o) u.1 u.2)) (qw_A o 132)) (qw_A o 132) := by
  refine Met.ofW (cc := cX10_howOld) (maxL := 9) (ret := (some .long)) (by decide) rfl ?_
  intro p e s m args below meth c s₁ B hml hv
  obtain ⟨rfl, hP, hK⟩ := hv
  have hx := B.exec
  have hb := B.bytes
  have hr := B.returns
  have hts0 := atoms_spec (ws := Cond.code yX10_howOld cX10_howOld 9 (some .long) :: qtbl) B.pre
  have hts : ∀ w ∈ qtbl, w.before _ s = true := fun w h => hts0 w (List.mem_cons_of_mem _ h)
  have hown : s.vm.findClass RX10 = some m.cls := findClass_of_methodNamed B.named
  have hlocks := B.notSynchronized
  have hz0 : (0 : Int32).toInt = 0 := rfl
  have hS : va_S (qw_A o 132) s.heap s.heap [] := va_S.rf
  have hl := lv_entry ([.ref (o + 0), .int a1, .int a2, .int a3, .int a4]) (n := 9) (Nat.le_of_ble_eq_true rfl)
  rw [lg_entry_eq]
  generalize (lg_sl ([.ref (o + 0), .int a1, .int a2, .int a3, .int a4]) ++ List.replicate (9 - (lg_sl ([.ref (o + 0), .int a1, .int a2, .int a3, .int a4])).length) Slot.unset).toArray = ls at hl ⊢
  have hl : lv_has ls 9 [(0, .ref (o + 0)), (1, .int a1), (2, .int a2), (3, .int a3), (4, .int a4)] := hl
  refine lv_iload_n hx hb dX10_howOld_0 rfl (lv_at hl 1 rfl) ?_
  refine lv_iconst (v := 1) hx hb dX10_howOld_1 (by decide) ?_
  refine lv_icmp_lt (tgt := 39) hx hb dX10_howOld_2 (by decide) (fun c1 => ?_) (fun c1 => ?_)
  · have t1 : a1.toInt < (1 : Int) := gl_lt c1
    refine lv_ldc2 (v := (-1)) hx hb hown (hts _ wq_974) dX10_howOld_39 ?_
    exact W.lret (v := (-1)) hx hb hr (fun t ht hW => ⟨⟨(-1), (z, y), rfl, (gaL_n (by omega)), by rw [ht]; exact hP, va_K.moved hW.alike hK⟩, hS.F ht⟩) hS.2.2 dX10_howOld_42
  · have t1 : a1.toInt ≥ (1 : Int) := gl_nlt c1
    refine lv_iload_n hx hb dX10_howOld_5 rfl (lv_at hl 1 rfl) ?_
    refine lv_bipush (v := 6) hx hb dX10_howOld_6 (by decide) ?_
    refine lv_icmp_gt (tgt := 39) hx hb dX10_howOld_8 (by decide) (fun c2 => ?_) (fun c2 => ?_)
    · have t2 : a1.toInt > (6 : Int) := gl_lt c2
      refine lv_ldc2 (v := (-1)) hx hb hown (hts _ wq_974) dX10_howOld_39 ?_
      exact W.lret (v := (-1)) hx hb hr (fun t ht hW => ⟨⟨(-1), (z, y), rfl, (gaL_n (by omega)), by rw [ht]; exact hP, va_K.moved hW.alike hK⟩, hS.F ht⟩) hS.2.2 dX10_howOld_42
    · have t2 : a1.toInt ≤ (6 : Int) := gl_nlt c2
      refine lv_iload_n hx hb dX10_howOld_11 rfl (lv_at hl 2 rfl) ?_
      refine lv_if_lt (tgt := 39) hx hb dX10_howOld_12 (by decide) (fun c3 => ?_) (fun c3 => ?_)
      · have t3 : a2.toInt < (0 : Int) := gl_lt c3
        refine lv_ldc2 (v := (-1)) hx hb hown (hts _ wq_974) dX10_howOld_39 ?_
        exact W.lret (v := (-1)) hx hb hr (fun t ht hW => ⟨⟨(-1), (z, y), rfl, (gaL_n (by omega)), by rw [ht]; exact hP, va_K.moved hW.alike hK⟩, hS.F ht⟩) hS.2.2 dX10_howOld_42
      · have t3 : a2.toInt ≥ (0 : Int) := gl_nlt c3
        refine lv_iload_n hx hb dX10_howOld_15 rfl (lv_at hl 2 rfl) ?_
        refine lv_sipush (v := 400) hx hb dX10_howOld_16 (by decide) ?_
        refine lv_icmp_gt (tgt := 39) hx hb dX10_howOld_19 (by decide) (fun c4 => ?_) (fun c4 => ?_)
        · have t4 : a2.toInt > (400 : Int) := gl_lt c4
          refine lv_ldc2 (v := (-1)) hx hb hown (hts _ wq_974) dX10_howOld_39 ?_
          exact W.lret (v := (-1)) hx hb hr (fun t ht hW => ⟨⟨(-1), (z, y), rfl, (gaL_n (by omega)), by rw [ht]; exact hP, va_K.moved hW.alike hK⟩, hS.F ht⟩) hS.2.2 dX10_howOld_42
        · have t4 : a2.toInt ≤ (400 : Int) := gl_nlt c4
          refine lv_iload_n hx hb dX10_howOld_22 rfl (lv_at hl 3 rfl) ?_
          refine lv_if_lt (tgt := 39) hx hb dX10_howOld_23 (by decide) (fun c5 => ?_) (fun c5 => ?_)
          · have t5 : a3.toInt < (0 : Int) := gl_lt c5
            refine lv_ldc2 (v := (-1)) hx hb hown (hts _ wq_974) dX10_howOld_39 ?_
            exact W.lret (v := (-1)) hx hb hr (fun t ht hW => ⟨⟨(-1), (z, y), rfl, (gaL_n (by omega)), by rw [ht]; exact hP, va_K.moved hW.alike hK⟩, hS.F ht⟩) hS.2.2 dX10_howOld_42
          · have t5 : a3.toInt ≥ (0 : Int) := gl_nlt c5
            refine lv_iload hx hb dX10_howOld_26 (lv_at hl 4 rfl) ?_
            refine lv_bipush (v := 99) hx hb dX10_howOld_28 (by decide) ?_
            refine lv_icmp_gt (tgt := 39) hx hb dX10_howOld_30 (by decide) (fun c6 => ?_) (fun c6 => ?_)
            · have t6 : a4.toInt > (99 : Int) := gl_lt c6
              refine lv_ldc2 (v := (-1)) hx hb hown (hts _ wq_974) dX10_howOld_39 ?_
              exact W.lret (v := (-1)) hx hb hr (fun t ht hW => ⟨⟨(-1), (z, y), rfl, (gaL_n (by omega)), by rw [ht]; exact hP, va_K.moved hW.alike hK⟩, hS.F ht⟩) hS.2.2 dX10_howOld_42
            · have t6 : a4.toInt ≤ (99 : Int) := gl_nlt c6
              refine lv_iload_n hx hb dX10_howOld_33 rfl (lv_at hl 3 rfl) ?_
              refine lv_iload hx hb dX10_howOld_34 (lv_at hl 4 rfl) ?_
              refine lv_icmp_le (tgt := 43) hx hb dX10_howOld_36 (by decide) (fun c7 => ?_) (fun c7 => ?_)
              · have t7 : a3.toInt ≤ a4.toInt := gl_le c7
                refine lv_sipush (v := 401) hx hb dX10_howOld_43 (by decide) ?_
                refine lv_istore (lv' := [(5, .int 401), (0, .ref (o + 0)), (1, .int a1), (2, .int a2), (3, .int a3), (4, .int a4)]) hx hb dX10_howOld_46 hl (by decide) rfl (fun ls hl => ?_)
                refine lv_aload_n hx hb dX10_howOld_48 rfl (lv_at hl 1 rfl) ?_
                refine qf_get hx hb hts inX10 hown hK hP (q0 := 0) (by decide) (hgU_0 ca o) rfl 14 (by decide) wq_367 (v := .ref (o + 131)) rfl dX10_howOld_49 ?_
                refine lv_lconst (v := 0) hx hb dX10_howOld_52 (by decide) ?_
                refine qc_Sv (As := [.ref (o + 131), .long 0]) (rest := []) (k0 := 2) (u1_fillWays l D ca o z y) kc_yJ7_fill_d0a16 ⟨hx, hb, hml, hown, hts⟩ wq_975 rfl rfl ⟨Nat.le_of_ble_eq_true rfl, Nat.le_of_ble_eq_true rfl⟩ wq_all hP hK hS qw_Ai rfl hl.1 rfl (Nat.le_of_ble_eq_true rfl) dX10_howOld_53 ⟨Nat.zero_le _, Nat.zero_le _⟩ (fun u8 H locs h8 hP hS _ _ => ?_)
                obtain ⟨z8, y8⟩ := u8
                obtain ⟨hz8, hn8⟩ := h8
                dsimp only at hz8 hn8 hP
                rw [hz8] at hP
                refine lv_aload_n hx hb dX10_howOld_56 rfl (lv_at hl 1 rfl) ?_
                refine qf_get hx hb hts inX10 hown hK hP (q0 := 0) (by decide) (hgU_0 ca o) rfl 14 (by decide) wq_367 (v := .ref (o + 131)) rfl dX10_howOld_57 ?_
                refine lv_iconst (v := 0) hx hb dX10_howOld_60 (by decide) ?_
                refine lv_lconst (v := 1) hx hb dX10_howOld_61 (by decide) ?_
                refine qa_last hx hb hK hP hS qw_Ai (q0 := 131) (by decide) 1 (N := 2807) (hgU_131 ca o) rfl (gi_in (by decide) (by decide)) dX10_howOld_62 (fun H locs hP hS => ?_)
                refine lv_iload_n hx hb dX10_howOld_63 rfl (lv_at hl 4 rfl) ?_
                refine lv_istore (lv' := [(6, .int a3), (5, .int 401), (0, .ref (o + 0)), (1, .int a1), (2, .int a2), (3, .int a3), (4, .int a4)]) hx hb dX10_howOld_64 hl (by decide) rfl (fun ls hl => ?_)
                obtain ⟨N, hN⟩ := Int.eq_ofNat_of_zero_le (show 0 ≤ a1.toInt from by omega)
                obtain ⟨M, hM⟩ := Int.eq_ofNat_of_zero_le (show 0 ≤ a2.toInt from by omega)
                obtain ⟨L, hL⟩ := Int.eq_ofNat_of_zero_le (show 0 ≤ a3.toInt from by omega)
                obtain ⟨T, hT⟩ := Int.eq_ofNat_of_zero_le (show 0 ≤ a4.toInt from by omega)
                have loop9 : ∀ (n i9 : Nat) (x9 : Int32) (y9 : Nat → Nat → Int64) (f9 : Nat → Int64), (T + 1) < i9 + n → i9 ≤ (T + 1) → L ≤ i9 → x9.toInt = (i9 : Int) → (∀ j : Nat, j < 2807 → y9 131 j = f9 j) → (ho3 M N (T + 1 - i9) i9 f9 = ho3 M N (T + 1 - L) L ho0) → ∀ (H : Heap) (locs : List Loc), qw_P D vwCl o 132 (qG (GU ca o) z y9) H → va_S (qw_A o 132) s.heap H locs → ∀ (ls : Array Slot), lv_has ls 9 [(6, .int x9), (5, .int 401), (0, .ref (o + 0)), (1, .int a1), (2, .int a2), (3, .int a3), (4, .int a4)] → W p l e (headSpec (Cond.code yX10_howOld cX10_howOld 9 (some .long) :: qtbl) ({ frames := 2, cells := 0, slots := 0, locals := 84 })).room s m (([.ref (o + 0), .int a1, .int a2, .int a3, .int a4] : List Value).toArray) below meth c H locs 0 0 (MQ below (va_Ql (fun r _ => r = A_howOld a1 a2 a3 a4) (qB D vwCl (qT6 ca) o 132 (fun u : qZ => qG (GU ca o) u.1 u.2)) (qw_A o 132)) (([.ref (o + 0), .int a1, .int a2, .int a3, .int a4] : List Value).toArray) s 0 0 (qw_A o 132)) (F0 m 66 ls []) := by
                  intro n
                  induction n with
                  | zero => intro i9 x9 y9 f9 hb9 hi9; exact absurd hb9 (by omega)
                  | succ n9 ih9 =>
                    intro i9 x9 y9 f9 hb9 hi9 ho9 hx9 a9 b9 H locs hP hS ls hl
                    refine lv_iload hx hb dX10_howOld_66 (lv_at hl 0 rfl) ?_
                    refine lv_iload hx hb dX10_howOld_68 (lv_at hl 6 rfl) ?_
                    refine lv_icmp_gt (tgt := 144) hx hb dX10_howOld_70 (by decide) (fun c10 => ?_) (fun c10 => ?_)
                    · have t10 : x9.toInt > a4.toInt := gl_lt c10
                      refine lv_aload_n hx hb dX10_howOld_144 rfl (lv_at hl 2 rfl) ?_
                      refine qf_get hx hb hts inX10 hown hK hP (q0 := 0) (by decide) (hgU_0 ca o) rfl 14 (by decide) wq_367 (v := .ref (o + 131)) rfl dX10_howOld_145 ?_
                      refine lv_iload_n hx hb dX10_howOld_148 rfl (lv_at hl 3 rfl) ?_
                      refine lv_iload hx hb dX10_howOld_149 (lv_at hl 1 rfl) ?_
                      refine lv_imul hx hb dX10_howOld_151 ?_
                      refine lv_topi (fun x11 e11 => ?_)
                      have t11 : x11.toInt = a1.toInt * (401 : Int) := by rw [e11]; exact gi_mul (by show (_ : Int) ≤ a1.toInt * (401 : Int); omega) (by show a1.toInt * (401 : Int) ≤ (_ : Int); omega)
                      refine lv_iload_n hx hb dX10_howOld_152 rfl (lv_at hl 4 rfl) ?_
                      refine lv_iadd hx hb dX10_howOld_153 ?_
                      refine lv_topi (fun x12 e12 => ?_)
                      have t12 : x12.toInt = x11.toInt + a2.toInt := by rw [e12]; exact gi_add (by show (_ : Int) ≤ x11.toInt + a2.toInt; omega) (by show x11.toInt + a2.toInt ≤ (_ : Int); omega)
                      refine qa_lald hx hb hK hP (q0 := 131) (by decide) 1 (N := 2807) (hgU_131 ca o) rfl (gi_in (by omega) (by omega)) dX10_howOld_154 ?_
                      refine lv_topl (fun j13 e13 => ?_)
                      exact W.lret (v := j13) hx hb hr (fun t ht hW => ⟨⟨j13, (z, y9), rfl, (ho_end hN hM hL hT (by omega) (by rw [e13, ho_ld a9 (m := 401 * N + M) (by omega) (by omega), ho3_e (by omega) b9])), by rw [ht]; exact hP, va_K.moved hW.alike hK⟩, hS.F ht⟩) hS.2.2 dX10_howOld_155
                    · have t10 : x9.toInt ≤ a4.toInt := gl_nlt c10
                      refine lv_iconst (v := 1) hx hb dX10_howOld_73 (by decide) ?_
                      refine lv_istore (lv' := [(7, .int 1), (6, .int x9), (5, .int 401), (0, .ref (o + 0)), (1, .int a1), (2, .int a2), (3, .int a3), (4, .int a4)]) hx hb dX10_howOld_74 hl (by decide) rfl (fun ls hl => ?_)
                      have loop14 : ∀ (n i14 : Nat) (x14 : Int32) (y14 : Nat → Nat → Int64) (f14 : Nat → Int64), (N + 1) < i14 + n → i14 ≤ (N + 1) → 1 ≤ i14 → x14.toInt = (i14 : Int) → (∀ j : Nat, j < 2807 → y14 131 j = f14 j) → (ho3 M N (T - i9) (i9 + 1) (ho2 i9 M (N + 1 - i14) i14 f14) = ho3 M N (T + 1 - L) L ho0) → ∀ (H : Heap) (locs : List Loc), qw_P D vwCl o 132 (qG (GU ca o) z y14) H → va_S (qw_A o 132) s.heap H locs → ∀ (ls : Array Slot), lv_has ls 9 [(7, .int x14), (6, .int x9), (5, .int 401), (0, .ref (o + 0)), (1, .int a1), (2, .int a2), (3, .int a3), (4, .int a4)] → W p l e (headSpec (Cond.code yX10_howOld cX10_howOld 9 (some .long) :: qtbl) ({ frames := 2, cells := 0, slots := 0, locals := 84 })).room s m (([.ref (o + 0), .int a1, .int a2, .int a3, .int a4] : List Value).toArray) below meth c H locs 0 0 (MQ below (va_Ql (fun r _ => r = A_howOld a1 a2 a3 a4) (qB D vwCl (qT6 ca) o 132 (fun u : qZ => qG (GU ca o) u.1 u.2)) (qw_A o 132)) (([.ref (o + 0), .int a1, .int a2, .int a3, .int a4] : List Value).toArray) s 0 0 (qw_A o 132)) (F0 m 76 ls []) := by
                        intro n
                        induction n with
                        | zero => intro i14 x14 y14 f14 hb14 hi14; exact absurd hb14 (by omega)
                        | succ n14 ih14 =>
                          intro i14 x14 y14 f14 hb14 hi14 ho14 hx14 a14 b14 H locs hP hS ls hl
                          refine lv_iload hx hb dX10_howOld_76 (lv_at hl 0 rfl) ?_
                          refine lv_iload_n hx hb dX10_howOld_78 rfl (lv_at hl 4 rfl) ?_
                          refine lv_icmp_gt (tgt := 138) hx hb dX10_howOld_79 (by decide) (fun c15 => ?_) (fun c15 => ?_)
                          · have t15 : x14.toInt > a1.toInt := gl_lt c15
                            obtain ⟨x16, e16⟩ : ∃ t : Int32, t = x9 + 1 := ⟨_, rfl⟩
                            refine lv_iinc (v := x16) (lv' := [(6, .int x16), (7, .int x14), (5, .int 401), (0, .ref (o + 0)), (1, .int a1), (2, .int a2), (3, .int a3), (4, .int a4)]) hx hb dX10_howOld_138 hl (k := 1) rfl (by rw [e16]; rfl) (by decide) rfl (fun ls hl => ?_)
                            have t16 : x16.toInt = x9.toInt + (1 : Int) := by rw [e16]; exact gi_add (by show (_ : Int) ≤ x9.toInt + (1 : Int); omega) (by show x9.toInt + (1 : Int) ≤ (_ : Int); omega)
                            refine lv_goto (tgt := 66) hx hb dX10_howOld_141 (by decide) ?_
                            exact ih9 (i9 + 1) x16 y14 f14 (by omega) (by omega) (by omega) (by rw [e16]; rw [gi_add (by rw [hx9]; show _ ≤ _ + (1 : Int); omega) (by rw [hx9]; show _ + (1 : Int) ≤ _; omega), hx9]; rfl) (a14) (ho2_e (by omega) (by omega) b14) _ _ hP hS _ (lv_sub hl [0, 2, 3, 4, 5, 6, 7] rfl)
                          · have t15 : x14.toInt ≤ a1.toInt := gl_nlt c15
                            refine lv_iload hx hb dX10_howOld_82 (lv_at hl 1 rfl) ?_
                            refine lv_istore (lv' := [(8, .int x9), (7, .int x14), (6, .int x9), (5, .int 401), (0, .ref (o + 0)), (1, .int a1), (2, .int a2), (3, .int a3), (4, .int a4)]) hx hb dX10_howOld_84 hl (by decide) rfl (fun ls hl => ?_)
                            have loop17 : ∀ (n i17 : Nat) (x17 : Int32) (y17 : Nat → Nat → Int64) (f17 : Nat → Int64), (M + 100) < i17 + n → i17 ≤ (M + 100) → i9 ≤ i17 → x17.toInt = (i17 : Int) → (∀ j : Nat, j < 2807 → y17 131 j = f17 j) → (ho3 M N (T - i9) (i9 + 1) (ho2 i9 M (N - i14) (i14 + 1) (ho1 i9 i14 (M + 1 - i17) i17 f17)) = ho3 M N (T + 1 - L) L ho0) → ∀ (H : Heap) (locs : List Loc), qw_P D vwCl o 132 (qG (GU ca o) z y17) H → va_S (qw_A o 132) s.heap H locs → ∀ (ls : Array Slot), lv_has ls 9 [(8, .int x17), (7, .int x14), (6, .int x9), (5, .int 401), (0, .ref (o + 0)), (1, .int a1), (2, .int a2), (3, .int a3), (4, .int a4)] → W p l e (headSpec (Cond.code yX10_howOld cX10_howOld 9 (some .long) :: qtbl) ({ frames := 2, cells := 0, slots := 0, locals := 84 })).room s m (([.ref (o + 0), .int a1, .int a2, .int a3, .int a4] : List Value).toArray) below meth c H locs 0 0 (MQ below (va_Ql (fun r _ => r = A_howOld a1 a2 a3 a4) (qB D vwCl (qT6 ca) o 132 (fun u : qZ => qG (GU ca o) u.1 u.2)) (qw_A o 132)) (([.ref (o + 0), .int a1, .int a2, .int a3, .int a4] : List Value).toArray) s 0 0 (qw_A o 132)) (F0 m 86 ls []) := by
                              intro n
                              induction n with
                              | zero => intro i17 x17 y17 f17 hb17 hi17; exact absurd hb17 (by omega)
                              | succ n17 ih17 =>
                                intro i17 x17 y17 f17 hb17 hi17 ho17 hx17 a17 b17 H locs hP hS ls hl
                                refine lv_iload hx hb dX10_howOld_86 (lv_at hl 0 rfl) ?_
                                refine lv_iload_n hx hb dX10_howOld_88 rfl (lv_at hl 6 rfl) ?_
                                refine lv_icmp_gt (tgt := 132) hx hb dX10_howOld_89 (by decide) (fun c18 => ?_) (fun c18 => ?_)
                                · have t18 : x17.toInt > a2.toInt := gl_lt c18
                                  obtain ⟨x19, e19⟩ : ∃ t : Int32, t = x14 + 1 := ⟨_, rfl⟩
                                  refine lv_iinc (v := x19) (lv' := [(7, .int x19), (8, .int x17), (6, .int x9), (5, .int 401), (0, .ref (o + 0)), (1, .int a1), (2, .int a2), (3, .int a3), (4, .int a4)]) hx hb dX10_howOld_132 hl (k := 1) rfl (by rw [e19]; rfl) (by decide) rfl (fun ls hl => ?_)
                                  have t19 : x19.toInt = x14.toInt + (1 : Int) := by rw [e19]; exact gi_add (by show (_ : Int) ≤ x14.toInt + (1 : Int); omega) (by show x14.toInt + (1 : Int) ≤ (_ : Int); omega)
                                  refine lv_goto (tgt := 76) hx hb dX10_howOld_135 (by decide) ?_
                                  exact ih14 (i14 + 1) x19 y17 f17 (by omega) (by omega) (by omega) (by rw [e19]; rw [gi_add (by rw [hx14]; show _ ≤ _ + (1 : Int); omega) (by rw [hx14]; show _ + (1 : Int) ≤ _; omega), hx14]; rfl) (a17) (ho1_e (by omega) (by omega) b17) _ _ hP hS _ (lv_sub hl [0, 2, 3, 4, 5, 6, 7, 8] rfl)
                                · have t18 : x17.toInt ≤ a2.toInt := gl_nlt c18
                                  refine lv_aload_n hx hb dX10_howOld_92 rfl (lv_at hl 4 rfl) ?_
                                  refine qf_get hx hb hts inX10 hown hK hP (q0 := 0) (by decide) (hgU_0 ca o) rfl 14 (by decide) wq_367 (v := .ref (o + 131)) rfl dX10_howOld_93 ?_
                                  refine lv_iload hx hb dX10_howOld_96 (lv_at hl 1 rfl) ?_
                                  refine lv_iload hx hb dX10_howOld_98 (lv_at hl 3 rfl) ?_
                                  refine lv_imul hx hb dX10_howOld_100 ?_
                                  refine lv_topi (fun x20 e20 => ?_)
                                  have t20 : x20.toInt = x14.toInt * (401 : Int) := by rw [e20]; exact gi_mul (by show (_ : Int) ≤ x14.toInt * (401 : Int); omega) (by show x14.toInt * (401 : Int) ≤ (_ : Int); omega)
                                  refine lv_iload hx hb dX10_howOld_101 (lv_at hl 0 rfl) ?_
                                  refine lv_iadd hx hb dX10_howOld_103 ?_
                                  refine lv_topi (fun x21 e21 => ?_)
                                  have t21 : x21.toInt = x20.toInt + x17.toInt := by rw [e21]; exact gi_add (by show (_ : Int) ≤ x20.toInt + x17.toInt; omega) (by show x20.toInt + x17.toInt ≤ (_ : Int); omega)
                                  refine lv_dup2_11 hx hb dX10_howOld_104 rfl rfl ?_
                                  refine qa_lald hx hb hK hP (q0 := 131) (by decide) 1 (N := 2807) (hgU_131 ca o) rfl (gi_in (by omega) (by omega)) dX10_howOld_105 ?_
                                  refine lv_topl (fun j22 e22 => ?_)
                                  refine lv_aload_n hx hb dX10_howOld_106 rfl (lv_at hl 4 rfl) ?_
                                  refine qf_get hx hb hts inX10 hown hK hP (q0 := 0) (by decide) (hgU_0 ca o) rfl 14 (by decide) wq_367 (v := .ref (o + 131)) rfl dX10_howOld_107 ?_
                                  refine lv_iload hx hb dX10_howOld_110 (lv_at hl 1 rfl) ?_
                                  refine lv_iconst (v := 1) hx hb dX10_howOld_112 (by decide) ?_
                                  refine lv_isub hx hb dX10_howOld_113 ?_
                                  refine lv_topi (fun x23 e23 => ?_)
                                  have t23 : x23.toInt = x14.toInt - (1 : Int) := by rw [e23]; exact gi_sub (by show (_ : Int) ≤ x14.toInt - (1 : Int); omega) (by show x14.toInt - (1 : Int) ≤ (_ : Int); omega)
                                  refine lv_iload hx hb dX10_howOld_114 (lv_at hl 3 rfl) ?_
                                  refine lv_imul hx hb dX10_howOld_116 ?_
                                  refine lv_topi (fun x24 e24 => ?_)
                                  have t24 : x24.toInt = x23.toInt * (401 : Int) := by rw [e24]; exact gi_mul (by show (_ : Int) ≤ x23.toInt * (401 : Int); omega) (by show x23.toInt * (401 : Int) ≤ (_ : Int); omega)
                                  refine lv_iload hx hb dX10_howOld_117 (lv_at hl 0 rfl) ?_
                                  refine lv_iadd hx hb dX10_howOld_119 ?_
                                  refine lv_topi (fun x25 e25 => ?_)
                                  have t25 : x25.toInt = x24.toInt + x17.toInt := by rw [e25]; exact gi_add (by show (_ : Int) ≤ x24.toInt + x17.toInt; omega) (by show x24.toInt + x17.toInt ≤ (_ : Int); omega)
                                  refine lv_iload hx hb dX10_howOld_120 (lv_at hl 2 rfl) ?_
                                  refine lv_isub hx hb dX10_howOld_122 ?_
                                  refine lv_topi (fun x26 e26 => ?_)
                                  have t26 : x26.toInt = x25.toInt - x9.toInt := by rw [e26]; exact gi_sub (by show (_ : Int) ≤ x25.toInt - x9.toInt; omega) (by show x25.toInt - x9.toInt ≤ (_ : Int); omega)
                                  refine qa_lald hx hb hK hP (q0 := 131) (by decide) 1 (N := 2807) (hgU_131 ca o) rfl (gi_in (by omega) (by omega)) dX10_howOld_123 ?_
                                  refine lv_topl (fun j27 e27 => ?_)
                                  refine lv_ladd hx hb dX10_howOld_124 ?_
                                  refine lv_topl (fun j28 e28 => ?_)
                                  refine qa_last hx hb hK hP hS qw_Ai (q0 := 131) (by decide) 1 (N := 2807) (hgU_131 ca o) rfl (gi_in (by omega) (by omega)) dX10_howOld_125 (fun H locs hP hS => ?_)
                                  obtain ⟨x29, e29⟩ : ∃ t : Int32, t = x17 + 1 := ⟨_, rfl⟩
                                  refine lv_iinc (v := x29) (lv' := [(8, .int x29), (7, .int x14), (6, .int x9), (5, .int 401), (0, .ref (o + 0)), (1, .int a1), (2, .int a2), (3, .int a3), (4, .int a4)]) hx hb dX10_howOld_126 hl (k := 0) rfl (by rw [e29]; rfl) (by decide) rfl (fun ls hl => ?_)
                                  have t29 : x29.toInt = x17.toInt + (1 : Int) := by rw [e29]; exact gi_add (by show (_ : Int) ≤ x17.toInt + (1 : Int); omega) (by show x17.toInt + (1 : Int) ≤ (_ : Int); omega)
                                  refine lv_goto (tgt := 86) hx hb dX10_howOld_129 (by decide) ?_
                                  exact ih17 (i17 + 1) x29 (qul y17 131 (x21.toNatClampNeg) j28) (vp_updL f17 (401 * i14 + i17) (f17 (401 * i14 + i17) + f17 (401 * (i14 - 1) + i17 - i9))) (by omega) (by omega) (by omega) (by rw [e29]; rw [gi_add (by rw [hx17]; show _ ≤ _ + (1 : Int); omega) (by rw [hx17]; show _ + (1 : Int) ≤ _; omega), hx17]; rfl) (ho_upd a17 (m := 401 * i14 + i17) (by omega) (by rw [e28, e22, e27, ho_ld a17 (m := 401 * i14 + i17) (by omega) (by omega), ho_ld a17 (m := 401 * (i14 - 1) + i17 - i9) (by omega) (by omega)])) (ho1_s (by omega) b17) _ _ hP hS _ (lv_sub hl [0, 1, 2, 3, 4, 5, 6, 7, 8] rfl)
                            exact loop17 ((M + 100) + 1) i9 x9 y14 f14 (by omega) (by omega) (by omega) hx9 (a14) (ho2_s (by omega) b14) _ _ hP hS _ (lv_sub hl [0, 1, 2, 3, 4, 5, 6, 7, 8] rfl)
                      exact loop14 ((N + 1) + 1) 1 1 y9 f9 (by omega) (by omega) (by omega) rfl (a9) (ho3_s (by omega) b9) _ _ hP hS _ (lv_sub hl [0, 1, 2, 3, 4, 5, 6, 7] rfl)
                exact loop9 ((T + 1) + 1) L a3 (qul y8 131 ((0 : Int32).toNatClampNeg) 1) ho0 (by omega) (by omega) (by omega) hL (ho_first hn8) (rfl) _ _ hP hS _ (lv_sub hl [0, 1, 2, 3, 4, 5, 6] rfl)
              · have t7 : a3.toInt > a4.toInt := gl_nle c7
                refine lv_ldc2 (v := (-1)) hx hb hown (hts _ wq_974) dX10_howOld_39 ?_
                exact W.lret (v := (-1)) hx hb hr (fun t ht hW => ⟨⟨(-1), (z, y), rfl, (gaL_n (by omega)), by rw [ht]; exact hP, va_K.moved hW.alike hK⟩, hS.F ht⟩) hS.2.2 dX10_howOld_42

set_option maxRecDepth 100000 in
set_option maxHeartbeats 4000000 in
theorem mP_howOld (l : Launch) (D : va_G) (ca : Nat → ClassId) (o : Nat) (z : Nat → Nat → Int32) (y : Nat → Nat → Int64) (a1 a2 a3 a4 : Int32) (h0_4 : z 0 4 = 0) (h0_5 : z 0 5 = 0) (h0_6 : z 0 6 = 0) (h0_15 : z 0 15 = 0) (h0_61 : z 0 61 = 0) : qM l yX11_howOld cX11_howOld 8 (some .long) 2 82 (qPre D vwCl (qT6 ca) o 41 (qG (GM ca o) z y) [.ref (o + 0), .int a1, .int a2, .int a3, .int a4]) (va_Ql (fun r _ => r = A_howOld a1 a2 a3 a4) (qB D vwCl (qT6 ca) o 41 (fun u : qZ => qG (GM ca o) u.1 u.2)) (qw_A o 41)) (qw_A o 41) := by
  refine Met.ofW (cc := cX11_howOld) (maxL := 8) (ret := (some .long)) (by decide) rfl ?_
  intro p e s m args below meth c s₁ B hml hv
  obtain ⟨rfl, hP, hK⟩ := hv
  have hx := B.exec
  have hb := B.bytes
  have hr := B.returns
  have hts0 := atoms_spec (ws := Cond.code yX11_howOld cX11_howOld 8 (some .long) :: qtbl) B.pre
  have hts : ∀ w ∈ qtbl, w.before _ s = true := fun w h => hts0 w (List.mem_cons_of_mem _ h)
  have hown : s.vm.findClass RX11 = some m.cls := findClass_of_methodNamed B.named
  have hlocks := B.notSynchronized
  have hz0 : (0 : Int32).toInt = 0 := rfl
  have hS : va_S (qw_A o 41) s.heap s.heap [] := va_S.rf
  have hl := lv_entry ([.ref (o + 0), .int a1, .int a2, .int a3, .int a4]) (n := 8) (Nat.le_of_ble_eq_true rfl)
  rw [lg_entry_eq]
  generalize (lg_sl ([.ref (o + 0), .int a1, .int a2, .int a3, .int a4]) ++ List.replicate (8 - (lg_sl ([.ref (o + 0), .int a1, .int a2, .int a3, .int a4])).length) Slot.unset).toArray = ls at hl ⊢
  have hl : lv_has ls 8 [(0, .ref (o + 0)), (1, .int a1), (2, .int a2), (3, .int a3), (4, .int a4)] := hl
  refine lv_iload_n hx hb dX11_howOld_0 rfl (lv_at hl 1 rfl) ?_
  refine lv_iconst (v := 1) hx hb dX11_howOld_1 (by decide) ?_
  refine lv_bipush (v := 6) hx hb dX11_howOld_2 (by decide) ?_
  refine qc_Si (As := [.int a1, .int 1, .int 6]) (rest := []) (k0 := 3) (m1_in l D ca o z y a1 1 6) kc_yX11_in ⟨hx, hb, hml, hown, hts⟩ wq_1187 rfl rfl ⟨Nat.le_of_ble_eq_true rfl, Nat.le_of_ble_eq_true rfl⟩ wq_all hP hK hS qw_Ai rfl hl.1 rfl (Nat.le_of_ble_eq_true rfl) dX11_howOld_4 ⟨Nat.zero_le _, Nat.zero_le _⟩ (fun r1 u1 H locs h1 hP hS _ _ => ?_)
  rcases h1 with ⟨h1r, h1a, h1b⟩ | ⟨h1r, h1a⟩
  · subst h1r
    have t1a : a1.toInt ≥ (1 : Int) := h1a
    have t1b : a1.toInt ≤ (6 : Int) := h1b
    refine lv_if_eq (tgt := 42) hx hb dX11_howOld_7 (by decide) (fun q => absurd q (by decide)) (fun _ => ?_)
    refine lv_iload_n hx hb dX11_howOld_10 rfl (lv_at hl 2 rfl) ?_
    refine lv_iconst (v := 0) hx hb dX11_howOld_11 (by decide) ?_
    refine lv_sipush (v := 400) hx hb dX11_howOld_12 (by decide) ?_
    refine qc_Si (As := [.int a2, .int 0, .int 400]) (rest := []) (k0 := 3) (m1_in l D ca o z y a2 0 400) kc_yX11_in ⟨hx, hb, hml, hown, hts⟩ wq_1187 rfl rfl ⟨Nat.le_of_ble_eq_true rfl, Nat.le_of_ble_eq_true rfl⟩ wq_all hP hK hS qw_Ai rfl hl.1 rfl (Nat.le_of_ble_eq_true rfl) dX11_howOld_15 ⟨Nat.zero_le _, Nat.zero_le _⟩ (fun r2 u2 H locs h2 hP hS _ _ => ?_)
    rcases h2 with ⟨h2r, h2a, h2b⟩ | ⟨h2r, h2a⟩
    · subst h2r
      have t2a : a2.toInt ≥ (0 : Int) := h2a
      have t2b : a2.toInt ≤ (400 : Int) := h2b
      refine lv_if_eq (tgt := 42) hx hb dX11_howOld_18 (by decide) (fun q => absurd q (by decide)) (fun _ => ?_)
      refine lv_iload_n hx hb dX11_howOld_21 rfl (lv_at hl 3 rfl) ?_
      refine lv_iconst (v := 0) hx hb dX11_howOld_22 (by decide) ?_
      refine lv_bipush (v := 99) hx hb dX11_howOld_23 (by decide) ?_
      refine qc_Si (As := [.int a3, .int 0, .int 99]) (rest := []) (k0 := 3) (m1_in l D ca o z y a3 0 99) kc_yX11_in ⟨hx, hb, hml, hown, hts⟩ wq_1187 rfl rfl ⟨Nat.le_of_ble_eq_true rfl, Nat.le_of_ble_eq_true rfl⟩ wq_all hP hK hS qw_Ai rfl hl.1 rfl (Nat.le_of_ble_eq_true rfl) dX11_howOld_25 ⟨Nat.zero_le _, Nat.zero_le _⟩ (fun r3 u3 H locs h3 hP hS _ _ => ?_)
      rcases h3 with ⟨h3r, h3a, h3b⟩ | ⟨h3r, h3a⟩
      · subst h3r
        have t3a : a3.toInt ≥ (0 : Int) := h3a
        have t3b : a3.toInt ≤ (99 : Int) := h3b
        refine lv_if_eq (tgt := 42) hx hb dX11_howOld_28 (by decide) (fun q => absurd q (by decide)) (fun _ => ?_)
        refine lv_iload hx hb dX11_howOld_31 (lv_at hl 4 rfl) ?_
        refine lv_iload_n hx hb dX11_howOld_33 rfl (lv_at hl 3 rfl) ?_
        refine lv_bipush (v := 99) hx hb dX11_howOld_34 (by decide) ?_
        refine qc_Si (As := [.int a4, .int a3, .int 99]) (rest := []) (k0 := 3) (m1_in l D ca o z y a4 a3 99) kc_yX11_in ⟨hx, hb, hml, hown, hts⟩ wq_1187 rfl rfl ⟨Nat.le_of_ble_eq_true rfl, Nat.le_of_ble_eq_true rfl⟩ wq_all hP hK hS qw_Ai rfl hl.1 rfl (Nat.le_of_ble_eq_true rfl) dX11_howOld_36 ⟨Nat.zero_le _, Nat.zero_le _⟩ (fun r4 u4 H locs h4 hP hS _ _ => ?_)
        rcases h4 with ⟨h4r, h4a, h4b⟩ | ⟨h4r, h4a⟩
        · subst h4r
          have t4a : a4.toInt ≥ a3.toInt := h4a
          have t4b : a4.toInt ≤ (99 : Int) := h4b
          refine lv_if_ne (tgt := 46) hx hb dX11_howOld_39 (by decide) (fun _ => ?_) (fun q => absurd q (by decide))
          refine lv_iconst (v := 0) hx hb dX11_howOld_46 (by decide) ?_
          refine lv_istore (lv' := [(5, .int 0), (0, .ref (o + 0)), (1, .int a1), (2, .int a2), (3, .int a3), (4, .int a4)]) hx hb dX11_howOld_47 hl (by decide) rfl (fun ls hl => ?_)
          have loop5 : ∀ (n i5 : Nat) (x5 : Int32) (y5 : Nat → Nat → Int64), 2807 < i5 + n → i5 ≤ 2807 → 0 ≤ i5 → x5.toInt = (i5 : Int) → (∀ j : Nat, j < i5 → y5 39 j = 0) → ∀ (H : Heap) (locs : List Loc), qw_P D vwCl o 41 (qG (GM ca o) z y5) H → va_S (qw_A o 41) s.heap H locs → ∀ (ls : Array Slot), lv_has ls 8 [(5, .int x5), (0, .ref (o + 0)), (1, .int a1), (2, .int a2), (3, .int a3), (4, .int a4)] → W p l e (headSpec (Cond.code yX11_howOld cX11_howOld 8 (some .long) :: qtbl) ({ frames := 2, cells := 0, slots := 0, locals := 82 })).room s m (([.ref (o + 0), .int a1, .int a2, .int a3, .int a4] : List Value).toArray) below meth c H locs 0 0 (MQ below (va_Ql (fun r _ => r = A_howOld a1 a2 a3 a4) (qB D vwCl (qT6 ca) o 41 (fun u : qZ => qG (GM ca o) u.1 u.2)) (qw_A o 41)) (([.ref (o + 0), .int a1, .int a2, .int a3, .int a4] : List Value).toArray) s 0 0 (qw_A o 41)) (F0 m 49 ls []) := by
            intro n
            induction n with
            | zero => intro i5 x5 y5 hb5 hi5; exact absurd hb5 (by omega)
            | succ n5 ih5 =>
              intro i5 x5 y5 hb5 hi5 ho5 hx5 n5 H locs hP hS ls hl
              refine lv_iload hx hb dX11_howOld_49 (lv_at hl 0 rfl) ?_
              refine lv_sipush (v := 2807) hx hb dX11_howOld_51 (by decide) ?_
              refine lv_icmp_ge (tgt := 71) hx hb dX11_howOld_54 (by decide) (fun c6 => ?_) (fun c6 => ?_)
              · have t6 : x5.toInt ≥ (2807 : Int) := gl_le c6
                refine lv_aload_n hx hb dX11_howOld_71 rfl (lv_at hl 1 rfl) ?_
                refine qf_get hx hb hts inX11 hown hK hP (q0 := 0) (by decide) (hgM_0 ca o) rfl 59 (by decide) wq_1051 (v := .ref (o + 39)) rfl dX11_howOld_72 ?_
                refine lv_iconst (v := 0) hx hb dX11_howOld_75 (by decide) ?_
                refine lv_lconst (v := 1) hx hb dX11_howOld_76 (by decide) ?_
                refine qa_last hx hb hK hP hS qw_Ai (q0 := 39) (by decide) 1 (N := 2807) (hgM_39 ca o) rfl (gi_in (by decide) (by decide)) dX11_howOld_77 (fun H locs hP hS => ?_)
                refine lv_iload_n hx hb dX11_howOld_78 rfl (lv_at hl 4 rfl) ?_
                refine lv_istore (lv' := [(5, .int a3), (0, .ref (o + 0)), (1, .int a1), (2, .int a2), (3, .int a3), (4, .int a4)]) hx hb dX11_howOld_79 hl (by decide) rfl (fun ls hl => ?_)
                obtain ⟨N, hN⟩ := Int.eq_ofNat_of_zero_le (show 0 ≤ a1.toInt from by omega)
                obtain ⟨M, hM⟩ := Int.eq_ofNat_of_zero_le (show 0 ≤ a2.toInt from by omega)
                obtain ⟨L, hL⟩ := Int.eq_ofNat_of_zero_le (show 0 ≤ a3.toInt from by omega)
                obtain ⟨T, hT⟩ := Int.eq_ofNat_of_zero_le (show 0 ≤ a4.toInt from by omega)
                have loop7 : ∀ (n i7 : Nat) (x7 : Int32) (y7 : Nat → Nat → Int64) (f7 : Nat → Int64), (T + 1) < i7 + n → i7 ≤ (T + 1) → L ≤ i7 → x7.toInt = (i7 : Int) → (∀ j : Nat, j < 2807 → y7 39 j = f7 j) → (ho3 M N (T + 1 - i7) i7 f7 = ho3 M N (T + 1 - L) L ho0) → ∀ (H : Heap) (locs : List Loc), qw_P D vwCl o 41 (qG (GM ca o) z y7) H → va_S (qw_A o 41) s.heap H locs → ∀ (ls : Array Slot), lv_has ls 8 [(5, .int x7), (0, .ref (o + 0)), (1, .int a1), (2, .int a2), (3, .int a3), (4, .int a4)] → W p l e (headSpec (Cond.code yX11_howOld cX11_howOld 8 (some .long) :: qtbl) ({ frames := 2, cells := 0, slots := 0, locals := 82 })).room s m (([.ref (o + 0), .int a1, .int a2, .int a3, .int a4] : List Value).toArray) below meth c H locs 0 0 (MQ below (va_Ql (fun r _ => r = A_howOld a1 a2 a3 a4) (qB D vwCl (qT6 ca) o 41 (fun u : qZ => qG (GM ca o) u.1 u.2)) (qw_A o 41)) (([.ref (o + 0), .int a1, .int a2, .int a3, .int a4] : List Value).toArray) s 0 0 (qw_A o 41)) (F0 m 81 ls []) := by
                  intro n
                  induction n with
                  | zero => intro i7 x7 y7 f7 hb7 hi7; exact absurd hb7 (by omega)
                  | succ n7 ih7 =>
                    intro i7 x7 y7 f7 hb7 hi7 ho7 hx7 a7 b7 H locs hP hS ls hl
                    refine lv_iload hx hb dX11_howOld_81 (lv_at hl 0 rfl) ?_
                    refine lv_iload hx hb dX11_howOld_83 (lv_at hl 5 rfl) ?_
                    refine lv_icmp_gt (tgt := 173) hx hb dX11_howOld_85 (by decide) (fun c8 => ?_) (fun c8 => ?_)
                    · have t8 : x7.toInt > a4.toInt := gl_lt c8
                      refine lv_aload_n hx hb dX11_howOld_173 rfl (lv_at hl 1 rfl) ?_
                      refine qf_get hx hb hts inX11 hown hK hP (q0 := 0) (by decide) (hgM_0 ca o) rfl 59 (by decide) wq_1051 (v := .ref (o + 39)) rfl dX11_howOld_174 ?_
                      refine lv_sipush (v := 401) hx hb dX11_howOld_177 (by decide) ?_
                      refine lv_iload_n hx hb dX11_howOld_180 rfl (lv_at hl 2 rfl) ?_
                      refine lv_imul hx hb dX11_howOld_181 ?_
                      refine lv_topi (fun x9 e9 => ?_)
                      have t9 : x9.toInt = (401 : Int) * a1.toInt := by rw [e9]; exact gi_mul (by show (_ : Int) ≤ (401 : Int) * a1.toInt; omega) (by show (401 : Int) * a1.toInt ≤ (_ : Int); omega)
                      refine lv_iload_n hx hb dX11_howOld_182 rfl (lv_at hl 3 rfl) ?_
                      refine lv_iadd hx hb dX11_howOld_183 ?_
                      refine lv_topi (fun x10 e10 => ?_)
                      have t10 : x10.toInt = x9.toInt + a2.toInt := by rw [e10]; exact gi_add (by show (_ : Int) ≤ x9.toInt + a2.toInt; omega) (by show x9.toInt + a2.toInt ≤ (_ : Int); omega)
                      refine qa_lald hx hb hK hP (q0 := 39) (by decide) 1 (N := 2807) (hgM_39 ca o) rfl (gi_in (by omega) (by omega)) dX11_howOld_184 ?_
                      refine lv_topl (fun j11 e11 => ?_)
                      exact W.lret (v := j11) hx hb hr (fun t ht hW => ⟨⟨j11, (z, y7), rfl, (ho_end hN hM hL hT (by omega) (by rw [e11, ho_ld a7 (m := 401 * N + M) (by omega) (by omega), ho3_e (by omega) b7])), by rw [ht]; exact hP, va_K.moved hW.alike hK⟩, hS.F ht⟩) hS.2.2 dX11_howOld_185
                    · have t8 : x7.toInt ≤ a4.toInt := gl_nlt c8
                      refine lv_iconst (v := 1) hx hb dX11_howOld_88 (by decide) ?_
                      refine lv_istore (lv' := [(6, .int 1), (5, .int x7), (0, .ref (o + 0)), (1, .int a1), (2, .int a2), (3, .int a3), (4, .int a4)]) hx hb dX11_howOld_89 hl (by decide) rfl (fun ls hl => ?_)
                      have loop12 : ∀ (n i12 : Nat) (x12 : Int32) (y12 : Nat → Nat → Int64) (f12 : Nat → Int64), (N + 1) < i12 + n → i12 ≤ (N + 1) → 1 ≤ i12 → x12.toInt = (i12 : Int) → (∀ j : Nat, j < 2807 → y12 39 j = f12 j) → (ho3 M N (T - i7) (i7 + 1) (ho2 i7 M (N + 1 - i12) i12 f12) = ho3 M N (T + 1 - L) L ho0) → ∀ (H : Heap) (locs : List Loc), qw_P D vwCl o 41 (qG (GM ca o) z y12) H → va_S (qw_A o 41) s.heap H locs → ∀ (ls : Array Slot), lv_has ls 8 [(6, .int x12), (5, .int x7), (0, .ref (o + 0)), (1, .int a1), (2, .int a2), (3, .int a3), (4, .int a4)] → W p l e (headSpec (Cond.code yX11_howOld cX11_howOld 8 (some .long) :: qtbl) ({ frames := 2, cells := 0, slots := 0, locals := 82 })).room s m (([.ref (o + 0), .int a1, .int a2, .int a3, .int a4] : List Value).toArray) below meth c H locs 0 0 (MQ below (va_Ql (fun r _ => r = A_howOld a1 a2 a3 a4) (qB D vwCl (qT6 ca) o 41 (fun u : qZ => qG (GM ca o) u.1 u.2)) (qw_A o 41)) (([.ref (o + 0), .int a1, .int a2, .int a3, .int a4] : List Value).toArray) s 0 0 (qw_A o 41)) (F0 m 91 ls []) := by
                        intro n
                        induction n with
                        | zero => intro i12 x12 y12 f12 hb12 hi12; exact absurd hb12 (by omega)
                        | succ n12 ih12 =>
                          intro i12 x12 y12 f12 hb12 hi12 ho12 hx12 a12 b12 H locs hP hS ls hl
                          refine lv_iload hx hb dX11_howOld_91 (lv_at hl 0 rfl) ?_
                          refine lv_iload_n hx hb dX11_howOld_93 rfl (lv_at hl 3 rfl) ?_
                          refine lv_icmp_gt (tgt := 167) hx hb dX11_howOld_94 (by decide) (fun c13 => ?_) (fun c13 => ?_)
                          · have t13 : x12.toInt > a1.toInt := gl_lt c13
                            obtain ⟨x14, e14⟩ : ∃ t : Int32, t = x7 + 1 := ⟨_, rfl⟩
                            refine lv_iinc (v := x14) (lv' := [(5, .int x14), (6, .int x12), (0, .ref (o + 0)), (1, .int a1), (2, .int a2), (3, .int a3), (4, .int a4)]) hx hb dX11_howOld_167 hl (k := 1) rfl (by rw [e14]; rfl) (by decide) rfl (fun ls hl => ?_)
                            have t14 : x14.toInt = x7.toInt + (1 : Int) := by rw [e14]; exact gi_add (by show (_ : Int) ≤ x7.toInt + (1 : Int); omega) (by show x7.toInt + (1 : Int) ≤ (_ : Int); omega)
                            refine lv_goto (tgt := 81) hx hb dX11_howOld_170 (by decide) ?_
                            exact ih7 (i7 + 1) x14 y12 f12 (by omega) (by omega) (by omega) (by rw [e14]; rw [gi_add (by rw [hx7]; show _ ≤ _ + (1 : Int); omega) (by rw [hx7]; show _ + (1 : Int) ≤ _; omega), hx7]; rfl) (a12) (ho2_e (by omega) (by omega) b12) _ _ hP hS _ (lv_sub hl [0, 2, 3, 4, 5, 6] rfl)
                          · have t13 : x12.toInt ≤ a1.toInt := gl_nlt c13
                            refine lv_iload hx hb dX11_howOld_97 (lv_at hl 1 rfl) ?_
                            refine lv_istore (lv' := [(7, .int x7), (6, .int x12), (5, .int x7), (0, .ref (o + 0)), (1, .int a1), (2, .int a2), (3, .int a3), (4, .int a4)]) hx hb dX11_howOld_99 hl (by decide) rfl (fun ls hl => ?_)
                            have loop15 : ∀ (n i15 : Nat) (x15 : Int32) (y15 : Nat → Nat → Int64) (f15 : Nat → Int64), (M + 100) < i15 + n → i15 ≤ (M + 100) → i7 ≤ i15 → x15.toInt = (i15 : Int) → (∀ j : Nat, j < 2807 → y15 39 j = f15 j) → (ho3 M N (T - i7) (i7 + 1) (ho2 i7 M (N - i12) (i12 + 1) (ho1 i7 i12 (M + 1 - i15) i15 f15)) = ho3 M N (T + 1 - L) L ho0) → ∀ (H : Heap) (locs : List Loc), qw_P D vwCl o 41 (qG (GM ca o) z y15) H → va_S (qw_A o 41) s.heap H locs → ∀ (ls : Array Slot), lv_has ls 8 [(7, .int x15), (6, .int x12), (5, .int x7), (0, .ref (o + 0)), (1, .int a1), (2, .int a2), (3, .int a3), (4, .int a4)] → W p l e (headSpec (Cond.code yX11_howOld cX11_howOld 8 (some .long) :: qtbl) ({ frames := 2, cells := 0, slots := 0, locals := 82 })).room s m (([.ref (o + 0), .int a1, .int a2, .int a3, .int a4] : List Value).toArray) below meth c H locs 0 0 (MQ below (va_Ql (fun r _ => r = A_howOld a1 a2 a3 a4) (qB D vwCl (qT6 ca) o 41 (fun u : qZ => qG (GM ca o) u.1 u.2)) (qw_A o 41)) (([.ref (o + 0), .int a1, .int a2, .int a3, .int a4] : List Value).toArray) s 0 0 (qw_A o 41)) (F0 m 101 ls []) := by
                              intro n
                              induction n with
                              | zero => intro i15 x15 y15 f15 hb15 hi15; exact absurd hb15 (by omega)
                              | succ n15 ih15 =>
                                intro i15 x15 y15 f15 hb15 hi15 ho15 hx15 a15 b15 H locs hP hS ls hl
                                refine lv_iload hx hb dX11_howOld_101 (lv_at hl 0 rfl) ?_
                                refine lv_iload_n hx hb dX11_howOld_103 rfl (lv_at hl 5 rfl) ?_
                                refine lv_icmp_gt (tgt := 161) hx hb dX11_howOld_104 (by decide) (fun c16 => ?_) (fun c16 => ?_)
                                · have t16 : x15.toInt > a2.toInt := gl_lt c16
                                  obtain ⟨x17, e17⟩ : ∃ t : Int32, t = x12 + 1 := ⟨_, rfl⟩
                                  refine lv_iinc (v := x17) (lv' := [(6, .int x17), (7, .int x15), (5, .int x7), (0, .ref (o + 0)), (1, .int a1), (2, .int a2), (3, .int a3), (4, .int a4)]) hx hb dX11_howOld_161 hl (k := 1) rfl (by rw [e17]; rfl) (by decide) rfl (fun ls hl => ?_)
                                  have t17 : x17.toInt = x12.toInt + (1 : Int) := by rw [e17]; exact gi_add (by show (_ : Int) ≤ x12.toInt + (1 : Int); omega) (by show x12.toInt + (1 : Int) ≤ (_ : Int); omega)
                                  refine lv_goto (tgt := 91) hx hb dX11_howOld_164 (by decide) ?_
                                  exact ih12 (i12 + 1) x17 y15 f15 (by omega) (by omega) (by omega) (by rw [e17]; rw [gi_add (by rw [hx12]; show _ ≤ _ + (1 : Int); omega) (by rw [hx12]; show _ + (1 : Int) ≤ _; omega), hx12]; rfl) (a15) (ho1_e (by omega) (by omega) b15) _ _ hP hS _ (lv_sub hl [0, 2, 3, 4, 5, 6, 7] rfl)
                                · have t16 : x15.toInt ≤ a2.toInt := gl_nlt c16
                                  refine lv_aload_n hx hb dX11_howOld_107 rfl (lv_at hl 3 rfl) ?_
                                  refine qf_get hx hb hts inX11 hown hK hP (q0 := 0) (by decide) (hgM_0 ca o) rfl 59 (by decide) wq_1051 (v := .ref (o + 39)) rfl dX11_howOld_108 ?_
                                  refine lv_sipush (v := 401) hx hb dX11_howOld_111 (by decide) ?_
                                  refine lv_iload hx hb dX11_howOld_114 (lv_at hl 1 rfl) ?_
                                  refine lv_imul hx hb dX11_howOld_116 ?_
                                  refine lv_topi (fun x18 e18 => ?_)
                                  have t18 : x18.toInt = (401 : Int) * x12.toInt := by rw [e18]; exact gi_mul (by show (_ : Int) ≤ (401 : Int) * x12.toInt; omega) (by show (401 : Int) * x12.toInt ≤ (_ : Int); omega)
                                  refine lv_iload hx hb dX11_howOld_117 (lv_at hl 0 rfl) ?_
                                  refine lv_iadd hx hb dX11_howOld_119 ?_
                                  refine lv_topi (fun x19 e19 => ?_)
                                  have t19 : x19.toInt = x18.toInt + x15.toInt := by rw [e19]; exact gi_add (by show (_ : Int) ≤ x18.toInt + x15.toInt; omega) (by show x18.toInt + x15.toInt ≤ (_ : Int); omega)
                                  refine lv_aload_n hx hb dX11_howOld_120 rfl (lv_at hl 3 rfl) ?_
                                  refine qf_get hx hb hts inX11 hown hK hP (q0 := 0) (by decide) (hgM_0 ca o) rfl 59 (by decide) wq_1051 (v := .ref (o + 39)) rfl dX11_howOld_121 ?_
                                  refine lv_sipush (v := 401) hx hb dX11_howOld_124 (by decide) ?_
                                  refine lv_iload hx hb dX11_howOld_127 (lv_at hl 1 rfl) ?_
                                  refine lv_imul hx hb dX11_howOld_129 ?_
                                  refine lv_topi (fun x20 e20 => ?_)
                                  have t20 : x20.toInt = (401 : Int) * x12.toInt := by rw [e20]; exact gi_mul (by show (_ : Int) ≤ (401 : Int) * x12.toInt; omega) (by show (401 : Int) * x12.toInt ≤ (_ : Int); omega)
                                  refine lv_iload hx hb dX11_howOld_130 (lv_at hl 0 rfl) ?_
                                  refine lv_iadd hx hb dX11_howOld_132 ?_
                                  refine lv_topi (fun x21 e21 => ?_)
                                  have t21 : x21.toInt = x20.toInt + x15.toInt := by rw [e21]; exact gi_add (by show (_ : Int) ≤ x20.toInt + x15.toInt; omega) (by show x20.toInt + x15.toInt ≤ (_ : Int); omega)
                                  refine qa_lald hx hb hK hP (q0 := 39) (by decide) 1 (N := 2807) (hgM_39 ca o) rfl (gi_in (by omega) (by omega)) dX11_howOld_133 ?_
                                  refine lv_topl (fun j22 e22 => ?_)
                                  refine lv_aload_n hx hb dX11_howOld_134 rfl (lv_at hl 3 rfl) ?_
                                  refine qf_get hx hb hts inX11 hown hK hP (q0 := 0) (by decide) (hgM_0 ca o) rfl 59 (by decide) wq_1051 (v := .ref (o + 39)) rfl dX11_howOld_135 ?_
                                  refine lv_sipush (v := 401) hx hb dX11_howOld_138 (by decide) ?_
                                  refine lv_iload hx hb dX11_howOld_141 (lv_at hl 1 rfl) ?_
                                  refine lv_iconst (v := 1) hx hb dX11_howOld_143 (by decide) ?_
                                  refine lv_isub hx hb dX11_howOld_144 ?_
                                  refine lv_topi (fun x23 e23 => ?_)
                                  have t23 : x23.toInt = x12.toInt - (1 : Int) := by rw [e23]; exact gi_sub (by show (_ : Int) ≤ x12.toInt - (1 : Int); omega) (by show x12.toInt - (1 : Int) ≤ (_ : Int); omega)
                                  refine lv_imul hx hb dX11_howOld_145 ?_
                                  refine lv_topi (fun x24 e24 => ?_)
                                  have t24 : x24.toInt = (401 : Int) * x23.toInt := by rw [e24]; exact gi_mul (by show (_ : Int) ≤ (401 : Int) * x23.toInt; omega) (by show (401 : Int) * x23.toInt ≤ (_ : Int); omega)
                                  refine lv_iload hx hb dX11_howOld_146 (lv_at hl 0 rfl) ?_
                                  refine lv_iadd hx hb dX11_howOld_148 ?_
                                  refine lv_topi (fun x25 e25 => ?_)
                                  have t25 : x25.toInt = x24.toInt + x15.toInt := by rw [e25]; exact gi_add (by show (_ : Int) ≤ x24.toInt + x15.toInt; omega) (by show x24.toInt + x15.toInt ≤ (_ : Int); omega)
                                  refine lv_iload hx hb dX11_howOld_149 (lv_at hl 2 rfl) ?_
                                  refine lv_isub hx hb dX11_howOld_151 ?_
                                  refine lv_topi (fun x26 e26 => ?_)
                                  have t26 : x26.toInt = x25.toInt - x7.toInt := by rw [e26]; exact gi_sub (by show (_ : Int) ≤ x25.toInt - x7.toInt; omega) (by show x25.toInt - x7.toInt ≤ (_ : Int); omega)
                                  refine qa_lald hx hb hK hP (q0 := 39) (by decide) 1 (N := 2807) (hgM_39 ca o) rfl (gi_in (by omega) (by omega)) dX11_howOld_152 ?_
                                  refine lv_topl (fun j27 e27 => ?_)
                                  refine lv_ladd hx hb dX11_howOld_153 ?_
                                  refine lv_topl (fun j28 e28 => ?_)
                                  refine qa_last hx hb hK hP hS qw_Ai (q0 := 39) (by decide) 1 (N := 2807) (hgM_39 ca o) rfl (gi_in (by omega) (by omega)) dX11_howOld_154 (fun H locs hP hS => ?_)
                                  obtain ⟨x29, e29⟩ : ∃ t : Int32, t = x15 + 1 := ⟨_, rfl⟩
                                  refine lv_iinc (v := x29) (lv' := [(7, .int x29), (6, .int x12), (5, .int x7), (0, .ref (o + 0)), (1, .int a1), (2, .int a2), (3, .int a3), (4, .int a4)]) hx hb dX11_howOld_155 hl (k := 0) rfl (by rw [e29]; rfl) (by decide) rfl (fun ls hl => ?_)
                                  have t29 : x29.toInt = x15.toInt + (1 : Int) := by rw [e29]; exact gi_add (by show (_ : Int) ≤ x15.toInt + (1 : Int); omega) (by show x15.toInt + (1 : Int) ≤ (_ : Int); omega)
                                  refine lv_goto (tgt := 101) hx hb dX11_howOld_158 (by decide) ?_
                                  exact ih15 (i15 + 1) x29 (qul y15 39 (x19.toNatClampNeg) j28) (vp_updL f15 (401 * i12 + i15) (f15 (401 * i12 + i15) + f15 (401 * (i12 - 1) + i15 - i7))) (by omega) (by omega) (by omega) (by rw [e29]; rw [gi_add (by rw [hx15]; show _ ≤ _ + (1 : Int); omega) (by rw [hx15]; show _ + (1 : Int) ≤ _; omega), hx15]; rfl) (ho_upd a15 (m := 401 * i12 + i15) (by omega) (by rw [e28, e22, e27, ho_ld a15 (m := 401 * i12 + i15) (by omega) (by omega), ho_ld a15 (m := 401 * (i12 - 1) + i15 - i7) (by omega) (by omega)])) (ho1_s (by omega) b15) _ _ hP hS _ (lv_sub hl [0, 1, 2, 3, 4, 5, 6, 7] rfl)
                            exact loop15 ((M + 100) + 1) i7 x7 y12 f12 (by omega) (by omega) (by omega) hx7 (a12) (ho2_s (by omega) b12) _ _ hP hS _ (lv_sub hl [0, 1, 2, 3, 4, 5, 6, 7] rfl)
                      exact loop12 ((N + 1) + 1) 1 1 y7 f7 (by omega) (by omega) (by omega) rfl (a7) (ho3_s (by omega) b7) _ _ hP hS _ (lv_sub hl [0, 1, 2, 3, 4, 5, 6] rfl)
                exact loop7 ((T + 1) + 1) L a3 (qul y5 39 ((0 : Int32).toNatClampNeg) 1) ho0 (by omega) (by omega) (by omega) hL (ho_first (fun j h => n5 j (by omega))) (rfl) _ _ hP hS _ (lv_sub hl [0, 1, 2, 3, 4, 5] rfl)
              · have t6 : x5.toInt < (2807 : Int) := gl_nle c6
                refine lv_aload_n hx hb dX11_howOld_57 rfl (lv_at hl 1 rfl) ?_
                refine qf_get hx hb hts inX11 hown hK hP (q0 := 0) (by decide) (hgM_0 ca o) rfl 59 (by decide) wq_1051 (v := .ref (o + 39)) rfl dX11_howOld_58 ?_
                refine lv_iload hx hb dX11_howOld_61 (lv_at hl 0 rfl) ?_
                refine lv_lconst (v := 0) hx hb dX11_howOld_63 (by decide) ?_
                refine qa_last hx hb hK hP hS qw_Ai (q0 := 39) (by decide) 1 (N := 2807) (hgM_39 ca o) rfl (gi_in (by omega) (by omega)) dX11_howOld_64 (fun H locs hP hS => ?_)
                obtain ⟨x30, e30⟩ : ∃ t : Int32, t = x5 + 1 := ⟨_, rfl⟩
                refine lv_iinc (v := x30) (lv' := [(5, .int x30), (0, .ref (o + 0)), (1, .int a1), (2, .int a2), (3, .int a3), (4, .int a4)]) hx hb dX11_howOld_65 hl (k := 0) rfl (by rw [e30]; rfl) (by decide) rfl (fun ls hl => ?_)
                have t30 : x30.toInt = x5.toInt + (1 : Int) := by rw [e30]; exact gi_add (by show (_ : Int) ≤ x5.toInt + (1 : Int); omega) (by show x5.toInt + (1 : Int) ≤ (_ : Int); omega)
                refine lv_goto (tgt := 49) hx hb dX11_howOld_68 (by decide) ?_
                exact ih5 (i5 + 1) x30 (qul y5 39 (x5.toNatClampNeg) 0) (by omega) (by omega) (by omega) (by rw [e30]; rw [gi_add (by rw [hx5]; show _ ≤ _ + (1 : Int); omega) (by rw [hx5]; show _ + (1 : Int) ≤ _; omega), hx5]; rfl) (ho_fill hx5 n5) _ _ hP hS _ (lv_sub hl [0, 1, 2, 3, 4, 5] rfl)
          exact loop5 2808 0 0 y (by omega) (by omega) (by omega) rfl (fun j h => absurd h (by omega)) _ _ hP hS _ (lv_sub hl [0, 1, 2, 3, 4, 5] rfl)
        · subst h4r
          have t4a : a4.toInt < a3.toInt ∨ (99 : Int) < a4.toInt := h4a
          refine lv_if_ne (tgt := 46) hx hb dX11_howOld_39 (by decide) (fun q => absurd q (by decide)) (fun _ => ?_)
          refine lv_ldc2 (v := (-1)) hx hb hown (hts _ wq_1582) dX11_howOld_42 ?_
          exact W.lret (v := (-1)) hx hb hr (fun t ht hW => ⟨⟨(-1), (z, y), rfl, (gaL_n (by omega)), by rw [ht]; exact hP, va_K.moved hW.alike hK⟩, hS.F ht⟩) hS.2.2 dX11_howOld_45
      · subst h3r
        have t3a : a3.toInt < (0 : Int) ∨ (99 : Int) < a3.toInt := h3a
        refine lv_if_eq (tgt := 42) hx hb dX11_howOld_28 (by decide) (fun _ => ?_) (fun q => absurd (by decide) q)
        refine lv_ldc2 (v := (-1)) hx hb hown (hts _ wq_1582) dX11_howOld_42 ?_
        exact W.lret (v := (-1)) hx hb hr (fun t ht hW => ⟨⟨(-1), (z, y), rfl, (gaL_n (by omega)), by rw [ht]; exact hP, va_K.moved hW.alike hK⟩, hS.F ht⟩) hS.2.2 dX11_howOld_45
    · subst h2r
      have t2a : a2.toInt < (0 : Int) ∨ (400 : Int) < a2.toInt := h2a
      refine lv_if_eq (tgt := 42) hx hb dX11_howOld_18 (by decide) (fun _ => ?_) (fun q => absurd (by decide) q)
      refine lv_ldc2 (v := (-1)) hx hb hown (hts _ wq_1582) dX11_howOld_42 ?_
      exact W.lret (v := (-1)) hx hb hr (fun t ht hW => ⟨⟨(-1), (z, y), rfl, (gaL_n (by omega)), by rw [ht]; exact hP, va_K.moved hW.alike hK⟩, hS.F ht⟩) hS.2.2 dX11_howOld_45
  · subst h1r
    have t1a : a1.toInt < (1 : Int) ∨ (6 : Int) < a1.toInt := h1a
    refine lv_if_eq (tgt := 42) hx hb dX11_howOld_7 (by decide) (fun _ => ?_) (fun q => absurd (by decide) q)
    refine lv_ldc2 (v := (-1)) hx hb hown (hts _ wq_1582) dX11_howOld_42 ?_
    exact W.lret (v := (-1)) hx hb hr (fun t ht hW => ⟨⟨(-1), (z, y), rfl, (gaL_n (by omega)), by rw [ht]; exact hP, va_K.moved hW.alike hK⟩, hS.F ht⟩) hS.2.2 dX11_howOld_45
