/-! THE CLAIM OUT OF ONE WALK OF THE LAW'S BODY. Your part is whole_start (and what it stands on); all else here is the same for every law, but numbers. -/
def R_law : String := "UncleAgesLaw"
def lw_P (b : Addr) (xs : List Int32) (args : Array Value) (s : State) : Prop := args = #[.ref b] ∧ s.IntsAt b xs ∧ xs.length ≤ 3072 ∧ (Jvm.Cond.and given_1 narrow_1).before args s = true
def lw_Q (_ : Array Value) (s : State) (o : Outcome) (t : State) : Prop := o = .returned (some (.int 1)) ∧ Framed s o t [] 600000 7302250
def lw_Z (below : List Frame) (a : Array Value) (s : State) : State → Prop := fun t => ∃ o, t.status = .running ∧ Ended t below o ∧ lw_Q a s o t
/-- the law's own end, with 1 on the stack, nothing written that was there before, its room as the claim has it -/
theorem lw_ret {p : Program} {l : Launch} {e : Env} {s : State} {m : MethodId} {below : List Frame} {meth : Method} {c : Code} {b : Nat} (hx : p.tables.exec = Jvm.exec) (hb : c.code = code) (hr : meth.sig.returnType = ret) (hlocks : meth.locks = false) {pc : Nat} {H : Heap} {ls : Array Slot} (hdg : decode code pc = .ok (.ireturn, 1)) : W p l e room_1 s m #[Value.ref b] below meth c H [] 600000 7302250 (lw_Z below #[Value.ref b] s) (F0 m pc ls [.int 1]) := by
  intro T hT X
  obtain ⟨fs, hret, hrun, hended, hW, hframe⟩ := X.leave (v := some (.int 1)) (hlocks := hlocks) (fun h => by rw [hr] at h; cases h)
  have hmeth' : T.vm.method? m = some meth := X.method'
  refine ⟨T.setFrames fs, ?_, .returned (some (.int 1)), hrun, hended, rfl, ⟨_, rfl⟩, hW, hframe⟩
  jvm_step X.here [X.here.top, hx, hb, hdg, hmeth', hr, ret, narrow_b1]
  (try refine ⟨rfl, ?_⟩); (try refine ⟨rfl, ?_⟩)
  first | (intro acts; rw [hret _ acts rfl rfl rfl]) | rw [hret _ _ rfl rfl rfl]
  exact Steps.refl _
/-- what holds at the law's entry: the machine, the code, the tables' words (any of lw_tbl by 'hts w (by decide +kernel)'), the script of L ints xs at the cell b, what the Statement gives of the start (any of its parts by flat_of_before) -/
def lw_At (p : Program) (s : State) (m : MethodId) (meth : Method) (c : Code) (b L : Nat) (xs : Nat → Int32) : Prop :=
  p.tables.exec = Jvm.exec ∧ c.code = code ∧ meth.sig.returnType = ret ∧ c.maxLocals = 4 ∧ s.vm.findClass R_law = some m.cls ∧ (∀ w ∈ lw_tbl, w.before #[Value.ref b] s = true) ∧ va_X b L xs s s.heap ∧ b < s.heap.size ∧ meth.locks = false ∧ (Jvm.Cond.and given_1 narrow_1).before #[Value.ref b] s = true
theorem qL_P' {D : va_G} {cl : List vw_C} {a n : Nat} {w : Nat → va_E} {L : List va_E} {H : Heap} (h : qL D cl a L H) (b : Nat) (hw : (L.drop b).take n = (List.range n).map w) : qw_P D cl (a + b) n w H := by
  intro k hk
  have h1 : ((L.drop b).take n)[k]? = some (w k) := by rw [hw]; simp [hk]
  rw [List.getElem?_take, if_pos hk, List.getElem?_drop] at h1
  have := h.2 (b + k) _ h1
  rwa [← Nat.add_assoc] at this
theorem qw_kept2 {D : va_G} {cl : List vw_C} {o n o2 n2 : Nat} {w : Nat → va_E} {H H1 : Heap} (h : qw_P D cl o2 n2 w H) (hk : ∀ q : Nat, q < H.size → ¬ qw_A o n q → H1[q]? = H[q]?) (hd : o + n ≤ o2 ∨ o2 + n2 ≤ o) : qw_P D cl o2 n2 w H1 := fun k hk2 => by
  have h1 := h k hk2
  exact h1.kept (hk (o2 + k) h1.lt (fun q => by have q1 : o ≤ o2 + k := q.1; have q2 : o2 + k < o + n := q.2; omega))
theorem qAI_s {s : State} (h : qAI s) : ∃ (comp c : ClassId) (k : Class), s.vm.classes[c]? = some k ∧ k.kind = .array comp (.array .int) ∧ s.vm.findClass "[[I" = some c := by
  unfold qAI Cond.before Cond.holds at h
  simp only [Cond.value] at h
  rw [beq_iff_eq] at h
  simp only [Option.bind_eq_some_iff, Option.map_eq_some_iff] at h
  obtain ⟨comp, h1, c, h2, k, h3, h4⟩ := h
  cases hk : k.kind with
  | array cc ty =>
    rw [hk] at h4
    simp only [Bool.and_eq_true, decide_eq_true_eq] at h4
    exact ⟨cc, c, k, h3, by rw [hk, h4.1], h4.2⟩
  | _ => rw [hk] at h4; simp at h4
theorem ln_6 {L : Nat} {d : Int32} (hL : L ≤ 3072) (ed : d = Int32.ofNat L - 6) : d.toInt = (L : Int) - 6 := by
  have h1 : (Int32.ofNat L).toInt = (L : Int) := nI_toInt (by omega)
  rw [ed, gi_sub (y := 6) (by rw [h1]; show _ ≤ _ - (6 : Int); omega) (by rw [h1]; show _ - (6 : Int) ≤ _; omega), h1]; rfl
set_option maxRecDepth 100000 in
set_option maxHeartbeats 40000000 in
theorem whole_start {p : Program} {e : Env} {s : State} {m : MethodId} {below : List Frame} {meth : Method} {c : Code} (l : Launch) (hflags : l.flags = flags0) {b L : Nat} {xs : Nat → Int32} (hL : L ≤ 3072) (C0 : lw_At p s m meth c b L xs) : W p l e room_1 s m #[Value.ref b] below meth c s.heap [] 0 0 (lw_Z below #[Value.ref b] s) (entryFrame m ([Value.ref b] : List Value).toArray 4) := by
  obtain ⟨hx, hb, hr, hml, hown, hts0, hX, hbl, hlocks, hgv⟩ := id C0
  have hts : ∀ w ∈ qtbl, w.before #[Value.ref b] s = true := fun w h => hts0 w (List.mem_filter.mp h).1
  have hbA : ¬ (fun q : Nat => s.heap.size ≤ q) b := Nat.not_le.mpr hbl
  obtain ⟨c0, iS0, hKn0⟩ := u_known (C := RX0) (T := TX0) (N := 7) (n := 7) hts inX0 (hts _ wq_326)
  obtain ⟨c1, iS1, hKn1⟩ := u_known (C := RX1) (T := TX1) (N := 2) (n := 2) hts inX1 (hts _ wq_311)
  obtain ⟨c2, iS2, hKn2⟩ := u_known (C := RX2) (T := TX2) (N := 7) (n := 7) hts inX2 (hts _ wq_224)
  obtain ⟨c3, iS3, hKn3⟩ := u_known (C := RX3) (T := TX3) (N := 2) (n := 2) hts inX3 (hts _ wq_211)
  obtain ⟨c4, iS4, hKn4⟩ := u_known (C := RX4) (T := TX4) (N := 4) (n := 4) hts inX4 (hts _ wq_290)
  obtain ⟨c5, iS5, hKn5⟩ := u_known (C := RX5) (T := TX5) (N := 7) (n := 7) hts inX5 (hts _ wq_36)
  obtain ⟨c6, iS6, hKn6⟩ := u_known (C := RX6) (T := TX6) (N := 15) (n := 15) hts inX6 (hts _ wq_123)
  obtain ⟨c7, iS7, hKn7⟩ := u_known (C := RX7) (T := TX7) (N := 7) (n := 7) hts inX7 (hts _ wq_180)
  obtain ⟨c8, iS8, hKn8⟩ := u_known (C := RX8) (T := TX8) (N := 6) (n := 6) hts inX8 (hts _ wq_260)
  obtain ⟨c9, iS9, hKn9⟩ := u_known (C := RX9) (T := TX9) (N := 8) (n := 8) hts inX9 (hts _ wq_26)
  obtain ⟨c10, iS10, hKn10⟩ := u_known (C := RX10) (T := TX10) (N := 15) (n := 15) hts inX10 (hts _ wq_18)
  obtain ⟨c11, iS11, hKn11⟩ := u_known (C := RX11) (T := TX11) (N := 63) (n := 63) hts inX11 (hts _ wq_988)
  obtain ⟨a0, ka0, kc0, ha0, hb0, hc0⟩ := Cond.arrayClass_spec (hts _ wq_80)
  obtain ⟨a1, ka1, kc1, ha1, hb1, hc1⟩ := Cond.arrayClass_spec (hts _ wq_257)
  obtain ⟨a2, ka2, kc2, ha2, hb2, hc2⟩ := Cond.arrayClass_spec (hts _ wq_258)
  obtain ⟨a3, ka3, kc3, ha3, hb3, hc3⟩ := Cond.arrayClass_spec (hts _ wq_1182)
  have hao : va_AO "UncleAges$Line" s := va_AO.of (hts0 _ wq_32)
  have hai : qAI s := hts0 _ wq_129
  obtain ⟨kc4, a4, ka4, ha4, -, hb4, hc4, hd4⟩ := Cond.arrayOver_spec hao
  obtain ⟨kc5, a5, ka5, hb5, hc5, hd5⟩ := qAI_s hai
  have hX2 : qX2 s := ⟨⟨hao, va_Nw.of rfl (hts0 _ wq_37)⟩, hai, va_Nw.of rfl (hts0 _ wq_212), va_Nw.of rfl (hts0 _ wq_225), va_Nw.of rfl (hts0 _ wq_261), va_Nw.of rfl (hts0 _ wq_291), va_Nw.of rfl (hts0 _ wq_312), va_Nw.of rfl (hts0 _ wq_327)⟩
  obtain ⟨D, hD⟩ : ∃ D : va_G, ∀ (k : Nat) (q : vw_C), vwCl[k]? = some q → u_Kn s q.1 q.2.1 q.2.2 (D.1 k) (D.2 k) := by
    refine ⟨(fun k => [c0, c1, c2, c3, c4, c5, c6, c7, c8, c9, c10, c11].getD k 0, fun k => [iS0, iS1, iS2, iS3, iS4, iS5, iS6, iS7, iS8, iS9, iS10, iS11].getD k (fun _ => 0)), ?_⟩
    intro k q hq
    match k, hq with
    | 0, hq => cases hq; exact hKn0
    | 1, hq => cases hq; exact hKn1
    | 2, hq => cases hq; exact hKn2
    | 3, hq => cases hq; exact hKn3
    | 4, hq => cases hq; exact hKn4
    | 5, hq => cases hq; exact hKn5
    | 6, hq => cases hq; exact hKn6
    | 7, hq => cases hq; exact hKn7
    | 8, hq => cases hq; exact hKn8
    | 9, hq => cases hq; exact hKn9
    | 10, hq => cases hq; exact hKn10
    | 11, hq => cases hq; exact hKn11
    | k + 12, hq => simp [vwCl] at hq
  obtain ⟨ca, hca⟩ : ∃ ca : Nat → ClassId, ca 0 = a0 ∧ ca 1 = a1 ∧ ca 2 = a2 ∧ ca 3 = a3 ∧ ca 4 = a4 ∧ ca 5 = a5 := ⟨fun k => [a0, a1, a2, a3, a4, a5].getD k 0, rfl, rfl, rfl, rfl, rfl, rfl⟩
  obtain ⟨e0, e1, e2, e3, e4, e5⟩ := hca
  subst e0; subst e1; subst e2; subst e3; subst e4; subst e5
  have hK : va_K D vwCl (qT6 ca) s := by
    refine ⟨hD, fun k q hq => ?_⟩
    match k, hq with
    | 0, hq => cases hq; exact ⟨fun n z => ⟨fun k h => (by cases h), ka0, hb0, kc0, hc0⟩, ha0⟩
    | 1, hq => cases hq; exact ⟨fun n z => ⟨fun k h => (by cases h), ka1, hb1, kc1, hc1⟩, ha1⟩
    | 2, hq => cases hq; exact ⟨fun n z => ⟨fun k h => (by cases h), ka2, hb2, kc2, hc2⟩, ha2⟩
    | 3, hq => cases hq; exact ⟨fun n z => ⟨fun k h => (by cases h), ka3, hb3, kc3, hc3⟩, ha3⟩
    | 4, hq => cases hq; exact ⟨fun n z => ⟨fun k h => (by cases h), ka4, hb4, kc4, hc4⟩, ka4, kc4, hb4, hc4, ha4, hd4⟩
    | 5, hq => cases hq; exact ⟨fun n z => ⟨fun k h => (by cases h), ka5, hb5, kc5, hc5⟩, hd5⟩
    | k + 6, hq => simp at hq
  have hS : va_S (fun q : Nat => s.heap.size ≤ q) s.heap s.heap [] := va_S.rf
  obtain ⟨a, ha⟩ : ∃ a : Nat, a = s.heap.size := ⟨_, rfl⟩
  have hP : qL D vwCl a [] s.heap := ⟨by rw [ha]; rfl, fun k e h => by simp at h⟩
  have hl := lv_entry ([.ref b]) (n := 4) (Nat.le_of_ble_eq_true rfl)
  rw [lg_entry_eq]
  generalize (lg_sl ([.ref b]) ++ List.replicate (4 - (lg_sl ([.ref b])).length) Slot.unset).toArray = ls at hl ⊢
  have hl : lv_has ls 4 [(0, .ref b)] := hl
  refine qn_new (ci := 10) (fs := [.null, .null, .int 0, .null, .int 0, .null, .null, .null, .null, .null, .null, .null, .null, .null, .null]) (C := RX10) (T := TX10) (N := 15) hx hb hts inX10 tyX10 tyX10_ok hown wq_17 wq_18 wq_1 hK hP hS rfl (fun j hj => by rcases (by omega : j = 0 ∨ j = 1 ∨ j = 2 ∨ j = 3 ∨ j = 4 ∨ j = 5 ∨ j = 6 ∨ j = 7 ∨ j = 8 ∨ j = 9 ∨ j = 10 ∨ j = 11 ∨ j = 12 ∨ j = 13 ∨ j = 14) with rfl | rfl | rfl | rfl | rfl | rfl | rfl | rfl | rfl | rfl | rfl | rfl | rfl | rfl | rfl <;> rfl) (Nat.le_of_ble_eq_true rfl) (Nat.le_of_ble_eq_true rfl) dL_law_0 (fun H hP hS => ?_)
  have hP : qL D vwCl a [.inr (10, [.null, .null, .int 0, .null, .int 0, .null, .null, .null, .null, .null, .null, .null, .null, .null, .null])] H := hP
  refine lv_dup hx hb dL_law_3 rfl ?_
  refine qn_callI (As := []) (rest := [.ref (a + 0)]) (k0 := 0) (n0 := 0) (uC_init l D ca (a + 0)) qX2_b (fun U hW => qX2_w hW hX2) ⟨hx, hb, hml, hown, hts⟩ wq_19 wq_20 wq_1 wq_21 rfl (by decide +kernel) rfl rfl ⟨Nat.le_of_ble_eq_true rfl, Nat.le_of_ble_eq_true rfl⟩ hP rfl (Nat.le_of_ble_eq_true rfl) hK hS (fun q h => by rw [← ha]; exact Nat.le_trans (Nat.le_add_right _ _) h) rfl hl.1 rfl (Nat.le_of_ble_eq_true rfl) dL_law_4 ⟨Nat.le_of_ble_eq_true rfl, Nat.le_of_ble_eq_true rfl⟩ (fun u1 H locs hP hS => ?_)
  obtain ⟨⟨f1_0, f1_1⟩, ⟨f1_2, f1_3⟩⟩ := u1
  have hP : qL D vwCl a [.inr (10, [.ref (a + 1), .ref (a + 39), .int 0, .ref (a + 77), .int 0, .ref (a + 78), .ref (a + 104), .ref (a + 108), .ref (a + 110), .ref (a + 114), .ref (a + 116), .ref (a + 120), .ref (a + 123), .ref (a + 130), .ref (a + 131)]), .inr (9, [.ref (a + 2), .ref (a + 3), .ref (a + 4), .ref (a + 5), .ref (a + 6), .int 0, .int 0, .int 0]), .inl (ca 0, 6, .inl (fun _ => 0)), .inl (ca 0, 6, .inl (fun _ => 0)), .inl (ca 0, 6, .inl f1_0), .inl (ca 0, 36, .inl f1_1), .inl (ca 4, 16, .inr (.inr (.inr (.inr (fun j => some (a + (7 + 2 * j))))))), .inr (5, [.ref (a + 8), .int 0, .int 0, .int 0, .int 0, .int 0, .int 0]), .inl (ca 0, 6, .inl (fun _ => 0)), .inr (5, [.ref (a + 10), .int 0, .int 0, .int 0, .int 0, .int 0, .int 0]), .inl (ca 0, 6, .inl (fun _ => 0)), .inr (5, [.ref (a + 12), .int 0, .int 0, .int 0, .int 0, .int 0, .int 0]), .inl (ca 0, 6, .inl (fun _ => 0)), .inr (5, [.ref (a + 14), .int 0, .int 0, .int 0, .int 0, .int 0, .int 0]), .inl (ca 0, 6, .inl (fun _ => 0)), .inr (5, [.ref (a + 16), .int 0, .int 0, .int 0, .int 0, .int 0, .int 0]), .inl (ca 0, 6, .inl (fun _ => 0)), .inr (5, [.ref (a + 18), .int 0, .int 0, .int 0, .int 0, .int 0, .int 0]), .inl (ca 0, 6, .inl (fun _ => 0)), .inr (5, [.ref (a + 20), .int 0, .int 0, .int 0, .int 0, .int 0, .int 0]), .inl (ca 0, 6, .inl (fun _ => 0)), .inr (5, [.ref (a + 22), .int 0, .int 0, .int 0, .int 0, .int 0, .int 0]), .inl (ca 0, 6, .inl (fun _ => 0)), .inr (5, [.ref (a + 24), .int 0, .int 0, .int 0, .int 0, .int 0, .int 0]), .inl (ca 0, 6, .inl (fun _ => 0)), .inr (5, [.ref (a + 26), .int 0, .int 0, .int 0, .int 0, .int 0, .int 0]), .inl (ca 0, 6, .inl (fun _ => 0)), .inr (5, [.ref (a + 28), .int 0, .int 0, .int 0, .int 0, .int 0, .int 0]), .inl (ca 0, 6, .inl (fun _ => 0)), .inr (5, [.ref (a + 30), .int 0, .int 0, .int 0, .int 0, .int 0, .int 0]), .inl (ca 0, 6, .inl (fun _ => 0)), .inr (5, [.ref (a + 32), .int 0, .int 0, .int 0, .int 0, .int 0, .int 0]), .inl (ca 0, 6, .inl (fun _ => 0)), .inr (5, [.ref (a + 34), .int 0, .int 0, .int 0, .int 0, .int 0, .int 0]), .inl (ca 0, 6, .inl (fun _ => 0)), .inr (5, [.ref (a + 36), .int 0, .int 0, .int 0, .int 0, .int 0, .int 0]), .inl (ca 0, 6, .inl (fun _ => 0)), .inr (5, [.ref (a + 38), .int 0, .int 0, .int 0, .int 0, .int 0, .int 0]), .inl (ca 0, 6, .inl (fun _ => 0)), .inr (9, [.ref (a + 40), .ref (a + 41), .ref (a + 42), .ref (a + 43), .ref (a + 44), .int 0, .int 0, .int 0]), .inl (ca 0, 6, .inl (fun _ => 0)), .inl (ca 0, 6, .inl (fun _ => 0)), .inl (ca 0, 6, .inl f1_2), .inl (ca 0, 36, .inl f1_3), .inl (ca 4, 16, .inr (.inr (.inr (.inr (fun j => some (a + (45 + 2 * j))))))), .inr (5, [.ref (a + 46), .int 0, .int 0, .int 0, .int 0, .int 0, .int 0]), .inl (ca 0, 6, .inl (fun _ => 0)), .inr (5, [.ref (a + 48), .int 0, .int 0, .int 0, .int 0, .int 0, .int 0]), .inl (ca 0, 6, .inl (fun _ => 0)), .inr (5, [.ref (a + 50), .int 0, .int 0, .int 0, .int 0, .int 0, .int 0]), .inl (ca 0, 6, .inl (fun _ => 0)), .inr (5, [.ref (a + 52), .int 0, .int 0, .int 0, .int 0, .int 0, .int 0]), .inl (ca 0, 6, .inl (fun _ => 0)), .inr (5, [.ref (a + 54), .int 0, .int 0, .int 0, .int 0, .int 0, .int 0]), .inl (ca 0, 6, .inl (fun _ => 0)), .inr (5, [.ref (a + 56), .int 0, .int 0, .int 0, .int 0, .int 0, .int 0]), .inl (ca 0, 6, .inl (fun _ => 0)), .inr (5, [.ref (a + 58), .int 0, .int 0, .int 0, .int 0, .int 0, .int 0]), .inl (ca 0, 6, .inl (fun _ => 0)), .inr (5, [.ref (a + 60), .int 0, .int 0, .int 0, .int 0, .int 0, .int 0]), .inl (ca 0, 6, .inl (fun _ => 0)), .inr (5, [.ref (a + 62), .int 0, .int 0, .int 0, .int 0, .int 0, .int 0]), .inl (ca 0, 6, .inl (fun _ => 0)), .inr (5, [.ref (a + 64), .int 0, .int 0, .int 0, .int 0, .int 0, .int 0]), .inl (ca 0, 6, .inl (fun _ => 0)), .inr (5, [.ref (a + 66), .int 0, .int 0, .int 0, .int 0, .int 0, .int 0]), .inl (ca 0, 6, .inl (fun _ => 0)), .inr (5, [.ref (a + 68), .int 0, .int 0, .int 0, .int 0, .int 0, .int 0]), .inl (ca 0, 6, .inl (fun _ => 0)), .inr (5, [.ref (a + 70), .int 0, .int 0, .int 0, .int 0, .int 0, .int 0]), .inl (ca 0, 6, .inl (fun _ => 0)), .inr (5, [.ref (a + 72), .int 0, .int 0, .int 0, .int 0, .int 0, .int 0]), .inl (ca 0, 6, .inl (fun _ => 0)), .inr (5, [.ref (a + 74), .int 0, .int 0, .int 0, .int 0, .int 0, .int 0]), .inl (ca 0, 6, .inl (fun _ => 0)), .inr (5, [.ref (a + 76), .int 0, .int 0, .int 0, .int 0, .int 0, .int 0]), .inl (ca 0, 6, .inl (fun _ => 0)), .inl (ca 0, 260, .inl (fun _ => 0)), .inr (6, [.ref (a + 77), .ref (a + 79), .ref (a + 87), .ref (a + 95), .ref (a + 103), .int 0, .int 0, .int 0, .int 0, .int 0, .int 0, .int 0, .int 0, .int 0, .int 0]), .inl (ca 5, 7, .inr (.inr (.inr (.inr (fun j => some (a + (80 + j))))))), .inl (ca 0, 7, .inl (fun _ => 0)), .inl (ca 0, 7, .inl (fun _ => 0)), .inl (ca 0, 7, .inl (fun _ => 0)), .inl (ca 0, 7, .inl (fun _ => 0)), .inl (ca 0, 7, .inl (fun _ => 0)), .inl (ca 0, 7, .inl (fun _ => 0)), .inl (ca 0, 7, .inl (fun _ => 0)), .inl (ca 5, 7, .inr (.inr (.inr (.inr (fun j => some (a + (88 + j))))))), .inl (ca 0, 7, .inl (fun _ => 0)), .inl (ca 0, 7, .inl (fun _ => 0)), .inl (ca 0, 7, .inl (fun _ => 0)), .inl (ca 0, 7, .inl (fun _ => 0)), .inl (ca 0, 7, .inl (fun _ => 0)), .inl (ca 0, 7, .inl (fun _ => 0)), .inl (ca 0, 7, .inl (fun _ => 0)), .inl (ca 5, 7, .inr (.inr (.inr (.inr (fun j => some (a + (96 + j))))))), .inl (ca 0, 7, .inl (fun _ => 0)), .inl (ca 0, 7, .inl (fun _ => 0)), .inl (ca 0, 7, .inl (fun _ => 0)), .inl (ca 0, 7, .inl (fun _ => 0)), .inl (ca 0, 7, .inl (fun _ => 0)), .inl (ca 0, 7, .inl (fun _ => 0)), .inl (ca 0, 7, .inl (fun _ => 0)), .inl (ca 0, 7, .inl (fun _ => 0)), .inr (7, [.ref (a + 1), .ref (a + 105), .ref (a + 106), .ref (a + 107), .int 0, .int 0, .int 0]), .inl (ca 0, 6, .inl (fun _ => 0)), .inl (ca 0, 10, .inl (fun _ => 0)), .inl (ca 0, 10, .inl (fun _ => 0)), .inr (3, [.ref (a + 109), .int 0]), .inl (ca 0, 1024, .inl (fun _ => 0)), .inr (2, [.ref (a + 111), .ref (a + 112), .ref (a + 113), .int 0, .int 0, .int 0, .int 0]), .inl (ca 0, 12000, .inl (fun _ => 0)), .inl (ca 1, 2000, .inr (.inl (fun _ => 0))), .inl (ca 2, 2000, .inl (fun _ => 0)), .inr (8, [.ref (a + 115), .int 0, .int 0, .int 0, .int 0, .int 0]), .inl (ca 0, 6, .inl (fun _ => 0)), .inr (4, [.ref (a + 117), .ref (a + 118), .ref (a + 119), .int 0]), .inl (ca 0, 6, .inl (fun _ => 0)), .inl (ca 0, 6, .inl (fun _ => 0)), .inl (ca 0, 6, .inl (fun _ => 0)), .inr (1, [.ref (a + 121), .ref (a + 122)]), .inl (ca 0, 6, .inl (fun _ => 0)), .inl (ca 0, 6, .inl (fun _ => 0)), .inr (0, [.ref (a + 124), .ref (a + 125), .ref (a + 126), .ref (a + 127), .ref (a + 128), .ref (a + 129), .int 0]), .inl (ca 0, 3, .inl (fun _ => 0)), .inl (ca 0, 3, .inl (fun _ => 0)), .inl (ca 0, 3, .inl (fun _ => 0)), .inl (ca 0, 3, .inl (fun _ => 0)), .inl (ca 0, 441, .inl (fun _ => 0)), .inl (ca 0, 441, .inl (fun _ => 0)), .inl (ca 0, 100, .inl (fun _ => 0)), .inl (ca 1, 2807, .inr (.inl (fun _ => 0)))] H := hP
  refine lv_astore_n (lv' := [(1, .ref (a + 0)), (0, .ref b)]) hx hb dL_law_7 rfl hl (by decide) rfl (fun ls hl => ?_)
  refine qn_new (ci := 11) (fs := [.null, .null, .null, .null, .int 0, .int 0, .int 0, .null, .null, .null, .null, .null, .null, .null, .null, .int 0, .int 0, .int 0, .int 0, .int 0, .null, .null, .null, .null, .null, .null, .null, .null, .null, .int 0, .int 0, .int 0, .null, .int 0, .int 0, .int 0, .null, .null, .null, .null, .null, .int 0, .null, .int 0, .int 0, .int 0, .int 0, .int 0, .null, .null, .null, .null, .null, .null, .null, .null, .null, .null, .int 0, .null, .null, .int 0, .int 0]) (C := RX11) (T := TX11) (N := 63) hx hb hts inX11 tyX11 tyX11_ok hown wq_987 wq_988 wq_13 hK hP hS rfl (fun j hj => by rcases (by omega : j = 0 ∨ j = 1 ∨ j = 2 ∨ j = 3 ∨ j = 4 ∨ j = 5 ∨ j = 6 ∨ j = 7 ∨ j = 8 ∨ j = 9 ∨ j = 10 ∨ j = 11 ∨ j = 12 ∨ j = 13 ∨ j = 14 ∨ j = 15 ∨ j = 16 ∨ j = 17 ∨ j = 18 ∨ j = 19 ∨ j = 20 ∨ j = 21 ∨ j = 22 ∨ j = 23 ∨ j = 24 ∨ j = 25 ∨ j = 26 ∨ j = 27 ∨ j = 28 ∨ j = 29 ∨ j = 30 ∨ j = 31 ∨ j = 32 ∨ j = 33 ∨ j = 34 ∨ j = 35 ∨ j = 36 ∨ j = 37 ∨ j = 38 ∨ j = 39 ∨ j = 40 ∨ j = 41 ∨ j = 42 ∨ j = 43 ∨ j = 44 ∨ j = 45 ∨ j = 46 ∨ j = 47 ∨ j = 48 ∨ j = 49 ∨ j = 50 ∨ j = 51 ∨ j = 52 ∨ j = 53 ∨ j = 54 ∨ j = 55 ∨ j = 56 ∨ j = 57 ∨ j = 58 ∨ j = 59 ∨ j = 60 ∨ j = 61 ∨ j = 62) with rfl | rfl | rfl | rfl | rfl | rfl | rfl | rfl | rfl | rfl | rfl | rfl | rfl | rfl | rfl | rfl | rfl | rfl | rfl | rfl | rfl | rfl | rfl | rfl | rfl | rfl | rfl | rfl | rfl | rfl | rfl | rfl | rfl | rfl | rfl | rfl | rfl | rfl | rfl | rfl | rfl | rfl | rfl | rfl | rfl | rfl | rfl | rfl | rfl | rfl | rfl | rfl | rfl | rfl | rfl | rfl | rfl | rfl | rfl | rfl | rfl | rfl | rfl <;> rfl) (Nat.le_of_ble_eq_true rfl) (Nat.le_of_ble_eq_true rfl) dL_law_8 (fun H hP hS => ?_)
  have hP : qL D vwCl a [.inr (10, [.ref (a + 1), .ref (a + 39), .int 0, .ref (a + 77), .int 0, .ref (a + 78), .ref (a + 104), .ref (a + 108), .ref (a + 110), .ref (a + 114), .ref (a + 116), .ref (a + 120), .ref (a + 123), .ref (a + 130), .ref (a + 131)]), .inr (9, [.ref (a + 2), .ref (a + 3), .ref (a + 4), .ref (a + 5), .ref (a + 6), .int 0, .int 0, .int 0]), .inl (ca 0, 6, .inl (fun _ => 0)), .inl (ca 0, 6, .inl (fun _ => 0)), .inl (ca 0, 6, .inl f1_0), .inl (ca 0, 36, .inl f1_1), .inl (ca 4, 16, .inr (.inr (.inr (.inr (fun j => some (a + (7 + 2 * j))))))), .inr (5, [.ref (a + 8), .int 0, .int 0, .int 0, .int 0, .int 0, .int 0]), .inl (ca 0, 6, .inl (fun _ => 0)), .inr (5, [.ref (a + 10), .int 0, .int 0, .int 0, .int 0, .int 0, .int 0]), .inl (ca 0, 6, .inl (fun _ => 0)), .inr (5, [.ref (a + 12), .int 0, .int 0, .int 0, .int 0, .int 0, .int 0]), .inl (ca 0, 6, .inl (fun _ => 0)), .inr (5, [.ref (a + 14), .int 0, .int 0, .int 0, .int 0, .int 0, .int 0]), .inl (ca 0, 6, .inl (fun _ => 0)), .inr (5, [.ref (a + 16), .int 0, .int 0, .int 0, .int 0, .int 0, .int 0]), .inl (ca 0, 6, .inl (fun _ => 0)), .inr (5, [.ref (a + 18), .int 0, .int 0, .int 0, .int 0, .int 0, .int 0]), .inl (ca 0, 6, .inl (fun _ => 0)), .inr (5, [.ref (a + 20), .int 0, .int 0, .int 0, .int 0, .int 0, .int 0]), .inl (ca 0, 6, .inl (fun _ => 0)), .inr (5, [.ref (a + 22), .int 0, .int 0, .int 0, .int 0, .int 0, .int 0]), .inl (ca 0, 6, .inl (fun _ => 0)), .inr (5, [.ref (a + 24), .int 0, .int 0, .int 0, .int 0, .int 0, .int 0]), .inl (ca 0, 6, .inl (fun _ => 0)), .inr (5, [.ref (a + 26), .int 0, .int 0, .int 0, .int 0, .int 0, .int 0]), .inl (ca 0, 6, .inl (fun _ => 0)), .inr (5, [.ref (a + 28), .int 0, .int 0, .int 0, .int 0, .int 0, .int 0]), .inl (ca 0, 6, .inl (fun _ => 0)), .inr (5, [.ref (a + 30), .int 0, .int 0, .int 0, .int 0, .int 0, .int 0]), .inl (ca 0, 6, .inl (fun _ => 0)), .inr (5, [.ref (a + 32), .int 0, .int 0, .int 0, .int 0, .int 0, .int 0]), .inl (ca 0, 6, .inl (fun _ => 0)), .inr (5, [.ref (a + 34), .int 0, .int 0, .int 0, .int 0, .int 0, .int 0]), .inl (ca 0, 6, .inl (fun _ => 0)), .inr (5, [.ref (a + 36), .int 0, .int 0, .int 0, .int 0, .int 0, .int 0]), .inl (ca 0, 6, .inl (fun _ => 0)), .inr (5, [.ref (a + 38), .int 0, .int 0, .int 0, .int 0, .int 0, .int 0]), .inl (ca 0, 6, .inl (fun _ => 0)), .inr (9, [.ref (a + 40), .ref (a + 41), .ref (a + 42), .ref (a + 43), .ref (a + 44), .int 0, .int 0, .int 0]), .inl (ca 0, 6, .inl (fun _ => 0)), .inl (ca 0, 6, .inl (fun _ => 0)), .inl (ca 0, 6, .inl f1_2), .inl (ca 0, 36, .inl f1_3), .inl (ca 4, 16, .inr (.inr (.inr (.inr (fun j => some (a + (45 + 2 * j))))))), .inr (5, [.ref (a + 46), .int 0, .int 0, .int 0, .int 0, .int 0, .int 0]), .inl (ca 0, 6, .inl (fun _ => 0)), .inr (5, [.ref (a + 48), .int 0, .int 0, .int 0, .int 0, .int 0, .int 0]), .inl (ca 0, 6, .inl (fun _ => 0)), .inr (5, [.ref (a + 50), .int 0, .int 0, .int 0, .int 0, .int 0, .int 0]), .inl (ca 0, 6, .inl (fun _ => 0)), .inr (5, [.ref (a + 52), .int 0, .int 0, .int 0, .int 0, .int 0, .int 0]), .inl (ca 0, 6, .inl (fun _ => 0)), .inr (5, [.ref (a + 54), .int 0, .int 0, .int 0, .int 0, .int 0, .int 0]), .inl (ca 0, 6, .inl (fun _ => 0)), .inr (5, [.ref (a + 56), .int 0, .int 0, .int 0, .int 0, .int 0, .int 0]), .inl (ca 0, 6, .inl (fun _ => 0)), .inr (5, [.ref (a + 58), .int 0, .int 0, .int 0, .int 0, .int 0, .int 0]), .inl (ca 0, 6, .inl (fun _ => 0)), .inr (5, [.ref (a + 60), .int 0, .int 0, .int 0, .int 0, .int 0, .int 0]), .inl (ca 0, 6, .inl (fun _ => 0)), .inr (5, [.ref (a + 62), .int 0, .int 0, .int 0, .int 0, .int 0, .int 0]), .inl (ca 0, 6, .inl (fun _ => 0)), .inr (5, [.ref (a + 64), .int 0, .int 0, .int 0, .int 0, .int 0, .int 0]), .inl (ca 0, 6, .inl (fun _ => 0)), .inr (5, [.ref (a + 66), .int 0, .int 0, .int 0, .int 0, .int 0, .int 0]), .inl (ca 0, 6, .inl (fun _ => 0)), .inr (5, [.ref (a + 68), .int 0, .int 0, .int 0, .int 0, .int 0, .int 0]), .inl (ca 0, 6, .inl (fun _ => 0)), .inr (5, [.ref (a + 70), .int 0, .int 0, .int 0, .int 0, .int 0, .int 0]), .inl (ca 0, 6, .inl (fun _ => 0)), .inr (5, [.ref (a + 72), .int 0, .int 0, .int 0, .int 0, .int 0, .int 0]), .inl (ca 0, 6, .inl (fun _ => 0)), .inr (5, [.ref (a + 74), .int 0, .int 0, .int 0, .int 0, .int 0, .int 0]), .inl (ca 0, 6, .inl (fun _ => 0)), .inr (5, [.ref (a + 76), .int 0, .int 0, .int 0, .int 0, .int 0, .int 0]), .inl (ca 0, 6, .inl (fun _ => 0)), .inl (ca 0, 260, .inl (fun _ => 0)), .inr (6, [.ref (a + 77), .ref (a + 79), .ref (a + 87), .ref (a + 95), .ref (a + 103), .int 0, .int 0, .int 0, .int 0, .int 0, .int 0, .int 0, .int 0, .int 0, .int 0]), .inl (ca 5, 7, .inr (.inr (.inr (.inr (fun j => some (a + (80 + j))))))), .inl (ca 0, 7, .inl (fun _ => 0)), .inl (ca 0, 7, .inl (fun _ => 0)), .inl (ca 0, 7, .inl (fun _ => 0)), .inl (ca 0, 7, .inl (fun _ => 0)), .inl (ca 0, 7, .inl (fun _ => 0)), .inl (ca 0, 7, .inl (fun _ => 0)), .inl (ca 0, 7, .inl (fun _ => 0)), .inl (ca 5, 7, .inr (.inr (.inr (.inr (fun j => some (a + (88 + j))))))), .inl (ca 0, 7, .inl (fun _ => 0)), .inl (ca 0, 7, .inl (fun _ => 0)), .inl (ca 0, 7, .inl (fun _ => 0)), .inl (ca 0, 7, .inl (fun _ => 0)), .inl (ca 0, 7, .inl (fun _ => 0)), .inl (ca 0, 7, .inl (fun _ => 0)), .inl (ca 0, 7, .inl (fun _ => 0)), .inl (ca 5, 7, .inr (.inr (.inr (.inr (fun j => some (a + (96 + j))))))), .inl (ca 0, 7, .inl (fun _ => 0)), .inl (ca 0, 7, .inl (fun _ => 0)), .inl (ca 0, 7, .inl (fun _ => 0)), .inl (ca 0, 7, .inl (fun _ => 0)), .inl (ca 0, 7, .inl (fun _ => 0)), .inl (ca 0, 7, .inl (fun _ => 0)), .inl (ca 0, 7, .inl (fun _ => 0)), .inl (ca 0, 7, .inl (fun _ => 0)), .inr (7, [.ref (a + 1), .ref (a + 105), .ref (a + 106), .ref (a + 107), .int 0, .int 0, .int 0]), .inl (ca 0, 6, .inl (fun _ => 0)), .inl (ca 0, 10, .inl (fun _ => 0)), .inl (ca 0, 10, .inl (fun _ => 0)), .inr (3, [.ref (a + 109), .int 0]), .inl (ca 0, 1024, .inl (fun _ => 0)), .inr (2, [.ref (a + 111), .ref (a + 112), .ref (a + 113), .int 0, .int 0, .int 0, .int 0]), .inl (ca 0, 12000, .inl (fun _ => 0)), .inl (ca 1, 2000, .inr (.inl (fun _ => 0))), .inl (ca 2, 2000, .inl (fun _ => 0)), .inr (8, [.ref (a + 115), .int 0, .int 0, .int 0, .int 0, .int 0]), .inl (ca 0, 6, .inl (fun _ => 0)), .inr (4, [.ref (a + 117), .ref (a + 118), .ref (a + 119), .int 0]), .inl (ca 0, 6, .inl (fun _ => 0)), .inl (ca 0, 6, .inl (fun _ => 0)), .inl (ca 0, 6, .inl (fun _ => 0)), .inr (1, [.ref (a + 121), .ref (a + 122)]), .inl (ca 0, 6, .inl (fun _ => 0)), .inl (ca 0, 6, .inl (fun _ => 0)), .inr (0, [.ref (a + 124), .ref (a + 125), .ref (a + 126), .ref (a + 127), .ref (a + 128), .ref (a + 129), .int 0]), .inl (ca 0, 3, .inl (fun _ => 0)), .inl (ca 0, 3, .inl (fun _ => 0)), .inl (ca 0, 3, .inl (fun _ => 0)), .inl (ca 0, 3, .inl (fun _ => 0)), .inl (ca 0, 441, .inl (fun _ => 0)), .inl (ca 0, 441, .inl (fun _ => 0)), .inl (ca 0, 100, .inl (fun _ => 0)), .inl (ca 1, 2807, .inr (.inl (fun _ => 0))), .inr (11, [.null, .null, .null, .null, .int 0, .int 0, .int 0, .null, .null, .null, .null, .null, .null, .null, .null, .int 0, .int 0, .int 0, .int 0, .int 0, .null, .null, .null, .null, .null, .null, .null, .null, .null, .int 0, .int 0, .int 0, .null, .int 0, .int 0, .int 0, .null, .null, .null, .null, .null, .int 0, .null, .int 0, .int 0, .int 0, .int 0, .int 0, .null, .null, .null, .null, .null, .null, .null, .null, .null, .null, .int 0, .null, .null, .int 0, .int 0])] H := hP
  refine lv_dup hx hb dL_law_11 rfl ?_
  refine qn_callI (As := []) (rest := [.ref (a + 132)]) (k0 := 132) (n0 := 0) (mC_init l D ca (a + 132)) qX_T (fun U hW => trivial) ⟨hx, hb, hml, hown, hts⟩ wq_989 wq_990 wq_13 wq_991 rfl (by decide +kernel) rfl rfl ⟨Nat.le_of_ble_eq_true rfl, Nat.le_of_ble_eq_true rfl⟩ hP rfl (Nat.le_of_ble_eq_true rfl) hK hS (fun q h => by rw [← ha]; exact Nat.le_trans (Nat.le_add_right _ _) h) rfl hl.1 rfl (Nat.le_of_ble_eq_true rfl) dL_law_12 ⟨Nat.le_of_ble_eq_true rfl, Nat.le_of_ble_eq_true rfl⟩ (fun u2 H locs hP hS => ?_)
  obtain ⟨f2_0, f2_1⟩ := u2
  have hP : qL D vwCl a [.inr (10, [.ref (a + 1), .ref (a + 39), .int 0, .ref (a + 77), .int 0, .ref (a + 78), .ref (a + 104), .ref (a + 108), .ref (a + 110), .ref (a + 114), .ref (a + 116), .ref (a + 120), .ref (a + 123), .ref (a + 130), .ref (a + 131)]), .inr (9, [.ref (a + 2), .ref (a + 3), .ref (a + 4), .ref (a + 5), .ref (a + 6), .int 0, .int 0, .int 0]), .inl (ca 0, 6, .inl (fun _ => 0)), .inl (ca 0, 6, .inl (fun _ => 0)), .inl (ca 0, 6, .inl f1_0), .inl (ca 0, 36, .inl f1_1), .inl (ca 4, 16, .inr (.inr (.inr (.inr (fun j => some (a + (7 + 2 * j))))))), .inr (5, [.ref (a + 8), .int 0, .int 0, .int 0, .int 0, .int 0, .int 0]), .inl (ca 0, 6, .inl (fun _ => 0)), .inr (5, [.ref (a + 10), .int 0, .int 0, .int 0, .int 0, .int 0, .int 0]), .inl (ca 0, 6, .inl (fun _ => 0)), .inr (5, [.ref (a + 12), .int 0, .int 0, .int 0, .int 0, .int 0, .int 0]), .inl (ca 0, 6, .inl (fun _ => 0)), .inr (5, [.ref (a + 14), .int 0, .int 0, .int 0, .int 0, .int 0, .int 0]), .inl (ca 0, 6, .inl (fun _ => 0)), .inr (5, [.ref (a + 16), .int 0, .int 0, .int 0, .int 0, .int 0, .int 0]), .inl (ca 0, 6, .inl (fun _ => 0)), .inr (5, [.ref (a + 18), .int 0, .int 0, .int 0, .int 0, .int 0, .int 0]), .inl (ca 0, 6, .inl (fun _ => 0)), .inr (5, [.ref (a + 20), .int 0, .int 0, .int 0, .int 0, .int 0, .int 0]), .inl (ca 0, 6, .inl (fun _ => 0)), .inr (5, [.ref (a + 22), .int 0, .int 0, .int 0, .int 0, .int 0, .int 0]), .inl (ca 0, 6, .inl (fun _ => 0)), .inr (5, [.ref (a + 24), .int 0, .int 0, .int 0, .int 0, .int 0, .int 0]), .inl (ca 0, 6, .inl (fun _ => 0)), .inr (5, [.ref (a + 26), .int 0, .int 0, .int 0, .int 0, .int 0, .int 0]), .inl (ca 0, 6, .inl (fun _ => 0)), .inr (5, [.ref (a + 28), .int 0, .int 0, .int 0, .int 0, .int 0, .int 0]), .inl (ca 0, 6, .inl (fun _ => 0)), .inr (5, [.ref (a + 30), .int 0, .int 0, .int 0, .int 0, .int 0, .int 0]), .inl (ca 0, 6, .inl (fun _ => 0)), .inr (5, [.ref (a + 32), .int 0, .int 0, .int 0, .int 0, .int 0, .int 0]), .inl (ca 0, 6, .inl (fun _ => 0)), .inr (5, [.ref (a + 34), .int 0, .int 0, .int 0, .int 0, .int 0, .int 0]), .inl (ca 0, 6, .inl (fun _ => 0)), .inr (5, [.ref (a + 36), .int 0, .int 0, .int 0, .int 0, .int 0, .int 0]), .inl (ca 0, 6, .inl (fun _ => 0)), .inr (5, [.ref (a + 38), .int 0, .int 0, .int 0, .int 0, .int 0, .int 0]), .inl (ca 0, 6, .inl (fun _ => 0)), .inr (9, [.ref (a + 40), .ref (a + 41), .ref (a + 42), .ref (a + 43), .ref (a + 44), .int 0, .int 0, .int 0]), .inl (ca 0, 6, .inl (fun _ => 0)), .inl (ca 0, 6, .inl (fun _ => 0)), .inl (ca 0, 6, .inl f1_2), .inl (ca 0, 36, .inl f1_3), .inl (ca 4, 16, .inr (.inr (.inr (.inr (fun j => some (a + (45 + 2 * j))))))), .inr (5, [.ref (a + 46), .int 0, .int 0, .int 0, .int 0, .int 0, .int 0]), .inl (ca 0, 6, .inl (fun _ => 0)), .inr (5, [.ref (a + 48), .int 0, .int 0, .int 0, .int 0, .int 0, .int 0]), .inl (ca 0, 6, .inl (fun _ => 0)), .inr (5, [.ref (a + 50), .int 0, .int 0, .int 0, .int 0, .int 0, .int 0]), .inl (ca 0, 6, .inl (fun _ => 0)), .inr (5, [.ref (a + 52), .int 0, .int 0, .int 0, .int 0, .int 0, .int 0]), .inl (ca 0, 6, .inl (fun _ => 0)), .inr (5, [.ref (a + 54), .int 0, .int 0, .int 0, .int 0, .int 0, .int 0]), .inl (ca 0, 6, .inl (fun _ => 0)), .inr (5, [.ref (a + 56), .int 0, .int 0, .int 0, .int 0, .int 0, .int 0]), .inl (ca 0, 6, .inl (fun _ => 0)), .inr (5, [.ref (a + 58), .int 0, .int 0, .int 0, .int 0, .int 0, .int 0]), .inl (ca 0, 6, .inl (fun _ => 0)), .inr (5, [.ref (a + 60), .int 0, .int 0, .int 0, .int 0, .int 0, .int 0]), .inl (ca 0, 6, .inl (fun _ => 0)), .inr (5, [.ref (a + 62), .int 0, .int 0, .int 0, .int 0, .int 0, .int 0]), .inl (ca 0, 6, .inl (fun _ => 0)), .inr (5, [.ref (a + 64), .int 0, .int 0, .int 0, .int 0, .int 0, .int 0]), .inl (ca 0, 6, .inl (fun _ => 0)), .inr (5, [.ref (a + 66), .int 0, .int 0, .int 0, .int 0, .int 0, .int 0]), .inl (ca 0, 6, .inl (fun _ => 0)), .inr (5, [.ref (a + 68), .int 0, .int 0, .int 0, .int 0, .int 0, .int 0]), .inl (ca 0, 6, .inl (fun _ => 0)), .inr (5, [.ref (a + 70), .int 0, .int 0, .int 0, .int 0, .int 0, .int 0]), .inl (ca 0, 6, .inl (fun _ => 0)), .inr (5, [.ref (a + 72), .int 0, .int 0, .int 0, .int 0, .int 0, .int 0]), .inl (ca 0, 6, .inl (fun _ => 0)), .inr (5, [.ref (a + 74), .int 0, .int 0, .int 0, .int 0, .int 0, .int 0]), .inl (ca 0, 6, .inl (fun _ => 0)), .inr (5, [.ref (a + 76), .int 0, .int 0, .int 0, .int 0, .int 0, .int 0]), .inl (ca 0, 6, .inl (fun _ => 0)), .inl (ca 0, 260, .inl (fun _ => 0)), .inr (6, [.ref (a + 77), .ref (a + 79), .ref (a + 87), .ref (a + 95), .ref (a + 103), .int 0, .int 0, .int 0, .int 0, .int 0, .int 0, .int 0, .int 0, .int 0, .int 0]), .inl (ca 5, 7, .inr (.inr (.inr (.inr (fun j => some (a + (80 + j))))))), .inl (ca 0, 7, .inl (fun _ => 0)), .inl (ca 0, 7, .inl (fun _ => 0)), .inl (ca 0, 7, .inl (fun _ => 0)), .inl (ca 0, 7, .inl (fun _ => 0)), .inl (ca 0, 7, .inl (fun _ => 0)), .inl (ca 0, 7, .inl (fun _ => 0)), .inl (ca 0, 7, .inl (fun _ => 0)), .inl (ca 5, 7, .inr (.inr (.inr (.inr (fun j => some (a + (88 + j))))))), .inl (ca 0, 7, .inl (fun _ => 0)), .inl (ca 0, 7, .inl (fun _ => 0)), .inl (ca 0, 7, .inl (fun _ => 0)), .inl (ca 0, 7, .inl (fun _ => 0)), .inl (ca 0, 7, .inl (fun _ => 0)), .inl (ca 0, 7, .inl (fun _ => 0)), .inl (ca 0, 7, .inl (fun _ => 0)), .inl (ca 5, 7, .inr (.inr (.inr (.inr (fun j => some (a + (96 + j))))))), .inl (ca 0, 7, .inl (fun _ => 0)), .inl (ca 0, 7, .inl (fun _ => 0)), .inl (ca 0, 7, .inl (fun _ => 0)), .inl (ca 0, 7, .inl (fun _ => 0)), .inl (ca 0, 7, .inl (fun _ => 0)), .inl (ca 0, 7, .inl (fun _ => 0)), .inl (ca 0, 7, .inl (fun _ => 0)), .inl (ca 0, 7, .inl (fun _ => 0)), .inr (7, [.ref (a + 1), .ref (a + 105), .ref (a + 106), .ref (a + 107), .int 0, .int 0, .int 0]), .inl (ca 0, 6, .inl (fun _ => 0)), .inl (ca 0, 10, .inl (fun _ => 0)), .inl (ca 0, 10, .inl (fun _ => 0)), .inr (3, [.ref (a + 109), .int 0]), .inl (ca 0, 1024, .inl (fun _ => 0)), .inr (2, [.ref (a + 111), .ref (a + 112), .ref (a + 113), .int 0, .int 0, .int 0, .int 0]), .inl (ca 0, 12000, .inl (fun _ => 0)), .inl (ca 1, 2000, .inr (.inl (fun _ => 0))), .inl (ca 2, 2000, .inl (fun _ => 0)), .inr (8, [.ref (a + 115), .int 0, .int 0, .int 0, .int 0, .int 0]), .inl (ca 0, 6, .inl (fun _ => 0)), .inr (4, [.ref (a + 117), .ref (a + 118), .ref (a + 119), .int 0]), .inl (ca 0, 6, .inl (fun _ => 0)), .inl (ca 0, 6, .inl (fun _ => 0)), .inl (ca 0, 6, .inl (fun _ => 0)), .inr (1, [.ref (a + 121), .ref (a + 122)]), .inl (ca 0, 6, .inl (fun _ => 0)), .inl (ca 0, 6, .inl (fun _ => 0)), .inr (0, [.ref (a + 124), .ref (a + 125), .ref (a + 126), .ref (a + 127), .ref (a + 128), .ref (a + 129), .int 0]), .inl (ca 0, 3, .inl (fun _ => 0)), .inl (ca 0, 3, .inl (fun _ => 0)), .inl (ca 0, 3, .inl (fun _ => 0)), .inl (ca 0, 3, .inl (fun _ => 0)), .inl (ca 0, 441, .inl (fun _ => 0)), .inl (ca 0, 441, .inl (fun _ => 0)), .inl (ca 0, 100, .inl (fun _ => 0)), .inl (ca 1, 2807, .inr (.inl (fun _ => 0))), .inr (11, [.ref (a + 133), .ref (a + 134), .ref (a + 135), .ref (a + 136), .int 0, .int 0, .int 0, .ref (a + 137), .ref (a + 138), .ref (a + 139), .ref (a + 140), .ref (a + 141), .ref (a + 142), .ref (a + 143), .ref (a + 144), .int 0, .int 0, .int 0, .int 0, .int 0, .ref (a + 145), .ref (a + 146), .ref (a + 147), .ref (a + 148), .ref (a + 149), .ref (a + 150), .ref (a + 151), .ref (a + 152), .ref (a + 153), .int 0, .int 0, .int 0, .ref (a + 154), .int 0, .int 0, .int 0, .ref (a + 155), .ref (a + 156), .ref (a + 157), .ref (a + 158), .ref (a + 159), .int 0, .ref (a + 160), .int 0, .int 0, .int 0, .int 0, .int 0, .ref (a + 161), .ref (a + 162), .ref (a + 163), .ref (a + 164), .ref (a + 165), .ref (a + 166), .ref (a + 167), .ref (a + 168), .ref (a + 169), .ref (a + 170), .int 0, .ref (a + 171), .ref (a + 172), .int 0, .int 0]), .inl (ca 0, 6, .inl (fun _ => 0)), .inl (ca 0, 6, .inl (fun _ => 0)), .inl (ca 0, 6, .inl f2_0), .inl (ca 0, 36, .inl f2_1), .inl (ca 0, 96, .inl (fun _ => 0)), .inl (ca 0, 16, .inl (fun _ => 0)), .inl (ca 0, 16, .inl (fun _ => 0)), .inl (ca 0, 16, .inl (fun _ => 0)), .inl (ca 0, 16, .inl (fun _ => 0)), .inl (ca 0, 16, .inl (fun _ => 0)), .inl (ca 0, 16, .inl (fun _ => 0)), .inl (ca 3, 260, .inl (fun _ => 0)), .inl (ca 0, 49, .inl (fun _ => 0)), .inl (ca 0, 49, .inl (fun _ => 0)), .inl (ca 0, 7, .inl (fun _ => 0)), .inl (ca 0, 7, .inl (fun _ => 0)), .inl (ca 0, 7, .inl (fun _ => 0)), .inl (ca 0, 7, .inl (fun _ => 0)), .inl (ca 0, 7, .inl (fun _ => 0)), .inl (ca 0, 7, .inl (fun _ => 0)), .inl (ca 0, 7, .inl (fun _ => 0)), .inl (ca 0, 7, .inl (fun _ => 0)), .inl (ca 0, 6, .inl (fun _ => 0)), .inl (ca 0, 1024, .inl (fun _ => 0)), .inl (ca 0, 100, .inl (fun _ => 0)), .inl (ca 3, 12000, .inl (fun _ => 0)), .inl (ca 0, 2000, .inl (fun _ => 0)), .inl (ca 2, 2000, .inl (fun _ => 0)), .inl (ca 0, 6, .inl (fun _ => 0)), .inl (ca 0, 6, .inl (fun _ => 0)), .inl (ca 0, 6, .inl (fun _ => 0)), .inl (ca 0, 6, .inl (fun _ => 0)), .inl (ca 0, 6, .inl (fun _ => 0)), .inl (ca 0, 6, .inl (fun _ => 0)), .inl (ca 0, 3, .inl (fun _ => 0)), .inl (ca 0, 3, .inl (fun _ => 0)), .inl (ca 0, 9261, .inl (fun _ => 0)), .inl (ca 0, 9261, .inl (fun _ => 0)), .inl (ca 1, 2807, .inr (.inl (fun _ => 0))), .inl (ca 0, 249, .inl (fun _ => 0))] H := hP
  refine lv_astore_n (lv' := [(2, .ref (a + 132)), (1, .ref (a + 0)), (0, .ref b)]) hx hb dL_law_15 rfl hl (by decide) rfl (fun ls hl => ?_)
  have hPU : qw_P D vwCl (a + 0) 132 (qG (GU ca (a + 0)) (zU0 f1_0 f1_1 f1_2 f1_3) (fun _ _ => 0)) H := qL_P' hP 0 rfl
  have hPM : qw_P D vwCl (a + 132) 41 (qG (GM ca (a + 132)) (zM0 f2_0 f2_1) (fun _ _ => 0)) H := qL_P' hP 132 rfl
  clear hP
  refine lv_iconst (v := 0) hx hb dL_law_16 (by decide) ?_
  refine lv_istore_n (lv' := [(3, .int 0), (2, .ref (a + 132)), (1, .ref (a + 0)), (0, .ref b)]) hx hb dL_law_17 rfl hl (by decide) rfl (fun ls hl => ?_)
  have hAu : ∀ q, qw_A (a + 0) 132 q → s.heap.size ≤ q := fun q h => by have h1 : a + 0 ≤ q := h.1; omega
  have hAm : ∀ q, qw_A (a + 132) 41 q → s.heap.size ≤ q := fun q h => by have h1 : a + 132 ≤ q := h.1; omega
  have loop : ∀ (n : Nat) (i : Int32) (zu : Nat → Nat → Int32) (yu : Nat → Nat → Int64) (zm : Nat → Nat → Int32) (ym : Nat → Nat → Int64), ((L : Int) - i.toInt < (n : Int)) → 0 ≤ i.toInt → i.toInt ≤ 3078 → qJU zu zu → qJM zm zm → REL zu zm → ∀ (H : Heap) (locs : List Loc), qw_P D vwCl (a + 0) 132 (qG (GU ca (a + 0)) zu yu) H → qw_P D vwCl (a + 132) 41 (qG (GM ca (a + 132)) zm ym) H → va_S (fun q : Nat => s.heap.size ≤ q) s.heap H locs → ∀ (ls : Array Slot), lv_has ls 4 [(3, .int i), (2, .ref (a + 132)), (1, .ref (a + 0)), (0, .ref b)] → W p l e room_1 s m #[Value.ref b] below meth c H locs (0 + 1 + 131 + 1 + 40) (0 + 15 + 21944 + 63 + 39410) (lw_Z below #[Value.ref b] s) (F0 m 18 ls []) := by
    intro n
    induction n with
    | zero =>
      intro i zu yu zm ym hn h0 h9 JU JM RR H locs hPU hPM hS ls hl
      refine lv_iload_n hx hb dL_law_18 rfl (lv_at hl 0 rfl) ?_
      refine lv_aload_n hx hb dL_law_19 rfl (lv_at hl 3 rfl) ?_
      refine va_slen hx hb hX hbl hbA hS dL_law_20 ?_
      refine lv_bipush (v := 6) hx hb dL_law_21 (by decide) ?_
      refine lv_isub hx hb dL_law_23 ?_
      refine lv_topi (fun d ed => ?_)
      have hd : d.toInt = (L : Int) - 6 := ln_6 hL ed
      refine lv_icmp_gt (tgt := 1772) hx hb dL_law_24 (by decide) (fun c0 => ?_) (fun c0 => ?_)
      · refine lv_iconst (v := 1) hx hb dL_law_1772 (by decide) ?_
        refine va_forget hS.2.2 ?_
        refine W.widen (k := 600000) (n := 7302250) (Nat.le_of_ble_eq_true rfl) (Nat.le_of_ble_eq_true rfl) ?_
        exact lw_ret hx hb hr hlocks dL_law_1773
      · exfalso; have c1 := gl_nlt c0; omega
    | succ n ih =>
      intro i zu yu zm ym hn h0 h9 JU JM RR H locs hPU hPM hS ls hl
      refine lv_iload_n hx hb dL_law_18 rfl (lv_at hl 0 rfl) ?_
      refine lv_aload_n hx hb dL_law_19 rfl (lv_at hl 3 rfl) ?_
      refine va_slen hx hb hX hbl hbA hS dL_law_20 ?_
      refine lv_bipush (v := 6) hx hb dL_law_21 (by decide) ?_
      refine lv_isub hx hb dL_law_23 ?_
      refine lv_topi (fun d ed => ?_)
      have hd : d.toInt = (L : Int) - 6 := ln_6 hL ed
      refine lv_icmp_gt (tgt := 1772) hx hb dL_law_24 (by decide) (fun c0 => ?_) (fun c0 => ?_)
      · refine lv_iconst (v := 1) hx hb dL_law_1772 (by decide) ?_
        refine va_forget hS.2.2 ?_
        refine W.widen (k := 600000) (n := 7302250) (Nat.le_of_ble_eq_true rfl) (Nat.le_of_ble_eq_true rfl) ?_
        exact lw_ret hx hb hr hlocks dL_law_1773
      · have c1 := gl_nlt c0
        have hi1 : (i + 1).toInt = i.toInt + 1 := gi_add (y := 1) (by show _ ≤ _ + (1 : Int); omega) (by show _ + (1 : Int) ≤ _; omega)
        have hi2 : (i + 2).toInt = i.toInt + 2 := gi_add (y := 2) (by show _ ≤ _ + (2 : Int); omega) (by show _ + (2 : Int) ≤ _; omega)
        have hi3 : (i + 3).toInt = i.toInt + 3 := gi_add (y := 3) (by show _ ≤ _ + (3 : Int); omega) (by show _ + (3 : Int) ≤ _; omega)
        have hi4 : (i + 4).toInt = i.toInt + 4 := gi_add (y := 4) (by show _ ≤ _ + (4 : Int); omega) (by show _ + (4 : Int) ≤ _; omega)
        have hi5 : (i + 5).toInt = i.toInt + 5 := gi_add (y := 5) (by show _ ≤ _ + (5 : Int); omega) (by show _ + (5 : Int) ≤ _; omega)
        refine lv_aload_n hx hb dL_law_27 rfl (lv_at hl 3 rfl) ?_
        refine lv_iload_n hx hb dL_law_28 rfl (lv_at hl 0 rfl) ?_
        refine va_sld hx hb hX hbl hbA hS (gi_in (by omega) (by omega)) dL_law_29 ?_
        refine lv_bipush (v := 63) hx hb dL_law_30 (by decide) ?_
        refine lv_iand hx hb dL_law_32 ?_
        refine lv_topi (fun k ek => ?_)
        have hsw : (k.toInt < 0 ∨ 43 < k.toInt) ∨ ∃ n : Nat, n < 44 ∧ k.toInt = (n : Int) := by
          by_cases h1 : k.toInt < 0 ∨ 43 < k.toInt
          · exact Or.inl h1
          · exact Or.inr ⟨k.toInt.toNat, by omega, by omega⟩
        rcases hsw with hsw | ⟨n1, hn1, hkn⟩
        · refine lv_tableOut (tgt := 1766) hx hb dL_law_33 hsw (by decide) ?_
          refine lv_iinc (v := i + 6) (lv' := [(3, .int (i + 6)), (2, .ref (a + 132)), (1, .ref (a + 0)), (0, .ref b)]) hx hb dL_law_1766 hl (k := 0) rfl rfl (by decide) rfl (fun ls hl => ?_)
          refine lv_goto (tgt := 18) hx hb dL_law_1769 (by decide) ?_
          have hi6 : (i + 6).toInt = i.toInt + 6 := gi_add (y := 6) (by show _ ≤ _ + (6 : Int); omega) (by show _ + (6 : Int) ≤ _; omega)
          exact ih (i + 6) zu yu zm ym (by omega) (by omega) (by omega) JU JM RR _ _ hPU hPM hS _ hl
        · match n1, hn1, hkn with
          | 0, _, hkn =>
            refine lv_tableIn (tgt := 224) hx hb dL_law_33 (by omega) (by omega) (by rw [hkn]; rfl) (by decide) ?_
            refine lv_aload_n hx hb dL_law_224 rfl (lv_at hl 2 rfl) ?_
            refine lv_aload_n hx hb dL_law_225 rfl (lv_at hl 3 rfl) ?_
            refine lv_iload_n hx hb dL_law_226 rfl (lv_at hl 0 rfl) ?_
            refine lv_iconst (v := 1) hx hb dL_law_227 (by decide) ?_
            refine lv_iadd hx hb dL_law_228 ?_
            refine va_sld hx hb hX hbl hbA hS (gi_in (by omega) (by omega)) dL_law_229 ?_
            refine lv_aload_n hx hb dL_law_230 rfl (lv_at hl 3 rfl) ?_
            refine lv_iload_n hx hb dL_law_231 rfl (lv_at hl 0 rfl) ?_
            refine lv_iconst (v := 2) hx hb dL_law_232 (by decide) ?_
            refine lv_iadd hx hb dL_law_233 ?_
            refine va_sld hx hb hX hbl hbA hS (gi_in (by omega) (by omega)) dL_law_234 ?_
            refine lv_aload_n hx hb dL_law_235 rfl (lv_at hl 3 rfl) ?_
            refine lv_iload_n hx hb dL_law_236 rfl (lv_at hl 0 rfl) ?_
            refine lv_iconst (v := 3) hx hb dL_law_237 (by decide) ?_
            refine lv_iadd hx hb dL_law_238 ?_
            refine va_sld hx hb hX hbl hbA hS (gi_in (by omega) (by omega)) dL_law_239 ?_
            refine qc_Vi2 (As := [.int (xs (i + 1).toNatClampNeg), .int (xs (i + 2).toNatClampNeg), .int (xs (i + 3).toNatClampNeg)]) (rest := []) (k0 := 3) (u_person l D ca (a + 0) zu zu yu JU (xs (i + 1).toNatClampNeg) (xs (i + 2).toNatClampNeg) (xs (i + 3).toNatClampNeg)) kc_yX10_person ⟨hx, hb, hml, hown, hts⟩ wq_399 rfl rfl ⟨Nat.le_of_ble_eq_true rfl, Nat.le_of_ble_eq_true rfl⟩ wq_all hPU hK hS hAu (q0 := 0) (by decide) (hgU_0 ca (a + 0) _ _) rfl rfl hl.1 rfl (Nat.le_of_ble_eq_true rfl) dL_law_240 ⟨Nat.le_of_ble_eq_true rfl, Nat.le_of_ble_eq_true rfl⟩ (fun ru zu1 yu1 H locs1 hu hPU hS _ hk => ?_)
            have hPM := qw_kept2 hPM hk (by omega)
            refine lv_pop hx hb dL_law_243 rfl ?_
            refine lv_aload_n hx hb dL_law_244 rfl (lv_at hl 1 rfl) ?_
            refine lv_aload_n hx hb dL_law_245 rfl (lv_at hl 3 rfl) ?_
            refine lv_iload_n hx hb dL_law_246 rfl (lv_at hl 0 rfl) ?_
            refine lv_iconst (v := 1) hx hb dL_law_247 (by decide) ?_
            refine lv_iadd hx hb dL_law_248 ?_
            refine va_sld hx hb hX hbl hbA hS (gi_in (by omega) (by omega)) dL_law_249 ?_
            refine lv_aload_n hx hb dL_law_250 rfl (lv_at hl 3 rfl) ?_
            refine lv_iload_n hx hb dL_law_251 rfl (lv_at hl 0 rfl) ?_
            refine lv_iconst (v := 2) hx hb dL_law_252 (by decide) ?_
            refine lv_iadd hx hb dL_law_253 ?_
            refine va_sld hx hb hX hbl hbA hS (gi_in (by omega) (by omega)) dL_law_254 ?_
            refine lv_aload_n hx hb dL_law_255 rfl (lv_at hl 3 rfl) ?_
            refine lv_iload_n hx hb dL_law_256 rfl (lv_at hl 0 rfl) ?_
            refine lv_iconst (v := 3) hx hb dL_law_257 (by decide) ?_
            refine lv_iadd hx hb dL_law_258 ?_
            refine va_sld hx hb hX hbl hbA hS (gi_in (by omega) (by omega)) dL_law_259 ?_
            refine qc_Vi2 (As := [.int (xs (i + 1).toNatClampNeg), .int (xs (i + 2).toNatClampNeg), .int (xs (i + 3).toNatClampNeg)]) (rest := []) (k0 := 3) (m_person l D ca (a + 132) zm zm ym JM (xs (i + 1).toNatClampNeg) (xs (i + 2).toNatClampNeg) (xs (i + 3).toNatClampNeg)) kc_yX11_person ⟨hx, hb, hml, hown, hts⟩ wq_1183 rfl rfl ⟨Nat.le_of_ble_eq_true rfl, Nat.le_of_ble_eq_true rfl⟩ wq_all hPM hK hS hAm (q0 := 0) (by decide) (hgM_0 ca (a + 132) _ _) rfl rfl hl.1 rfl (Nat.le_of_ble_eq_true rfl) dL_law_260 ⟨Nat.le_of_ble_eq_true rfl, Nat.le_of_ble_eq_true rfl⟩ (fun rm zm1 ym1 H locs1 hm hPM hS _ hk => ?_)
            have hPU := qw_kept2 hPU hk (by omega)
            refine lv_pop hx hb dL_law_263 rfl ?_
            refine lv_goto (tgt := 1766) hx hb dL_law_264 (by decide) ?_
            have hJU : qJU zu1 zu1 := hu.2
            have hJM : qJM zm1 zm1 := hm.2
            have hE : ru = rm ∧ REL zu1 zm1 := law_person RR hu.1 hm.1
            refine lv_iinc (v := i + 6) (lv' := [(3, .int (i + 6)), (2, .ref (a + 132)), (1, .ref (a + 0)), (0, .ref b)]) hx hb dL_law_1766 hl (k := 0) rfl rfl (by decide) rfl (fun ls hl => ?_)
            refine lv_goto (tgt := 18) hx hb dL_law_1769 (by decide) ?_
            have hi6 : (i + 6).toInt = i.toInt + 6 := gi_add (y := 6) (by show _ ≤ _ + (6 : Int); omega) (by show _ + (6 : Int) ≤ _; omega)
            exact ih (i + 6) zu1 yu1 zm1 ym1 (by omega) (by omega) (by omega) hJU hJM hE.2 _ _ hPU hPM hS _ hl
          | 1, _, hkn =>
            refine lv_tableIn (tgt := 267) hx hb dL_law_33 (by omega) (by omega) (by rw [hkn]; rfl) (by decide) ?_
            refine lv_aload_n hx hb dL_law_267 rfl (lv_at hl 2 rfl) ?_
            refine lv_aload_n hx hb dL_law_268 rfl (lv_at hl 3 rfl) ?_
            refine lv_iload_n hx hb dL_law_269 rfl (lv_at hl 0 rfl) ?_
            refine lv_iconst (v := 1) hx hb dL_law_270 (by decide) ?_
            refine lv_iadd hx hb dL_law_271 ?_
            refine va_sld hx hb hX hbl hbA hS (gi_in (by omega) (by omega)) dL_law_272 ?_
            refine lv_aload_n hx hb dL_law_273 rfl (lv_at hl 3 rfl) ?_
            refine lv_iload_n hx hb dL_law_274 rfl (lv_at hl 0 rfl) ?_
            refine lv_iconst (v := 2) hx hb dL_law_275 (by decide) ?_
            refine lv_iadd hx hb dL_law_276 ?_
            refine va_sld hx hb hX hbl hbA hS (gi_in (by omega) (by omega)) dL_law_277 ?_
            refine qc_Vi2 (As := [.int (xs (i + 1).toNatClampNeg), .int (xs (i + 2).toNatClampNeg)]) (rest := []) (k0 := 2) (u_dies l D ca (a + 0) zu zu yu JU (xs (i + 1).toNatClampNeg) (xs (i + 2).toNatClampNeg)) kc_yX10_dies ⟨hx, hb, hml, hown, hts⟩ wq_407 rfl rfl ⟨Nat.le_of_ble_eq_true rfl, Nat.le_of_ble_eq_true rfl⟩ wq_all hPU hK hS hAu (q0 := 0) (by decide) (hgU_0 ca (a + 0) _ _) rfl rfl hl.1 rfl (Nat.le_of_ble_eq_true rfl) dL_law_278 ⟨Nat.le_of_ble_eq_true rfl, Nat.le_of_ble_eq_true rfl⟩ (fun ru zu1 yu1 H locs1 hu hPU hS _ hk => ?_)
            have hPM := qw_kept2 hPM hk (by omega)
            refine lv_pop hx hb dL_law_281 rfl ?_
            refine lv_aload_n hx hb dL_law_282 rfl (lv_at hl 1 rfl) ?_
            refine lv_aload_n hx hb dL_law_283 rfl (lv_at hl 3 rfl) ?_
            refine lv_iload_n hx hb dL_law_284 rfl (lv_at hl 0 rfl) ?_
            refine lv_iconst (v := 1) hx hb dL_law_285 (by decide) ?_
            refine lv_iadd hx hb dL_law_286 ?_
            refine va_sld hx hb hX hbl hbA hS (gi_in (by omega) (by omega)) dL_law_287 ?_
            refine lv_aload_n hx hb dL_law_288 rfl (lv_at hl 3 rfl) ?_
            refine lv_iload_n hx hb dL_law_289 rfl (lv_at hl 0 rfl) ?_
            refine lv_iconst (v := 2) hx hb dL_law_290 (by decide) ?_
            refine lv_iadd hx hb dL_law_291 ?_
            refine va_sld hx hb hX hbl hbA hS (gi_in (by omega) (by omega)) dL_law_292 ?_
            refine qc_Vi2 (As := [.int (xs (i + 1).toNatClampNeg), .int (xs (i + 2).toNatClampNeg)]) (rest := []) (k0 := 2) (m_dies l D ca (a + 132) zm zm ym JM (xs (i + 1).toNatClampNeg) (xs (i + 2).toNatClampNeg)) kc_yX11_dies ⟨hx, hb, hml, hown, hts⟩ wq_1190 rfl rfl ⟨Nat.le_of_ble_eq_true rfl, Nat.le_of_ble_eq_true rfl⟩ wq_all hPM hK hS hAm (q0 := 0) (by decide) (hgM_0 ca (a + 132) _ _) rfl rfl hl.1 rfl (Nat.le_of_ble_eq_true rfl) dL_law_293 ⟨Nat.le_of_ble_eq_true rfl, Nat.le_of_ble_eq_true rfl⟩ (fun rm zm1 ym1 H locs1 hm hPM hS _ hk => ?_)
            have hPU := qw_kept2 hPU hk (by omega)
            refine lv_pop hx hb dL_law_296 rfl ?_
            refine lv_goto (tgt := 1766) hx hb dL_law_297 (by decide) ?_
            have hJU : qJU zu1 zu1 := hu.2
            have hJM : qJM zm1 zm1 := hm.2
            have hE : ru = rm ∧ REL zu1 zm1 := law_dies RR hu.1 hm.1
            refine lv_iinc (v := i + 6) (lv' := [(3, .int (i + 6)), (2, .ref (a + 132)), (1, .ref (a + 0)), (0, .ref b)]) hx hb dL_law_1766 hl (k := 0) rfl rfl (by decide) rfl (fun ls hl => ?_)
            refine lv_goto (tgt := 18) hx hb dL_law_1769 (by decide) ?_
            have hi6 : (i + 6).toInt = i.toInt + 6 := gi_add (y := 6) (by show _ ≤ _ + (6 : Int); omega) (by show _ + (6 : Int) ≤ _; omega)
            exact ih (i + 6) zu1 yu1 zm1 ym1 (by omega) (by omega) (by omega) hJU hJM hE.2 _ _ hPU hPM hS _ hl
          | 2, _, hkn =>
            refine lv_tableIn (tgt := 300) hx hb dL_law_33 (by omega) (by omega) (by rw [hkn]; rfl) (by decide) ?_
            refine lv_aload_n hx hb dL_law_300 rfl (lv_at hl 2 rfl) ?_
            refine lv_aload_n hx hb dL_law_301 rfl (lv_at hl 3 rfl) ?_
            refine lv_iload_n hx hb dL_law_302 rfl (lv_at hl 0 rfl) ?_
            refine lv_iconst (v := 1) hx hb dL_law_303 (by decide) ?_
            refine lv_iadd hx hb dL_law_304 ?_
            refine va_sld hx hb hX hbl hbA hS (gi_in (by omega) (by omega)) dL_law_305 ?_
            refine qc_Vi2 (As := [.int (xs (i + 1).toNatClampNeg)]) (rest := []) (k0 := 1) (u_years l D ca (a + 0) zu zu yu JU (xs (i + 1).toNatClampNeg)) kc_yX10_years ⟨hx, hb, hml, hown, hts⟩ wq_415 rfl rfl ⟨Nat.le_of_ble_eq_true rfl, Nat.le_of_ble_eq_true rfl⟩ wq_all hPU hK hS hAu (q0 := 0) (by decide) (hgU_0 ca (a + 0) _ _) rfl rfl hl.1 rfl (Nat.le_of_ble_eq_true rfl) dL_law_306 ⟨Nat.le_of_ble_eq_true rfl, Nat.le_of_ble_eq_true rfl⟩ (fun ru zu1 yu1 H locs1 hu hPU hS _ hk => ?_)
            have hPM := qw_kept2 hPM hk (by omega)
            refine lv_pop hx hb dL_law_309 rfl ?_
            refine lv_aload_n hx hb dL_law_310 rfl (lv_at hl 1 rfl) ?_
            refine lv_aload_n hx hb dL_law_311 rfl (lv_at hl 3 rfl) ?_
            refine lv_iload_n hx hb dL_law_312 rfl (lv_at hl 0 rfl) ?_
            refine lv_iconst (v := 1) hx hb dL_law_313 (by decide) ?_
            refine lv_iadd hx hb dL_law_314 ?_
            refine va_sld hx hb hX hbl hbA hS (gi_in (by omega) (by omega)) dL_law_315 ?_
            refine qc_Vi2 (As := [.int (xs (i + 1).toNatClampNeg)]) (rest := []) (k0 := 1) (m_years l D ca (a + 132) zm zm ym JM (xs (i + 1).toNatClampNeg)) kc_yX11_years ⟨hx, hb, hml, hown, hts⟩ wq_1201 rfl rfl ⟨Nat.le_of_ble_eq_true rfl, Nat.le_of_ble_eq_true rfl⟩ wq_all hPM hK hS hAm (q0 := 0) (by decide) (hgM_0 ca (a + 132) _ _) rfl rfl hl.1 rfl (Nat.le_of_ble_eq_true rfl) dL_law_316 ⟨Nat.le_of_ble_eq_true rfl, Nat.le_of_ble_eq_true rfl⟩ (fun rm zm1 ym1 H locs1 hm hPM hS _ hk => ?_)
            have hPU := qw_kept2 hPU hk (by omega)
            refine lv_pop hx hb dL_law_319 rfl ?_
            refine lv_goto (tgt := 1766) hx hb dL_law_320 (by decide) ?_
            have hJU : qJU zu1 zu1 := hu.2.1
            have hJM : qJM zm1 zm1 := hm.2.1
            have hE : ru = rm ∧ REL zu1 zm1 := law_years RR hu.2.2 hm.2.2
            refine lv_iinc (v := i + 6) (lv' := [(3, .int (i + 6)), (2, .ref (a + 132)), (1, .ref (a + 0)), (0, .ref b)]) hx hb dL_law_1766 hl (k := 0) rfl rfl (by decide) rfl (fun ls hl => ?_)
            refine lv_goto (tgt := 18) hx hb dL_law_1769 (by decide) ?_
            have hi6 : (i + 6).toInt = i.toInt + 6 := gi_add (y := 6) (by show _ ≤ _ + (6 : Int); omega) (by show _ + (6 : Int) ≤ _; omega)
            exact ih (i + 6) zu1 yu1 zm1 ym1 (by omega) (by omega) (by omega) hJU hJM hE.2 _ _ hPU hPM hS _ hl
          | 3, _, hkn =>
            refine lv_tableIn (tgt := 323) hx hb dL_law_33 (by omega) (by omega) (by rw [hkn]; rfl) (by decide) ?_
            refine lv_aload_n hx hb dL_law_323 rfl (lv_at hl 2 rfl) ?_
            refine lv_aload_n hx hb dL_law_324 rfl (lv_at hl 3 rfl) ?_
            refine lv_iload_n hx hb dL_law_325 rfl (lv_at hl 0 rfl) ?_
            refine lv_iconst (v := 1) hx hb dL_law_326 (by decide) ?_
            refine lv_iadd hx hb dL_law_327 ?_
            refine va_sld hx hb hX hbl hbA hS (gi_in (by omega) (by omega)) dL_law_328 ?_
            refine lv_aload_n hx hb dL_law_329 rfl (lv_at hl 3 rfl) ?_
            refine lv_iload_n hx hb dL_law_330 rfl (lv_at hl 0 rfl) ?_
            refine lv_iconst (v := 2) hx hb dL_law_331 (by decide) ?_
            refine lv_iadd hx hb dL_law_332 ?_
            refine va_sld hx hb hX hbl hbA hS (gi_in (by omega) (by omega)) dL_law_333 ?_
            refine lv_aload_n hx hb dL_law_334 rfl (lv_at hl 3 rfl) ?_
            refine lv_iload_n hx hb dL_law_335 rfl (lv_at hl 0 rfl) ?_
            refine lv_iconst (v := 3) hx hb dL_law_336 (by decide) ?_
            refine lv_iadd hx hb dL_law_337 ?_
            refine va_sld hx hb hX hbl hbA hS (gi_in (by omega) (by omega)) dL_law_338 ?_
            refine lv_aload_n hx hb dL_law_339 rfl (lv_at hl 3 rfl) ?_
            refine lv_iload_n hx hb dL_law_340 rfl (lv_at hl 0 rfl) ?_
            refine lv_iconst (v := 4) hx hb dL_law_341 (by decide) ?_
            refine lv_iadd hx hb dL_law_342 ?_
            refine va_sld hx hb hX hbl hbA hS (gi_in (by omega) (by omega)) dL_law_343 ?_
            refine lv_aload_n hx hb dL_law_344 rfl (lv_at hl 3 rfl) ?_
            refine lv_iload_n hx hb dL_law_345 rfl (lv_at hl 0 rfl) ?_
            refine lv_iconst (v := 5) hx hb dL_law_346 (by decide) ?_
            refine lv_iadd hx hb dL_law_347 ?_
            refine va_sld hx hb hX hbl hbA hS (gi_in (by omega) (by omega)) dL_law_348 ?_
            refine qc_Vi2 (As := [.int (xs (i + 1).toNatClampNeg), .int (xs (i + 2).toNatClampNeg), .int (xs (i + 3).toNatClampNeg), .int (xs (i + 4).toNatClampNeg), .int (xs (i + 5).toNatClampNeg)]) (rest := []) (k0 := 5) (u_feed l D ca (a + 0) zu zu yu JU (xs (i + 1).toNatClampNeg) (xs (i + 2).toNatClampNeg) (xs (i + 3).toNatClampNeg) (xs (i + 4).toNatClampNeg) (xs (i + 5).toNatClampNeg)) kc_yX10_feed ⟨hx, hb, hml, hown, hts⟩ wq_419 rfl rfl ⟨Nat.le_of_ble_eq_true rfl, Nat.le_of_ble_eq_true rfl⟩ wq_all hPU hK hS hAu (q0 := 0) (by decide) (hgU_0 ca (a + 0) _ _) rfl rfl hl.1 rfl (Nat.le_of_ble_eq_true rfl) dL_law_349 ⟨Nat.le_of_ble_eq_true rfl, Nat.le_of_ble_eq_true rfl⟩ (fun ru zu1 yu1 H locs1 hu hPU hS _ hk => ?_)
            have hPM := qw_kept2 hPM hk (by omega)
            refine lv_pop hx hb dL_law_352 rfl ?_
            refine lv_aload_n hx hb dL_law_353 rfl (lv_at hl 1 rfl) ?_
            refine lv_aload_n hx hb dL_law_354 rfl (lv_at hl 3 rfl) ?_
            refine lv_iload_n hx hb dL_law_355 rfl (lv_at hl 0 rfl) ?_
            refine lv_iconst (v := 1) hx hb dL_law_356 (by decide) ?_
            refine lv_iadd hx hb dL_law_357 ?_
            refine va_sld hx hb hX hbl hbA hS (gi_in (by omega) (by omega)) dL_law_358 ?_
            refine lv_aload_n hx hb dL_law_359 rfl (lv_at hl 3 rfl) ?_
            refine lv_iload_n hx hb dL_law_360 rfl (lv_at hl 0 rfl) ?_
            refine lv_iconst (v := 2) hx hb dL_law_361 (by decide) ?_
            refine lv_iadd hx hb dL_law_362 ?_
            refine va_sld hx hb hX hbl hbA hS (gi_in (by omega) (by omega)) dL_law_363 ?_
            refine lv_aload_n hx hb dL_law_364 rfl (lv_at hl 3 rfl) ?_
            refine lv_iload_n hx hb dL_law_365 rfl (lv_at hl 0 rfl) ?_
            refine lv_iconst (v := 3) hx hb dL_law_366 (by decide) ?_
            refine lv_iadd hx hb dL_law_367 ?_
            refine va_sld hx hb hX hbl hbA hS (gi_in (by omega) (by omega)) dL_law_368 ?_
            refine lv_aload_n hx hb dL_law_369 rfl (lv_at hl 3 rfl) ?_
            refine lv_iload_n hx hb dL_law_370 rfl (lv_at hl 0 rfl) ?_
            refine lv_iconst (v := 4) hx hb dL_law_371 (by decide) ?_
            refine lv_iadd hx hb dL_law_372 ?_
            refine va_sld hx hb hX hbl hbA hS (gi_in (by omega) (by omega)) dL_law_373 ?_
            refine lv_aload_n hx hb dL_law_374 rfl (lv_at hl 3 rfl) ?_
            refine lv_iload_n hx hb dL_law_375 rfl (lv_at hl 0 rfl) ?_
            refine lv_iconst (v := 5) hx hb dL_law_376 (by decide) ?_
            refine lv_iadd hx hb dL_law_377 ?_
            refine va_sld hx hb hX hbl hbA hS (gi_in (by omega) (by omega)) dL_law_378 ?_
            refine qc_Vi2 (As := [.int (xs (i + 1).toNatClampNeg), .int (xs (i + 2).toNatClampNeg), .int (xs (i + 3).toNatClampNeg), .int (xs (i + 4).toNatClampNeg), .int (xs (i + 5).toNatClampNeg)]) (rest := []) (k0 := 5) (m_feed l D ca (a + 132) zm zm ym JM (xs (i + 1).toNatClampNeg) (xs (i + 2).toNatClampNeg) (xs (i + 3).toNatClampNeg) (xs (i + 4).toNatClampNeg) (xs (i + 5).toNatClampNeg)) kc_yX11_feed ⟨hx, hb, hml, hown, hts⟩ wq_1205 rfl rfl ⟨Nat.le_of_ble_eq_true rfl, Nat.le_of_ble_eq_true rfl⟩ wq_all hPM hK hS hAm (q0 := 0) (by decide) (hgM_0 ca (a + 132) _ _) rfl rfl hl.1 rfl (Nat.le_of_ble_eq_true rfl) dL_law_379 ⟨Nat.le_of_ble_eq_true rfl, Nat.le_of_ble_eq_true rfl⟩ (fun rm zm1 ym1 H locs1 hm hPM hS _ hk => ?_)
            have hPU := qw_kept2 hPU hk (by omega)
            refine lv_pop hx hb dL_law_382 rfl ?_
            refine lv_goto (tgt := 1766) hx hb dL_law_383 (by decide) ?_
            have hJU : qJU zu1 zu1 := ⟨hu.2.1, qK_rf⟩
            have hJM : qJM zm1 zm1 := ⟨hm.2.1, qK_rf, hm.2.2.2⟩
            have hE : True ∧ REL zu1 zm1 := ⟨trivial, REL_K RR hu.2.2 hm.2.2.1⟩
            refine lv_iinc (v := i + 6) (lv' := [(3, .int (i + 6)), (2, .ref (a + 132)), (1, .ref (a + 0)), (0, .ref b)]) hx hb dL_law_1766 hl (k := 0) rfl rfl (by decide) rfl (fun ls hl => ?_)
            refine lv_goto (tgt := 18) hx hb dL_law_1769 (by decide) ?_
            have hi6 : (i + 6).toInt = i.toInt + 6 := gi_add (y := 6) (by show _ ≤ _ + (6 : Int); omega) (by show _ + (6 : Int) ≤ _; omega)
            exact ih (i + 6) zu1 yu1 zm1 ym1 (by omega) (by omega) (by omega) hJU hJM hE.2 _ _ hPU hPM hS _ hl
          | 4, _, hkn =>
            refine lv_tableIn (tgt := 386) hx hb dL_law_33 (by omega) (by omega) (by rw [hkn]; rfl) (by decide) ?_
            refine lv_aload_n hx hb dL_law_386 rfl (lv_at hl 2 rfl) ?_
            refine lv_aload_n hx hb dL_law_387 rfl (lv_at hl 3 rfl) ?_
            refine lv_iload_n hx hb dL_law_388 rfl (lv_at hl 0 rfl) ?_
            refine lv_iconst (v := 1) hx hb dL_law_389 (by decide) ?_
            refine lv_iadd hx hb dL_law_390 ?_
            refine va_sld hx hb hX hbl hbA hS (gi_in (by omega) (by omega)) dL_law_391 ?_
            refine lv_aload_n hx hb dL_law_392 rfl (lv_at hl 3 rfl) ?_
            refine lv_iload_n hx hb dL_law_393 rfl (lv_at hl 0 rfl) ?_
            refine lv_iconst (v := 2) hx hb dL_law_394 (by decide) ?_
            refine lv_iadd hx hb dL_law_395 ?_
            refine va_sld hx hb hX hbl hbA hS (gi_in (by omega) (by omega)) dL_law_396 ?_
            refine qc_Vi2 (As := [.int (xs (i + 1).toNatClampNeg), .int (xs (i + 2).toNatClampNeg)]) (rest := []) (k0 := 2) (u_remark l D ca (a + 0) zu zu yu JU (xs (i + 1).toNatClampNeg) (xs (i + 2).toNatClampNeg)) kc_yX10_remark ⟨hx, hb, hml, hown, hts⟩ wq_427 rfl rfl ⟨Nat.le_of_ble_eq_true rfl, Nat.le_of_ble_eq_true rfl⟩ wq_all hPU hK hS hAu (q0 := 0) (by decide) (hgU_0 ca (a + 0) _ _) rfl rfl hl.1 rfl (Nat.le_of_ble_eq_true rfl) dL_law_397 ⟨Nat.le_of_ble_eq_true rfl, Nat.le_of_ble_eq_true rfl⟩ (fun ru zu1 yu1 H locs1 hu hPU hS _ hk => ?_)
            have hPM := qw_kept2 hPM hk (by omega)
            refine lv_pop hx hb dL_law_400 rfl ?_
            refine lv_aload_n hx hb dL_law_401 rfl (lv_at hl 1 rfl) ?_
            refine lv_aload_n hx hb dL_law_402 rfl (lv_at hl 3 rfl) ?_
            refine lv_iload_n hx hb dL_law_403 rfl (lv_at hl 0 rfl) ?_
            refine lv_iconst (v := 1) hx hb dL_law_404 (by decide) ?_
            refine lv_iadd hx hb dL_law_405 ?_
            refine va_sld hx hb hX hbl hbA hS (gi_in (by omega) (by omega)) dL_law_406 ?_
            refine lv_aload_n hx hb dL_law_407 rfl (lv_at hl 3 rfl) ?_
            refine lv_iload_n hx hb dL_law_408 rfl (lv_at hl 0 rfl) ?_
            refine lv_iconst (v := 2) hx hb dL_law_409 (by decide) ?_
            refine lv_iadd hx hb dL_law_410 ?_
            refine va_sld hx hb hX hbl hbA hS (gi_in (by omega) (by omega)) dL_law_411 ?_
            refine qc_Vi2 (As := [.int (xs (i + 1).toNatClampNeg), .int (xs (i + 2).toNatClampNeg)]) (rest := []) (k0 := 2) (m_remark l D ca (a + 132) zm zm ym JM (xs (i + 1).toNatClampNeg) (xs (i + 2).toNatClampNeg)) kc_yX11_remark ⟨hx, hb, hml, hown, hts⟩ wq_1213 rfl rfl ⟨Nat.le_of_ble_eq_true rfl, Nat.le_of_ble_eq_true rfl⟩ wq_all hPM hK hS hAm (q0 := 0) (by decide) (hgM_0 ca (a + 132) _ _) rfl rfl hl.1 rfl (Nat.le_of_ble_eq_true rfl) dL_law_412 ⟨Nat.le_of_ble_eq_true rfl, Nat.le_of_ble_eq_true rfl⟩ (fun rm zm1 ym1 H locs1 hm hPM hS _ hk => ?_)
            have hPU := qw_kept2 hPU hk (by omega)
            refine lv_pop hx hb dL_law_415 rfl ?_
            refine lv_goto (tgt := 1766) hx hb dL_law_416 (by decide) ?_
            have hJU : qJU zu1 zu1 := ⟨hu.2.1, qK_rf⟩
            have hJM : qJM zm1 zm1 := ⟨hm.2.1, qK_rf, hm.2.2.2⟩
            have hE : True ∧ REL zu1 zm1 := ⟨trivial, REL_K RR hu.2.2 hm.2.2.1⟩
            refine lv_iinc (v := i + 6) (lv' := [(3, .int (i + 6)), (2, .ref (a + 132)), (1, .ref (a + 0)), (0, .ref b)]) hx hb dL_law_1766 hl (k := 0) rfl rfl (by decide) rfl (fun ls hl => ?_)
            refine lv_goto (tgt := 18) hx hb dL_law_1769 (by decide) ?_
            have hi6 : (i + 6).toInt = i.toInt + 6 := gi_add (y := 6) (by show _ ≤ _ + (6 : Int); omega) (by show _ + (6 : Int) ≤ _; omega)
            exact ih (i + 6) zu1 yu1 zm1 ym1 (by omega) (by omega) (by omega) hJU hJM hE.2 _ _ hPU hPM hS _ hl
          | 5, _, hkn =>
            refine lv_tableIn (tgt := 419) hx hb dL_law_33 (by omega) (by omega) (by rw [hkn]; rfl) (by decide) ?_
            refine lv_aload_n hx hb dL_law_419 rfl (lv_at hl 2 rfl) ?_
            refine lv_aload_n hx hb dL_law_420 rfl (lv_at hl 3 rfl) ?_
            refine lv_iload_n hx hb dL_law_421 rfl (lv_at hl 0 rfl) ?_
            refine lv_iconst (v := 1) hx hb dL_law_422 (by decide) ?_
            refine lv_iadd hx hb dL_law_423 ?_
            refine va_sld hx hb hX hbl hbA hS (gi_in (by omega) (by omega)) dL_law_424 ?_
            refine lv_aload_n hx hb dL_law_425 rfl (lv_at hl 3 rfl) ?_
            refine lv_iload_n hx hb dL_law_426 rfl (lv_at hl 0 rfl) ?_
            refine lv_iconst (v := 2) hx hb dL_law_427 (by decide) ?_
            refine lv_iadd hx hb dL_law_428 ?_
            refine va_sld hx hb hX hbl hbA hS (gi_in (by omega) (by omega)) dL_law_429 ?_
            refine qc_Vi2 (As := [.int (xs (i + 1).toNatClampNeg), .int (xs (i + 2).toNatClampNeg)]) (rest := []) (k0 := 2) (u_form l D ca (a + 0) zu zu yu JU (xs (i + 1).toNatClampNeg) (xs (i + 2).toNatClampNeg)) kc_yX10_form ⟨hx, hb, hml, hown, hts⟩ wq_519 rfl rfl ⟨Nat.le_of_ble_eq_true rfl, Nat.le_of_ble_eq_true rfl⟩ wq_all hPU hK hS hAu (q0 := 0) (by decide) (hgU_0 ca (a + 0) _ _) rfl rfl hl.1 rfl (Nat.le_of_ble_eq_true rfl) dL_law_430 ⟨Nat.le_of_ble_eq_true rfl, Nat.le_of_ble_eq_true rfl⟩ (fun ru zu1 yu1 H locs1 hu hPU hS _ hk => ?_)
            have hPM := qw_kept2 hPM hk (by omega)
            refine lv_pop hx hb dL_law_433 rfl ?_
            refine lv_aload_n hx hb dL_law_434 rfl (lv_at hl 1 rfl) ?_
            refine lv_aload_n hx hb dL_law_435 rfl (lv_at hl 3 rfl) ?_
            refine lv_iload_n hx hb dL_law_436 rfl (lv_at hl 0 rfl) ?_
            refine lv_iconst (v := 1) hx hb dL_law_437 (by decide) ?_
            refine lv_iadd hx hb dL_law_438 ?_
            refine va_sld hx hb hX hbl hbA hS (gi_in (by omega) (by omega)) dL_law_439 ?_
            refine lv_aload_n hx hb dL_law_440 rfl (lv_at hl 3 rfl) ?_
            refine lv_iload_n hx hb dL_law_441 rfl (lv_at hl 0 rfl) ?_
            refine lv_iconst (v := 2) hx hb dL_law_442 (by decide) ?_
            refine lv_iadd hx hb dL_law_443 ?_
            refine va_sld hx hb hX hbl hbA hS (gi_in (by omega) (by omega)) dL_law_444 ?_
            refine qc_Vi2 (As := [.int (xs (i + 1).toNatClampNeg), .int (xs (i + 2).toNatClampNeg)]) (rest := []) (k0 := 2) (m_form l D ca (a + 132) zm zm ym JM (xs (i + 1).toNatClampNeg) (xs (i + 2).toNatClampNeg)) kc_yX11_form ⟨hx, hb, hml, hown, hts⟩ wq_1299 rfl rfl ⟨Nat.le_of_ble_eq_true rfl, Nat.le_of_ble_eq_true rfl⟩ wq_all hPM hK hS hAm (q0 := 0) (by decide) (hgM_0 ca (a + 132) _ _) rfl rfl hl.1 rfl (Nat.le_of_ble_eq_true rfl) dL_law_445 ⟨Nat.le_of_ble_eq_true rfl, Nat.le_of_ble_eq_true rfl⟩ (fun rm zm1 ym1 H locs1 hm hPM hS _ hk => ?_)
            have hPU := qw_kept2 hPU hk (by omega)
            refine lv_pop hx hb dL_law_448 rfl ?_
            refine lv_goto (tgt := 1766) hx hb dL_law_449 (by decide) ?_
            have hJU : qJU zu1 zu1 := ⟨hu.2.1, qK_rf⟩
            have hJM : qJM zm1 zm1 := ⟨hm.2.1, qK_rf, hm.2.2.2⟩
            have hE : True ∧ REL zu1 zm1 := ⟨trivial, REL_K RR hu.2.2 hm.2.2.1⟩
            refine lv_iinc (v := i + 6) (lv' := [(3, .int (i + 6)), (2, .ref (a + 132)), (1, .ref (a + 0)), (0, .ref b)]) hx hb dL_law_1766 hl (k := 0) rfl rfl (by decide) rfl (fun ls hl => ?_)
            refine lv_goto (tgt := 18) hx hb dL_law_1769 (by decide) ?_
            have hi6 : (i + 6).toInt = i.toInt + 6 := gi_add (y := 6) (by show _ ≤ _ + (6 : Int); omega) (by show _ + (6 : Int) ≤ _; omega)
            exact ih (i + 6) zu1 yu1 zm1 ym1 (by omega) (by omega) (by omega) hJU hJM hE.2 _ _ hPU hPM hS _ hl
          | 6, _, hkn =>
            refine lv_tableIn (tgt := 452) hx hb dL_law_33 (by omega) (by omega) (by rw [hkn]; rfl) (by decide) ?_
            refine lv_aload_n hx hb dL_law_452 rfl (lv_at hl 2 rfl) ?_
            refine lv_aload_n hx hb dL_law_453 rfl (lv_at hl 3 rfl) ?_
            refine lv_iload_n hx hb dL_law_454 rfl (lv_at hl 0 rfl) ?_
            refine lv_iconst (v := 1) hx hb dL_law_455 (by decide) ?_
            refine lv_iadd hx hb dL_law_456 ?_
            refine va_sld hx hb hX hbl hbA hS (gi_in (by omega) (by omega)) dL_law_457 ?_
            refine qc_Vi2 (As := [.int (xs (i + 1).toNatClampNeg)]) (rest := []) (k0 := 1) (u_takeBack l D ca (a + 0) zu zu yu JU (xs (i + 1).toNatClampNeg)) kc_yX10_takeBack ⟨hx, hb, hml, hown, hts⟩ wq_523 rfl rfl ⟨Nat.le_of_ble_eq_true rfl, Nat.le_of_ble_eq_true rfl⟩ wq_all hPU hK hS hAu (q0 := 0) (by decide) (hgU_0 ca (a + 0) _ _) rfl rfl hl.1 rfl (Nat.le_of_ble_eq_true rfl) dL_law_458 ⟨Nat.le_of_ble_eq_true rfl, Nat.le_of_ble_eq_true rfl⟩ (fun ru zu1 yu1 H locs1 hu hPU hS _ hk => ?_)
            have hPM := qw_kept2 hPM hk (by omega)
            refine lv_pop hx hb dL_law_461 rfl ?_
            refine lv_aload_n hx hb dL_law_462 rfl (lv_at hl 1 rfl) ?_
            refine lv_aload_n hx hb dL_law_463 rfl (lv_at hl 3 rfl) ?_
            refine lv_iload_n hx hb dL_law_464 rfl (lv_at hl 0 rfl) ?_
            refine lv_iconst (v := 1) hx hb dL_law_465 (by decide) ?_
            refine lv_iadd hx hb dL_law_466 ?_
            refine va_sld hx hb hX hbl hbA hS (gi_in (by omega) (by omega)) dL_law_467 ?_
            refine qc_Vi2 (As := [.int (xs (i + 1).toNatClampNeg)]) (rest := []) (k0 := 1) (m_takeBack l D ca (a + 132) zm zm ym JM (xs (i + 1).toNatClampNeg)) kc_yX11_takeBack ⟨hx, hb, hml, hown, hts⟩ wq_1303 rfl rfl ⟨Nat.le_of_ble_eq_true rfl, Nat.le_of_ble_eq_true rfl⟩ wq_all hPM hK hS hAm (q0 := 0) (by decide) (hgM_0 ca (a + 132) _ _) rfl rfl hl.1 rfl (Nat.le_of_ble_eq_true rfl) dL_law_468 ⟨Nat.le_of_ble_eq_true rfl, Nat.le_of_ble_eq_true rfl⟩ (fun rm zm1 ym1 H locs1 hm hPM hS _ hk => ?_)
            have hPU := qw_kept2 hPU hk (by omega)
            refine lv_pop hx hb dL_law_471 rfl ?_
            refine lv_goto (tgt := 1766) hx hb dL_law_472 (by decide) ?_
            have hJU : qJU zu1 zu1 := ⟨hu.2.1, qK_rf⟩
            have hJM : qJM zm1 zm1 := ⟨hm.2.1, qK_rf, hm.2.2.2⟩
            have hE : True ∧ REL zu1 zm1 := ⟨trivial, REL_K RR hu.2.2 hm.2.2.1⟩
            refine lv_iinc (v := i + 6) (lv' := [(3, .int (i + 6)), (2, .ref (a + 132)), (1, .ref (a + 0)), (0, .ref b)]) hx hb dL_law_1766 hl (k := 0) rfl rfl (by decide) rfl (fun ls hl => ?_)
            refine lv_goto (tgt := 18) hx hb dL_law_1769 (by decide) ?_
            have hi6 : (i + 6).toInt = i.toInt + 6 := gi_add (y := 6) (by show _ ≤ _ + (6 : Int); omega) (by show _ + (6 : Int) ≤ _; omega)
            exact ih (i + 6) zu1 yu1 zm1 ym1 (by omega) (by omega) (by omega) hJU hJM hE.2 _ _ hPU hPM hS _ hl
          | 7, _, hkn =>
            refine lv_tableIn (tgt := 475) hx hb dL_law_33 (by omega) (by omega) (by rw [hkn]; rfl) (by decide) ?_
            refine lv_aload_n hx hb dL_law_475 rfl (lv_at hl 2 rfl) ?_
            refine qc_Vip (As := []) (rest := []) (k0 := 0) (u_rows l D ca (a + 0) zu zu yu JU ) kc_yX10_rows ⟨hx, hb, hml, hown, hts⟩ wq_569 rfl rfl ⟨Nat.le_of_ble_eq_true rfl, Nat.le_of_ble_eq_true rfl⟩ wq_all hPU hK hS hAu (q0 := 0) (by decide) (hgU_0 ca (a + 0) _ _) rfl rfl hl.1 rfl (Nat.le_of_ble_eq_true rfl) dL_law_476 ⟨Nat.le_of_ble_eq_true rfl, Nat.le_of_ble_eq_true rfl⟩ (fun ru H locs1 hu hPU hS _ hk => ?_)
            have hPM := qw_kept2 hPM hk (by omega)
            refine lv_pop hx hb dL_law_479 rfl ?_
            refine lv_aload_n hx hb dL_law_480 rfl (lv_at hl 1 rfl) ?_
            refine qc_Vip (As := []) (rest := []) (k0 := 0) (m_rows l D ca (a + 132) zm zm ym JM ) kc_yX11_rows ⟨hx, hb, hml, hown, hts⟩ wq_1311 rfl rfl ⟨Nat.le_of_ble_eq_true rfl, Nat.le_of_ble_eq_true rfl⟩ wq_all hPM hK hS hAm (q0 := 0) (by decide) (hgM_0 ca (a + 132) _ _) rfl rfl hl.1 rfl (Nat.le_of_ble_eq_true rfl) dL_law_481 ⟨Nat.le_of_ble_eq_true rfl, Nat.le_of_ble_eq_true rfl⟩ (fun rm H locs1 hm hPM hS _ hk => ?_)
            have hPU := qw_kept2 hPU hk (by omega)
            refine lv_pop hx hb dL_law_484 rfl ?_
            refine lv_goto (tgt := 1766) hx hb dL_law_485 (by decide) ?_
            have hJU : qJU zu zu := JU
            have hJM : qJM zm zm := JM
            have hE : True ∧ REL zu zm := ⟨trivial, REL_K RR qK_rf qK_rf⟩
            refine lv_iinc (v := i + 6) (lv' := [(3, .int (i + 6)), (2, .ref (a + 132)), (1, .ref (a + 0)), (0, .ref b)]) hx hb dL_law_1766 hl (k := 0) rfl rfl (by decide) rfl (fun ls hl => ?_)
            refine lv_goto (tgt := 18) hx hb dL_law_1769 (by decide) ?_
            have hi6 : (i + 6).toInt = i.toInt + 6 := gi_add (y := 6) (by show _ ≤ _ + (6 : Int); omega) (by show _ + (6 : Int) ≤ _; omega)
            exact ih (i + 6) zu yu zm ym (by omega) (by omega) (by omega) hJU hJM hE.2 _ _ hPU hPM hS _ hl
          | 8, _, hkn =>
            refine lv_tableIn (tgt := 488) hx hb dL_law_33 (by omega) (by omega) (by rw [hkn]; rfl) (by decide) ?_
            refine lv_aload_n hx hb dL_law_488 rfl (lv_at hl 2 rfl) ?_
            refine lv_aload_n hx hb dL_law_489 rfl (lv_at hl 3 rfl) ?_
            refine lv_iload_n hx hb dL_law_490 rfl (lv_at hl 0 rfl) ?_
            refine lv_iconst (v := 1) hx hb dL_law_491 (by decide) ?_
            refine lv_iadd hx hb dL_law_492 ?_
            refine va_sld hx hb hX hbl hbA hS (gi_in (by omega) (by omega)) dL_law_493 ?_
            refine lv_aload_n hx hb dL_law_494 rfl (lv_at hl 3 rfl) ?_
            refine lv_iload_n hx hb dL_law_495 rfl (lv_at hl 0 rfl) ?_
            refine lv_iconst (v := 2) hx hb dL_law_496 (by decide) ?_
            refine lv_iadd hx hb dL_law_497 ?_
            refine va_sld hx hb hX hbl hbA hS (gi_in (by omega) (by omega)) dL_law_498 ?_
            refine qc_Vi2 (As := [.int (xs (i + 1).toNatClampNeg), .int (xs (i + 2).toNatClampNeg)]) (rest := []) (k0 := 2) (u_fit l D ca (a + 0) zu zu yu JU (xs (i + 1).toNatClampNeg) (xs (i + 2).toNatClampNeg)) kc_yX10_fit ⟨hx, hb, hml, hown, hts⟩ wq_579 rfl rfl ⟨Nat.le_of_ble_eq_true rfl, Nat.le_of_ble_eq_true rfl⟩ wq_all hPU hK hS hAu (q0 := 0) (by decide) (hgU_0 ca (a + 0) _ _) rfl rfl hl.1 rfl (Nat.le_of_ble_eq_true rfl) dL_law_499 ⟨Nat.le_of_ble_eq_true rfl, Nat.le_of_ble_eq_true rfl⟩ (fun ru zu1 yu1 H locs1 hu hPU hS _ hk => ?_)
            have hPM := qw_kept2 hPM hk (by omega)
            refine lv_pop hx hb dL_law_502 rfl ?_
            refine lv_aload_n hx hb dL_law_503 rfl (lv_at hl 1 rfl) ?_
            refine lv_aload_n hx hb dL_law_504 rfl (lv_at hl 3 rfl) ?_
            refine lv_iload_n hx hb dL_law_505 rfl (lv_at hl 0 rfl) ?_
            refine lv_iconst (v := 1) hx hb dL_law_506 (by decide) ?_
            refine lv_iadd hx hb dL_law_507 ?_
            refine va_sld hx hb hX hbl hbA hS (gi_in (by omega) (by omega)) dL_law_508 ?_
            refine lv_aload_n hx hb dL_law_509 rfl (lv_at hl 3 rfl) ?_
            refine lv_iload_n hx hb dL_law_510 rfl (lv_at hl 0 rfl) ?_
            refine lv_iconst (v := 2) hx hb dL_law_511 (by decide) ?_
            refine lv_iadd hx hb dL_law_512 ?_
            refine va_sld hx hb hX hbl hbA hS (gi_in (by omega) (by omega)) dL_law_513 ?_
            refine qc_Vi2 (As := [.int (xs (i + 1).toNatClampNeg), .int (xs (i + 2).toNatClampNeg)]) (rest := []) (k0 := 2) (m_fit l D ca (a + 132) zm zm ym JM (xs (i + 1).toNatClampNeg) (xs (i + 2).toNatClampNeg)) kc_yX11_fit ⟨hx, hb, hml, hown, hts⟩ wq_1320 rfl rfl ⟨Nat.le_of_ble_eq_true rfl, Nat.le_of_ble_eq_true rfl⟩ wq_all hPM hK hS hAm (q0 := 0) (by decide) (hgM_0 ca (a + 132) _ _) rfl rfl hl.1 rfl (Nat.le_of_ble_eq_true rfl) dL_law_514 ⟨Nat.le_of_ble_eq_true rfl, Nat.le_of_ble_eq_true rfl⟩ (fun rm zm1 ym1 H locs1 hm hPM hS _ hk => ?_)
            have hPU := qw_kept2 hPU hk (by omega)
            refine lv_pop hx hb dL_law_517 rfl ?_
            refine lv_goto (tgt := 1766) hx hb dL_law_518 (by decide) ?_
            have hJU : qJU zu1 zu1 := ⟨hu.2.1, qK_rf⟩
            have hJM : qJM zm1 zm1 := ⟨hm.2.1, qK_rf, hm.2.2.2⟩
            have hE : True ∧ REL zu1 zm1 := ⟨trivial, REL_K RR hu.2.2 hm.2.2.1⟩
            refine lv_iinc (v := i + 6) (lv' := [(3, .int (i + 6)), (2, .ref (a + 132)), (1, .ref (a + 0)), (0, .ref b)]) hx hb dL_law_1766 hl (k := 0) rfl rfl (by decide) rfl (fun ls hl => ?_)
            refine lv_goto (tgt := 18) hx hb dL_law_1769 (by decide) ?_
            have hi6 : (i + 6).toInt = i.toInt + 6 := gi_add (y := 6) (by show _ ≤ _ + (6 : Int); omega) (by show _ + (6 : Int) ≤ _; omega)
            exact ih (i + 6) zu1 yu1 zm1 ym1 (by omega) (by omega) (by omega) hJU hJM hE.2 _ _ hPU hPM hS _ hl
          | 9, _, hkn =>
            refine lv_tableIn (tgt := 521) hx hb dL_law_33 (by omega) (by omega) (by rw [hkn]; rfl) (by decide) ?_
            refine lv_aload_n hx hb dL_law_521 rfl (lv_at hl 2 rfl) ?_
            refine lv_aload_n hx hb dL_law_522 rfl (lv_at hl 3 rfl) ?_
            refine lv_iload_n hx hb dL_law_523 rfl (lv_at hl 0 rfl) ?_
            refine lv_iconst (v := 1) hx hb dL_law_524 (by decide) ?_
            refine lv_iadd hx hb dL_law_525 ?_
            refine va_sld hx hb hX hbl hbA hS (gi_in (by omega) (by omega)) dL_law_526 ?_
            refine lv_aload_n hx hb dL_law_527 rfl (lv_at hl 3 rfl) ?_
            refine lv_iload_n hx hb dL_law_528 rfl (lv_at hl 0 rfl) ?_
            refine lv_iconst (v := 2) hx hb dL_law_529 (by decide) ?_
            refine lv_iadd hx hb dL_law_530 ?_
            refine va_sld hx hb hX hbl hbA hS (gi_in (by omega) (by omega)) dL_law_531 ?_
            refine lv_aload_n hx hb dL_law_532 rfl (lv_at hl 3 rfl) ?_
            refine lv_iload_n hx hb dL_law_533 rfl (lv_at hl 0 rfl) ?_
            refine lv_iconst (v := 3) hx hb dL_law_534 (by decide) ?_
            refine lv_iadd hx hb dL_law_535 ?_
            refine va_sld hx hb hX hbl hbA hS (gi_in (by omega) (by omega)) dL_law_536 ?_
            refine qc_Vi2 (As := [.int (xs (i + 1).toNatClampNeg), .int (xs (i + 2).toNatClampNeg), .int (xs (i + 3).toNatClampNeg)]) (rest := []) (k0 := 3) (u_ageIs l D ca (a + 0) zu zu yu JU (xs (i + 1).toNatClampNeg) (xs (i + 2).toNatClampNeg) (xs (i + 3).toNatClampNeg)) kc_yX10_ageIs ⟨hx, hb, hml, hown, hts⟩ wq_653 rfl rfl ⟨Nat.le_of_ble_eq_true rfl, Nat.le_of_ble_eq_true rfl⟩ wq_all hPU hK hS hAu (q0 := 0) (by decide) (hgU_0 ca (a + 0) _ _) rfl rfl hl.1 rfl (Nat.le_of_ble_eq_true rfl) dL_law_537 ⟨Nat.le_of_ble_eq_true rfl, Nat.le_of_ble_eq_true rfl⟩ (fun ru zu1 yu1 H locs1 hu hPU hS _ hk => ?_)
            have hPM := qw_kept2 hPM hk (by omega)
            refine lv_pop hx hb dL_law_540 rfl ?_
            refine lv_aload_n hx hb dL_law_541 rfl (lv_at hl 1 rfl) ?_
            refine lv_aload_n hx hb dL_law_542 rfl (lv_at hl 3 rfl) ?_
            refine lv_iload_n hx hb dL_law_543 rfl (lv_at hl 0 rfl) ?_
            refine lv_iconst (v := 1) hx hb dL_law_544 (by decide) ?_
            refine lv_iadd hx hb dL_law_545 ?_
            refine va_sld hx hb hX hbl hbA hS (gi_in (by omega) (by omega)) dL_law_546 ?_
            refine lv_aload_n hx hb dL_law_547 rfl (lv_at hl 3 rfl) ?_
            refine lv_iload_n hx hb dL_law_548 rfl (lv_at hl 0 rfl) ?_
            refine lv_iconst (v := 2) hx hb dL_law_549 (by decide) ?_
            refine lv_iadd hx hb dL_law_550 ?_
            refine va_sld hx hb hX hbl hbA hS (gi_in (by omega) (by omega)) dL_law_551 ?_
            refine lv_aload_n hx hb dL_law_552 rfl (lv_at hl 3 rfl) ?_
            refine lv_iload_n hx hb dL_law_553 rfl (lv_at hl 0 rfl) ?_
            refine lv_iconst (v := 3) hx hb dL_law_554 (by decide) ?_
            refine lv_iadd hx hb dL_law_555 ?_
            refine va_sld hx hb hX hbl hbA hS (gi_in (by omega) (by omega)) dL_law_556 ?_
            refine qc_Vi2 (As := [.int (xs (i + 1).toNatClampNeg), .int (xs (i + 2).toNatClampNeg), .int (xs (i + 3).toNatClampNeg)]) (rest := []) (k0 := 3) (m_ageIs l D ca (a + 132) zm zm ym JM (xs (i + 1).toNatClampNeg) (xs (i + 2).toNatClampNeg) (xs (i + 3).toNatClampNeg)) kc_yX11_ageIs ⟨hx, hb, hml, hown, hts⟩ wq_1364 rfl rfl ⟨Nat.le_of_ble_eq_true rfl, Nat.le_of_ble_eq_true rfl⟩ wq_all hPM hK hS hAm (q0 := 0) (by decide) (hgM_0 ca (a + 132) _ _) rfl rfl hl.1 rfl (Nat.le_of_ble_eq_true rfl) dL_law_557 ⟨Nat.le_of_ble_eq_true rfl, Nat.le_of_ble_eq_true rfl⟩ (fun rm zm1 ym1 H locs1 hm hPM hS _ hk => ?_)
            have hPU := qw_kept2 hPU hk (by omega)
            refine lv_pop hx hb dL_law_560 rfl ?_
            refine lv_goto (tgt := 1766) hx hb dL_law_561 (by decide) ?_
            have hJU : qJU zu1 zu1 := ⟨hu.2.1, qK_rf⟩
            have hJM : qJM zm1 zm1 := ⟨hm.2.1, qK_rf, hm.2.2.2⟩
            have hE : True ∧ REL zu1 zm1 := ⟨trivial, REL_K RR hu.2.2 hm.2.2.1⟩
            refine lv_iinc (v := i + 6) (lv' := [(3, .int (i + 6)), (2, .ref (a + 132)), (1, .ref (a + 0)), (0, .ref b)]) hx hb dL_law_1766 hl (k := 0) rfl rfl (by decide) rfl (fun ls hl => ?_)
            refine lv_goto (tgt := 18) hx hb dL_law_1769 (by decide) ?_
            have hi6 : (i + 6).toInt = i.toInt + 6 := gi_add (y := 6) (by show _ ≤ _ + (6 : Int); omega) (by show _ + (6 : Int) ≤ _; omega)
            exact ih (i + 6) zu1 yu1 zm1 ym1 (by omega) (by omega) (by omega) hJU hJM hE.2 _ _ hPU hPM hS _ hl
          | 10, _, hkn =>
            refine lv_tableIn (tgt := 564) hx hb dL_law_33 (by omega) (by omega) (by rw [hkn]; rfl) (by decide) ?_
            refine lv_aload_n hx hb dL_law_564 rfl (lv_at hl 2 rfl) ?_
            refine lv_aload_n hx hb dL_law_565 rfl (lv_at hl 3 rfl) ?_
            refine lv_iload_n hx hb dL_law_566 rfl (lv_at hl 0 rfl) ?_
            refine lv_iconst (v := 1) hx hb dL_law_567 (by decide) ?_
            refine lv_iadd hx hb dL_law_568 ?_
            refine va_sld hx hb hX hbl hbA hS (gi_in (by omega) (by omega)) dL_law_569 ?_
            refine lv_aload_n hx hb dL_law_570 rfl (lv_at hl 3 rfl) ?_
            refine lv_iload_n hx hb dL_law_571 rfl (lv_at hl 0 rfl) ?_
            refine lv_iconst (v := 2) hx hb dL_law_572 (by decide) ?_
            refine lv_iadd hx hb dL_law_573 ?_
            refine va_sld hx hb hX hbl hbA hS (gi_in (by omega) (by omega)) dL_law_574 ?_
            refine lv_aload_n hx hb dL_law_575 rfl (lv_at hl 3 rfl) ?_
            refine lv_iload_n hx hb dL_law_576 rfl (lv_at hl 0 rfl) ?_
            refine lv_iconst (v := 3) hx hb dL_law_577 (by decide) ?_
            refine lv_iadd hx hb dL_law_578 ?_
            refine va_sld hx hb hX hbl hbA hS (gi_in (by omega) (by omega)) dL_law_579 ?_
            refine qc_Vi2 (As := [.int (xs (i + 1).toNatClampNeg), .int (xs (i + 2).toNatClampNeg), .int (xs (i + 3).toNatClampNeg)]) (rest := []) (k0 := 3) (u_aged l D ca (a + 0) zu zu yu JU (xs (i + 1).toNatClampNeg) (xs (i + 2).toNatClampNeg) (xs (i + 3).toNatClampNeg)) kc_yX10_aged ⟨hx, hb, hml, hown, hts⟩ wq_673 rfl rfl ⟨Nat.le_of_ble_eq_true rfl, Nat.le_of_ble_eq_true rfl⟩ wq_all hPU hK hS hAu (q0 := 0) (by decide) (hgU_0 ca (a + 0) _ _) rfl rfl hl.1 rfl (Nat.le_of_ble_eq_true rfl) dL_law_580 ⟨Nat.le_of_ble_eq_true rfl, Nat.le_of_ble_eq_true rfl⟩ (fun ru zu1 yu1 H locs1 hu hPU hS _ hk => ?_)
            have hPM := qw_kept2 hPM hk (by omega)
            refine lv_pop hx hb dL_law_583 rfl ?_
            refine lv_aload_n hx hb dL_law_584 rfl (lv_at hl 1 rfl) ?_
            refine lv_aload_n hx hb dL_law_585 rfl (lv_at hl 3 rfl) ?_
            refine lv_iload_n hx hb dL_law_586 rfl (lv_at hl 0 rfl) ?_
            refine lv_iconst (v := 1) hx hb dL_law_587 (by decide) ?_
            refine lv_iadd hx hb dL_law_588 ?_
            refine va_sld hx hb hX hbl hbA hS (gi_in (by omega) (by omega)) dL_law_589 ?_
            refine lv_aload_n hx hb dL_law_590 rfl (lv_at hl 3 rfl) ?_
            refine lv_iload_n hx hb dL_law_591 rfl (lv_at hl 0 rfl) ?_
            refine lv_iconst (v := 2) hx hb dL_law_592 (by decide) ?_
            refine lv_iadd hx hb dL_law_593 ?_
            refine va_sld hx hb hX hbl hbA hS (gi_in (by omega) (by omega)) dL_law_594 ?_
            refine lv_aload_n hx hb dL_law_595 rfl (lv_at hl 3 rfl) ?_
            refine lv_iload_n hx hb dL_law_596 rfl (lv_at hl 0 rfl) ?_
            refine lv_iconst (v := 3) hx hb dL_law_597 (by decide) ?_
            refine lv_iadd hx hb dL_law_598 ?_
            refine va_sld hx hb hX hbl hbA hS (gi_in (by omega) (by omega)) dL_law_599 ?_
            refine qc_Vi2 (As := [.int (xs (i + 1).toNatClampNeg), .int (xs (i + 2).toNatClampNeg), .int (xs (i + 3).toNatClampNeg)]) (rest := []) (k0 := 3) (m_aged l D ca (a + 132) zm zm ym JM (xs (i + 1).toNatClampNeg) (xs (i + 2).toNatClampNeg) (xs (i + 3).toNatClampNeg)) kc_yX11_aged ⟨hx, hb, hml, hown, hts⟩ wq_1372 rfl rfl ⟨Nat.le_of_ble_eq_true rfl, Nat.le_of_ble_eq_true rfl⟩ wq_all hPM hK hS hAm (q0 := 0) (by decide) (hgM_0 ca (a + 132) _ _) rfl rfl hl.1 rfl (Nat.le_of_ble_eq_true rfl) dL_law_600 ⟨Nat.le_of_ble_eq_true rfl, Nat.le_of_ble_eq_true rfl⟩ (fun rm zm1 ym1 H locs1 hm hPM hS _ hk => ?_)
            have hPU := qw_kept2 hPU hk (by omega)
            refine lv_pop hx hb dL_law_603 rfl ?_
            refine lv_goto (tgt := 1766) hx hb dL_law_604 (by decide) ?_
            have hJU : qJU zu1 zu1 := ⟨hu.2.1, qK_rf⟩
            have hJM : qJM zm1 zm1 := ⟨hm.2.1, qK_rf, hm.2.2.2⟩
            have hE : True ∧ REL zu1 zm1 := ⟨trivial, REL_K RR hu.2.2 hm.2.2.1⟩
            refine lv_iinc (v := i + 6) (lv' := [(3, .int (i + 6)), (2, .ref (a + 132)), (1, .ref (a + 0)), (0, .ref b)]) hx hb dL_law_1766 hl (k := 0) rfl rfl (by decide) rfl (fun ls hl => ?_)
            refine lv_goto (tgt := 18) hx hb dL_law_1769 (by decide) ?_
            have hi6 : (i + 6).toInt = i.toInt + 6 := gi_add (y := 6) (by show _ ≤ _ + (6 : Int); omega) (by show _ + (6 : Int) ≤ _; omega)
            exact ih (i + 6) zu1 yu1 zm1 ym1 (by omega) (by omega) (by omega) hJU hJM hE.2 _ _ hPU hPM hS _ hl
          | 11, _, hkn =>
            refine lv_tableIn (tgt := 607) hx hb dL_law_33 (by omega) (by omega) (by rw [hkn]; rfl) (by decide) ?_
            refine lv_aload_n hx hb dL_law_607 rfl (lv_at hl 2 rfl) ?_
            refine lv_aload_n hx hb dL_law_608 rfl (lv_at hl 3 rfl) ?_
            refine lv_iload_n hx hb dL_law_609 rfl (lv_at hl 0 rfl) ?_
            refine lv_iconst (v := 1) hx hb dL_law_610 (by decide) ?_
            refine lv_iadd hx hb dL_law_611 ?_
            refine va_sld hx hb hX hbl hbA hS (gi_in (by omega) (by omega)) dL_law_612 ?_
            refine lv_aload_n hx hb dL_law_613 rfl (lv_at hl 3 rfl) ?_
            refine lv_iload_n hx hb dL_law_614 rfl (lv_at hl 0 rfl) ?_
            refine lv_iconst (v := 2) hx hb dL_law_615 (by decide) ?_
            refine lv_iadd hx hb dL_law_616 ?_
            refine va_sld hx hb hX hbl hbA hS (gi_in (by omega) (by omega)) dL_law_617 ?_
            refine qc_Vi2 (As := [.int (xs (i + 1).toNatClampNeg), .int (xs (i + 2).toNatClampNeg)]) (rest := []) (k0 := 2) (u_follows l D ca (a + 0) zu zu yu JU (xs (i + 1).toNatClampNeg) (xs (i + 2).toNatClampNeg)) kc_yX10_follows ⟨hx, hb, hml, hown, hts⟩ wq_701 rfl rfl ⟨Nat.le_of_ble_eq_true rfl, Nat.le_of_ble_eq_true rfl⟩ wq_all hPU hK hS hAu (q0 := 0) (by decide) (hgU_0 ca (a + 0) _ _) rfl rfl hl.1 rfl (Nat.le_of_ble_eq_true rfl) dL_law_618 ⟨Nat.le_of_ble_eq_true rfl, Nat.le_of_ble_eq_true rfl⟩ (fun ru zu1 yu1 H locs1 hu hPU hS _ hk => ?_)
            have hPM := qw_kept2 hPM hk (by omega)
            refine lv_pop hx hb dL_law_621 rfl ?_
            refine lv_aload_n hx hb dL_law_622 rfl (lv_at hl 1 rfl) ?_
            refine lv_aload_n hx hb dL_law_623 rfl (lv_at hl 3 rfl) ?_
            refine lv_iload_n hx hb dL_law_624 rfl (lv_at hl 0 rfl) ?_
            refine lv_iconst (v := 1) hx hb dL_law_625 (by decide) ?_
            refine lv_iadd hx hb dL_law_626 ?_
            refine va_sld hx hb hX hbl hbA hS (gi_in (by omega) (by omega)) dL_law_627 ?_
            refine lv_aload_n hx hb dL_law_628 rfl (lv_at hl 3 rfl) ?_
            refine lv_iload_n hx hb dL_law_629 rfl (lv_at hl 0 rfl) ?_
            refine lv_iconst (v := 2) hx hb dL_law_630 (by decide) ?_
            refine lv_iadd hx hb dL_law_631 ?_
            refine va_sld hx hb hX hbl hbA hS (gi_in (by omega) (by omega)) dL_law_632 ?_
            refine qc_Vi2 (As := [.int (xs (i + 1).toNatClampNeg), .int (xs (i + 2).toNatClampNeg)]) (rest := []) (k0 := 2) (m_follows l D ca (a + 132) zm zm ym JM (xs (i + 1).toNatClampNeg) (xs (i + 2).toNatClampNeg)) kc_yX11_follows ⟨hx, hb, hml, hown, hts⟩ wq_1393 rfl rfl ⟨Nat.le_of_ble_eq_true rfl, Nat.le_of_ble_eq_true rfl⟩ wq_all hPM hK hS hAm (q0 := 0) (by decide) (hgM_0 ca (a + 132) _ _) rfl rfl hl.1 rfl (Nat.le_of_ble_eq_true rfl) dL_law_633 ⟨Nat.le_of_ble_eq_true rfl, Nat.le_of_ble_eq_true rfl⟩ (fun rm zm1 ym1 H locs1 hm hPM hS _ hk => ?_)
            have hPU := qw_kept2 hPU hk (by omega)
            refine lv_pop hx hb dL_law_636 rfl ?_
            refine lv_goto (tgt := 1766) hx hb dL_law_637 (by decide) ?_
            have hJU : qJU zu1 zu1 := ⟨hu.2.1, qK_rf⟩
            have hJM : qJM zm1 zm1 := ⟨hm.2.1, qK_rf, hm.2.2.2⟩
            have hE : True ∧ REL zu1 zm1 := ⟨trivial, REL_K RR hu.2.2 hm.2.2.1⟩
            refine lv_iinc (v := i + 6) (lv' := [(3, .int (i + 6)), (2, .ref (a + 132)), (1, .ref (a + 0)), (0, .ref b)]) hx hb dL_law_1766 hl (k := 0) rfl rfl (by decide) rfl (fun ls hl => ?_)
            refine lv_goto (tgt := 18) hx hb dL_law_1769 (by decide) ?_
            have hi6 : (i + 6).toInt = i.toInt + 6 := gi_add (y := 6) (by show _ ≤ _ + (6 : Int); omega) (by show _ + (6 : Int) ≤ _; omega)
            exact ih (i + 6) zu1 yu1 zm1 ym1 (by omega) (by omega) (by omega) hJU hJM hE.2 _ _ hPU hPM hS _ hl
          | 12, _, hkn =>
            refine lv_tableIn (tgt := 640) hx hb dL_law_33 (by omega) (by omega) (by rw [hkn]; rfl) (by decide) ?_
            refine lv_aload_n hx hb dL_law_640 rfl (lv_at hl 2 rfl) ?_
            refine lv_aload_n hx hb dL_law_641 rfl (lv_at hl 3 rfl) ?_
            refine lv_iload_n hx hb dL_law_642 rfl (lv_at hl 0 rfl) ?_
            refine lv_iconst (v := 1) hx hb dL_law_643 (by decide) ?_
            refine lv_iadd hx hb dL_law_644 ?_
            refine va_sld hx hb hX hbl hbA hS (gi_in (by omega) (by omega)) dL_law_645 ?_
            refine lv_aload_n hx hb dL_law_646 rfl (lv_at hl 3 rfl) ?_
            refine lv_iload_n hx hb dL_law_647 rfl (lv_at hl 0 rfl) ?_
            refine lv_iconst (v := 2) hx hb dL_law_648 (by decide) ?_
            refine lv_iadd hx hb dL_law_649 ?_
            refine va_sld hx hb hX hbl hbA hS (gi_in (by omega) (by omega)) dL_law_650 ?_
            refine qc_Vi2 (As := [.int (xs (i + 1).toNatClampNeg), .int (xs (i + 2).toNatClampNeg)]) (rest := []) (k0 := 2) (u_clash l D ca (a + 0) zu zu yu JU (xs (i + 1).toNatClampNeg) (xs (i + 2).toNatClampNeg)) kc_yX10_clash ⟨hx, hb, hml, hown, hts⟩ wq_705 rfl rfl ⟨Nat.le_of_ble_eq_true rfl, Nat.le_of_ble_eq_true rfl⟩ wq_all hPU hK hS hAu (q0 := 0) (by decide) (hgU_0 ca (a + 0) _ _) rfl rfl hl.1 rfl (Nat.le_of_ble_eq_true rfl) dL_law_651 ⟨Nat.le_of_ble_eq_true rfl, Nat.le_of_ble_eq_true rfl⟩ (fun ru zu1 yu1 H locs1 hu hPU hS _ hk => ?_)
            have hPM := qw_kept2 hPM hk (by omega)
            refine lv_pop hx hb dL_law_654 rfl ?_
            refine lv_aload_n hx hb dL_law_655 rfl (lv_at hl 1 rfl) ?_
            refine lv_aload_n hx hb dL_law_656 rfl (lv_at hl 3 rfl) ?_
            refine lv_iload_n hx hb dL_law_657 rfl (lv_at hl 0 rfl) ?_
            refine lv_iconst (v := 1) hx hb dL_law_658 (by decide) ?_
            refine lv_iadd hx hb dL_law_659 ?_
            refine va_sld hx hb hX hbl hbA hS (gi_in (by omega) (by omega)) dL_law_660 ?_
            refine lv_aload_n hx hb dL_law_661 rfl (lv_at hl 3 rfl) ?_
            refine lv_iload_n hx hb dL_law_662 rfl (lv_at hl 0 rfl) ?_
            refine lv_iconst (v := 2) hx hb dL_law_663 (by decide) ?_
            refine lv_iadd hx hb dL_law_664 ?_
            refine va_sld hx hb hX hbl hbA hS (gi_in (by omega) (by omega)) dL_law_665 ?_
            refine qc_Vi2 (As := [.int (xs (i + 1).toNatClampNeg), .int (xs (i + 2).toNatClampNeg)]) (rest := []) (k0 := 2) (m_clash l D ca (a + 132) zm zm ym JM (xs (i + 1).toNatClampNeg) (xs (i + 2).toNatClampNeg)) kc_yX11_clash ⟨hx, hb, hml, hown, hts⟩ wq_1397 rfl rfl ⟨Nat.le_of_ble_eq_true rfl, Nat.le_of_ble_eq_true rfl⟩ wq_all hPM hK hS hAm (q0 := 0) (by decide) (hgM_0 ca (a + 132) _ _) rfl rfl hl.1 rfl (Nat.le_of_ble_eq_true rfl) dL_law_666 ⟨Nat.le_of_ble_eq_true rfl, Nat.le_of_ble_eq_true rfl⟩ (fun rm zm1 ym1 H locs1 hm hPM hS _ hk => ?_)
            have hPU := qw_kept2 hPU hk (by omega)
            refine lv_pop hx hb dL_law_669 rfl ?_
            refine lv_goto (tgt := 1766) hx hb dL_law_670 (by decide) ?_
            have hJU : qJU zu1 zu1 := ⟨hu.2.1, qK_rf⟩
            have hJM : qJM zm1 zm1 := ⟨hm.2.1, qK_rf, hm.2.2.2⟩
            have hE : True ∧ REL zu1 zm1 := ⟨trivial, REL_K RR hu.2.2 hm.2.2.1⟩
            refine lv_iinc (v := i + 6) (lv' := [(3, .int (i + 6)), (2, .ref (a + 132)), (1, .ref (a + 0)), (0, .ref b)]) hx hb dL_law_1766 hl (k := 0) rfl rfl (by decide) rfl (fun ls hl => ?_)
            refine lv_goto (tgt := 18) hx hb dL_law_1769 (by decide) ?_
            have hi6 : (i + 6).toInt = i.toInt + 6 := gi_add (y := 6) (by show _ ≤ _ + (6 : Int); omega) (by show _ + (6 : Int) ≤ _; omega)
            exact ih (i + 6) zu1 yu1 zm1 ym1 (by omega) (by omega) (by omega) hJU hJM hE.2 _ _ hPU hPM hS _ hl
          | 13, _, hkn =>
            refine lv_tableIn (tgt := 673) hx hb dL_law_33 (by omega) (by omega) (by rw [hkn]; rfl) (by decide) ?_
            refine lv_aload_n hx hb dL_law_673 rfl (lv_at hl 2 rfl) ?_
            refine lv_aload_n hx hb dL_law_674 rfl (lv_at hl 3 rfl) ?_
            refine lv_iload_n hx hb dL_law_675 rfl (lv_at hl 0 rfl) ?_
            refine lv_iconst (v := 1) hx hb dL_law_676 (by decide) ?_
            refine lv_iadd hx hb dL_law_677 ?_
            refine va_sld hx hb hX hbl hbA hS (gi_in (by omega) (by omega)) dL_law_678 ?_
            refine qc_Vi2 (As := [.int (xs (i + 1).toNatClampNeg)]) (rest := []) (k0 := 1) (u_needless l D ca (a + 0) zu zu yu JU (xs (i + 1).toNatClampNeg)) kc_yX10_needless ⟨hx, hb, hml, hown, hts⟩ wq_709 rfl rfl ⟨Nat.le_of_ble_eq_true rfl, Nat.le_of_ble_eq_true rfl⟩ wq_all hPU hK hS hAu (q0 := 0) (by decide) (hgU_0 ca (a + 0) _ _) rfl rfl hl.1 rfl (Nat.le_of_ble_eq_true rfl) dL_law_679 ⟨Nat.le_of_ble_eq_true rfl, Nat.le_of_ble_eq_true rfl⟩ (fun ru zu1 yu1 H locs1 hu hPU hS _ hk => ?_)
            have hPM := qw_kept2 hPM hk (by omega)
            refine lv_pop hx hb dL_law_682 rfl ?_
            refine lv_aload_n hx hb dL_law_683 rfl (lv_at hl 1 rfl) ?_
            refine lv_aload_n hx hb dL_law_684 rfl (lv_at hl 3 rfl) ?_
            refine lv_iload_n hx hb dL_law_685 rfl (lv_at hl 0 rfl) ?_
            refine lv_iconst (v := 1) hx hb dL_law_686 (by decide) ?_
            refine lv_iadd hx hb dL_law_687 ?_
            refine va_sld hx hb hX hbl hbA hS (gi_in (by omega) (by omega)) dL_law_688 ?_
            refine qc_Vi2 (As := [.int (xs (i + 1).toNatClampNeg)]) (rest := []) (k0 := 1) (m_needless l D ca (a + 132) zm zm ym JM (xs (i + 1).toNatClampNeg)) kc_yX11_needless ⟨hx, hb, hml, hown, hts⟩ wq_1401 rfl rfl ⟨Nat.le_of_ble_eq_true rfl, Nat.le_of_ble_eq_true rfl⟩ wq_all hPM hK hS hAm (q0 := 0) (by decide) (hgM_0 ca (a + 132) _ _) rfl rfl hl.1 rfl (Nat.le_of_ble_eq_true rfl) dL_law_689 ⟨Nat.le_of_ble_eq_true rfl, Nat.le_of_ble_eq_true rfl⟩ (fun rm zm1 ym1 H locs1 hm hPM hS _ hk => ?_)
            have hPU := qw_kept2 hPU hk (by omega)
            refine lv_pop hx hb dL_law_692 rfl ?_
            refine lv_goto (tgt := 1766) hx hb dL_law_693 (by decide) ?_
            have hJU : qJU zu1 zu1 := ⟨hu.2.1, qK_rf⟩
            have hJM : qJM zm1 zm1 := ⟨hm.2.1, qK_rf, hm.2.2.2⟩
            have hE : True ∧ REL zu1 zm1 := ⟨trivial, REL_K RR hu.2.2 hm.2.2.1⟩
            refine lv_iinc (v := i + 6) (lv' := [(3, .int (i + 6)), (2, .ref (a + 132)), (1, .ref (a + 0)), (0, .ref b)]) hx hb dL_law_1766 hl (k := 0) rfl rfl (by decide) rfl (fun ls hl => ?_)
            refine lv_goto (tgt := 18) hx hb dL_law_1769 (by decide) ?_
            have hi6 : (i + 6).toInt = i.toInt + 6 := gi_add (y := 6) (by show _ ≤ _ + (6 : Int); omega) (by show _ + (6 : Int) ≤ _; omega)
            exact ih (i + 6) zu1 yu1 zm1 ym1 (by omega) (by omega) (by omega) hJU hJM hE.2 _ _ hPU hPM hS _ hl
          | 14, _, hkn =>
            refine lv_tableIn (tgt := 696) hx hb dL_law_33 (by omega) (by omega) (by rw [hkn]; rfl) (by decide) ?_
            refine lv_aload_n hx hb dL_law_696 rfl (lv_at hl 2 rfl) ?_
            refine lv_aload_n hx hb dL_law_697 rfl (lv_at hl 3 rfl) ?_
            refine lv_iload_n hx hb dL_law_698 rfl (lv_at hl 0 rfl) ?_
            refine lv_iconst (v := 1) hx hb dL_law_699 (by decide) ?_
            refine lv_iadd hx hb dL_law_700 ?_
            refine va_sld hx hb hX hbl hbA hS (gi_in (by omega) (by omega)) dL_law_701 ?_
            refine qc_Vi2 (As := [.int (xs (i + 1).toNatClampNeg)]) (rest := []) (k0 := 1) (u_settles l D ca (a + 0) zu zu yu JU (xs (i + 1).toNatClampNeg)) kc_yX10_settles ⟨hx, hb, hml, hown, hts⟩ wq_713 rfl rfl ⟨Nat.le_of_ble_eq_true rfl, Nat.le_of_ble_eq_true rfl⟩ wq_all hPU hK hS hAu (q0 := 0) (by decide) (hgU_0 ca (a + 0) _ _) rfl rfl hl.1 rfl (Nat.le_of_ble_eq_true rfl) dL_law_702 ⟨Nat.le_of_ble_eq_true rfl, Nat.le_of_ble_eq_true rfl⟩ (fun ru zu1 yu1 H locs1 hu hPU hS _ hk => ?_)
            have hPM := qw_kept2 hPM hk (by omega)
            refine lv_pop hx hb dL_law_705 rfl ?_
            refine lv_aload_n hx hb dL_law_706 rfl (lv_at hl 1 rfl) ?_
            refine lv_aload_n hx hb dL_law_707 rfl (lv_at hl 3 rfl) ?_
            refine lv_iload_n hx hb dL_law_708 rfl (lv_at hl 0 rfl) ?_
            refine lv_iconst (v := 1) hx hb dL_law_709 (by decide) ?_
            refine lv_iadd hx hb dL_law_710 ?_
            refine va_sld hx hb hX hbl hbA hS (gi_in (by omega) (by omega)) dL_law_711 ?_
            refine qc_Vi2 (As := [.int (xs (i + 1).toNatClampNeg)]) (rest := []) (k0 := 1) (m_settles l D ca (a + 132) zm zm ym JM (xs (i + 1).toNatClampNeg)) kc_yX11_settles ⟨hx, hb, hml, hown, hts⟩ wq_1405 rfl rfl ⟨Nat.le_of_ble_eq_true rfl, Nat.le_of_ble_eq_true rfl⟩ wq_all hPM hK hS hAm (q0 := 0) (by decide) (hgM_0 ca (a + 132) _ _) rfl rfl hl.1 rfl (Nat.le_of_ble_eq_true rfl) dL_law_712 ⟨Nat.le_of_ble_eq_true rfl, Nat.le_of_ble_eq_true rfl⟩ (fun rm zm1 ym1 H locs1 hm hPM hS _ hk => ?_)
            have hPU := qw_kept2 hPU hk (by omega)
            refine lv_pop hx hb dL_law_715 rfl ?_
            refine lv_goto (tgt := 1766) hx hb dL_law_716 (by decide) ?_
            have hJU : qJU zu1 zu1 := ⟨hu.2.1, qK_rf⟩
            have hJM : qJM zm1 zm1 := ⟨hm.2.1, qK_rf, hm.2.2.2⟩
            have hE : True ∧ REL zu1 zm1 := ⟨trivial, REL_K RR hu.2.2 hm.2.2.1⟩
            refine lv_iinc (v := i + 6) (lv' := [(3, .int (i + 6)), (2, .ref (a + 132)), (1, .ref (a + 0)), (0, .ref b)]) hx hb dL_law_1766 hl (k := 0) rfl rfl (by decide) rfl (fun ls hl => ?_)
            refine lv_goto (tgt := 18) hx hb dL_law_1769 (by decide) ?_
            have hi6 : (i + 6).toInt = i.toInt + 6 := gi_add (y := 6) (by show _ ≤ _ + (6 : Int); omega) (by show _ + (6 : Int) ≤ _; omega)
            exact ih (i + 6) zu1 yu1 zm1 ym1 (by omega) (by omega) (by omega) hJU hJM hE.2 _ _ hPU hPM hS _ hl
          | 15, _, hkn =>
            refine lv_tableIn (tgt := 719) hx hb dL_law_33 (by omega) (by omega) (by rw [hkn]; rfl) (by decide) ?_
            refine lv_aload_n hx hb dL_law_719 rfl (lv_at hl 2 rfl) ?_
            refine lv_aload_n hx hb dL_law_720 rfl (lv_at hl 3 rfl) ?_
            refine lv_iload_n hx hb dL_law_721 rfl (lv_at hl 0 rfl) ?_
            refine lv_iconst (v := 1) hx hb dL_law_722 (by decide) ?_
            refine lv_iadd hx hb dL_law_723 ?_
            refine va_sld hx hb hX hbl hbA hS (gi_in (by omega) (by omega)) dL_law_724 ?_
            refine lv_aload_n hx hb dL_law_725 rfl (lv_at hl 3 rfl) ?_
            refine lv_iload_n hx hb dL_law_726 rfl (lv_at hl 0 rfl) ?_
            refine lv_iconst (v := 2) hx hb dL_law_727 (by decide) ?_
            refine lv_iadd hx hb dL_law_728 ?_
            refine va_sld hx hb hX hbl hbA hS (gi_in (by omega) (by omega)) dL_law_729 ?_
            refine qc_Vi2 (As := [.int (xs (i + 1).toNatClampNeg), .int (xs (i + 2).toNatClampNeg)]) (rest := []) (k0 := 2) (u_fewest l D ca (a + 0) zu zu yu JU (xs (i + 1).toNatClampNeg) (xs (i + 2).toNatClampNeg)) kc_yX10_fewest ⟨hx, hb, hml, hown, hts⟩ wq_721 rfl rfl ⟨Nat.le_of_ble_eq_true rfl, Nat.le_of_ble_eq_true rfl⟩ wq_all hPU hK hS hAu (q0 := 0) (by decide) (hgU_0 ca (a + 0) _ _) rfl rfl hl.1 rfl (Nat.le_of_ble_eq_true rfl) dL_law_730 ⟨Nat.le_of_ble_eq_true rfl, Nat.le_of_ble_eq_true rfl⟩ (fun ru zu1 yu1 H locs1 hu hPU hS _ hk => ?_)
            have hPM := qw_kept2 hPM hk (by omega)
            refine lv_pop hx hb dL_law_733 rfl ?_
            refine lv_aload_n hx hb dL_law_734 rfl (lv_at hl 1 rfl) ?_
            refine lv_aload_n hx hb dL_law_735 rfl (lv_at hl 3 rfl) ?_
            refine lv_iload_n hx hb dL_law_736 rfl (lv_at hl 0 rfl) ?_
            refine lv_iconst (v := 1) hx hb dL_law_737 (by decide) ?_
            refine lv_iadd hx hb dL_law_738 ?_
            refine va_sld hx hb hX hbl hbA hS (gi_in (by omega) (by omega)) dL_law_739 ?_
            refine lv_aload_n hx hb dL_law_740 rfl (lv_at hl 3 rfl) ?_
            refine lv_iload_n hx hb dL_law_741 rfl (lv_at hl 0 rfl) ?_
            refine lv_iconst (v := 2) hx hb dL_law_742 (by decide) ?_
            refine lv_iadd hx hb dL_law_743 ?_
            refine va_sld hx hb hX hbl hbA hS (gi_in (by omega) (by omega)) dL_law_744 ?_
            refine qc_Vi2 (As := [.int (xs (i + 1).toNatClampNeg), .int (xs (i + 2).toNatClampNeg)]) (rest := []) (k0 := 2) (m_fewest l D ca (a + 132) zm zm ym JM (xs (i + 1).toNatClampNeg) (xs (i + 2).toNatClampNeg)) kc_yX11_fewest ⟨hx, hb, hml, hown, hts⟩ wq_1409 rfl rfl ⟨Nat.le_of_ble_eq_true rfl, Nat.le_of_ble_eq_true rfl⟩ wq_all hPM hK hS hAm (q0 := 0) (by decide) (hgM_0 ca (a + 132) _ _) rfl rfl hl.1 rfl (Nat.le_of_ble_eq_true rfl) dL_law_745 ⟨Nat.le_of_ble_eq_true rfl, Nat.le_of_ble_eq_true rfl⟩ (fun rm zm1 ym1 H locs1 hm hPM hS _ hk => ?_)
            have hPU := qw_kept2 hPU hk (by omega)
            refine lv_pop hx hb dL_law_748 rfl ?_
            refine lv_goto (tgt := 1766) hx hb dL_law_749 (by decide) ?_
            have hJU : qJU zu1 zu1 := ⟨hu.2.1, qK_rf⟩
            have hJM : qJM zm1 zm1 := ⟨hm.2.1, qK_rf, hm.2.2.2⟩
            have hE : True ∧ REL zu1 zm1 := ⟨trivial, REL_K RR hu.2.2 hm.2.2.1⟩
            refine lv_iinc (v := i + 6) (lv' := [(3, .int (i + 6)), (2, .ref (a + 132)), (1, .ref (a + 0)), (0, .ref b)]) hx hb dL_law_1766 hl (k := 0) rfl rfl (by decide) rfl (fun ls hl => ?_)
            refine lv_goto (tgt := 18) hx hb dL_law_1769 (by decide) ?_
            have hi6 : (i + 6).toInt = i.toInt + 6 := gi_add (y := 6) (by show _ ≤ _ + (6 : Int); omega) (by show _ + (6 : Int) ≤ _; omega)
            exact ih (i + 6) zu1 yu1 zm1 ym1 (by omega) (by omega) (by omega) hJU hJM hE.2 _ _ hPU hPM hS _ hl
          | 16, _, hkn =>
            refine lv_tableIn (tgt := 752) hx hb dL_law_33 (by omega) (by omega) (by rw [hkn]; rfl) (by decide) ?_
            refine lv_aload_n hx hb dL_law_752 rfl (lv_at hl 2 rfl) ?_
            refine lv_aload_n hx hb dL_law_753 rfl (lv_at hl 3 rfl) ?_
            refine lv_iload_n hx hb dL_law_754 rfl (lv_at hl 0 rfl) ?_
            refine lv_iconst (v := 1) hx hb dL_law_755 (by decide) ?_
            refine lv_iadd hx hb dL_law_756 ?_
            refine va_sld hx hb hX hbl hbA hS (gi_in (by omega) (by omega)) dL_law_757 ?_
            refine lv_aload_n hx hb dL_law_758 rfl (lv_at hl 3 rfl) ?_
            refine lv_iload_n hx hb dL_law_759 rfl (lv_at hl 0 rfl) ?_
            refine lv_iconst (v := 2) hx hb dL_law_760 (by decide) ?_
            refine lv_iadd hx hb dL_law_761 ?_
            refine va_sld hx hb hX hbl hbA hS (gi_in (by omega) (by omega)) dL_law_762 ?_
            refine qc_Vi2 (As := [.int (xs (i + 1).toNatClampNeg), .int (xs (i + 2).toNatClampNeg)]) (rest := []) (k0 := 2) (u_offByAYear l D ca (a + 0) zu zu yu JU (xs (i + 1).toNatClampNeg) (xs (i + 2).toNatClampNeg)) kc_yX10_offByAYear ⟨hx, hb, hml, hown, hts⟩ wq_689 rfl rfl ⟨Nat.le_of_ble_eq_true rfl, Nat.le_of_ble_eq_true rfl⟩ wq_all hPU hK hS hAu (q0 := 0) (by decide) (hgU_0 ca (a + 0) _ _) rfl rfl hl.1 rfl (Nat.le_of_ble_eq_true rfl) dL_law_763 ⟨Nat.le_of_ble_eq_true rfl, Nat.le_of_ble_eq_true rfl⟩ (fun ru zu1 yu1 H locs1 hu hPU hS _ hk => ?_)
            have hPM := qw_kept2 hPM hk (by omega)
            refine lv_pop hx hb dL_law_766 rfl ?_
            refine lv_aload_n hx hb dL_law_767 rfl (lv_at hl 1 rfl) ?_
            refine lv_aload_n hx hb dL_law_768 rfl (lv_at hl 3 rfl) ?_
            refine lv_iload_n hx hb dL_law_769 rfl (lv_at hl 0 rfl) ?_
            refine lv_iconst (v := 1) hx hb dL_law_770 (by decide) ?_
            refine lv_iadd hx hb dL_law_771 ?_
            refine va_sld hx hb hX hbl hbA hS (gi_in (by omega) (by omega)) dL_law_772 ?_
            refine lv_aload_n hx hb dL_law_773 rfl (lv_at hl 3 rfl) ?_
            refine lv_iload_n hx hb dL_law_774 rfl (lv_at hl 0 rfl) ?_
            refine lv_iconst (v := 2) hx hb dL_law_775 (by decide) ?_
            refine lv_iadd hx hb dL_law_776 ?_
            refine va_sld hx hb hX hbl hbA hS (gi_in (by omega) (by omega)) dL_law_777 ?_
            refine qc_Vi2 (As := [.int (xs (i + 1).toNatClampNeg), .int (xs (i + 2).toNatClampNeg)]) (rest := []) (k0 := 2) (m_offByAYear l D ca (a + 132) zm zm ym JM (xs (i + 1).toNatClampNeg) (xs (i + 2).toNatClampNeg)) kc_yX11_offByAYear ⟨hx, hb, hml, hown, hts⟩ wq_1413 rfl rfl ⟨Nat.le_of_ble_eq_true rfl, Nat.le_of_ble_eq_true rfl⟩ wq_all hPM hK hS hAm (q0 := 0) (by decide) (hgM_0 ca (a + 132) _ _) rfl rfl hl.1 rfl (Nat.le_of_ble_eq_true rfl) dL_law_778 ⟨Nat.le_of_ble_eq_true rfl, Nat.le_of_ble_eq_true rfl⟩ (fun rm zm1 ym1 H locs1 hm hPM hS _ hk => ?_)
            have hPU := qw_kept2 hPU hk (by omega)
            refine lv_pop hx hb dL_law_781 rfl ?_
            refine lv_goto (tgt := 1766) hx hb dL_law_782 (by decide) ?_
            have hJU : qJU zu1 zu1 := ⟨hu.2.1, qK_rf⟩
            have hJM : qJM zm1 zm1 := ⟨hm.2.1, qK_rf, hm.2.2.2⟩
            have hE : True ∧ REL zu1 zm1 := ⟨trivial, REL_K RR hu.2.2 hm.2.2.1⟩
            refine lv_iinc (v := i + 6) (lv' := [(3, .int (i + 6)), (2, .ref (a + 132)), (1, .ref (a + 0)), (0, .ref b)]) hx hb dL_law_1766 hl (k := 0) rfl rfl (by decide) rfl (fun ls hl => ?_)
            refine lv_goto (tgt := 18) hx hb dL_law_1769 (by decide) ?_
            have hi6 : (i + 6).toInt = i.toInt + 6 := gi_add (y := 6) (by show _ ≤ _ + (6 : Int); omega) (by show _ + (6 : Int) ≤ _; omega)
            exact ih (i + 6) zu1 yu1 zm1 ym1 (by omega) (by omega) (by omega) hJU hJM hE.2 _ _ hPU hPM hS _ hl
          | 17, _, hkn =>
            refine lv_tableIn (tgt := 785) hx hb dL_law_33 (by omega) (by omega) (by rw [hkn]; rfl) (by decide) ?_
            refine lv_aload_n hx hb dL_law_785 rfl (lv_at hl 2 rfl) ?_
            refine lv_aload_n hx hb dL_law_786 rfl (lv_at hl 3 rfl) ?_
            refine lv_iload_n hx hb dL_law_787 rfl (lv_at hl 0 rfl) ?_
            refine lv_iconst (v := 1) hx hb dL_law_788 (by decide) ?_
            refine lv_iadd hx hb dL_law_789 ?_
            refine va_sld hx hb hX hbl hbA hS (gi_in (by omega) (by omega)) dL_law_790 ?_
            refine lv_aload_n hx hb dL_law_791 rfl (lv_at hl 3 rfl) ?_
            refine lv_iload_n hx hb dL_law_792 rfl (lv_at hl 0 rfl) ?_
            refine lv_iconst (v := 2) hx hb dL_law_793 (by decide) ?_
            refine lv_iadd hx hb dL_law_794 ?_
            refine va_sld hx hb hX hbl hbA hS (gi_in (by omega) (by omega)) dL_law_795 ?_
            refine qc_Vi2 (As := [.int (xs (i + 1).toNatClampNeg), .int (xs (i + 2).toNatClampNeg)]) (rest := []) (k0 := 2) (u_known_q l D ca (a + 0) zu zu yu JU (xs (i + 1).toNatClampNeg) (xs (i + 2).toNatClampNeg)) kc_yX10_known ⟨hx, hb, hml, hown, hts⟩ wq_739 rfl rfl ⟨Nat.le_of_ble_eq_true rfl, Nat.le_of_ble_eq_true rfl⟩ wq_all hPU hK hS hAu (q0 := 0) (by decide) (hgU_0 ca (a + 0) _ _) rfl rfl hl.1 rfl (Nat.le_of_ble_eq_true rfl) dL_law_796 ⟨Nat.le_of_ble_eq_true rfl, Nat.le_of_ble_eq_true rfl⟩ (fun ru zu1 yu1 H locs1 hu hPU hS _ hk => ?_)
            have hPM := qw_kept2 hPM hk (by omega)
            refine lv_pop hx hb dL_law_799 rfl ?_
            refine lv_aload_n hx hb dL_law_800 rfl (lv_at hl 1 rfl) ?_
            refine lv_aload_n hx hb dL_law_801 rfl (lv_at hl 3 rfl) ?_
            refine lv_iload_n hx hb dL_law_802 rfl (lv_at hl 0 rfl) ?_
            refine lv_iconst (v := 1) hx hb dL_law_803 (by decide) ?_
            refine lv_iadd hx hb dL_law_804 ?_
            refine va_sld hx hb hX hbl hbA hS (gi_in (by omega) (by omega)) dL_law_805 ?_
            refine lv_aload_n hx hb dL_law_806 rfl (lv_at hl 3 rfl) ?_
            refine lv_iload_n hx hb dL_law_807 rfl (lv_at hl 0 rfl) ?_
            refine lv_iconst (v := 2) hx hb dL_law_808 (by decide) ?_
            refine lv_iadd hx hb dL_law_809 ?_
            refine va_sld hx hb hX hbl hbA hS (gi_in (by omega) (by omega)) dL_law_810 ?_
            refine qc_Vi2 (As := [.int (xs (i + 1).toNatClampNeg), .int (xs (i + 2).toNatClampNeg)]) (rest := []) (k0 := 2) (m_known l D ca (a + 132) zm zm ym JM (xs (i + 1).toNatClampNeg) (xs (i + 2).toNatClampNeg)) kc_yX11_known ⟨hx, hb, hml, hown, hts⟩ wq_1429 rfl rfl ⟨Nat.le_of_ble_eq_true rfl, Nat.le_of_ble_eq_true rfl⟩ wq_all hPM hK hS hAm (q0 := 0) (by decide) (hgM_0 ca (a + 132) _ _) rfl rfl hl.1 rfl (Nat.le_of_ble_eq_true rfl) dL_law_811 ⟨Nat.le_of_ble_eq_true rfl, Nat.le_of_ble_eq_true rfl⟩ (fun rm zm1 ym1 H locs1 hm hPM hS _ hk => ?_)
            have hPU := qw_kept2 hPU hk (by omega)
            refine lv_pop hx hb dL_law_814 rfl ?_
            refine lv_goto (tgt := 1766) hx hb dL_law_815 (by decide) ?_
            have hJU : qJU zu1 zu1 := ⟨hu.2.1, qK_rf⟩
            have hJM : qJM zm1 zm1 := ⟨hm.2.1, qK_rf, hm.2.2.2⟩
            have hE : True ∧ REL zu1 zm1 := ⟨trivial, REL_K RR hu.2.2 hm.2.2.1⟩
            refine lv_iinc (v := i + 6) (lv' := [(3, .int (i + 6)), (2, .ref (a + 132)), (1, .ref (a + 0)), (0, .ref b)]) hx hb dL_law_1766 hl (k := 0) rfl rfl (by decide) rfl (fun ls hl => ?_)
            refine lv_goto (tgt := 18) hx hb dL_law_1769 (by decide) ?_
            have hi6 : (i + 6).toInt = i.toInt + 6 := gi_add (y := 6) (by show _ ≤ _ + (6 : Int); omega) (by show _ + (6 : Int) ≤ _; omega)
            exact ih (i + 6) zu1 yu1 zm1 ym1 (by omega) (by omega) (by omega) hJU hJM hE.2 _ _ hPU hPM hS _ hl
          | 18, _, hkn =>
            refine lv_tableIn (tgt := 818) hx hb dL_law_33 (by omega) (by omega) (by rw [hkn]; rfl) (by decide) ?_
            refine lv_aload_n hx hb dL_law_818 rfl (lv_at hl 2 rfl) ?_
            refine lv_aload_n hx hb dL_law_819 rfl (lv_at hl 3 rfl) ?_
            refine lv_iload_n hx hb dL_law_820 rfl (lv_at hl 0 rfl) ?_
            refine lv_iconst (v := 1) hx hb dL_law_821 (by decide) ?_
            refine lv_iadd hx hb dL_law_822 ?_
            refine va_sld hx hb hX hbl hbA hS (gi_in (by omega) (by omega)) dL_law_823 ?_
            refine lv_aload_n hx hb dL_law_824 rfl (lv_at hl 3 rfl) ?_
            refine lv_iload_n hx hb dL_law_825 rfl (lv_at hl 0 rfl) ?_
            refine lv_iconst (v := 2) hx hb dL_law_826 (by decide) ?_
            refine lv_iadd hx hb dL_law_827 ?_
            refine va_sld hx hb hX hbl hbA hS (gi_in (by omega) (by omega)) dL_law_828 ?_
            refine lv_aload_n hx hb dL_law_829 rfl (lv_at hl 3 rfl) ?_
            refine lv_iload_n hx hb dL_law_830 rfl (lv_at hl 0 rfl) ?_
            refine lv_iconst (v := 3) hx hb dL_law_831 (by decide) ?_
            refine lv_iadd hx hb dL_law_832 ?_
            refine va_sld hx hb hX hbl hbA hS (gi_in (by omega) (by omega)) dL_law_833 ?_
            refine qc_Vi2 (As := [.int (xs (i + 1).toNatClampNeg), .int (xs (i + 2).toNatClampNeg), .int (xs (i + 3).toNatClampNeg)]) (rest := []) (k0 := 3) (u_sayings l D ca (a + 0) zu zu yu JU (xs (i + 1).toNatClampNeg) (xs (i + 2).toNatClampNeg) (xs (i + 3).toNatClampNeg)) kc_yX10_sayings ⟨hx, hb, hml, hown, hts⟩ wq_788 rfl rfl ⟨Nat.le_of_ble_eq_true rfl, Nat.le_of_ble_eq_true rfl⟩ wq_all hPU hK hS hAu (q0 := 0) (by decide) (hgU_0 ca (a + 0) _ _) rfl rfl hl.1 rfl (Nat.le_of_ble_eq_true rfl) dL_law_834 ⟨Nat.le_of_ble_eq_true rfl, Nat.le_of_ble_eq_true rfl⟩ (fun ru zu1 yu1 H locs1 hu hPU hS _ hk => ?_)
            have hPM := qw_kept2 hPM hk (by omega)
            refine lv_pop hx hb dL_law_837 rfl ?_
            refine lv_aload_n hx hb dL_law_838 rfl (lv_at hl 1 rfl) ?_
            refine lv_aload_n hx hb dL_law_839 rfl (lv_at hl 3 rfl) ?_
            refine lv_iload_n hx hb dL_law_840 rfl (lv_at hl 0 rfl) ?_
            refine lv_iconst (v := 1) hx hb dL_law_841 (by decide) ?_
            refine lv_iadd hx hb dL_law_842 ?_
            refine va_sld hx hb hX hbl hbA hS (gi_in (by omega) (by omega)) dL_law_843 ?_
            refine lv_aload_n hx hb dL_law_844 rfl (lv_at hl 3 rfl) ?_
            refine lv_iload_n hx hb dL_law_845 rfl (lv_at hl 0 rfl) ?_
            refine lv_iconst (v := 2) hx hb dL_law_846 (by decide) ?_
            refine lv_iadd hx hb dL_law_847 ?_
            refine va_sld hx hb hX hbl hbA hS (gi_in (by omega) (by omega)) dL_law_848 ?_
            refine lv_aload_n hx hb dL_law_849 rfl (lv_at hl 3 rfl) ?_
            refine lv_iload_n hx hb dL_law_850 rfl (lv_at hl 0 rfl) ?_
            refine lv_iconst (v := 3) hx hb dL_law_851 (by decide) ?_
            refine lv_iadd hx hb dL_law_852 ?_
            refine va_sld hx hb hX hbl hbA hS (gi_in (by omega) (by omega)) dL_law_853 ?_
            refine qc_Vi2 (As := [.int (xs (i + 1).toNatClampNeg), .int (xs (i + 2).toNatClampNeg), .int (xs (i + 3).toNatClampNeg)]) (rest := []) (k0 := 3) (m_sayings l D ca (a + 132) zm zm ym JM (xs (i + 1).toNatClampNeg) (xs (i + 2).toNatClampNeg) (xs (i + 3).toNatClampNeg)) kc_yX11_sayings ⟨hx, hb, hml, hown, hts⟩ wq_1453 rfl rfl ⟨Nat.le_of_ble_eq_true rfl, Nat.le_of_ble_eq_true rfl⟩ wq_all hPM hK hS hAm (q0 := 0) (by decide) (hgM_0 ca (a + 132) _ _) rfl rfl hl.1 rfl (Nat.le_of_ble_eq_true rfl) dL_law_854 ⟨Nat.le_of_ble_eq_true rfl, Nat.le_of_ble_eq_true rfl⟩ (fun rm zm1 ym1 H locs1 hm hPM hS _ hk => ?_)
            have hPU := qw_kept2 hPU hk (by omega)
            refine lv_pop hx hb dL_law_857 rfl ?_
            refine lv_goto (tgt := 1766) hx hb dL_law_858 (by decide) ?_
            have hJU : qJU zu1 zu1 := ⟨hu.2.1, qK_rf⟩
            have hJM : qJM zm1 zm1 := ⟨hm.2.1.1, qK_rf, hm.2.1.2.2⟩
            have hE : True ∧ REL zu1 zm1 := ⟨trivial, REL_K RR hu.2.2 hm.2.1.2.1⟩
            refine lv_iinc (v := i + 6) (lv' := [(3, .int (i + 6)), (2, .ref (a + 132)), (1, .ref (a + 0)), (0, .ref b)]) hx hb dL_law_1766 hl (k := 0) rfl rfl (by decide) rfl (fun ls hl => ?_)
            refine lv_goto (tgt := 18) hx hb dL_law_1769 (by decide) ?_
            have hi6 : (i + 6).toInt = i.toInt + 6 := gi_add (y := 6) (by show _ ≤ _ + (6 : Int); omega) (by show _ + (6 : Int) ≤ _; omega)
            exact ih (i + 6) zu1 yu1 zm1 ym1 (by omega) (by omega) (by omega) hJU hJM hE.2 _ _ hPU hPM hS _ hl
          | 19, _, hkn =>
            refine lv_tableIn (tgt := 861) hx hb dL_law_33 (by omega) (by omega) (by rw [hkn]; rfl) (by decide) ?_
            refine lv_aload_n hx hb dL_law_861 rfl (lv_at hl 2 rfl) ?_
            refine lv_aload_n hx hb dL_law_862 rfl (lv_at hl 3 rfl) ?_
            refine lv_iload_n hx hb dL_law_863 rfl (lv_at hl 0 rfl) ?_
            refine lv_iconst (v := 1) hx hb dL_law_864 (by decide) ?_
            refine lv_iadd hx hb dL_law_865 ?_
            refine va_sld hx hb hX hbl hbA hS (gi_in (by omega) (by omega)) dL_law_866 ?_
            refine lv_aload_n hx hb dL_law_867 rfl (lv_at hl 3 rfl) ?_
            refine lv_iload_n hx hb dL_law_868 rfl (lv_at hl 0 rfl) ?_
            refine lv_iconst (v := 2) hx hb dL_law_869 (by decide) ?_
            refine lv_iadd hx hb dL_law_870 ?_
            refine va_sld hx hb hX hbl hbA hS (gi_in (by omega) (by omega)) dL_law_871 ?_
            refine lv_aload_n hx hb dL_law_872 rfl (lv_at hl 3 rfl) ?_
            refine lv_iload_n hx hb dL_law_873 rfl (lv_at hl 0 rfl) ?_
            refine lv_iconst (v := 3) hx hb dL_law_874 (by decide) ?_
            refine lv_iadd hx hb dL_law_875 ?_
            refine va_sld hx hb hX hbl hbA hS (gi_in (by omega) (by omega)) dL_law_876 ?_
            refine qc_Vi2 (As := [.int (xs (i + 1).toNatClampNeg), .int (xs (i + 2).toNatClampNeg), .int (xs (i + 3).toNatClampNeg)]) (rest := []) (k0 := 3) (u_isTrue l D ca (a + 0) zu zu yu JU (xs (i + 1).toNatClampNeg) (xs (i + 2).toNatClampNeg) (xs (i + 3).toNatClampNeg)) kc_yX10_isTrue ⟨hx, hb, hml, hown, hts⟩ wq_809 rfl rfl ⟨Nat.le_of_ble_eq_true rfl, Nat.le_of_ble_eq_true rfl⟩ wq_all hPU hK hS hAu (q0 := 0) (by decide) (hgU_0 ca (a + 0) _ _) rfl rfl hl.1 rfl (Nat.le_of_ble_eq_true rfl) dL_law_877 ⟨Nat.le_of_ble_eq_true rfl, Nat.le_of_ble_eq_true rfl⟩ (fun ru zu1 yu1 H locs1 hu hPU hS _ hk => ?_)
            have hPM := qw_kept2 hPM hk (by omega)
            refine lv_pop hx hb dL_law_880 rfl ?_
            refine lv_aload_n hx hb dL_law_881 rfl (lv_at hl 1 rfl) ?_
            refine lv_aload_n hx hb dL_law_882 rfl (lv_at hl 3 rfl) ?_
            refine lv_iload_n hx hb dL_law_883 rfl (lv_at hl 0 rfl) ?_
            refine lv_iconst (v := 1) hx hb dL_law_884 (by decide) ?_
            refine lv_iadd hx hb dL_law_885 ?_
            refine va_sld hx hb hX hbl hbA hS (gi_in (by omega) (by omega)) dL_law_886 ?_
            refine lv_aload_n hx hb dL_law_887 rfl (lv_at hl 3 rfl) ?_
            refine lv_iload_n hx hb dL_law_888 rfl (lv_at hl 0 rfl) ?_
            refine lv_iconst (v := 2) hx hb dL_law_889 (by decide) ?_
            refine lv_iadd hx hb dL_law_890 ?_
            refine va_sld hx hb hX hbl hbA hS (gi_in (by omega) (by omega)) dL_law_891 ?_
            refine lv_aload_n hx hb dL_law_892 rfl (lv_at hl 3 rfl) ?_
            refine lv_iload_n hx hb dL_law_893 rfl (lv_at hl 0 rfl) ?_
            refine lv_iconst (v := 3) hx hb dL_law_894 (by decide) ?_
            refine lv_iadd hx hb dL_law_895 ?_
            refine va_sld hx hb hX hbl hbA hS (gi_in (by omega) (by omega)) dL_law_896 ?_
            refine qc_Vi2 (As := [.int (xs (i + 1).toNatClampNeg), .int (xs (i + 2).toNatClampNeg), .int (xs (i + 3).toNatClampNeg)]) (rest := []) (k0 := 3) (m_isTrue l D ca (a + 132) zm zm ym JM (xs (i + 1).toNatClampNeg) (xs (i + 2).toNatClampNeg) (xs (i + 3).toNatClampNeg)) kc_yX11_isTrue ⟨hx, hb, hml, hown, hts⟩ wq_1492 rfl rfl ⟨Nat.le_of_ble_eq_true rfl, Nat.le_of_ble_eq_true rfl⟩ wq_all hPM hK hS hAm (q0 := 0) (by decide) (hgM_0 ca (a + 132) _ _) rfl rfl hl.1 rfl (Nat.le_of_ble_eq_true rfl) dL_law_897 ⟨Nat.le_of_ble_eq_true rfl, Nat.le_of_ble_eq_true rfl⟩ (fun rm zm1 ym1 H locs1 hm hPM hS _ hk => ?_)
            have hPU := qw_kept2 hPU hk (by omega)
            refine lv_pop hx hb dL_law_900 rfl ?_
            refine lv_goto (tgt := 1766) hx hb dL_law_901 (by decide) ?_
            have hJU : qJU zu1 zu1 := ⟨hu.2.1, qK_rf⟩
            have hJM : qJM zm1 zm1 := ⟨hm.2.1, qK_rf, hm.2.2.2⟩
            have hE : True ∧ REL zu1 zm1 := ⟨trivial, REL_K RR hu.2.2 hm.2.2.1⟩
            refine lv_iinc (v := i + 6) (lv' := [(3, .int (i + 6)), (2, .ref (a + 132)), (1, .ref (a + 0)), (0, .ref b)]) hx hb dL_law_1766 hl (k := 0) rfl rfl (by decide) rfl (fun ls hl => ?_)
            refine lv_goto (tgt := 18) hx hb dL_law_1769 (by decide) ?_
            have hi6 : (i + 6).toInt = i.toInt + 6 := gi_add (y := 6) (by show _ ≤ _ + (6 : Int); omega) (by show _ + (6 : Int) ≤ _; omega)
            exact ih (i + 6) zu1 yu1 zm1 ym1 (by omega) (by omega) (by omega) hJU hJM hE.2 _ _ hPU hPM hS _ hl
          | 20, _, hkn =>
            refine lv_tableIn (tgt := 904) hx hb dL_law_33 (by omega) (by omega) (by rw [hkn]; rfl) (by decide) ?_
            refine lv_aload_n hx hb dL_law_904 rfl (lv_at hl 2 rfl) ?_
            refine lv_aload_n hx hb dL_law_905 rfl (lv_at hl 3 rfl) ?_
            refine lv_iload_n hx hb dL_law_906 rfl (lv_at hl 0 rfl) ?_
            refine lv_iconst (v := 1) hx hb dL_law_907 (by decide) ?_
            refine lv_iadd hx hb dL_law_908 ?_
            refine va_sld hx hb hX hbl hbA hS (gi_in (by omega) (by omega)) dL_law_909 ?_
            refine lv_aload_n hx hb dL_law_910 rfl (lv_at hl 3 rfl) ?_
            refine lv_iload_n hx hb dL_law_911 rfl (lv_at hl 0 rfl) ?_
            refine lv_iconst (v := 2) hx hb dL_law_912 (by decide) ?_
            refine lv_iadd hx hb dL_law_913 ?_
            refine va_sld hx hb hX hbl hbA hS (gi_in (by omega) (by omega)) dL_law_914 ?_
            refine lv_aload_n hx hb dL_law_915 rfl (lv_at hl 3 rfl) ?_
            refine lv_iload_n hx hb dL_law_916 rfl (lv_at hl 0 rfl) ?_
            refine lv_iconst (v := 3) hx hb dL_law_917 (by decide) ?_
            refine lv_iadd hx hb dL_law_918 ?_
            refine va_sld hx hb hX hbl hbA hS (gi_in (by omega) (by omega)) dL_law_919 ?_
            refine qc_Vi2 (As := [.int (xs (i + 1).toNatClampNeg), .int (xs (i + 2).toNatClampNeg), .int (xs (i + 3).toNatClampNeg)]) (rest := []) (k0 := 3) (u_together l D ca (a + 0) zu zu yu JU (xs (i + 1).toNatClampNeg) (xs (i + 2).toNatClampNeg) (xs (i + 3).toNatClampNeg)) kc_yX10_together ⟨hx, hb, hml, hown, hts⟩ wq_826 rfl rfl ⟨Nat.le_of_ble_eq_true rfl, Nat.le_of_ble_eq_true rfl⟩ wq_all hPU hK hS hAu (q0 := 0) (by decide) (hgU_0 ca (a + 0) _ _) rfl rfl hl.1 rfl (Nat.le_of_ble_eq_true rfl) dL_law_920 ⟨Nat.le_of_ble_eq_true rfl, Nat.le_of_ble_eq_true rfl⟩ (fun ru zu1 yu1 H locs1 hu hPU hS _ hk => ?_)
            have hPM := qw_kept2 hPM hk (by omega)
            refine lv_pop hx hb dL_law_923 rfl ?_
            refine lv_aload_n hx hb dL_law_924 rfl (lv_at hl 1 rfl) ?_
            refine lv_aload_n hx hb dL_law_925 rfl (lv_at hl 3 rfl) ?_
            refine lv_iload_n hx hb dL_law_926 rfl (lv_at hl 0 rfl) ?_
            refine lv_iconst (v := 1) hx hb dL_law_927 (by decide) ?_
            refine lv_iadd hx hb dL_law_928 ?_
            refine va_sld hx hb hX hbl hbA hS (gi_in (by omega) (by omega)) dL_law_929 ?_
            refine lv_aload_n hx hb dL_law_930 rfl (lv_at hl 3 rfl) ?_
            refine lv_iload_n hx hb dL_law_931 rfl (lv_at hl 0 rfl) ?_
            refine lv_iconst (v := 2) hx hb dL_law_932 (by decide) ?_
            refine lv_iadd hx hb dL_law_933 ?_
            refine va_sld hx hb hX hbl hbA hS (gi_in (by omega) (by omega)) dL_law_934 ?_
            refine lv_aload_n hx hb dL_law_935 rfl (lv_at hl 3 rfl) ?_
            refine lv_iload_n hx hb dL_law_936 rfl (lv_at hl 0 rfl) ?_
            refine lv_iconst (v := 3) hx hb dL_law_937 (by decide) ?_
            refine lv_iadd hx hb dL_law_938 ?_
            refine va_sld hx hb hX hbl hbA hS (gi_in (by omega) (by omega)) dL_law_939 ?_
            refine qc_Vi2 (As := [.int (xs (i + 1).toNatClampNeg), .int (xs (i + 2).toNatClampNeg), .int (xs (i + 3).toNatClampNeg)]) (rest := []) (k0 := 3) (m_together l D ca (a + 132) zm zm ym JM (xs (i + 1).toNatClampNeg) (xs (i + 2).toNatClampNeg) (xs (i + 3).toNatClampNeg)) kc_yX11_together ⟨hx, hb, hml, hown, hts⟩ wq_1496 rfl rfl ⟨Nat.le_of_ble_eq_true rfl, Nat.le_of_ble_eq_true rfl⟩ wq_all hPM hK hS hAm (q0 := 0) (by decide) (hgM_0 ca (a + 132) _ _) rfl rfl hl.1 rfl (Nat.le_of_ble_eq_true rfl) dL_law_940 ⟨Nat.le_of_ble_eq_true rfl, Nat.le_of_ble_eq_true rfl⟩ (fun rm zm1 ym1 H locs1 hm hPM hS _ hk => ?_)
            have hPU := qw_kept2 hPU hk (by omega)
            refine lv_pop hx hb dL_law_943 rfl ?_
            refine lv_goto (tgt := 1766) hx hb dL_law_944 (by decide) ?_
            have hJU : qJU zu1 zu1 := ⟨hu.2.1, qK_rf⟩
            have hJM : qJM zm1 zm1 := ⟨hm.2.1, qK_rf, hm.2.2.2⟩
            have hE : True ∧ REL zu1 zm1 := ⟨trivial, REL_K RR hu.2.2 hm.2.2.1⟩
            refine lv_iinc (v := i + 6) (lv' := [(3, .int (i + 6)), (2, .ref (a + 132)), (1, .ref (a + 0)), (0, .ref b)]) hx hb dL_law_1766 hl (k := 0) rfl rfl (by decide) rfl (fun ls hl => ?_)
            refine lv_goto (tgt := 18) hx hb dL_law_1769 (by decide) ?_
            have hi6 : (i + 6).toInt = i.toInt + 6 := gi_add (y := 6) (by show _ ≤ _ + (6 : Int); omega) (by show _ + (6 : Int) ≤ _; omega)
            exact ih (i + 6) zu1 yu1 zm1 ym1 (by omega) (by omega) (by omega) hJU hJM hE.2 _ _ hPU hPM hS _ hl
          | 21, _, hkn =>
            refine lv_tableIn (tgt := 947) hx hb dL_law_33 (by omega) (by omega) (by rw [hkn]; rfl) (by decide) ?_
            refine lv_aload_n hx hb dL_law_947 rfl (lv_at hl 2 rfl) ?_
            refine lv_aload_n hx hb dL_law_948 rfl (lv_at hl 3 rfl) ?_
            refine lv_iload_n hx hb dL_law_949 rfl (lv_at hl 0 rfl) ?_
            refine lv_iconst (v := 1) hx hb dL_law_950 (by decide) ?_
            refine lv_iadd hx hb dL_law_951 ?_
            refine va_sld hx hb hX hbl hbA hS (gi_in (by omega) (by omega)) dL_law_952 ?_
            refine lv_aload_n hx hb dL_law_953 rfl (lv_at hl 3 rfl) ?_
            refine lv_iload_n hx hb dL_law_954 rfl (lv_at hl 0 rfl) ?_
            refine lv_iconst (v := 2) hx hb dL_law_955 (by decide) ?_
            refine lv_iadd hx hb dL_law_956 ?_
            refine va_sld hx hb hX hbl hbA hS (gi_in (by omega) (by omega)) dL_law_957 ?_
            refine lv_aload_n hx hb dL_law_958 rfl (lv_at hl 3 rfl) ?_
            refine lv_iload_n hx hb dL_law_959 rfl (lv_at hl 0 rfl) ?_
            refine lv_iconst (v := 3) hx hb dL_law_960 (by decide) ?_
            refine lv_iadd hx hb dL_law_961 ?_
            refine va_sld hx hb hX hbl hbA hS (gi_in (by omega) (by omega)) dL_law_962 ?_
            refine lv_aload_n hx hb dL_law_963 rfl (lv_at hl 3 rfl) ?_
            refine lv_iload_n hx hb dL_law_964 rfl (lv_at hl 0 rfl) ?_
            refine lv_iconst (v := 4) hx hb dL_law_965 (by decide) ?_
            refine lv_iadd hx hb dL_law_966 ?_
            refine va_sld hx hb hX hbl hbA hS (gi_in (by omega) (by omega)) dL_law_967 ?_
            refine qc_Vi2 (As := [.int (xs (i + 1).toNatClampNeg), .int (xs (i + 2).toNatClampNeg), .int (xs (i + 3).toNatClampNeg), .int (xs (i + 4).toNatClampNeg)]) (rest := []) (k0 := 4) (u_turned l D ca (a + 0) zu zu yu JU (xs (i + 1).toNatClampNeg) (xs (i + 2).toNatClampNeg) (xs (i + 3).toNatClampNeg) (xs (i + 4).toNatClampNeg)) kc_yX10_turned ⟨hx, hb, hml, hown, hts⟩ wq_830 rfl rfl ⟨Nat.le_of_ble_eq_true rfl, Nat.le_of_ble_eq_true rfl⟩ wq_all hPU hK hS hAu (q0 := 0) (by decide) (hgU_0 ca (a + 0) _ _) rfl rfl hl.1 rfl (Nat.le_of_ble_eq_true rfl) dL_law_968 ⟨Nat.le_of_ble_eq_true rfl, Nat.le_of_ble_eq_true rfl⟩ (fun ru zu1 yu1 H locs1 hu hPU hS _ hk => ?_)
            have hPM := qw_kept2 hPM hk (by omega)
            refine lv_pop hx hb dL_law_971 rfl ?_
            refine lv_aload_n hx hb dL_law_972 rfl (lv_at hl 1 rfl) ?_
            refine lv_aload_n hx hb dL_law_973 rfl (lv_at hl 3 rfl) ?_
            refine lv_iload_n hx hb dL_law_974 rfl (lv_at hl 0 rfl) ?_
            refine lv_iconst (v := 1) hx hb dL_law_975 (by decide) ?_
            refine lv_iadd hx hb dL_law_976 ?_
            refine va_sld hx hb hX hbl hbA hS (gi_in (by omega) (by omega)) dL_law_977 ?_
            refine lv_aload_n hx hb dL_law_978 rfl (lv_at hl 3 rfl) ?_
            refine lv_iload_n hx hb dL_law_979 rfl (lv_at hl 0 rfl) ?_
            refine lv_iconst (v := 2) hx hb dL_law_980 (by decide) ?_
            refine lv_iadd hx hb dL_law_981 ?_
            refine va_sld hx hb hX hbl hbA hS (gi_in (by omega) (by omega)) dL_law_982 ?_
            refine lv_aload_n hx hb dL_law_983 rfl (lv_at hl 3 rfl) ?_
            refine lv_iload_n hx hb dL_law_984 rfl (lv_at hl 0 rfl) ?_
            refine lv_iconst (v := 3) hx hb dL_law_985 (by decide) ?_
            refine lv_iadd hx hb dL_law_986 ?_
            refine va_sld hx hb hX hbl hbA hS (gi_in (by omega) (by omega)) dL_law_987 ?_
            refine lv_aload_n hx hb dL_law_988 rfl (lv_at hl 3 rfl) ?_
            refine lv_iload_n hx hb dL_law_989 rfl (lv_at hl 0 rfl) ?_
            refine lv_iconst (v := 4) hx hb dL_law_990 (by decide) ?_
            refine lv_iadd hx hb dL_law_991 ?_
            refine va_sld hx hb hX hbl hbA hS (gi_in (by omega) (by omega)) dL_law_992 ?_
            refine qc_Vi2 (As := [.int (xs (i + 1).toNatClampNeg), .int (xs (i + 2).toNatClampNeg), .int (xs (i + 3).toNatClampNeg), .int (xs (i + 4).toNatClampNeg)]) (rest := []) (k0 := 4) (m_turned l D ca (a + 132) zm zm ym JM (xs (i + 1).toNatClampNeg) (xs (i + 2).toNatClampNeg) (xs (i + 3).toNatClampNeg) (xs (i + 4).toNatClampNeg)) kc_yX11_turned ⟨hx, hb, hml, hown, hts⟩ wq_1500 rfl rfl ⟨Nat.le_of_ble_eq_true rfl, Nat.le_of_ble_eq_true rfl⟩ wq_all hPM hK hS hAm (q0 := 0) (by decide) (hgM_0 ca (a + 132) _ _) rfl rfl hl.1 rfl (Nat.le_of_ble_eq_true rfl) dL_law_993 ⟨Nat.le_of_ble_eq_true rfl, Nat.le_of_ble_eq_true rfl⟩ (fun rm zm1 ym1 H locs1 hm hPM hS _ hk => ?_)
            have hPU := qw_kept2 hPU hk (by omega)
            refine lv_pop hx hb dL_law_996 rfl ?_
            refine lv_goto (tgt := 1766) hx hb dL_law_997 (by decide) ?_
            have hJU : qJU zu1 zu1 := ⟨hu.2.1, qK_rf⟩
            have hJM : qJM zm1 zm1 := ⟨hm.2.1, qK_rf, hm.2.2.2⟩
            have hE : True ∧ REL zu1 zm1 := ⟨trivial, REL_K RR hu.2.2 hm.2.2.1⟩
            refine lv_iinc (v := i + 6) (lv' := [(3, .int (i + 6)), (2, .ref (a + 132)), (1, .ref (a + 0)), (0, .ref b)]) hx hb dL_law_1766 hl (k := 0) rfl rfl (by decide) rfl (fun ls hl => ?_)
            refine lv_goto (tgt := 18) hx hb dL_law_1769 (by decide) ?_
            have hi6 : (i + 6).toInt = i.toInt + 6 := gi_add (y := 6) (by show _ ≤ _ + (6 : Int); omega) (by show _ + (6 : Int) ≤ _; omega)
            exact ih (i + 6) zu1 yu1 zm1 ym1 (by omega) (by omega) (by omega) hJU hJM hE.2 _ _ hPU hPM hS _ hl
          | 22, _, hkn =>
            refine lv_tableIn (tgt := 1000) hx hb dL_law_33 (by omega) (by omega) (by rw [hkn]; rfl) (by decide) ?_
            refine lv_aload_n hx hb dL_law_1000 rfl (lv_at hl 2 rfl) ?_
            refine lv_aload_n hx hb dL_law_1001 rfl (lv_at hl 3 rfl) ?_
            refine lv_iload_n hx hb dL_law_1002 rfl (lv_at hl 0 rfl) ?_
            refine lv_iconst (v := 1) hx hb dL_law_1003 (by decide) ?_
            refine lv_iadd hx hb dL_law_1004 ?_
            refine va_sld hx hb hX hbl hbA hS (gi_in (by omega) (by omega)) dL_law_1005 ?_
            refine lv_aload_n hx hb dL_law_1006 rfl (lv_at hl 3 rfl) ?_
            refine lv_iload_n hx hb dL_law_1007 rfl (lv_at hl 0 rfl) ?_
            refine lv_iconst (v := 2) hx hb dL_law_1008 (by decide) ?_
            refine lv_iadd hx hb dL_law_1009 ?_
            refine va_sld hx hb hX hbl hbA hS (gi_in (by omega) (by omega)) dL_law_1010 ?_
            refine qc_Vi2 (As := [.int (xs (i + 1).toNatClampNeg), .int (xs (i + 2).toNatClampNeg)]) (rest := []) (k0 := 2) (u_squares l D ca (a + 0) zu zu yu JU (xs (i + 1).toNatClampNeg) (xs (i + 2).toNatClampNeg)) kc_yX10_squares ⟨hx, hb, hml, hown, hts⟩ wq_837 rfl rfl ⟨Nat.le_of_ble_eq_true rfl, Nat.le_of_ble_eq_true rfl⟩ wq_all hPU hK hS hAu (q0 := 0) (by decide) (hgU_0 ca (a + 0) _ _) rfl rfl hl.1 rfl (Nat.le_of_ble_eq_true rfl) dL_law_1011 ⟨Nat.le_of_ble_eq_true rfl, Nat.le_of_ble_eq_true rfl⟩ (fun ru zu1 yu1 H locs1 hu hPU hS _ hk => ?_)
            have hPM := qw_kept2 hPM hk (by omega)
            refine lv_pop hx hb dL_law_1014 rfl ?_
            refine lv_aload_n hx hb dL_law_1015 rfl (lv_at hl 1 rfl) ?_
            refine lv_aload_n hx hb dL_law_1016 rfl (lv_at hl 3 rfl) ?_
            refine lv_iload_n hx hb dL_law_1017 rfl (lv_at hl 0 rfl) ?_
            refine lv_iconst (v := 1) hx hb dL_law_1018 (by decide) ?_
            refine lv_iadd hx hb dL_law_1019 ?_
            refine va_sld hx hb hX hbl hbA hS (gi_in (by omega) (by omega)) dL_law_1020 ?_
            refine lv_aload_n hx hb dL_law_1021 rfl (lv_at hl 3 rfl) ?_
            refine lv_iload_n hx hb dL_law_1022 rfl (lv_at hl 0 rfl) ?_
            refine lv_iconst (v := 2) hx hb dL_law_1023 (by decide) ?_
            refine lv_iadd hx hb dL_law_1024 ?_
            refine va_sld hx hb hX hbl hbA hS (gi_in (by omega) (by omega)) dL_law_1025 ?_
            refine qc_Vi2 (As := [.int (xs (i + 1).toNatClampNeg), .int (xs (i + 2).toNatClampNeg)]) (rest := []) (k0 := 2) (m_squares l D ca (a + 132) zm zm ym JM (xs (i + 1).toNatClampNeg) (xs (i + 2).toNatClampNeg)) kc_yX11_squares ⟨hx, hb, hml, hown, hts⟩ wq_1507 rfl rfl ⟨Nat.le_of_ble_eq_true rfl, Nat.le_of_ble_eq_true rfl⟩ wq_all hPM hK hS hAm (q0 := 0) (by decide) (hgM_0 ca (a + 132) _ _) rfl rfl hl.1 rfl (Nat.le_of_ble_eq_true rfl) dL_law_1026 ⟨Nat.le_of_ble_eq_true rfl, Nat.le_of_ble_eq_true rfl⟩ (fun rm zm1 ym1 H locs1 hm hPM hS _ hk => ?_)
            have hPU := qw_kept2 hPU hk (by omega)
            refine lv_pop hx hb dL_law_1029 rfl ?_
            refine lv_goto (tgt := 1766) hx hb dL_law_1030 (by decide) ?_
            have hJU : qJU zu1 zu1 := ⟨hu.2.1, qK_rf⟩
            have hJM : qJM zm1 zm1 := ⟨hm.2.1, qK_rf, hm.2.2.2⟩
            have hE : True ∧ REL zu1 zm1 := ⟨trivial, REL_K RR hu.2.2 hm.2.2.1⟩
            refine lv_iinc (v := i + 6) (lv' := [(3, .int (i + 6)), (2, .ref (a + 132)), (1, .ref (a + 0)), (0, .ref b)]) hx hb dL_law_1766 hl (k := 0) rfl rfl (by decide) rfl (fun ls hl => ?_)
            refine lv_goto (tgt := 18) hx hb dL_law_1769 (by decide) ?_
            have hi6 : (i + 6).toInt = i.toInt + 6 := gi_add (y := 6) (by show _ ≤ _ + (6 : Int); omega) (by show _ + (6 : Int) ≤ _; omega)
            exact ih (i + 6) zu1 yu1 zm1 ym1 (by omega) (by omega) (by omega) hJU hJM hE.2 _ _ hPU hPM hS _ hl
          | 23, _, hkn =>
            refine lv_tableIn (tgt := 1033) hx hb dL_law_33 (by omega) (by omega) (by rw [hkn]; rfl) (by decide) ?_
            refine lv_aload_n hx hb dL_law_1033 rfl (lv_at hl 2 rfl) ?_
            refine lv_aload_n hx hb dL_law_1034 rfl (lv_at hl 3 rfl) ?_
            refine lv_iload_n hx hb dL_law_1035 rfl (lv_at hl 0 rfl) ?_
            refine lv_iconst (v := 1) hx hb dL_law_1036 (by decide) ?_
            refine lv_iadd hx hb dL_law_1037 ?_
            refine va_sld hx hb hX hbl hbA hS (gi_in (by omega) (by omega)) dL_law_1038 ?_
            refine lv_aload_n hx hb dL_law_1039 rfl (lv_at hl 3 rfl) ?_
            refine lv_iload_n hx hb dL_law_1040 rfl (lv_at hl 0 rfl) ?_
            refine lv_iconst (v := 2) hx hb dL_law_1041 (by decide) ?_
            refine lv_iadd hx hb dL_law_1042 ?_
            refine va_sld hx hb hX hbl hbA hS (gi_in (by omega) (by omega)) dL_law_1043 ?_
            refine lv_aload_n hx hb dL_law_1044 rfl (lv_at hl 3 rfl) ?_
            refine lv_iload_n hx hb dL_law_1045 rfl (lv_at hl 0 rfl) ?_
            refine lv_iconst (v := 3) hx hb dL_law_1046 (by decide) ?_
            refine lv_iadd hx hb dL_law_1047 ?_
            refine va_sld hx hb hX hbl hbA hS (gi_in (by omega) (by omega)) dL_law_1048 ?_
            refine lv_aload_n hx hb dL_law_1049 rfl (lv_at hl 3 rfl) ?_
            refine lv_iload_n hx hb dL_law_1050 rfl (lv_at hl 0 rfl) ?_
            refine lv_iconst (v := 4) hx hb dL_law_1051 (by decide) ?_
            refine lv_iadd hx hb dL_law_1052 ?_
            refine va_sld hx hb hX hbl hbA hS (gi_in (by omega) (by omega)) dL_law_1053 ?_
            refine qc_Vi2 (As := [.int (xs (i + 1).toNatClampNeg), .int (xs (i + 2).toNatClampNeg), .int (xs (i + 3).toNatClampNeg), .int (xs (i + 4).toNatClampNeg)]) (rest := []) (k0 := 4) (u_when l D ca (a + 0) zu zu yu JU (xs (i + 1).toNatClampNeg) (xs (i + 2).toNatClampNeg) (xs (i + 3).toNatClampNeg) (xs (i + 4).toNatClampNeg)) kc_yX10_when ⟨hx, hb, hml, hown, hts⟩ wq_848 rfl rfl ⟨Nat.le_of_ble_eq_true rfl, Nat.le_of_ble_eq_true rfl⟩ wq_all hPU hK hS hAu (q0 := 0) (by decide) (hgU_0 ca (a + 0) _ _) rfl rfl hl.1 rfl (Nat.le_of_ble_eq_true rfl) dL_law_1054 ⟨Nat.le_of_ble_eq_true rfl, Nat.le_of_ble_eq_true rfl⟩ (fun ru zu1 yu1 H locs1 hu hPU hS _ hk => ?_)
            have hPM := qw_kept2 hPM hk (by omega)
            refine lv_pop hx hb dL_law_1057 rfl ?_
            refine lv_aload_n hx hb dL_law_1058 rfl (lv_at hl 1 rfl) ?_
            refine lv_aload_n hx hb dL_law_1059 rfl (lv_at hl 3 rfl) ?_
            refine lv_iload_n hx hb dL_law_1060 rfl (lv_at hl 0 rfl) ?_
            refine lv_iconst (v := 1) hx hb dL_law_1061 (by decide) ?_
            refine lv_iadd hx hb dL_law_1062 ?_
            refine va_sld hx hb hX hbl hbA hS (gi_in (by omega) (by omega)) dL_law_1063 ?_
            refine lv_aload_n hx hb dL_law_1064 rfl (lv_at hl 3 rfl) ?_
            refine lv_iload_n hx hb dL_law_1065 rfl (lv_at hl 0 rfl) ?_
            refine lv_iconst (v := 2) hx hb dL_law_1066 (by decide) ?_
            refine lv_iadd hx hb dL_law_1067 ?_
            refine va_sld hx hb hX hbl hbA hS (gi_in (by omega) (by omega)) dL_law_1068 ?_
            refine lv_aload_n hx hb dL_law_1069 rfl (lv_at hl 3 rfl) ?_
            refine lv_iload_n hx hb dL_law_1070 rfl (lv_at hl 0 rfl) ?_
            refine lv_iconst (v := 3) hx hb dL_law_1071 (by decide) ?_
            refine lv_iadd hx hb dL_law_1072 ?_
            refine va_sld hx hb hX hbl hbA hS (gi_in (by omega) (by omega)) dL_law_1073 ?_
            refine lv_aload_n hx hb dL_law_1074 rfl (lv_at hl 3 rfl) ?_
            refine lv_iload_n hx hb dL_law_1075 rfl (lv_at hl 0 rfl) ?_
            refine lv_iconst (v := 4) hx hb dL_law_1076 (by decide) ?_
            refine lv_iadd hx hb dL_law_1077 ?_
            refine va_sld hx hb hX hbl hbA hS (gi_in (by omega) (by omega)) dL_law_1078 ?_
            refine qc_Vi2 (As := [.int (xs (i + 1).toNatClampNeg), .int (xs (i + 2).toNatClampNeg), .int (xs (i + 3).toNatClampNeg), .int (xs (i + 4).toNatClampNeg)]) (rest := []) (k0 := 4) (m_when l D ca (a + 132) zm zm ym JM (xs (i + 1).toNatClampNeg) (xs (i + 2).toNatClampNeg) (xs (i + 3).toNatClampNeg) (xs (i + 4).toNatClampNeg)) kc_yX11_when ⟨hx, hb, hml, hown, hts⟩ wq_1515 rfl rfl ⟨Nat.le_of_ble_eq_true rfl, Nat.le_of_ble_eq_true rfl⟩ wq_all hPM hK hS hAm (q0 := 0) (by decide) (hgM_0 ca (a + 132) _ _) rfl rfl hl.1 rfl (Nat.le_of_ble_eq_true rfl) dL_law_1079 ⟨Nat.le_of_ble_eq_true rfl, Nat.le_of_ble_eq_true rfl⟩ (fun rm zm1 ym1 H locs1 hm hPM hS _ hk => ?_)
            have hPU := qw_kept2 hPU hk (by omega)
            refine lv_pop hx hb dL_law_1082 rfl ?_
            refine lv_goto (tgt := 1766) hx hb dL_law_1083 (by decide) ?_
            have hJU : qJU zu1 zu1 := ⟨hu.2.1, qK_rf⟩
            have hJM : qJM zm1 zm1 := ⟨hm.2.1, qK_rf, hm.2.2.2⟩
            have hE : True ∧ REL zu1 zm1 := ⟨trivial, REL_K RR hu.2.2 hm.2.2.1⟩
            refine lv_iinc (v := i + 6) (lv' := [(3, .int (i + 6)), (2, .ref (a + 132)), (1, .ref (a + 0)), (0, .ref b)]) hx hb dL_law_1766 hl (k := 0) rfl rfl (by decide) rfl (fun ls hl => ?_)
            refine lv_goto (tgt := 18) hx hb dL_law_1769 (by decide) ?_
            have hi6 : (i + 6).toInt = i.toInt + 6 := gi_add (y := 6) (by show _ ≤ _ + (6 : Int); omega) (by show _ + (6 : Int) ≤ _; omega)
            exact ih (i + 6) zu1 yu1 zm1 ym1 (by omega) (by omega) (by omega) hJU hJM hE.2 _ _ hPU hPM hS _ hl
          | 24, _, hkn =>
            refine lv_tableIn (tgt := 1086) hx hb dL_law_33 (by omega) (by omega) (by rw [hkn]; rfl) (by decide) ?_
            refine lv_aload_n hx hb dL_law_1086 rfl (lv_at hl 2 rfl) ?_
            refine lv_aload_n hx hb dL_law_1087 rfl (lv_at hl 3 rfl) ?_
            refine lv_iload_n hx hb dL_law_1088 rfl (lv_at hl 0 rfl) ?_
            refine lv_iconst (v := 1) hx hb dL_law_1089 (by decide) ?_
            refine lv_iadd hx hb dL_law_1090 ?_
            refine va_sld hx hb hX hbl hbA hS (gi_in (by omega) (by omega)) dL_law_1091 ?_
            refine lv_aload_n hx hb dL_law_1092 rfl (lv_at hl 3 rfl) ?_
            refine lv_iload_n hx hb dL_law_1093 rfl (lv_at hl 0 rfl) ?_
            refine lv_iconst (v := 2) hx hb dL_law_1094 (by decide) ?_
            refine lv_iadd hx hb dL_law_1095 ?_
            refine va_sld hx hb hX hbl hbA hS (gi_in (by omega) (by omega)) dL_law_1096 ?_
            refine lv_aload_n hx hb dL_law_1097 rfl (lv_at hl 3 rfl) ?_
            refine lv_iload_n hx hb dL_law_1098 rfl (lv_at hl 0 rfl) ?_
            refine lv_iconst (v := 3) hx hb dL_law_1099 (by decide) ?_
            refine lv_iadd hx hb dL_law_1100 ?_
            refine va_sld hx hb hX hbl hbA hS (gi_in (by omega) (by omega)) dL_law_1101 ?_
            refine lv_aload_n hx hb dL_law_1102 rfl (lv_at hl 3 rfl) ?_
            refine lv_iload_n hx hb dL_law_1103 rfl (lv_at hl 0 rfl) ?_
            refine lv_iconst (v := 4) hx hb dL_law_1104 (by decide) ?_
            refine lv_iadd hx hb dL_law_1105 ?_
            refine va_sld hx hb hX hbl hbA hS (gi_in (by omega) (by omega)) dL_law_1106 ?_
            refine qc_Vi2 (As := [.int (xs (i + 1).toNatClampNeg), .int (xs (i + 2).toNatClampNeg), .int (xs (i + 3).toNatClampNeg), .int (xs (i + 4).toNatClampNeg)]) (rest := []) (k0 := 4) (u_whoIsWho l D ca (a + 0) zu zu yu JU (xs (i + 1).toNatClampNeg) (xs (i + 2).toNatClampNeg) (xs (i + 3).toNatClampNeg) (xs (i + 4).toNatClampNeg)) kc_yX10_whoIsWho ⟨hx, hb, hml, hown, hts⟩ wq_881 rfl rfl ⟨Nat.le_of_ble_eq_true rfl, Nat.le_of_ble_eq_true rfl⟩ wq_all hPU hK hS hAu (q0 := 0) (by decide) (hgU_0 ca (a + 0) _ _) rfl rfl hl.1 rfl (Nat.le_of_ble_eq_true rfl) dL_law_1107 ⟨Nat.le_of_ble_eq_true rfl, Nat.le_of_ble_eq_true rfl⟩ (fun ru zu1 yu1 H locs1 hu hPU hS _ hk => ?_)
            have hPM := qw_kept2 hPM hk (by omega)
            refine lv_pop hx hb dL_law_1110 rfl ?_
            refine lv_aload_n hx hb dL_law_1111 rfl (lv_at hl 1 rfl) ?_
            refine lv_aload_n hx hb dL_law_1112 rfl (lv_at hl 3 rfl) ?_
            refine lv_iload_n hx hb dL_law_1113 rfl (lv_at hl 0 rfl) ?_
            refine lv_iconst (v := 1) hx hb dL_law_1114 (by decide) ?_
            refine lv_iadd hx hb dL_law_1115 ?_
            refine va_sld hx hb hX hbl hbA hS (gi_in (by omega) (by omega)) dL_law_1116 ?_
            refine lv_aload_n hx hb dL_law_1117 rfl (lv_at hl 3 rfl) ?_
            refine lv_iload_n hx hb dL_law_1118 rfl (lv_at hl 0 rfl) ?_
            refine lv_iconst (v := 2) hx hb dL_law_1119 (by decide) ?_
            refine lv_iadd hx hb dL_law_1120 ?_
            refine va_sld hx hb hX hbl hbA hS (gi_in (by omega) (by omega)) dL_law_1121 ?_
            refine lv_aload_n hx hb dL_law_1122 rfl (lv_at hl 3 rfl) ?_
            refine lv_iload_n hx hb dL_law_1123 rfl (lv_at hl 0 rfl) ?_
            refine lv_iconst (v := 3) hx hb dL_law_1124 (by decide) ?_
            refine lv_iadd hx hb dL_law_1125 ?_
            refine va_sld hx hb hX hbl hbA hS (gi_in (by omega) (by omega)) dL_law_1126 ?_
            refine lv_aload_n hx hb dL_law_1127 rfl (lv_at hl 3 rfl) ?_
            refine lv_iload_n hx hb dL_law_1128 rfl (lv_at hl 0 rfl) ?_
            refine lv_iconst (v := 4) hx hb dL_law_1129 (by decide) ?_
            refine lv_iadd hx hb dL_law_1130 ?_
            refine va_sld hx hb hX hbl hbA hS (gi_in (by omega) (by omega)) dL_law_1131 ?_
            refine qc_Vi2 (As := [.int (xs (i + 1).toNatClampNeg), .int (xs (i + 2).toNatClampNeg), .int (xs (i + 3).toNatClampNeg), .int (xs (i + 4).toNatClampNeg)]) (rest := []) (k0 := 4) (m_whoIsWho l D ca (a + 132) zm zm ym JM (xs (i + 1).toNatClampNeg) (xs (i + 2).toNatClampNeg) (xs (i + 3).toNatClampNeg) (xs (i + 4).toNatClampNeg)) kc_yX11_whoIsWho ⟨hx, hb, hml, hown, hts⟩ wq_1527 rfl rfl ⟨Nat.le_of_ble_eq_true rfl, Nat.le_of_ble_eq_true rfl⟩ wq_all hPM hK hS hAm (q0 := 0) (by decide) (hgM_0 ca (a + 132) _ _) rfl rfl hl.1 rfl (Nat.le_of_ble_eq_true rfl) dL_law_1132 ⟨Nat.le_of_ble_eq_true rfl, Nat.le_of_ble_eq_true rfl⟩ (fun rm zm1 ym1 H locs1 hm hPM hS _ hk => ?_)
            have hPU := qw_kept2 hPU hk (by omega)
            refine lv_pop hx hb dL_law_1135 rfl ?_
            refine lv_goto (tgt := 1766) hx hb dL_law_1136 (by decide) ?_
            have hJU : qJU zu1 zu1 := ⟨hu.2.1, qK_rf⟩
            have hJM : qJM zm1 zm1 := ⟨hm.2.1, qK_rf, hm.2.2.2⟩
            have hE : True ∧ REL zu1 zm1 := ⟨trivial, REL_K RR hu.2.2 hm.2.2.1⟩
            refine lv_iinc (v := i + 6) (lv' := [(3, .int (i + 6)), (2, .ref (a + 132)), (1, .ref (a + 0)), (0, .ref b)]) hx hb dL_law_1766 hl (k := 0) rfl rfl (by decide) rfl (fun ls hl => ?_)
            refine lv_goto (tgt := 18) hx hb dL_law_1769 (by decide) ?_
            have hi6 : (i + 6).toInt = i.toInt + 6 := gi_add (y := 6) (by show _ ≤ _ + (6 : Int); omega) (by show _ + (6 : Int) ≤ _; omega)
            exact ih (i + 6) zu1 yu1 zm1 ym1 (by omega) (by omega) (by omega) hJU hJM hE.2 _ _ hPU hPM hS _ hl
          | 25, _, hkn =>
            refine lv_tableIn (tgt := 1139) hx hb dL_law_33 (by omega) (by omega) (by rw [hkn]; rfl) (by decide) ?_
            refine lv_aload_n hx hb dL_law_1139 rfl (lv_at hl 2 rfl) ?_
            refine lv_aload_n hx hb dL_law_1140 rfl (lv_at hl 3 rfl) ?_
            refine lv_iload_n hx hb dL_law_1141 rfl (lv_at hl 0 rfl) ?_
            refine lv_iconst (v := 1) hx hb dL_law_1142 (by decide) ?_
            refine lv_iadd hx hb dL_law_1143 ?_
            refine va_sld hx hb hX hbl hbA hS (gi_in (by omega) (by omega)) dL_law_1144 ?_
            refine lv_aload_n hx hb dL_law_1145 rfl (lv_at hl 3 rfl) ?_
            refine lv_iload_n hx hb dL_law_1146 rfl (lv_at hl 0 rfl) ?_
            refine lv_iconst (v := 2) hx hb dL_law_1147 (by decide) ?_
            refine lv_iadd hx hb dL_law_1148 ?_
            refine va_sld hx hb hX hbl hbA hS (gi_in (by omega) (by omega)) dL_law_1149 ?_
            refine qc_Vi2 (As := [.int (xs (i + 1).toNatClampNeg), .int (xs (i + 2).toNatClampNeg)]) (rest := []) (k0 := 2) (u_asks l D ca (a + 0) zu zu yu JU (xs (i + 1).toNatClampNeg) (xs (i + 2).toNatClampNeg)) kc_yX10_asks ⟨hx, hb, hml, hown, hts⟩ wq_725 rfl rfl ⟨Nat.le_of_ble_eq_true rfl, Nat.le_of_ble_eq_true rfl⟩ wq_all hPU hK hS hAu (q0 := 0) (by decide) (hgU_0 ca (a + 0) _ _) rfl rfl hl.1 rfl (Nat.le_of_ble_eq_true rfl) dL_law_1150 ⟨Nat.le_of_ble_eq_true rfl, Nat.le_of_ble_eq_true rfl⟩ (fun ru zu1 yu1 H locs1 hu hPU hS _ hk => ?_)
            have hPM := qw_kept2 hPM hk (by omega)
            refine lv_pop hx hb dL_law_1153 rfl ?_
            refine lv_aload_n hx hb dL_law_1154 rfl (lv_at hl 1 rfl) ?_
            refine lv_aload_n hx hb dL_law_1155 rfl (lv_at hl 3 rfl) ?_
            refine lv_iload_n hx hb dL_law_1156 rfl (lv_at hl 0 rfl) ?_
            refine lv_iconst (v := 1) hx hb dL_law_1157 (by decide) ?_
            refine lv_iadd hx hb dL_law_1158 ?_
            refine va_sld hx hb hX hbl hbA hS (gi_in (by omega) (by omega)) dL_law_1159 ?_
            refine lv_aload_n hx hb dL_law_1160 rfl (lv_at hl 3 rfl) ?_
            refine lv_iload_n hx hb dL_law_1161 rfl (lv_at hl 0 rfl) ?_
            refine lv_iconst (v := 2) hx hb dL_law_1162 (by decide) ?_
            refine lv_iadd hx hb dL_law_1163 ?_
            refine va_sld hx hb hX hbl hbA hS (gi_in (by omega) (by omega)) dL_law_1164 ?_
            refine qc_Vi2 (As := [.int (xs (i + 1).toNatClampNeg), .int (xs (i + 2).toNatClampNeg)]) (rest := []) (k0 := 2) (m_asks l D ca (a + 132) zm zm ym JM (xs (i + 1).toNatClampNeg) (xs (i + 2).toNatClampNeg)) kc_yX11_asks ⟨hx, hb, hml, hown, hts⟩ wq_1421 rfl rfl ⟨Nat.le_of_ble_eq_true rfl, Nat.le_of_ble_eq_true rfl⟩ wq_all hPM hK hS hAm (q0 := 0) (by decide) (hgM_0 ca (a + 132) _ _) rfl rfl hl.1 rfl (Nat.le_of_ble_eq_true rfl) dL_law_1165 ⟨Nat.le_of_ble_eq_true rfl, Nat.le_of_ble_eq_true rfl⟩ (fun rm zm1 ym1 H locs1 hm hPM hS _ hk => ?_)
            have hPU := qw_kept2 hPU hk (by omega)
            refine lv_pop hx hb dL_law_1168 rfl ?_
            refine lv_goto (tgt := 1766) hx hb dL_law_1169 (by decide) ?_
            have hJU : qJU zu1 zu1 := ⟨hu.2.1, qK_rf⟩
            have hJM : qJM zm1 zm1 := ⟨hm.2.1, qK_rf, hm.2.2.2⟩
            have hE : True ∧ REL zu1 zm1 := ⟨trivial, REL_K RR hu.2.2 hm.2.2.1⟩
            refine lv_iinc (v := i + 6) (lv' := [(3, .int (i + 6)), (2, .ref (a + 132)), (1, .ref (a + 0)), (0, .ref b)]) hx hb dL_law_1766 hl (k := 0) rfl rfl (by decide) rfl (fun ls hl => ?_)
            refine lv_goto (tgt := 18) hx hb dL_law_1769 (by decide) ?_
            have hi6 : (i + 6).toInt = i.toInt + 6 := gi_add (y := 6) (by show _ ≤ _ + (6 : Int); omega) (by show _ + (6 : Int) ≤ _; omega)
            exact ih (i + 6) zu1 yu1 zm1 ym1 (by omega) (by omega) (by omega) hJU hJM hE.2 _ _ hPU hPM hS _ hl
          | 26, _, hkn =>
            refine lv_tableIn (tgt := 1172) hx hb dL_law_33 (by omega) (by omega) (by rw [hkn]; rfl) (by decide) ?_
            refine lv_aload_n hx hb dL_law_1172 rfl (lv_at hl 2 rfl) ?_
            refine lv_aload_n hx hb dL_law_1173 rfl (lv_at hl 3 rfl) ?_
            refine lv_iload_n hx hb dL_law_1174 rfl (lv_at hl 0 rfl) ?_
            refine lv_iconst (v := 1) hx hb dL_law_1175 (by decide) ?_
            refine lv_iadd hx hb dL_law_1176 ?_
            refine va_sld hx hb hX hbl hbA hS (gi_in (by omega) (by omega)) dL_law_1177 ?_
            refine lv_aload_n hx hb dL_law_1178 rfl (lv_at hl 3 rfl) ?_
            refine lv_iload_n hx hb dL_law_1179 rfl (lv_at hl 0 rfl) ?_
            refine lv_iconst (v := 2) hx hb dL_law_1180 (by decide) ?_
            refine lv_iadd hx hb dL_law_1181 ?_
            refine va_sld hx hb hX hbl hbA hS (gi_in (by omega) (by omega)) dL_law_1182 ?_
            refine qc_Vi2 (As := [.int (xs (i + 1).toNatClampNeg), .int (xs (i + 2).toNatClampNeg)]) (rest := []) (k0 := 2) (u_unlike l D ca (a + 0) zu zu yu JU (xs (i + 1).toNatClampNeg) (xs (i + 2).toNatClampNeg)) kc_yX10_unlike ⟨hx, hb, hml, hown, hts⟩ wq_735 rfl rfl ⟨Nat.le_of_ble_eq_true rfl, Nat.le_of_ble_eq_true rfl⟩ wq_all hPU hK hS hAu (q0 := 0) (by decide) (hgU_0 ca (a + 0) _ _) rfl rfl hl.1 rfl (Nat.le_of_ble_eq_true rfl) dL_law_1183 ⟨Nat.le_of_ble_eq_true rfl, Nat.le_of_ble_eq_true rfl⟩ (fun ru zu1 yu1 H locs1 hu hPU hS _ hk => ?_)
            have hPM := qw_kept2 hPM hk (by omega)
            refine lv_pop hx hb dL_law_1186 rfl ?_
            refine lv_aload_n hx hb dL_law_1187 rfl (lv_at hl 1 rfl) ?_
            refine lv_aload_n hx hb dL_law_1188 rfl (lv_at hl 3 rfl) ?_
            refine lv_iload_n hx hb dL_law_1189 rfl (lv_at hl 0 rfl) ?_
            refine lv_iconst (v := 1) hx hb dL_law_1190 (by decide) ?_
            refine lv_iadd hx hb dL_law_1191 ?_
            refine va_sld hx hb hX hbl hbA hS (gi_in (by omega) (by omega)) dL_law_1192 ?_
            refine lv_aload_n hx hb dL_law_1193 rfl (lv_at hl 3 rfl) ?_
            refine lv_iload_n hx hb dL_law_1194 rfl (lv_at hl 0 rfl) ?_
            refine lv_iconst (v := 2) hx hb dL_law_1195 (by decide) ?_
            refine lv_iadd hx hb dL_law_1196 ?_
            refine va_sld hx hb hX hbl hbA hS (gi_in (by omega) (by omega)) dL_law_1197 ?_
            refine qc_Vi2 (As := [.int (xs (i + 1).toNatClampNeg), .int (xs (i + 2).toNatClampNeg)]) (rest := []) (k0 := 2) (m_unlike l D ca (a + 132) zm zm ym JM (xs (i + 1).toNatClampNeg) (xs (i + 2).toNatClampNeg)) kc_yX11_unlike ⟨hx, hb, hml, hown, hts⟩ wq_1425 rfl rfl ⟨Nat.le_of_ble_eq_true rfl, Nat.le_of_ble_eq_true rfl⟩ wq_all hPM hK hS hAm (q0 := 0) (by decide) (hgM_0 ca (a + 132) _ _) rfl rfl hl.1 rfl (Nat.le_of_ble_eq_true rfl) dL_law_1198 ⟨Nat.le_of_ble_eq_true rfl, Nat.le_of_ble_eq_true rfl⟩ (fun rm zm1 ym1 H locs1 hm hPM hS _ hk => ?_)
            have hPU := qw_kept2 hPU hk (by omega)
            refine lv_pop hx hb dL_law_1201 rfl ?_
            refine lv_goto (tgt := 1766) hx hb dL_law_1202 (by decide) ?_
            have hJU : qJU zu1 zu1 := ⟨hu.2.1, qK_rf⟩
            have hJM : qJM zm1 zm1 := ⟨hm.2.1, qK_rf, hm.2.2.2⟩
            have hE : True ∧ REL zu1 zm1 := ⟨trivial, REL_K RR hu.2.2 hm.2.2.1⟩
            refine lv_iinc (v := i + 6) (lv' := [(3, .int (i + 6)), (2, .ref (a + 132)), (1, .ref (a + 0)), (0, .ref b)]) hx hb dL_law_1766 hl (k := 0) rfl rfl (by decide) rfl (fun ls hl => ?_)
            refine lv_goto (tgt := 18) hx hb dL_law_1769 (by decide) ?_
            have hi6 : (i + 6).toInt = i.toInt + 6 := gi_add (y := 6) (by show _ ≤ _ + (6 : Int); omega) (by show _ + (6 : Int) ≤ _; omega)
            exact ih (i + 6) zu1 yu1 zm1 ym1 (by omega) (by omega) (by omega) hJU hJM hE.2 _ _ hPU hPM hS _ hl
          | 27, _, hkn =>
            refine lv_tableIn (tgt := 1205) hx hb dL_law_33 (by omega) (by omega) (by rw [hkn]; rfl) (by decide) ?_
            refine lv_aload_n hx hb dL_law_1205 rfl (lv_at hl 2 rfl) ?_
            refine lv_aload_n hx hb dL_law_1206 rfl (lv_at hl 3 rfl) ?_
            refine lv_iload_n hx hb dL_law_1207 rfl (lv_at hl 0 rfl) ?_
            refine lv_iconst (v := 1) hx hb dL_law_1208 (by decide) ?_
            refine lv_iadd hx hb dL_law_1209 ?_
            refine va_sld hx hb hX hbl hbA hS (gi_in (by omega) (by omega)) dL_law_1210 ?_
            refine lv_aload_n hx hb dL_law_1211 rfl (lv_at hl 3 rfl) ?_
            refine lv_iload_n hx hb dL_law_1212 rfl (lv_at hl 0 rfl) ?_
            refine lv_iconst (v := 2) hx hb dL_law_1213 (by decide) ?_
            refine lv_iadd hx hb dL_law_1214 ?_
            refine va_sld hx hb hX hbl hbA hS (gi_in (by omega) (by omega)) dL_law_1215 ?_
            refine qc_Vi2 (As := [.int (xs (i + 1).toNatClampNeg), .int (xs (i + 2).toNatClampNeg)]) (rest := []) (k0 := 2) (u_shortest l D ca (a + 0) zu zu yu JU (xs (i + 1).toNatClampNeg) (xs (i + 2).toNatClampNeg)) kc_yX10_shortest ⟨hx, hb, hml, hown, hts⟩ wq_856 rfl rfl ⟨Nat.le_of_ble_eq_true rfl, Nat.le_of_ble_eq_true rfl⟩ wq_all hPU hK hS hAu (q0 := 0) (by decide) (hgU_0 ca (a + 0) _ _) rfl rfl hl.1 rfl (Nat.le_of_ble_eq_true rfl) dL_law_1216 ⟨Nat.le_of_ble_eq_true rfl, Nat.le_of_ble_eq_true rfl⟩ (fun ru zu1 yu1 H locs1 hu hPU hS _ hk => ?_)
            have hPM := qw_kept2 hPM hk (by omega)
            refine lv_pop hx hb dL_law_1219 rfl ?_
            refine lv_aload_n hx hb dL_law_1220 rfl (lv_at hl 1 rfl) ?_
            refine lv_aload_n hx hb dL_law_1221 rfl (lv_at hl 3 rfl) ?_
            refine lv_iload_n hx hb dL_law_1222 rfl (lv_at hl 0 rfl) ?_
            refine lv_iconst (v := 1) hx hb dL_law_1223 (by decide) ?_
            refine lv_iadd hx hb dL_law_1224 ?_
            refine va_sld hx hb hX hbl hbA hS (gi_in (by omega) (by omega)) dL_law_1225 ?_
            refine lv_aload_n hx hb dL_law_1226 rfl (lv_at hl 3 rfl) ?_
            refine lv_iload_n hx hb dL_law_1227 rfl (lv_at hl 0 rfl) ?_
            refine lv_iconst (v := 2) hx hb dL_law_1228 (by decide) ?_
            refine lv_iadd hx hb dL_law_1229 ?_
            refine va_sld hx hb hX hbl hbA hS (gi_in (by omega) (by omega)) dL_law_1230 ?_
            refine qc_Vi2 (As := [.int (xs (i + 1).toNatClampNeg), .int (xs (i + 2).toNatClampNeg)]) (rest := []) (k0 := 2) (m_shortest l D ca (a + 132) zm zm ym JM (xs (i + 1).toNatClampNeg) (xs (i + 2).toNatClampNeg)) kc_yX11_shortest ⟨hx, hb, hml, hown, hts⟩ wq_1469 rfl rfl ⟨Nat.le_of_ble_eq_true rfl, Nat.le_of_ble_eq_true rfl⟩ wq_all hPM hK hS hAm (q0 := 0) (by decide) (hgM_0 ca (a + 132) _ _) rfl rfl hl.1 rfl (Nat.le_of_ble_eq_true rfl) dL_law_1231 ⟨Nat.le_of_ble_eq_true rfl, Nat.le_of_ble_eq_true rfl⟩ (fun rm zm1 ym1 H locs1 hm hPM hS _ hk => ?_)
            have hPU := qw_kept2 hPU hk (by omega)
            refine lv_pop hx hb dL_law_1234 rfl ?_
            refine lv_goto (tgt := 1766) hx hb dL_law_1235 (by decide) ?_
            have hJU : qJU zu1 zu1 := ⟨hu.2.1, qK_rf⟩
            have hJM : qJM zm1 zm1 := ⟨hm.2.1, qK_rf, hm.2.2.2⟩
            have hE : True ∧ REL zu1 zm1 := ⟨trivial, REL_K RR hu.2.2 hm.2.2.1⟩
            refine lv_iinc (v := i + 6) (lv' := [(3, .int (i + 6)), (2, .ref (a + 132)), (1, .ref (a + 0)), (0, .ref b)]) hx hb dL_law_1766 hl (k := 0) rfl rfl (by decide) rfl (fun ls hl => ?_)
            refine lv_goto (tgt := 18) hx hb dL_law_1769 (by decide) ?_
            have hi6 : (i + 6).toInt = i.toInt + 6 := gi_add (y := 6) (by show _ ≤ _ + (6 : Int); omega) (by show _ + (6 : Int) ≤ _; omega)
            exact ih (i + 6) zu1 yu1 zm1 ym1 (by omega) (by omega) (by omega) hJU hJM hE.2 _ _ hPU hPM hS _ hl
          | 28, _, hkn =>
            refine lv_tableIn (tgt := 1238) hx hb dL_law_33 (by omega) (by omega) (by rw [hkn]; rfl) (by decide) ?_
            refine lv_aload_n hx hb dL_law_1238 rfl (lv_at hl 2 rfl) ?_
            refine lv_aload_n hx hb dL_law_1239 rfl (lv_at hl 3 rfl) ?_
            refine lv_iload_n hx hb dL_law_1240 rfl (lv_at hl 0 rfl) ?_
            refine lv_iconst (v := 1) hx hb dL_law_1241 (by decide) ?_
            refine lv_iadd hx hb dL_law_1242 ?_
            refine va_sld hx hb hX hbl hbA hS (gi_in (by omega) (by omega)) dL_law_1243 ?_
            refine lv_aload_n hx hb dL_law_1244 rfl (lv_at hl 3 rfl) ?_
            refine lv_iload_n hx hb dL_law_1245 rfl (lv_at hl 0 rfl) ?_
            refine lv_iconst (v := 2) hx hb dL_law_1246 (by decide) ?_
            refine lv_iadd hx hb dL_law_1247 ?_
            refine va_sld hx hb hX hbl hbA hS (gi_in (by omega) (by omega)) dL_law_1248 ?_
            refine lv_aload_n hx hb dL_law_1249 rfl (lv_at hl 3 rfl) ?_
            refine lv_iload_n hx hb dL_law_1250 rfl (lv_at hl 0 rfl) ?_
            refine lv_iconst (v := 3) hx hb dL_law_1251 (by decide) ?_
            refine lv_iadd hx hb dL_law_1252 ?_
            refine va_sld hx hb hX hbl hbA hS (gi_in (by omega) (by omega)) dL_law_1253 ?_
            refine qc_Vi2 (As := [.int (xs (i + 1).toNatClampNeg), .int (xs (i + 2).toNatClampNeg), .int (xs (i + 3).toNatClampNeg)]) (rest := []) (k0 := 3) (u_often l D ca (a + 0) zu zu yu JU (xs (i + 1).toNatClampNeg) (xs (i + 2).toNatClampNeg) (xs (i + 3).toNatClampNeg)) kc_yX10_often ⟨hx, hb, hml, hown, hts⟩ wq_780 rfl rfl ⟨Nat.le_of_ble_eq_true rfl, Nat.le_of_ble_eq_true rfl⟩ wq_all hPU hK hS hAu (q0 := 0) (by decide) (hgU_0 ca (a + 0) _ _) rfl rfl hl.1 rfl (Nat.le_of_ble_eq_true rfl) dL_law_1254 ⟨Nat.le_of_ble_eq_true rfl, Nat.le_of_ble_eq_true rfl⟩ (fun ru zu1 yu1 H locs1 hu hPU hS _ hk => ?_)
            have hPM := qw_kept2 hPM hk (by omega)
            refine lv_pop hx hb dL_law_1257 rfl ?_
            refine lv_aload_n hx hb dL_law_1258 rfl (lv_at hl 1 rfl) ?_
            refine lv_aload_n hx hb dL_law_1259 rfl (lv_at hl 3 rfl) ?_
            refine lv_iload_n hx hb dL_law_1260 rfl (lv_at hl 0 rfl) ?_
            refine lv_iconst (v := 1) hx hb dL_law_1261 (by decide) ?_
            refine lv_iadd hx hb dL_law_1262 ?_
            refine va_sld hx hb hX hbl hbA hS (gi_in (by omega) (by omega)) dL_law_1263 ?_
            refine lv_aload_n hx hb dL_law_1264 rfl (lv_at hl 3 rfl) ?_
            refine lv_iload_n hx hb dL_law_1265 rfl (lv_at hl 0 rfl) ?_
            refine lv_iconst (v := 2) hx hb dL_law_1266 (by decide) ?_
            refine lv_iadd hx hb dL_law_1267 ?_
            refine va_sld hx hb hX hbl hbA hS (gi_in (by omega) (by omega)) dL_law_1268 ?_
            refine lv_aload_n hx hb dL_law_1269 rfl (lv_at hl 3 rfl) ?_
            refine lv_iload_n hx hb dL_law_1270 rfl (lv_at hl 0 rfl) ?_
            refine lv_iconst (v := 3) hx hb dL_law_1271 (by decide) ?_
            refine lv_iadd hx hb dL_law_1272 ?_
            refine va_sld hx hb hX hbl hbA hS (gi_in (by omega) (by omega)) dL_law_1273 ?_
            refine qc_Vi2 (As := [.int (xs (i + 1).toNatClampNeg), .int (xs (i + 2).toNatClampNeg), .int (xs (i + 3).toNatClampNeg)]) (rest := []) (k0 := 3) (m_often l D ca (a + 132) zm zm ym JM (xs (i + 1).toNatClampNeg) (xs (i + 2).toNatClampNeg) (xs (i + 3).toNatClampNeg)) kc_yX11_often ⟨hx, hb, hml, hown, hts⟩ wq_1465 rfl rfl ⟨Nat.le_of_ble_eq_true rfl, Nat.le_of_ble_eq_true rfl⟩ wq_all hPM hK hS hAm (q0 := 0) (by decide) (hgM_0 ca (a + 132) _ _) rfl rfl hl.1 rfl (Nat.le_of_ble_eq_true rfl) dL_law_1274 ⟨Nat.le_of_ble_eq_true rfl, Nat.le_of_ble_eq_true rfl⟩ (fun rm zm1 ym1 H locs1 hm hPM hS _ hk => ?_)
            have hPU := qw_kept2 hPU hk (by omega)
            refine lv_pop hx hb dL_law_1277 rfl ?_
            refine lv_goto (tgt := 1766) hx hb dL_law_1278 (by decide) ?_
            have hJU : qJU zu1 zu1 := ⟨hu.2.1, qK_rf⟩
            have hJM : qJM zm1 zm1 := ⟨hm.2.1, qK_rf, hm.2.2.2⟩
            have hE : True ∧ REL zu1 zm1 := ⟨trivial, REL_K RR hu.2.2 hm.2.2.1⟩
            refine lv_iinc (v := i + 6) (lv' := [(3, .int (i + 6)), (2, .ref (a + 132)), (1, .ref (a + 0)), (0, .ref b)]) hx hb dL_law_1766 hl (k := 0) rfl rfl (by decide) rfl (fun ls hl => ?_)
            refine lv_goto (tgt := 18) hx hb dL_law_1769 (by decide) ?_
            have hi6 : (i + 6).toInt = i.toInt + 6 := gi_add (y := 6) (by show _ ≤ _ + (6 : Int); omega) (by show _ + (6 : Int) ≤ _; omega)
            exact ih (i + 6) zu1 yu1 zm1 ym1 (by omega) (by omega) (by omega) hJU hJM hE.2 _ _ hPU hPM hS _ hl
          | 29, _, hkn =>
            refine lv_tableIn (tgt := 1281) hx hb dL_law_33 (by omega) (by omega) (by rw [hkn]; rfl) (by decide) ?_
            refine lv_aload_n hx hb dL_law_1281 rfl (lv_at hl 2 rfl) ?_
            refine lv_aload_n hx hb dL_law_1282 rfl (lv_at hl 3 rfl) ?_
            refine lv_iload_n hx hb dL_law_1283 rfl (lv_at hl 0 rfl) ?_
            refine lv_iconst (v := 1) hx hb dL_law_1284 (by decide) ?_
            refine lv_iadd hx hb dL_law_1285 ?_
            refine va_sld hx hb hX hbl hbA hS (gi_in (by omega) (by omega)) dL_law_1286 ?_
            refine lv_aload_n hx hb dL_law_1287 rfl (lv_at hl 3 rfl) ?_
            refine lv_iload_n hx hb dL_law_1288 rfl (lv_at hl 0 rfl) ?_
            refine lv_iconst (v := 2) hx hb dL_law_1289 (by decide) ?_
            refine lv_iadd hx hb dL_law_1290 ?_
            refine va_sld hx hb hX hbl hbA hS (gi_in (by omega) (by omega)) dL_law_1291 ?_
            refine qc_Vi2 (As := [.int (xs (i + 1).toNatClampNeg), .int (xs (i + 2).toNatClampNeg)]) (rest := []) (k0 := 2) (u_middle l D ca (a + 0) zu zu yu JU (xs (i + 1).toNatClampNeg) (xs (i + 2).toNatClampNeg)) kc_yX10_middle ⟨hx, hb, hml, hown, hts⟩ wq_677 rfl rfl ⟨Nat.le_of_ble_eq_true rfl, Nat.le_of_ble_eq_true rfl⟩ wq_all hPU hK hS hAu (q0 := 0) (by decide) (hgU_0 ca (a + 0) _ _) rfl rfl hl.1 rfl (Nat.le_of_ble_eq_true rfl) dL_law_1292 ⟨Nat.le_of_ble_eq_true rfl, Nat.le_of_ble_eq_true rfl⟩ (fun ru zu1 yu1 H locs1 hu hPU hS _ hk => ?_)
            have hPM := qw_kept2 hPM hk (by omega)
            refine lv_pop hx hb dL_law_1295 rfl ?_
            refine lv_aload_n hx hb dL_law_1296 rfl (lv_at hl 1 rfl) ?_
            refine lv_aload_n hx hb dL_law_1297 rfl (lv_at hl 3 rfl) ?_
            refine lv_iload_n hx hb dL_law_1298 rfl (lv_at hl 0 rfl) ?_
            refine lv_iconst (v := 1) hx hb dL_law_1299 (by decide) ?_
            refine lv_iadd hx hb dL_law_1300 ?_
            refine va_sld hx hb hX hbl hbA hS (gi_in (by omega) (by omega)) dL_law_1301 ?_
            refine lv_aload_n hx hb dL_law_1302 rfl (lv_at hl 3 rfl) ?_
            refine lv_iload_n hx hb dL_law_1303 rfl (lv_at hl 0 rfl) ?_
            refine lv_iconst (v := 2) hx hb dL_law_1304 (by decide) ?_
            refine lv_iadd hx hb dL_law_1305 ?_
            refine va_sld hx hb hX hbl hbA hS (gi_in (by omega) (by omega)) dL_law_1306 ?_
            refine qc_Vi2 (As := [.int (xs (i + 1).toNatClampNeg), .int (xs (i + 2).toNatClampNeg)]) (rest := []) (k0 := 2) (m_middle l D ca (a + 132) zm zm ym JM (xs (i + 1).toNatClampNeg) (xs (i + 2).toNatClampNeg)) kc_yX11_middle ⟨hx, hb, hml, hown, hts⟩ wq_1376 rfl rfl ⟨Nat.le_of_ble_eq_true rfl, Nat.le_of_ble_eq_true rfl⟩ wq_all hPM hK hS hAm (q0 := 0) (by decide) (hgM_0 ca (a + 132) _ _) rfl rfl hl.1 rfl (Nat.le_of_ble_eq_true rfl) dL_law_1307 ⟨Nat.le_of_ble_eq_true rfl, Nat.le_of_ble_eq_true rfl⟩ (fun rm zm1 ym1 H locs1 hm hPM hS _ hk => ?_)
            have hPU := qw_kept2 hPU hk (by omega)
            refine lv_pop hx hb dL_law_1310 rfl ?_
            refine lv_goto (tgt := 1766) hx hb dL_law_1311 (by decide) ?_
            have hJU : qJU zu1 zu1 := ⟨hu.2.1, qK_rf⟩
            have hJM : qJM zm1 zm1 := ⟨hm.2.1, qK_rf, hm.2.2.2⟩
            have hE : True ∧ REL zu1 zm1 := ⟨trivial, REL_K RR hu.2.2 hm.2.2.1⟩
            refine lv_iinc (v := i + 6) (lv' := [(3, .int (i + 6)), (2, .ref (a + 132)), (1, .ref (a + 0)), (0, .ref b)]) hx hb dL_law_1766 hl (k := 0) rfl rfl (by decide) rfl (fun ls hl => ?_)
            refine lv_goto (tgt := 18) hx hb dL_law_1769 (by decide) ?_
            have hi6 : (i + 6).toInt = i.toInt + 6 := gi_add (y := 6) (by show _ ≤ _ + (6 : Int); omega) (by show _ + (6 : Int) ≤ _; omega)
            exact ih (i + 6) zu1 yu1 zm1 ym1 (by omega) (by omega) (by omega) hJU hJM hE.2 _ _ hPU hPM hS _ hl
          | 30, _, hkn =>
            refine lv_tableIn (tgt := 1314) hx hb dL_law_33 (by omega) (by omega) (by rw [hkn]; rfl) (by decide) ?_
            refine lv_aload_n hx hb dL_law_1314 rfl (lv_at hl 2 rfl) ?_
            refine lv_aload_n hx hb dL_law_1315 rfl (lv_at hl 3 rfl) ?_
            refine lv_iload_n hx hb dL_law_1316 rfl (lv_at hl 0 rfl) ?_
            refine lv_iconst (v := 1) hx hb dL_law_1317 (by decide) ?_
            refine lv_iadd hx hb dL_law_1318 ?_
            refine va_sld hx hb hX hbl hbA hS (gi_in (by omega) (by omega)) dL_law_1319 ?_
            refine lv_aload_n hx hb dL_law_1320 rfl (lv_at hl 3 rfl) ?_
            refine lv_iload_n hx hb dL_law_1321 rfl (lv_at hl 0 rfl) ?_
            refine lv_iconst (v := 2) hx hb dL_law_1322 (by decide) ?_
            refine lv_iadd hx hb dL_law_1323 ?_
            refine va_sld hx hb hX hbl hbA hS (gi_in (by omega) (by omega)) dL_law_1324 ?_
            refine lv_aload_n hx hb dL_law_1325 rfl (lv_at hl 3 rfl) ?_
            refine lv_iload_n hx hb dL_law_1326 rfl (lv_at hl 0 rfl) ?_
            refine lv_iconst (v := 3) hx hb dL_law_1327 (by decide) ?_
            refine lv_iadd hx hb dL_law_1328 ?_
            refine va_sld hx hb hX hbl hbA hS (gi_in (by omega) (by omega)) dL_law_1329 ?_
            refine lv_aload_n hx hb dL_law_1330 rfl (lv_at hl 3 rfl) ?_
            refine lv_iload_n hx hb dL_law_1331 rfl (lv_at hl 0 rfl) ?_
            refine lv_iconst (v := 4) hx hb dL_law_1332 (by decide) ?_
            refine lv_iadd hx hb dL_law_1333 ?_
            refine va_sld hx hb hX hbl hbA hS (gi_in (by omega) (by omega)) dL_law_1334 ?_
            refine qc_Vi2 (As := [.int (xs (i + 1).toNatClampNeg), .int (xs (i + 2).toNatClampNeg), .int (xs (i + 3).toNatClampNeg), .int (xs (i + 4).toNatClampNeg)]) (rest := []) (k0 := 4) (u_apart_q l D ca (a + 0) zu zu yu JU (xs (i + 1).toNatClampNeg) (xs (i + 2).toNatClampNeg) (xs (i + 3).toNatClampNeg) (xs (i + 4).toNatClampNeg)) kc_yX10_apart ⟨hx, hb, hml, hown, hts⟩ wq_681 rfl rfl ⟨Nat.le_of_ble_eq_true rfl, Nat.le_of_ble_eq_true rfl⟩ wq_all hPU hK hS hAu (q0 := 0) (by decide) (hgU_0 ca (a + 0) _ _) rfl rfl hl.1 rfl (Nat.le_of_ble_eq_true rfl) dL_law_1335 ⟨Nat.le_of_ble_eq_true rfl, Nat.le_of_ble_eq_true rfl⟩ (fun ru zu1 yu1 H locs1 hu hPU hS _ hk => ?_)
            have hPM := qw_kept2 hPM hk (by omega)
            refine lv_pop hx hb dL_law_1338 rfl ?_
            refine lv_aload_n hx hb dL_law_1339 rfl (lv_at hl 1 rfl) ?_
            refine lv_aload_n hx hb dL_law_1340 rfl (lv_at hl 3 rfl) ?_
            refine lv_iload_n hx hb dL_law_1341 rfl (lv_at hl 0 rfl) ?_
            refine lv_iconst (v := 1) hx hb dL_law_1342 (by decide) ?_
            refine lv_iadd hx hb dL_law_1343 ?_
            refine va_sld hx hb hX hbl hbA hS (gi_in (by omega) (by omega)) dL_law_1344 ?_
            refine lv_aload_n hx hb dL_law_1345 rfl (lv_at hl 3 rfl) ?_
            refine lv_iload_n hx hb dL_law_1346 rfl (lv_at hl 0 rfl) ?_
            refine lv_iconst (v := 2) hx hb dL_law_1347 (by decide) ?_
            refine lv_iadd hx hb dL_law_1348 ?_
            refine va_sld hx hb hX hbl hbA hS (gi_in (by omega) (by omega)) dL_law_1349 ?_
            refine lv_aload_n hx hb dL_law_1350 rfl (lv_at hl 3 rfl) ?_
            refine lv_iload_n hx hb dL_law_1351 rfl (lv_at hl 0 rfl) ?_
            refine lv_iconst (v := 3) hx hb dL_law_1352 (by decide) ?_
            refine lv_iadd hx hb dL_law_1353 ?_
            refine va_sld hx hb hX hbl hbA hS (gi_in (by omega) (by omega)) dL_law_1354 ?_
            refine lv_aload_n hx hb dL_law_1355 rfl (lv_at hl 3 rfl) ?_
            refine lv_iload_n hx hb dL_law_1356 rfl (lv_at hl 0 rfl) ?_
            refine lv_iconst (v := 4) hx hb dL_law_1357 (by decide) ?_
            refine lv_iadd hx hb dL_law_1358 ?_
            refine va_sld hx hb hX hbl hbA hS (gi_in (by omega) (by omega)) dL_law_1359 ?_
            refine qc_Vi2 (As := [.int (xs (i + 1).toNatClampNeg), .int (xs (i + 2).toNatClampNeg), .int (xs (i + 3).toNatClampNeg), .int (xs (i + 4).toNatClampNeg)]) (rest := []) (k0 := 4) (m_apart l D ca (a + 132) zm zm ym JM (xs (i + 1).toNatClampNeg) (xs (i + 2).toNatClampNeg) (xs (i + 3).toNatClampNeg) (xs (i + 4).toNatClampNeg)) kc_yX11_apart ⟨hx, hb, hml, hown, hts⟩ wq_1380 rfl rfl ⟨Nat.le_of_ble_eq_true rfl, Nat.le_of_ble_eq_true rfl⟩ wq_all hPM hK hS hAm (q0 := 0) (by decide) (hgM_0 ca (a + 132) _ _) rfl rfl hl.1 rfl (Nat.le_of_ble_eq_true rfl) dL_law_1360 ⟨Nat.le_of_ble_eq_true rfl, Nat.le_of_ble_eq_true rfl⟩ (fun rm zm1 ym1 H locs1 hm hPM hS _ hk => ?_)
            have hPU := qw_kept2 hPU hk (by omega)
            refine lv_pop hx hb dL_law_1363 rfl ?_
            refine lv_goto (tgt := 1766) hx hb dL_law_1364 (by decide) ?_
            have hJU : qJU zu1 zu1 := ⟨hu.2.1, qK_rf⟩
            have hJM : qJM zm1 zm1 := ⟨hm.2.1, qK_rf, hm.2.2.2⟩
            have hE : True ∧ REL zu1 zm1 := ⟨trivial, REL_K RR hu.2.2 hm.2.2.1⟩
            refine lv_iinc (v := i + 6) (lv' := [(3, .int (i + 6)), (2, .ref (a + 132)), (1, .ref (a + 0)), (0, .ref b)]) hx hb dL_law_1766 hl (k := 0) rfl rfl (by decide) rfl (fun ls hl => ?_)
            refine lv_goto (tgt := 18) hx hb dL_law_1769 (by decide) ?_
            have hi6 : (i + 6).toInt = i.toInt + 6 := gi_add (y := 6) (by show _ ≤ _ + (6 : Int); omega) (by show _ + (6 : Int) ≤ _; omega)
            exact ih (i + 6) zu1 yu1 zm1 ym1 (by omega) (by omega) (by omega) hJU hJM hE.2 _ _ hPU hPM hS _ hl
          | 31, _, hkn =>
            refine lv_tableIn (tgt := 1367) hx hb dL_law_33 (by omega) (by omega) (by rw [hkn]; rfl) (by decide) ?_
            refine lv_aload_n hx hb dL_law_1367 rfl (lv_at hl 2 rfl) ?_
            refine lv_aload_n hx hb dL_law_1368 rfl (lv_at hl 3 rfl) ?_
            refine lv_iload_n hx hb dL_law_1369 rfl (lv_at hl 0 rfl) ?_
            refine lv_iconst (v := 1) hx hb dL_law_1370 (by decide) ?_
            refine lv_iadd hx hb dL_law_1371 ?_
            refine va_sld hx hb hX hbl hbA hS (gi_in (by omega) (by omega)) dL_law_1372 ?_
            refine lv_aload_n hx hb dL_law_1373 rfl (lv_at hl 3 rfl) ?_
            refine lv_iload_n hx hb dL_law_1374 rfl (lv_at hl 0 rfl) ?_
            refine lv_iconst (v := 2) hx hb dL_law_1375 (by decide) ?_
            refine lv_iadd hx hb dL_law_1376 ?_
            refine va_sld hx hb hX hbl hbA hS (gi_in (by omega) (by omega)) dL_law_1377 ?_
            refine lv_aload_n hx hb dL_law_1378 rfl (lv_at hl 3 rfl) ?_
            refine lv_iload_n hx hb dL_law_1379 rfl (lv_at hl 0 rfl) ?_
            refine lv_iconst (v := 3) hx hb dL_law_1380 (by decide) ?_
            refine lv_iadd hx hb dL_law_1381 ?_
            refine va_sld hx hb hX hbl hbA hS (gi_in (by omega) (by omega)) dL_law_1382 ?_
            refine qc_Vi2 (As := [.int (xs (i + 1).toNatClampNeg), .int (xs (i + 2).toNatClampNeg), .int (xs (i + 3).toNatClampNeg)]) (rest := []) (k0 := 3) (u_parent l D ca (a + 0) zu zu yu JU (xs (i + 1).toNatClampNeg) (xs (i + 2).toNatClampNeg) (xs (i + 3).toNatClampNeg)) kc_yX10_parent ⟨hx, hb, hml, hown, hts⟩ wq_535 rfl rfl ⟨Nat.le_of_ble_eq_true rfl, Nat.le_of_ble_eq_true rfl⟩ wq_all hPU hK hS hAu (q0 := 0) (by decide) (hgU_0 ca (a + 0) _ _) rfl rfl hl.1 rfl (Nat.le_of_ble_eq_true rfl) dL_law_1383 ⟨Nat.le_of_ble_eq_true rfl, Nat.le_of_ble_eq_true rfl⟩ (fun ru zu1 yu1 H locs1 hu hPU hS _ hk => ?_)
            have hPM := qw_kept2 hPM hk (by omega)
            refine lv_pop hx hb dL_law_1386 rfl ?_
            refine lv_aload_n hx hb dL_law_1387 rfl (lv_at hl 1 rfl) ?_
            refine lv_aload_n hx hb dL_law_1388 rfl (lv_at hl 3 rfl) ?_
            refine lv_iload_n hx hb dL_law_1389 rfl (lv_at hl 0 rfl) ?_
            refine lv_iconst (v := 1) hx hb dL_law_1390 (by decide) ?_
            refine lv_iadd hx hb dL_law_1391 ?_
            refine va_sld hx hb hX hbl hbA hS (gi_in (by omega) (by omega)) dL_law_1392 ?_
            refine lv_aload_n hx hb dL_law_1393 rfl (lv_at hl 3 rfl) ?_
            refine lv_iload_n hx hb dL_law_1394 rfl (lv_at hl 0 rfl) ?_
            refine lv_iconst (v := 2) hx hb dL_law_1395 (by decide) ?_
            refine lv_iadd hx hb dL_law_1396 ?_
            refine va_sld hx hb hX hbl hbA hS (gi_in (by omega) (by omega)) dL_law_1397 ?_
            refine lv_aload_n hx hb dL_law_1398 rfl (lv_at hl 3 rfl) ?_
            refine lv_iload_n hx hb dL_law_1399 rfl (lv_at hl 0 rfl) ?_
            refine lv_iconst (v := 3) hx hb dL_law_1400 (by decide) ?_
            refine lv_iadd hx hb dL_law_1401 ?_
            refine va_sld hx hb hX hbl hbA hS (gi_in (by omega) (by omega)) dL_law_1402 ?_
            refine qc_Vi2 (As := [.int (xs (i + 1).toNatClampNeg), .int (xs (i + 2).toNatClampNeg), .int (xs (i + 3).toNatClampNeg)]) (rest := []) (k0 := 3) (m_parent l D ca (a + 132) zm zm ym JM (xs (i + 1).toNatClampNeg) (xs (i + 2).toNatClampNeg) (xs (i + 3).toNatClampNeg)) kc_yX11_parent ⟨hx, hb, hml, hown, hts⟩ wq_1543 rfl rfl ⟨Nat.le_of_ble_eq_true rfl, Nat.le_of_ble_eq_true rfl⟩ wq_all hPM hK hS hAm (q0 := 0) (by decide) (hgM_0 ca (a + 132) _ _) rfl rfl hl.1 rfl (Nat.le_of_ble_eq_true rfl) dL_law_1403 ⟨Nat.le_of_ble_eq_true rfl, Nat.le_of_ble_eq_true rfl⟩ (fun rm zm1 ym1 H locs1 hm hPM hS _ hk => ?_)
            have hPU := qw_kept2 hPU hk (by omega)
            refine lv_pop hx hb dL_law_1406 rfl ?_
            refine lv_goto (tgt := 1766) hx hb dL_law_1407 (by decide) ?_
            have hJU : qJU zu1 zu1 := hu.2
            have hJM : qJM zm1 zm1 := hm.2
            have hE : ru = rm ∧ REL zu1 zm1 := law_parent RR hu.1 hm.1
            refine lv_iinc (v := i + 6) (lv' := [(3, .int (i + 6)), (2, .ref (a + 132)), (1, .ref (a + 0)), (0, .ref b)]) hx hb dL_law_1766 hl (k := 0) rfl rfl (by decide) rfl (fun ls hl => ?_)
            refine lv_goto (tgt := 18) hx hb dL_law_1769 (by decide) ?_
            have hi6 : (i + 6).toInt = i.toInt + 6 := gi_add (y := 6) (by show _ ≤ _ + (6 : Int); omega) (by show _ + (6 : Int) ≤ _; omega)
            exact ih (i + 6) zu1 yu1 zm1 ym1 (by omega) (by omega) (by omega) hJU hJM hE.2 _ _ hPU hPM hS _ hl
          | 32, _, hkn =>
            refine lv_tableIn (tgt := 1410) hx hb dL_law_33 (by omega) (by omega) (by rw [hkn]; rfl) (by decide) ?_
            refine lv_aload_n hx hb dL_law_1410 rfl (lv_at hl 2 rfl) ?_
            refine lv_aload_n hx hb dL_law_1411 rfl (lv_at hl 3 rfl) ?_
            refine lv_iload_n hx hb dL_law_1412 rfl (lv_at hl 0 rfl) ?_
            refine lv_iconst (v := 1) hx hb dL_law_1413 (by decide) ?_
            refine lv_iadd hx hb dL_law_1414 ?_
            refine va_sld hx hb hX hbl hbA hS (gi_in (by omega) (by omega)) dL_law_1415 ?_
            refine lv_aload_n hx hb dL_law_1416 rfl (lv_at hl 3 rfl) ?_
            refine lv_iload_n hx hb dL_law_1417 rfl (lv_at hl 0 rfl) ?_
            refine lv_iconst (v := 2) hx hb dL_law_1418 (by decide) ?_
            refine lv_iadd hx hb dL_law_1419 ?_
            refine va_sld hx hb hX hbl hbA hS (gi_in (by omega) (by omega)) dL_law_1420 ?_
            refine qc_Vi2 (As := [.int (xs (i + 1).toNatClampNeg), .int (xs (i + 2).toNatClampNeg)]) (rest := []) (k0 := 2) (u_tree l D ca (a + 0) zu zu yu JU (xs (i + 1).toNatClampNeg) (xs (i + 2).toNatClampNeg)) kc_yX10_tree ⟨hx, hb, hml, hown, hts⟩ wq_921 rfl rfl ⟨Nat.le_of_ble_eq_true rfl, Nat.le_of_ble_eq_true rfl⟩ wq_all hPU hK hS hAu (q0 := 0) (by decide) (hgU_0 ca (a + 0) _ _) rfl rfl hl.1 rfl (Nat.le_of_ble_eq_true rfl) dL_law_1421 ⟨Nat.le_of_ble_eq_true rfl, Nat.le_of_ble_eq_true rfl⟩ (fun ru zu1 yu1 H locs1 hu hPU hS _ hk => ?_)
            have hPM := qw_kept2 hPM hk (by omega)
            refine lv_pop hx hb dL_law_1424 rfl ?_
            refine lv_aload_n hx hb dL_law_1425 rfl (lv_at hl 1 rfl) ?_
            refine lv_aload_n hx hb dL_law_1426 rfl (lv_at hl 3 rfl) ?_
            refine lv_iload_n hx hb dL_law_1427 rfl (lv_at hl 0 rfl) ?_
            refine lv_iconst (v := 1) hx hb dL_law_1428 (by decide) ?_
            refine lv_iadd hx hb dL_law_1429 ?_
            refine va_sld hx hb hX hbl hbA hS (gi_in (by omega) (by omega)) dL_law_1430 ?_
            refine lv_aload_n hx hb dL_law_1431 rfl (lv_at hl 3 rfl) ?_
            refine lv_iload_n hx hb dL_law_1432 rfl (lv_at hl 0 rfl) ?_
            refine lv_iconst (v := 2) hx hb dL_law_1433 (by decide) ?_
            refine lv_iadd hx hb dL_law_1434 ?_
            refine va_sld hx hb hX hbl hbA hS (gi_in (by omega) (by omega)) dL_law_1435 ?_
            refine qc_Vi2 (As := [.int (xs (i + 1).toNatClampNeg), .int (xs (i + 2).toNatClampNeg)]) (rest := []) (k0 := 2) (m_tree l D ca (a + 132) zm zm ym JM (xs (i + 1).toNatClampNeg) (xs (i + 2).toNatClampNeg)) kc_yX11_tree ⟨hx, hb, hml, hown, hts⟩ wq_1547 rfl rfl ⟨Nat.le_of_ble_eq_true rfl, Nat.le_of_ble_eq_true rfl⟩ wq_all hPM hK hS hAm (q0 := 0) (by decide) (hgM_0 ca (a + 132) _ _) rfl rfl hl.1 rfl (Nat.le_of_ble_eq_true rfl) dL_law_1436 ⟨Nat.le_of_ble_eq_true rfl, Nat.le_of_ble_eq_true rfl⟩ (fun rm zm1 ym1 H locs1 hm hPM hS _ hk => ?_)
            have hPU := qw_kept2 hPU hk (by omega)
            refine lv_pop hx hb dL_law_1439 rfl ?_
            refine lv_goto (tgt := 1766) hx hb dL_law_1440 (by decide) ?_
            have hJU : qJU zu1 zu1 := ⟨hu.2.1, qK_rf⟩
            have hJM : qJM zm1 zm1 := ⟨hm.2.1, qK_rf, hm.2.2.2⟩
            have hE : True ∧ REL zu1 zm1 := ⟨trivial, REL_K RR hu.2.2 hm.2.2.1⟩
            refine lv_iinc (v := i + 6) (lv' := [(3, .int (i + 6)), (2, .ref (a + 132)), (1, .ref (a + 0)), (0, .ref b)]) hx hb dL_law_1766 hl (k := 0) rfl rfl (by decide) rfl (fun ls hl => ?_)
            refine lv_goto (tgt := 18) hx hb dL_law_1769 (by decide) ?_
            have hi6 : (i + 6).toInt = i.toInt + 6 := gi_add (y := 6) (by show _ ≤ _ + (6 : Int); omega) (by show _ + (6 : Int) ≤ _; omega)
            exact ih (i + 6) zu1 yu1 zm1 ym1 (by omega) (by omega) (by omega) hJU hJM hE.2 _ _ hPU hPM hS _ hl
          | 33, _, hkn =>
            refine lv_tableIn (tgt := 1443) hx hb dL_law_33 (by omega) (by omega) (by rw [hkn]; rfl) (by decide) ?_
            refine lv_aload_n hx hb dL_law_1443 rfl (lv_at hl 2 rfl) ?_
            refine lv_aload_n hx hb dL_law_1444 rfl (lv_at hl 3 rfl) ?_
            refine lv_iload_n hx hb dL_law_1445 rfl (lv_at hl 0 rfl) ?_
            refine lv_iconst (v := 1) hx hb dL_law_1446 (by decide) ?_
            refine lv_iadd hx hb dL_law_1447 ?_
            refine va_sld hx hb hX hbl hbA hS (gi_in (by omega) (by omega)) dL_law_1448 ?_
            refine lv_aload_n hx hb dL_law_1449 rfl (lv_at hl 3 rfl) ?_
            refine lv_iload_n hx hb dL_law_1450 rfl (lv_at hl 0 rfl) ?_
            refine lv_iconst (v := 2) hx hb dL_law_1451 (by decide) ?_
            refine lv_iadd hx hb dL_law_1452 ?_
            refine va_sld hx hb hX hbl hbA hS (gi_in (by omega) (by omega)) dL_law_1453 ?_
            refine qc_Vi2 (As := [.int (xs (i + 1).toNatClampNeg), .int (xs (i + 2).toNatClampNeg)]) (rest := []) (k0 := 2) (u_tyres l D ca (a + 0) zu zu yu JU (xs (i + 1).toNatClampNeg) (xs (i + 2).toNatClampNeg)) kc_yX10_tyres ⟨hx, hb, hml, hown, hts⟩ wq_935 rfl rfl ⟨Nat.le_of_ble_eq_true rfl, Nat.le_of_ble_eq_true rfl⟩ wq_all hPU hK hS hAu (q0 := 0) (by decide) (hgU_0 ca (a + 0) _ _) rfl rfl hl.1 rfl (Nat.le_of_ble_eq_true rfl) dL_law_1454 ⟨Nat.le_of_ble_eq_true rfl, Nat.le_of_ble_eq_true rfl⟩ (fun ru zu1 yu1 H locs1 hu hPU hS _ hk => ?_)
            have hPM := qw_kept2 hPM hk (by omega)
            refine lv_pop hx hb dL_law_1457 rfl ?_
            refine lv_aload_n hx hb dL_law_1458 rfl (lv_at hl 1 rfl) ?_
            refine lv_aload_n hx hb dL_law_1459 rfl (lv_at hl 3 rfl) ?_
            refine lv_iload_n hx hb dL_law_1460 rfl (lv_at hl 0 rfl) ?_
            refine lv_iconst (v := 1) hx hb dL_law_1461 (by decide) ?_
            refine lv_iadd hx hb dL_law_1462 ?_
            refine va_sld hx hb hX hbl hbA hS (gi_in (by omega) (by omega)) dL_law_1463 ?_
            refine lv_aload_n hx hb dL_law_1464 rfl (lv_at hl 3 rfl) ?_
            refine lv_iload_n hx hb dL_law_1465 rfl (lv_at hl 0 rfl) ?_
            refine lv_iconst (v := 2) hx hb dL_law_1466 (by decide) ?_
            refine lv_iadd hx hb dL_law_1467 ?_
            refine va_sld hx hb hX hbl hbA hS (gi_in (by omega) (by omega)) dL_law_1468 ?_
            refine qc_Vi2 (As := [.int (xs (i + 1).toNatClampNeg), .int (xs (i + 2).toNatClampNeg)]) (rest := []) (k0 := 2) (m_tyres l D ca (a + 132) zm zm ym JM (xs (i + 1).toNatClampNeg) (xs (i + 2).toNatClampNeg)) kc_yX11_tyres ⟨hx, hb, hml, hown, hts⟩ wq_1555 rfl rfl ⟨Nat.le_of_ble_eq_true rfl, Nat.le_of_ble_eq_true rfl⟩ wq_all hPM hK hS hAm (q0 := 0) (by decide) (hgM_0 ca (a + 132) _ _) rfl rfl hl.1 rfl (Nat.le_of_ble_eq_true rfl) dL_law_1469 ⟨Nat.le_of_ble_eq_true rfl, Nat.le_of_ble_eq_true rfl⟩ (fun rm zm1 ym1 H locs1 hm hPM hS _ hk => ?_)
            have hPU := qw_kept2 hPU hk (by omega)
            refine lv_pop hx hb dL_law_1472 rfl ?_
            refine lv_goto (tgt := 1766) hx hb dL_law_1473 (by decide) ?_
            have hJU : qJU zu1 zu1 := ⟨hu.2.1, qK_rf⟩
            have hJM : qJM zm1 zm1 := ⟨hm.2.1, qK_rf, hm.2.2.2⟩
            have hE : True ∧ REL zu1 zm1 := ⟨trivial, REL_K RR hu.2.2 hm.2.2.1⟩
            refine lv_iinc (v := i + 6) (lv' := [(3, .int (i + 6)), (2, .ref (a + 132)), (1, .ref (a + 0)), (0, .ref b)]) hx hb dL_law_1766 hl (k := 0) rfl rfl (by decide) rfl (fun ls hl => ?_)
            refine lv_goto (tgt := 18) hx hb dL_law_1769 (by decide) ?_
            have hi6 : (i + 6).toInt = i.toInt + 6 := gi_add (y := 6) (by show _ ≤ _ + (6 : Int); omega) (by show _ + (6 : Int) ≤ _; omega)
            exact ih (i + 6) zu1 yu1 zm1 ym1 (by omega) (by omega) (by omega) hJU hJM hE.2 _ _ hPU hPM hS _ hl
          | 34, _, hkn =>
            refine lv_tableIn (tgt := 1476) hx hb dL_law_33 (by omega) (by omega) (by rw [hkn]; rfl) (by decide) ?_
            refine lv_aload_n hx hb dL_law_1476 rfl (lv_at hl 2 rfl) ?_
            refine lv_aload_n hx hb dL_law_1477 rfl (lv_at hl 3 rfl) ?_
            refine lv_iload_n hx hb dL_law_1478 rfl (lv_at hl 0 rfl) ?_
            refine lv_iconst (v := 1) hx hb dL_law_1479 (by decide) ?_
            refine lv_iadd hx hb dL_law_1480 ?_
            refine va_sld hx hb hX hbl hbA hS (gi_in (by omega) (by omega)) dL_law_1481 ?_
            refine qc_Vi2 (As := [.int (xs (i + 1).toNatClampNeg)]) (rest := []) (k0 := 1) (u_butts l D ca (a + 0) zu zu yu JU (xs (i + 1).toNatClampNeg)) kc_yX10_butts ⟨hx, hb, hml, hown, hts⟩ wq_943 rfl rfl ⟨Nat.le_of_ble_eq_true rfl, Nat.le_of_ble_eq_true rfl⟩ wq_all hPU hK hS hAu (q0 := 0) (by decide) (hgU_0 ca (a + 0) _ _) rfl rfl hl.1 rfl (Nat.le_of_ble_eq_true rfl) dL_law_1482 ⟨Nat.le_of_ble_eq_true rfl, Nat.le_of_ble_eq_true rfl⟩ (fun ru zu1 yu1 H locs1 hu hPU hS _ hk => ?_)
            have hPM := qw_kept2 hPM hk (by omega)
            refine lv_pop hx hb dL_law_1485 rfl ?_
            refine lv_aload_n hx hb dL_law_1486 rfl (lv_at hl 1 rfl) ?_
            refine lv_aload_n hx hb dL_law_1487 rfl (lv_at hl 3 rfl) ?_
            refine lv_iload_n hx hb dL_law_1488 rfl (lv_at hl 0 rfl) ?_
            refine lv_iconst (v := 1) hx hb dL_law_1489 (by decide) ?_
            refine lv_iadd hx hb dL_law_1490 ?_
            refine va_sld hx hb hX hbl hbA hS (gi_in (by omega) (by omega)) dL_law_1491 ?_
            refine qc_Vi2 (As := [.int (xs (i + 1).toNatClampNeg)]) (rest := []) (k0 := 1) (m_butts l D ca (a + 132) zm zm ym JM (xs (i + 1).toNatClampNeg)) kc_yX11_butts ⟨hx, hb, hml, hown, hts⟩ wq_1563 rfl rfl ⟨Nat.le_of_ble_eq_true rfl, Nat.le_of_ble_eq_true rfl⟩ wq_all hPM hK hS hAm (q0 := 0) (by decide) (hgM_0 ca (a + 132) _ _) rfl rfl hl.1 rfl (Nat.le_of_ble_eq_true rfl) dL_law_1492 ⟨Nat.le_of_ble_eq_true rfl, Nat.le_of_ble_eq_true rfl⟩ (fun rm zm1 ym1 H locs1 hm hPM hS _ hk => ?_)
            have hPU := qw_kept2 hPU hk (by omega)
            refine lv_pop hx hb dL_law_1495 rfl ?_
            refine lv_goto (tgt := 1766) hx hb dL_law_1496 (by decide) ?_
            have hJU : qJU zu1 zu1 := ⟨hu.2.1, qK_rf⟩
            have hJM : qJM zm1 zm1 := ⟨hm.2.1, qK_rf, hm.2.2.2⟩
            have hE : True ∧ REL zu1 zm1 := ⟨trivial, REL_K RR hu.2.2 hm.2.2.1⟩
            refine lv_iinc (v := i + 6) (lv' := [(3, .int (i + 6)), (2, .ref (a + 132)), (1, .ref (a + 0)), (0, .ref b)]) hx hb dL_law_1766 hl (k := 0) rfl rfl (by decide) rfl (fun ls hl => ?_)
            refine lv_goto (tgt := 18) hx hb dL_law_1769 (by decide) ?_
            have hi6 : (i + 6).toInt = i.toInt + 6 := gi_add (y := 6) (by show _ ≤ _ + (6 : Int); omega) (by show _ + (6 : Int) ≤ _; omega)
            exact ih (i + 6) zu1 yu1 zm1 ym1 (by omega) (by omega) (by omega) hJU hJM hE.2 _ _ hPU hPM hS _ hl
          | 35, _, hkn =>
            refine lv_tableIn (tgt := 1499) hx hb dL_law_33 (by omega) (by omega) (by rw [hkn]; rfl) (by decide) ?_
            refine lv_aload_n hx hb dL_law_1499 rfl (lv_at hl 2 rfl) ?_
            refine lv_aload_n hx hb dL_law_1500 rfl (lv_at hl 3 rfl) ?_
            refine lv_iload_n hx hb dL_law_1501 rfl (lv_at hl 0 rfl) ?_
            refine lv_iconst (v := 1) hx hb dL_law_1502 (by decide) ?_
            refine lv_iadd hx hb dL_law_1503 ?_
            refine va_sld hx hb hX hbl hbA hS (gi_in (by omega) (by omega)) dL_law_1504 ?_
            refine lv_aload_n hx hb dL_law_1505 rfl (lv_at hl 3 rfl) ?_
            refine lv_iload_n hx hb dL_law_1506 rfl (lv_at hl 0 rfl) ?_
            refine lv_iconst (v := 2) hx hb dL_law_1507 (by decide) ?_
            refine lv_iadd hx hb dL_law_1508 ?_
            refine va_sld hx hb hX hbl hbA hS (gi_in (by omega) (by omega)) dL_law_1509 ?_
            refine qc_Vip (As := [.int (xs (i + 1).toNatClampNeg), .int (xs (i + 2).toNatClampNeg)]) (rest := []) (k0 := 2) (u_plain l D ca (a + 0) zu zu yu JU (xs (i + 1).toNatClampNeg) (xs (i + 2).toNatClampNeg)) kc_yX10_plain ⟨hx, hb, hml, hown, hts⟩ wq_978 rfl rfl ⟨Nat.le_of_ble_eq_true rfl, Nat.le_of_ble_eq_true rfl⟩ wq_all hPU hK hS hAu (q0 := 0) (by decide) (hgU_0 ca (a + 0) _ _) rfl rfl hl.1 rfl (Nat.le_of_ble_eq_true rfl) dL_law_1510 ⟨Nat.le_of_ble_eq_true rfl, Nat.le_of_ble_eq_true rfl⟩ (fun ru H locs1 hu hPU hS _ hk => ?_)
            have hPM := qw_kept2 hPM hk (by omega)
            refine lv_pop hx hb dL_law_1513 rfl ?_
            refine lv_aload_n hx hb dL_law_1514 rfl (lv_at hl 1 rfl) ?_
            refine lv_aload_n hx hb dL_law_1515 rfl (lv_at hl 3 rfl) ?_
            refine lv_iload_n hx hb dL_law_1516 rfl (lv_at hl 0 rfl) ?_
            refine lv_iconst (v := 1) hx hb dL_law_1517 (by decide) ?_
            refine lv_iadd hx hb dL_law_1518 ?_
            refine va_sld hx hb hX hbl hbA hS (gi_in (by omega) (by omega)) dL_law_1519 ?_
            refine lv_aload_n hx hb dL_law_1520 rfl (lv_at hl 3 rfl) ?_
            refine lv_iload_n hx hb dL_law_1521 rfl (lv_at hl 0 rfl) ?_
            refine lv_iconst (v := 2) hx hb dL_law_1522 (by decide) ?_
            refine lv_iadd hx hb dL_law_1523 ?_
            refine va_sld hx hb hX hbl hbA hS (gi_in (by omega) (by omega)) dL_law_1524 ?_
            refine qc_Vip (As := [.int (xs (i + 1).toNatClampNeg), .int (xs (i + 2).toNatClampNeg)]) (rest := []) (k0 := 2) (m_plain l D ca (a + 132) zm zm ym JM (xs (i + 1).toNatClampNeg) (xs (i + 2).toNatClampNeg)) kc_yX11_plain ⟨hx, hb, hml, hown, hts⟩ wq_1583 rfl rfl ⟨Nat.le_of_ble_eq_true rfl, Nat.le_of_ble_eq_true rfl⟩ wq_all hPM hK hS hAm (q0 := 0) (by decide) (hgM_0 ca (a + 132) _ _) rfl rfl hl.1 rfl (Nat.le_of_ble_eq_true rfl) dL_law_1525 ⟨Nat.le_of_ble_eq_true rfl, Nat.le_of_ble_eq_true rfl⟩ (fun rm H locs1 hm hPM hS _ hk => ?_)
            have hPU := qw_kept2 hPU hk (by omega)
            refine lv_pop hx hb dL_law_1528 rfl ?_
            refine lv_goto (tgt := 1766) hx hb dL_law_1529 (by decide) ?_
            have hJU : qJU zu zu := JU
            have hJM : qJM zm zm := JM
            have hE : True ∧ REL zu zm := ⟨trivial, REL_K RR qK_rf qK_rf⟩
            refine lv_iinc (v := i + 6) (lv' := [(3, .int (i + 6)), (2, .ref (a + 132)), (1, .ref (a + 0)), (0, .ref b)]) hx hb dL_law_1766 hl (k := 0) rfl rfl (by decide) rfl (fun ls hl => ?_)
            refine lv_goto (tgt := 18) hx hb dL_law_1769 (by decide) ?_
            have hi6 : (i + 6).toInt = i.toInt + 6 := gi_add (y := 6) (by show _ ≤ _ + (6 : Int); omega) (by show _ + (6 : Int) ≤ _; omega)
            exact ih (i + 6) zu yu zm ym (by omega) (by omega) (by omega) hJU hJM hE.2 _ _ hPU hPM hS _ hl
          | 36, _, hkn =>
            refine lv_tableIn (tgt := 1532) hx hb dL_law_33 (by omega) (by omega) (by rw [hkn]; rfl) (by decide) ?_
            refine lv_aload_n hx hb dL_law_1532 rfl (lv_at hl 2 rfl) ?_
            refine lv_aload_n hx hb dL_law_1533 rfl (lv_at hl 3 rfl) ?_
            refine lv_iload_n hx hb dL_law_1534 rfl (lv_at hl 0 rfl) ?_
            refine lv_iconst (v := 1) hx hb dL_law_1535 (by decide) ?_
            refine lv_iadd hx hb dL_law_1536 ?_
            refine va_sld hx hb hX hbl hbA hS (gi_in (by omega) (by omega)) dL_law_1537 ?_
            refine lv_aload_n hx hb dL_law_1538 rfl (lv_at hl 3 rfl) ?_
            refine lv_iload_n hx hb dL_law_1539 rfl (lv_at hl 0 rfl) ?_
            refine lv_iconst (v := 2) hx hb dL_law_1540 (by decide) ?_
            refine lv_iadd hx hb dL_law_1541 ?_
            refine va_sld hx hb hX hbl hbA hS (gi_in (by omega) (by omega)) dL_law_1542 ?_
            refine qc_Vip (As := [.int (xs (i + 1).toNatClampNeg), .int (xs (i + 2).toNatClampNeg)]) (rest := []) (k0 := 2) (u_remarkIs l D ca (a + 0) zu zu yu JU (xs (i + 1).toNatClampNeg) (xs (i + 2).toNatClampNeg)) kc_yX10_remarkIs ⟨hx, hb, hml, hown, hts⟩ wq_983 rfl rfl ⟨Nat.le_of_ble_eq_true rfl, Nat.le_of_ble_eq_true rfl⟩ wq_all hPU hK hS hAu (q0 := 0) (by decide) (hgU_0 ca (a + 0) _ _) rfl rfl hl.1 rfl (Nat.le_of_ble_eq_true rfl) dL_law_1543 ⟨Nat.le_of_ble_eq_true rfl, Nat.le_of_ble_eq_true rfl⟩ (fun ru H locs1 hu hPU hS _ hk => ?_)
            have hPM := qw_kept2 hPM hk (by omega)
            refine lv_pop hx hb dL_law_1546 rfl ?_
            refine lv_aload_n hx hb dL_law_1547 rfl (lv_at hl 1 rfl) ?_
            refine lv_aload_n hx hb dL_law_1548 rfl (lv_at hl 3 rfl) ?_
            refine lv_iload_n hx hb dL_law_1549 rfl (lv_at hl 0 rfl) ?_
            refine lv_iconst (v := 1) hx hb dL_law_1550 (by decide) ?_
            refine lv_iadd hx hb dL_law_1551 ?_
            refine va_sld hx hb hX hbl hbA hS (gi_in (by omega) (by omega)) dL_law_1552 ?_
            refine lv_aload_n hx hb dL_law_1553 rfl (lv_at hl 3 rfl) ?_
            refine lv_iload_n hx hb dL_law_1554 rfl (lv_at hl 0 rfl) ?_
            refine lv_iconst (v := 2) hx hb dL_law_1555 (by decide) ?_
            refine lv_iadd hx hb dL_law_1556 ?_
            refine va_sld hx hb hX hbl hbA hS (gi_in (by omega) (by omega)) dL_law_1557 ?_
            refine qc_Vip (As := [.int (xs (i + 1).toNatClampNeg), .int (xs (i + 2).toNatClampNeg)]) (rest := []) (k0 := 2) (m_remarkIs l D ca (a + 132) zm zm ym JM (xs (i + 1).toNatClampNeg) (xs (i + 2).toNatClampNeg)) kc_yX11_remarkIs ⟨hx, hb, hml, hown, hts⟩ wq_1587 rfl rfl ⟨Nat.le_of_ble_eq_true rfl, Nat.le_of_ble_eq_true rfl⟩ wq_all hPM hK hS hAm (q0 := 0) (by decide) (hgM_0 ca (a + 132) _ _) rfl rfl hl.1 rfl (Nat.le_of_ble_eq_true rfl) dL_law_1558 ⟨Nat.le_of_ble_eq_true rfl, Nat.le_of_ble_eq_true rfl⟩ (fun rm H locs1 hm hPM hS _ hk => ?_)
            have hPU := qw_kept2 hPU hk (by omega)
            refine lv_pop hx hb dL_law_1561 rfl ?_
            refine lv_goto (tgt := 1766) hx hb dL_law_1562 (by decide) ?_
            have hJU : qJU zu zu := JU
            have hJM : qJM zm zm := JM
            have hE : True ∧ REL zu zm := ⟨trivial, REL_K RR qK_rf qK_rf⟩
            refine lv_iinc (v := i + 6) (lv' := [(3, .int (i + 6)), (2, .ref (a + 132)), (1, .ref (a + 0)), (0, .ref b)]) hx hb dL_law_1766 hl (k := 0) rfl rfl (by decide) rfl (fun ls hl => ?_)
            refine lv_goto (tgt := 18) hx hb dL_law_1769 (by decide) ?_
            have hi6 : (i + 6).toInt = i.toInt + 6 := gi_add (y := 6) (by show _ ≤ _ + (6 : Int); omega) (by show _ + (6 : Int) ≤ _; omega)
            exact ih (i + 6) zu yu zm ym (by omega) (by omega) (by omega) hJU hJM hE.2 _ _ hPU hPM hS _ hl
          | 37, _, hkn =>
            refine lv_tableIn (tgt := 1565) hx hb dL_law_33 (by omega) (by omega) (by rw [hkn]; rfl) (by decide) ?_
            refine lv_aload_n hx hb dL_law_1565 rfl (lv_at hl 2 rfl) ?_
            refine lv_aload_n hx hb dL_law_1566 rfl (lv_at hl 3 rfl) ?_
            refine lv_iload_n hx hb dL_law_1567 rfl (lv_at hl 0 rfl) ?_
            refine lv_iconst (v := 1) hx hb dL_law_1568 (by decide) ?_
            refine lv_iadd hx hb dL_law_1569 ?_
            refine va_sld hx hb hX hbl hbA hS (gi_in (by omega) (by omega)) dL_law_1570 ?_
            refine lv_aload_n hx hb dL_law_1571 rfl (lv_at hl 3 rfl) ?_
            refine lv_iload_n hx hb dL_law_1572 rfl (lv_at hl 0 rfl) ?_
            refine lv_iconst (v := 2) hx hb dL_law_1573 (by decide) ?_
            refine lv_iadd hx hb dL_law_1574 ?_
            refine va_sld hx hb hX hbl hbA hS (gi_in (by omega) (by omega)) dL_law_1575 ?_
            refine qc_Vi2 (As := [.int (xs (i + 1).toNatClampNeg), .int (xs (i + 2).toNatClampNeg)]) (rest := []) (k0 := 2) (u_worth l D ca (a + 0) zu zu yu JU (xs (i + 1).toNatClampNeg) (xs (i + 2).toNatClampNeg)) kc_yX10_worth ⟨hx, hb, hml, hown, hts⟩ wq_805 rfl rfl ⟨Nat.le_of_ble_eq_true rfl, Nat.le_of_ble_eq_true rfl⟩ wq_all hPU hK hS hAu (q0 := 0) (by decide) (hgU_0 ca (a + 0) _ _) rfl rfl hl.1 rfl (Nat.le_of_ble_eq_true rfl) dL_law_1576 ⟨Nat.le_of_ble_eq_true rfl, Nat.le_of_ble_eq_true rfl⟩ (fun ru zu1 yu1 H locs1 hu hPU hS _ hk => ?_)
            have hPM := qw_kept2 hPM hk (by omega)
            refine lv_pop hx hb dL_law_1579 rfl ?_
            refine lv_aload_n hx hb dL_law_1580 rfl (lv_at hl 1 rfl) ?_
            refine lv_aload_n hx hb dL_law_1581 rfl (lv_at hl 3 rfl) ?_
            refine lv_iload_n hx hb dL_law_1582 rfl (lv_at hl 0 rfl) ?_
            refine lv_iconst (v := 1) hx hb dL_law_1583 (by decide) ?_
            refine lv_iadd hx hb dL_law_1584 ?_
            refine va_sld hx hb hX hbl hbA hS (gi_in (by omega) (by omega)) dL_law_1585 ?_
            refine lv_aload_n hx hb dL_law_1586 rfl (lv_at hl 3 rfl) ?_
            refine lv_iload_n hx hb dL_law_1587 rfl (lv_at hl 0 rfl) ?_
            refine lv_iconst (v := 2) hx hb dL_law_1588 (by decide) ?_
            refine lv_iadd hx hb dL_law_1589 ?_
            refine va_sld hx hb hX hbl hbA hS (gi_in (by omega) (by omega)) dL_law_1590 ?_
            refine qc_Vi2 (As := [.int (xs (i + 1).toNatClampNeg), .int (xs (i + 2).toNatClampNeg)]) (rest := []) (k0 := 2) (m_worth l D ca (a + 132) zm zm ym JM (xs (i + 1).toNatClampNeg) (xs (i + 2).toNatClampNeg)) kc_yX11_worth ⟨hx, hb, hml, hown, hts⟩ wq_1519 rfl rfl ⟨Nat.le_of_ble_eq_true rfl, Nat.le_of_ble_eq_true rfl⟩ wq_all hPM hK hS hAm (q0 := 0) (by decide) (hgM_0 ca (a + 132) _ _) rfl rfl hl.1 rfl (Nat.le_of_ble_eq_true rfl) dL_law_1591 ⟨Nat.le_of_ble_eq_true rfl, Nat.le_of_ble_eq_true rfl⟩ (fun rm zm1 ym1 H locs1 hm hPM hS _ hk => ?_)
            have hPU := qw_kept2 hPU hk (by omega)
            refine lv_pop hx hb dL_law_1594 rfl ?_
            refine lv_goto (tgt := 1766) hx hb dL_law_1595 (by decide) ?_
            have hJU : qJU zu1 zu1 := ⟨hu.2.1, qK_rf⟩
            have hJM : qJM zm1 zm1 := ⟨hm.2.1, qK_rf, hm.2.2.2⟩
            have hE : True ∧ REL zu1 zm1 := ⟨trivial, REL_K RR hu.2.2 hm.2.2.1⟩
            refine lv_iinc (v := i + 6) (lv' := [(3, .int (i + 6)), (2, .ref (a + 132)), (1, .ref (a + 0)), (0, .ref b)]) hx hb dL_law_1766 hl (k := 0) rfl rfl (by decide) rfl (fun ls hl => ?_)
            refine lv_goto (tgt := 18) hx hb dL_law_1769 (by decide) ?_
            have hi6 : (i + 6).toInt = i.toInt + 6 := gi_add (y := 6) (by show _ ≤ _ + (6 : Int); omega) (by show _ + (6 : Int) ≤ _; omega)
            exact ih (i + 6) zu1 yu1 zm1 ym1 (by omega) (by omega) (by omega) hJU hJM hE.2 _ _ hPU hPM hS _ hl
          | 38, _, hkn =>
            refine lv_tableIn (tgt := 1598) hx hb dL_law_33 (by omega) (by omega) (by rw [hkn]; rfl) (by decide) ?_
            refine lv_aload_n hx hb dL_law_1598 rfl (lv_at hl 2 rfl) ?_
            refine lv_aload_n hx hb dL_law_1599 rfl (lv_at hl 3 rfl) ?_
            refine lv_iload_n hx hb dL_law_1600 rfl (lv_at hl 0 rfl) ?_
            refine lv_iconst (v := 1) hx hb dL_law_1601 (by decide) ?_
            refine lv_iadd hx hb dL_law_1602 ?_
            refine va_sld hx hb hX hbl hbA hS (gi_in (by omega) (by omega)) dL_law_1603 ?_
            refine lv_aload_n hx hb dL_law_1604 rfl (lv_at hl 3 rfl) ?_
            refine lv_iload_n hx hb dL_law_1605 rfl (lv_at hl 0 rfl) ?_
            refine lv_iconst (v := 2) hx hb dL_law_1606 (by decide) ?_
            refine lv_iadd hx hb dL_law_1607 ?_
            refine va_sld hx hb hX hbl hbA hS (gi_in (by omega) (by omega)) dL_law_1608 ?_
            refine lv_aload_n hx hb dL_law_1609 rfl (lv_at hl 3 rfl) ?_
            refine lv_iload_n hx hb dL_law_1610 rfl (lv_at hl 0 rfl) ?_
            refine lv_iconst (v := 3) hx hb dL_law_1611 (by decide) ?_
            refine lv_iadd hx hb dL_law_1612 ?_
            refine va_sld hx hb hX hbl hbA hS (gi_in (by omega) (by omega)) dL_law_1613 ?_
            refine qc_Vi2 (As := [.int (xs (i + 1).toNatClampNeg), .int (xs (i + 2).toNatClampNeg), .int (xs (i + 3).toNatClampNeg)]) (rest := []) (k0 := 3) (u_between l D ca (a + 0) zu zu yu JU (xs (i + 1).toNatClampNeg) (xs (i + 2).toNatClampNeg) (xs (i + 3).toNatClampNeg)) kc_yX10_between ⟨hx, hb, hml, hown, hts⟩ wq_800 rfl rfl ⟨Nat.le_of_ble_eq_true rfl, Nat.le_of_ble_eq_true rfl⟩ wq_all hPU hK hS hAu (q0 := 0) (by decide) (hgU_0 ca (a + 0) _ _) rfl rfl hl.1 rfl (Nat.le_of_ble_eq_true rfl) dL_law_1614 ⟨Nat.le_of_ble_eq_true rfl, Nat.le_of_ble_eq_true rfl⟩ (fun ru zu1 yu1 H locs1 hu hPU hS _ hk => ?_)
            have hPM := qw_kept2 hPM hk (by omega)
            refine lv_pop hx hb dL_law_1617 rfl ?_
            refine lv_aload_n hx hb dL_law_1618 rfl (lv_at hl 1 rfl) ?_
            refine lv_aload_n hx hb dL_law_1619 rfl (lv_at hl 3 rfl) ?_
            refine lv_iload_n hx hb dL_law_1620 rfl (lv_at hl 0 rfl) ?_
            refine lv_iconst (v := 1) hx hb dL_law_1621 (by decide) ?_
            refine lv_iadd hx hb dL_law_1622 ?_
            refine va_sld hx hb hX hbl hbA hS (gi_in (by omega) (by omega)) dL_law_1623 ?_
            refine lv_aload_n hx hb dL_law_1624 rfl (lv_at hl 3 rfl) ?_
            refine lv_iload_n hx hb dL_law_1625 rfl (lv_at hl 0 rfl) ?_
            refine lv_iconst (v := 2) hx hb dL_law_1626 (by decide) ?_
            refine lv_iadd hx hb dL_law_1627 ?_
            refine va_sld hx hb hX hbl hbA hS (gi_in (by omega) (by omega)) dL_law_1628 ?_
            refine lv_aload_n hx hb dL_law_1629 rfl (lv_at hl 3 rfl) ?_
            refine lv_iload_n hx hb dL_law_1630 rfl (lv_at hl 0 rfl) ?_
            refine lv_iconst (v := 3) hx hb dL_law_1631 (by decide) ?_
            refine lv_iadd hx hb dL_law_1632 ?_
            refine va_sld hx hb hX hbl hbA hS (gi_in (by omega) (by omega)) dL_law_1633 ?_
            refine qc_Vi2 (As := [.int (xs (i + 1).toNatClampNeg), .int (xs (i + 2).toNatClampNeg), .int (xs (i + 3).toNatClampNeg)]) (rest := []) (k0 := 3) (m_between l D ca (a + 132) zm zm ym JM (xs (i + 1).toNatClampNeg) (xs (i + 2).toNatClampNeg) (xs (i + 3).toNatClampNeg)) kc_yX11_between ⟨hx, hb, hml, hown, hts⟩ wq_1523 rfl rfl ⟨Nat.le_of_ble_eq_true rfl, Nat.le_of_ble_eq_true rfl⟩ wq_all hPM hK hS hAm (q0 := 0) (by decide) (hgM_0 ca (a + 132) _ _) rfl rfl hl.1 rfl (Nat.le_of_ble_eq_true rfl) dL_law_1634 ⟨Nat.le_of_ble_eq_true rfl, Nat.le_of_ble_eq_true rfl⟩ (fun rm zm1 ym1 H locs1 hm hPM hS _ hk => ?_)
            have hPU := qw_kept2 hPU hk (by omega)
            refine lv_pop hx hb dL_law_1637 rfl ?_
            refine lv_goto (tgt := 1766) hx hb dL_law_1638 (by decide) ?_
            have hJU : qJU zu1 zu1 := ⟨hu.2.1, qK_rf⟩
            have hJM : qJM zm1 zm1 := ⟨hm.2.1, qK_rf, hm.2.2.2⟩
            have hE : True ∧ REL zu1 zm1 := ⟨trivial, REL_K RR hu.2.2 hm.2.2.1⟩
            refine lv_iinc (v := i + 6) (lv' := [(3, .int (i + 6)), (2, .ref (a + 132)), (1, .ref (a + 0)), (0, .ref b)]) hx hb dL_law_1766 hl (k := 0) rfl rfl (by decide) rfl (fun ls hl => ?_)
            refine lv_goto (tgt := 18) hx hb dL_law_1769 (by decide) ?_
            have hi6 : (i + 6).toInt = i.toInt + 6 := gi_add (y := 6) (by show _ ≤ _ + (6 : Int); omega) (by show _ + (6 : Int) ≤ _; omega)
            exact ih (i + 6) zu1 yu1 zm1 ym1 (by omega) (by omega) (by omega) hJU hJM hE.2 _ _ hPU hPM hS _ hl
          | 39, _, hkn =>
            refine lv_tableIn (tgt := 1641) hx hb dL_law_33 (by omega) (by omega) (by rw [hkn]; rfl) (by decide) ?_
            refine lv_aload_n hx hb dL_law_1641 rfl (lv_at hl 2 rfl) ?_
            refine lv_aload_n hx hb dL_law_1642 rfl (lv_at hl 3 rfl) ?_
            refine lv_iload_n hx hb dL_law_1643 rfl (lv_at hl 0 rfl) ?_
            refine lv_iconst (v := 1) hx hb dL_law_1644 (by decide) ?_
            refine lv_iadd hx hb dL_law_1645 ?_
            refine va_sld hx hb hX hbl hbA hS (gi_in (by omega) (by omega)) dL_law_1646 ?_
            refine lv_aload_n hx hb dL_law_1647 rfl (lv_at hl 3 rfl) ?_
            refine lv_iload_n hx hb dL_law_1648 rfl (lv_at hl 0 rfl) ?_
            refine lv_iconst (v := 2) hx hb dL_law_1649 (by decide) ?_
            refine lv_iadd hx hb dL_law_1650 ?_
            refine va_sld hx hb hX hbl hbA hS (gi_in (by omega) (by omega)) dL_law_1651 ?_
            refine lv_aload_n hx hb dL_law_1652 rfl (lv_at hl 3 rfl) ?_
            refine lv_iload_n hx hb dL_law_1653 rfl (lv_at hl 0 rfl) ?_
            refine lv_iconst (v := 3) hx hb dL_law_1654 (by decide) ?_
            refine lv_iadd hx hb dL_law_1655 ?_
            refine va_sld hx hb hX hbl hbA hS (gi_in (by omega) (by omega)) dL_law_1656 ?_
            refine lv_aload_n hx hb dL_law_1657 rfl (lv_at hl 3 rfl) ?_
            refine lv_iload_n hx hb dL_law_1658 rfl (lv_at hl 0 rfl) ?_
            refine lv_iconst (v := 4) hx hb dL_law_1659 (by decide) ?_
            refine lv_iadd hx hb dL_law_1660 ?_
            refine va_sld hx hb hX hbl hbA hS (gi_in (by omega) (by omega)) dL_law_1661 ?_
            refine qc_Vl2 (As := [.int (xs (i + 1).toNatClampNeg), .int (xs (i + 2).toNatClampNeg), .int (xs (i + 3).toNatClampNeg), .int (xs (i + 4).toNatClampNeg)]) (rest := []) (k0 := 4) (u_howOld l D ca (a + 0) zu zu yu JU (xs (i + 1).toNatClampNeg) (xs (i + 2).toNatClampNeg) (xs (i + 3).toNatClampNeg) (xs (i + 4).toNatClampNeg)) kc_yX10_howOld ⟨hx, hb, hml, hown, hts⟩ wq_970 rfl rfl ⟨Nat.le_of_ble_eq_true rfl, Nat.le_of_ble_eq_true rfl⟩ wq_all hPU hK hS hAu (q0 := 0) (by decide) (hgU_0 ca (a + 0) _ _) rfl rfl hl.1 rfl (Nat.le_of_ble_eq_true rfl) dL_law_1662 ⟨Nat.le_of_ble_eq_true rfl, Nat.le_of_ble_eq_true rfl⟩ (fun ru zu1 yu1 H locs1 hu hPU hS _ hk => ?_)
            have hPM := qw_kept2 hPM hk (by omega)
            refine lv_pop2_2 hx hb dL_law_1665 rfl ?_
            refine lv_aload_n hx hb dL_law_1666 rfl (lv_at hl 1 rfl) ?_
            refine lv_aload_n hx hb dL_law_1667 rfl (lv_at hl 3 rfl) ?_
            refine lv_iload_n hx hb dL_law_1668 rfl (lv_at hl 0 rfl) ?_
            refine lv_iconst (v := 1) hx hb dL_law_1669 (by decide) ?_
            refine lv_iadd hx hb dL_law_1670 ?_
            refine va_sld hx hb hX hbl hbA hS (gi_in (by omega) (by omega)) dL_law_1671 ?_
            refine lv_aload_n hx hb dL_law_1672 rfl (lv_at hl 3 rfl) ?_
            refine lv_iload_n hx hb dL_law_1673 rfl (lv_at hl 0 rfl) ?_
            refine lv_iconst (v := 2) hx hb dL_law_1674 (by decide) ?_
            refine lv_iadd hx hb dL_law_1675 ?_
            refine va_sld hx hb hX hbl hbA hS (gi_in (by omega) (by omega)) dL_law_1676 ?_
            refine lv_aload_n hx hb dL_law_1677 rfl (lv_at hl 3 rfl) ?_
            refine lv_iload_n hx hb dL_law_1678 rfl (lv_at hl 0 rfl) ?_
            refine lv_iconst (v := 3) hx hb dL_law_1679 (by decide) ?_
            refine lv_iadd hx hb dL_law_1680 ?_
            refine va_sld hx hb hX hbl hbA hS (gi_in (by omega) (by omega)) dL_law_1681 ?_
            refine lv_aload_n hx hb dL_law_1682 rfl (lv_at hl 3 rfl) ?_
            refine lv_iload_n hx hb dL_law_1683 rfl (lv_at hl 0 rfl) ?_
            refine lv_iconst (v := 4) hx hb dL_law_1684 (by decide) ?_
            refine lv_iadd hx hb dL_law_1685 ?_
            refine va_sld hx hb hX hbl hbA hS (gi_in (by omega) (by omega)) dL_law_1686 ?_
            refine qc_Vl2 (As := [.int (xs (i + 1).toNatClampNeg), .int (xs (i + 2).toNatClampNeg), .int (xs (i + 3).toNatClampNeg), .int (xs (i + 4).toNatClampNeg)]) (rest := []) (k0 := 4) (m_howOld l D ca (a + 132) zm zm ym JM (xs (i + 1).toNatClampNeg) (xs (i + 2).toNatClampNeg) (xs (i + 3).toNatClampNeg) (xs (i + 4).toNatClampNeg)) kc_yX11_howOld ⟨hx, hb, hml, hown, hts⟩ wq_1578 rfl rfl ⟨Nat.le_of_ble_eq_true rfl, Nat.le_of_ble_eq_true rfl⟩ wq_all hPM hK hS hAm (q0 := 0) (by decide) (hgM_0 ca (a + 132) _ _) rfl rfl hl.1 rfl (Nat.le_of_ble_eq_true rfl) dL_law_1687 ⟨Nat.le_of_ble_eq_true rfl, Nat.le_of_ble_eq_true rfl⟩ (fun rm zm1 ym1 H locs1 hm hPM hS _ hk => ?_)
            have hPU := qw_kept2 hPU hk (by omega)
            refine lv_pop2_2 hx hb dL_law_1690 rfl ?_
            refine lv_goto (tgt := 1766) hx hb dL_law_1691 (by decide) ?_
            have hJU : qJU zu1 zu1 := ⟨hu.1, qK_rf⟩
            have hJM : qJM zm1 zm1 := ⟨hm.1, qK_rf, hm.2.2⟩
            have hE : True ∧ REL zu1 zm1 := ⟨trivial, REL_K RR hu.2 hm.2.1⟩
            refine lv_iinc (v := i + 6) (lv' := [(3, .int (i + 6)), (2, .ref (a + 132)), (1, .ref (a + 0)), (0, .ref b)]) hx hb dL_law_1766 hl (k := 0) rfl rfl (by decide) rfl (fun ls hl => ?_)
            refine lv_goto (tgt := 18) hx hb dL_law_1769 (by decide) ?_
            have hi6 : (i + 6).toInt = i.toInt + 6 := gi_add (y := 6) (by show _ ≤ _ + (6 : Int); omega) (by show _ + (6 : Int) ≤ _; omega)
            exact ih (i + 6) zu1 yu1 zm1 ym1 (by omega) (by omega) (by omega) hJU hJM hE.2 _ _ hPU hPM hS _ hl
          | 40, _, hkn =>
            refine lv_tableIn (tgt := 1694) hx hb dL_law_33 (by omega) (by omega) (by rw [hkn]; rfl) (by decide) ?_
            refine lv_aload_n hx hb dL_law_1694 rfl (lv_at hl 2 rfl) ?_
            refine qc_Vi2 (As := []) (rest := []) (k0 := 0) (u_keep l D ca (a + 0) zu zu yu JU ) kc_yX10_keep ⟨hx, hb, hml, hown, hts⟩ wq_539 rfl rfl ⟨Nat.le_of_ble_eq_true rfl, Nat.le_of_ble_eq_true rfl⟩ wq_all hPU hK hS hAu (q0 := 0) (by decide) (hgU_0 ca (a + 0) _ _) rfl rfl hl.1 rfl (Nat.le_of_ble_eq_true rfl) dL_law_1695 ⟨Nat.le_of_ble_eq_true rfl, Nat.le_of_ble_eq_true rfl⟩ (fun ru zu1 yu1 H locs1 hu hPU hS _ hk => ?_)
            have hPM := qw_kept2 hPM hk (by omega)
            refine lv_pop hx hb dL_law_1698 rfl ?_
            refine lv_aload_n hx hb dL_law_1699 rfl (lv_at hl 1 rfl) ?_
            refine qc_Vi2 (As := []) (rest := []) (k0 := 0) (m_keep l D ca (a + 132) zm zm ym JM ) kc_yX11_keep ⟨hx, hb, hml, hown, hts⟩ wq_1591 rfl rfl ⟨Nat.le_of_ble_eq_true rfl, Nat.le_of_ble_eq_true rfl⟩ wq_all hPM hK hS hAm (q0 := 0) (by decide) (hgM_0 ca (a + 132) _ _) rfl rfl hl.1 rfl (Nat.le_of_ble_eq_true rfl) dL_law_1700 ⟨Nat.le_of_ble_eq_true rfl, Nat.le_of_ble_eq_true rfl⟩ (fun rm zm1 ym1 H locs1 hm hPM hS _ hk => ?_)
            have hPU := qw_kept2 hPU hk (by omega)
            refine lv_pop hx hb dL_law_1703 rfl ?_
            refine lv_goto (tgt := 1766) hx hb dL_law_1704 (by decide) ?_
            have hJU : qJU zu1 zu1 := hu.2.1
            have hJM : qJM zm1 zm1 := hm.2.1
            have hE : True ∧ REL zu1 zm1 := ⟨trivial, law_keep RR hu.2.2 hm.2.2⟩
            refine lv_iinc (v := i + 6) (lv' := [(3, .int (i + 6)), (2, .ref (a + 132)), (1, .ref (a + 0)), (0, .ref b)]) hx hb dL_law_1766 hl (k := 0) rfl rfl (by decide) rfl (fun ls hl => ?_)
            refine lv_goto (tgt := 18) hx hb dL_law_1769 (by decide) ?_
            have hi6 : (i + 6).toInt = i.toInt + 6 := gi_add (y := 6) (by show _ ≤ _ + (6 : Int); omega) (by show _ + (6 : Int) ≤ _; omega)
            exact ih (i + 6) zu1 yu1 zm1 ym1 (by omega) (by omega) (by omega) hJU hJM hE.2 _ _ hPU hPM hS _ hl
          | 41, _, hkn =>
            refine lv_tableIn (tgt := 1707) hx hb dL_law_33 (by omega) (by omega) (by rw [hkn]; rfl) (by decide) ?_
            refine lv_aload_n hx hb dL_law_1707 rfl (lv_at hl 2 rfl) ?_
            refine qc_Vi2 (As := []) (rest := []) (k0 := 0) (u_undo l D ca (a + 0) zu zu yu JU ) kc_yX10_undo ⟨hx, hb, hml, hown, hts⟩ wq_557 rfl rfl ⟨Nat.le_of_ble_eq_true rfl, Nat.le_of_ble_eq_true rfl⟩ wq_all hPU hK hS hAu (q0 := 0) (by decide) (hgU_0 ca (a + 0) _ _) rfl rfl hl.1 rfl (Nat.le_of_ble_eq_true rfl) dL_law_1708 ⟨Nat.le_of_ble_eq_true rfl, Nat.le_of_ble_eq_true rfl⟩ (fun ru zu1 yu1 H locs1 hu hPU hS _ hk => ?_)
            have hPM := qw_kept2 hPM hk (by omega)
            refine lv_aload_n hx hb dL_law_1711 rfl (lv_at hl 1 rfl) ?_
            refine qc_Vi2 (As := []) (rest := [.int ru]) (k0 := 0) (m_undo l D ca (a + 132) zm zm ym JM ) kc_yX11_undo ⟨hx, hb, hml, hown, hts⟩ wq_1607 rfl rfl ⟨Nat.le_of_ble_eq_true rfl, Nat.le_of_ble_eq_true rfl⟩ wq_all hPM hK hS hAm (q0 := 0) (by decide) (hgM_0 ca (a + 132) _ _) rfl rfl hl.1 rfl (Nat.le_of_ble_eq_true rfl) dL_law_1712 ⟨Nat.le_of_ble_eq_true rfl, Nat.le_of_ble_eq_true rfl⟩ (fun rm zm1 ym1 H locs1 hm hPM hS _ hk => ?_)
            have hPU := qw_kept2 hPU hk (by omega)
            have hJU : qJU zu1 zu1 := hu.2
            have hJM : qJM zm1 zm1 := hm.2
            have hE : ru = rm ∧ REL zu1 zm1 := law_undo RR hu.1 hm.1
            refine lv_icmp_eq (tgt := 1766) hx hb dL_law_1715 (by decide) (fun _ => ?_) (fun q => absurd hE.1 q)
            refine lv_iinc (v := i + 6) (lv' := [(3, .int (i + 6)), (2, .ref (a + 132)), (1, .ref (a + 0)), (0, .ref b)]) hx hb dL_law_1766 hl (k := 0) rfl rfl (by decide) rfl (fun ls hl => ?_)
            refine lv_goto (tgt := 18) hx hb dL_law_1769 (by decide) ?_
            have hi6 : (i + 6).toInt = i.toInt + 6 := gi_add (y := 6) (by show _ ≤ _ + (6 : Int); omega) (by show _ + (6 : Int) ≤ _; omega)
            exact ih (i + 6) zu1 yu1 zm1 ym1 (by omega) (by omega) (by omega) hJU hJM hE.2 _ _ hPU hPM hS _ hl
          | 42, _, hkn =>
            refine lv_tableIn (tgt := 1720) hx hb dL_law_33 (by omega) (by omega) (by rw [hkn]; rfl) (by decide) ?_
            refine lv_aload_n hx hb dL_law_1720 rfl (lv_at hl 2 rfl) ?_
            refine lv_aload_n hx hb dL_law_1721 rfl (lv_at hl 3 rfl) ?_
            refine lv_iload_n hx hb dL_law_1722 rfl (lv_at hl 0 rfl) ?_
            refine lv_iconst (v := 1) hx hb dL_law_1723 (by decide) ?_
            refine lv_iadd hx hb dL_law_1724 ?_
            refine va_sld hx hb hX hbl hbA hS (gi_in (by omega) (by omega)) dL_law_1725 ?_
            refine qc_Vi2 (As := [.int (xs (i + 1).toNatClampNeg)]) (rest := []) (k0 := 1) (u_check l D ca (a + 0) zu zu yu JU (xs (i + 1).toNatClampNeg)) kc_yX10_check ⟨hx, hb, hml, hown, hts⟩ wq_852 rfl rfl ⟨Nat.le_of_ble_eq_true rfl, Nat.le_of_ble_eq_true rfl⟩ wq_all hPU hK hS hAu (q0 := 0) (by decide) (hgU_0 ca (a + 0) _ _) rfl rfl hl.1 rfl (Nat.le_of_ble_eq_true rfl) dL_law_1726 ⟨Nat.le_of_ble_eq_true rfl, Nat.le_of_ble_eq_true rfl⟩ (fun ru zu1 yu1 H locs1 hu hPU hS _ hk => ?_)
            have hPM := qw_kept2 hPM hk (by omega)
            refine lv_pop hx hb dL_law_1729 rfl ?_
            refine lv_aload_n hx hb dL_law_1730 rfl (lv_at hl 1 rfl) ?_
            refine lv_aload_n hx hb dL_law_1731 rfl (lv_at hl 3 rfl) ?_
            refine lv_iload_n hx hb dL_law_1732 rfl (lv_at hl 0 rfl) ?_
            refine lv_iconst (v := 1) hx hb dL_law_1733 (by decide) ?_
            refine lv_iadd hx hb dL_law_1734 ?_
            refine va_sld hx hb hX hbl hbA hS (gi_in (by omega) (by omega)) dL_law_1735 ?_
            refine qc_Vi2 (As := [.int (xs (i + 1).toNatClampNeg)]) (rest := []) (k0 := 1) (m_check l D ca (a + 132) zm zm ym JM (xs (i + 1).toNatClampNeg)) kc_yX11_check ⟨hx, hb, hml, hown, hts⟩ wq_1611 rfl rfl ⟨Nat.le_of_ble_eq_true rfl, Nat.le_of_ble_eq_true rfl⟩ wq_all hPM hK hS hAm (q0 := 0) (by decide) (hgM_0 ca (a + 132) _ _) rfl rfl hl.1 rfl (Nat.le_of_ble_eq_true rfl) dL_law_1736 ⟨Nat.le_of_ble_eq_true rfl, Nat.le_of_ble_eq_true rfl⟩ (fun rm zm1 ym1 H locs1 hm hPM hS _ hk => ?_)
            have hPU := qw_kept2 hPU hk (by omega)
            refine lv_pop hx hb dL_law_1739 rfl ?_
            refine lv_goto (tgt := 1766) hx hb dL_law_1740 (by decide) ?_
            have hJU : qJU zu1 zu1 := ⟨hu.2.1, qK_rf⟩
            have hJM : qJM zm1 zm1 := ⟨hm.2.1, qK_rf, hm.2.2.2⟩
            have hE : True ∧ REL zu1 zm1 := ⟨trivial, REL_K RR hu.2.2 hm.2.2.1⟩
            refine lv_iinc (v := i + 6) (lv' := [(3, .int (i + 6)), (2, .ref (a + 132)), (1, .ref (a + 0)), (0, .ref b)]) hx hb dL_law_1766 hl (k := 0) rfl rfl (by decide) rfl (fun ls hl => ?_)
            refine lv_goto (tgt := 18) hx hb dL_law_1769 (by decide) ?_
            have hi6 : (i + 6).toInt = i.toInt + 6 := gi_add (y := 6) (by show _ ≤ _ + (6 : Int); omega) (by show _ + (6 : Int) ≤ _; omega)
            exact ih (i + 6) zu1 yu1 zm1 ym1 (by omega) (by omega) (by omega) hJU hJM hE.2 _ _ hPU hPM hS _ hl
          | 43, _, hkn =>
            refine lv_tableIn (tgt := 1743) hx hb dL_law_33 (by omega) (by omega) (by rw [hkn]; rfl) (by decide) ?_
            refine lv_aload_n hx hb dL_law_1743 rfl (lv_at hl 2 rfl) ?_
            refine lv_aload_n hx hb dL_law_1744 rfl (lv_at hl 3 rfl) ?_
            refine lv_iload_n hx hb dL_law_1745 rfl (lv_at hl 0 rfl) ?_
            refine lv_iconst (v := 1) hx hb dL_law_1746 (by decide) ?_
            refine lv_iadd hx hb dL_law_1747 ?_
            refine va_sld hx hb hX hbl hbA hS (gi_in (by omega) (by omega)) dL_law_1748 ?_
            refine qc_Vip (As := [.int (xs (i + 1).toNatClampNeg)]) (rest := []) (k0 := 1) (u_count l D ca (a + 0) zu zu yu JU (xs (i + 1).toNatClampNeg)) kc_yX10_count ⟨hx, hb, hml, hown, hts⟩ wq_561 rfl rfl ⟨Nat.le_of_ble_eq_true rfl, Nat.le_of_ble_eq_true rfl⟩ wq_all hPU hK hS hAu (q0 := 0) (by decide) (hgU_0 ca (a + 0) _ _) rfl rfl hl.1 rfl (Nat.le_of_ble_eq_true rfl) dL_law_1749 ⟨Nat.le_of_ble_eq_true rfl, Nat.le_of_ble_eq_true rfl⟩ (fun ru H locs1 hu hPU hS _ hk => ?_)
            have hPM := qw_kept2 hPM hk (by omega)
            refine lv_pop hx hb dL_law_1752 rfl ?_
            refine lv_aload_n hx hb dL_law_1753 rfl (lv_at hl 1 rfl) ?_
            refine lv_aload_n hx hb dL_law_1754 rfl (lv_at hl 3 rfl) ?_
            refine lv_iload_n hx hb dL_law_1755 rfl (lv_at hl 0 rfl) ?_
            refine lv_iconst (v := 1) hx hb dL_law_1756 (by decide) ?_
            refine lv_iadd hx hb dL_law_1757 ?_
            refine va_sld hx hb hX hbl hbA hS (gi_in (by omega) (by omega)) dL_law_1758 ?_
            refine qc_Vip (As := [.int (xs (i + 1).toNatClampNeg)]) (rest := []) (k0 := 1) (m_count l D ca (a + 132) zm zm ym JM (xs (i + 1).toNatClampNeg)) kc_yX11_count ⟨hx, hb, hml, hown, hts⟩ wq_1615 rfl rfl ⟨Nat.le_of_ble_eq_true rfl, Nat.le_of_ble_eq_true rfl⟩ wq_all hPM hK hS hAm (q0 := 0) (by decide) (hgM_0 ca (a + 132) _ _) rfl rfl hl.1 rfl (Nat.le_of_ble_eq_true rfl) dL_law_1759 ⟨Nat.le_of_ble_eq_true rfl, Nat.le_of_ble_eq_true rfl⟩ (fun rm H locs1 hm hPM hS _ hk => ?_)
            have hPU := qw_kept2 hPU hk (by omega)
            refine lv_pop hx hb dL_law_1762 rfl ?_
            refine lv_goto (tgt := 1766) hx hb dL_law_1763 (by decide) ?_
            have hJU : qJU zu zu := JU
            have hJM : qJM zm zm := JM
            have hE : True ∧ REL zu zm := ⟨trivial, REL_K RR qK_rf qK_rf⟩
            refine lv_iinc (v := i + 6) (lv' := [(3, .int (i + 6)), (2, .ref (a + 132)), (1, .ref (a + 0)), (0, .ref b)]) hx hb dL_law_1766 hl (k := 0) rfl rfl (by decide) rfl (fun ls hl => ?_)
            refine lv_goto (tgt := 18) hx hb dL_law_1769 (by decide) ?_
            have hi6 : (i + 6).toInt = i.toInt + 6 := gi_add (y := 6) (by show _ ≤ _ + (6 : Int); omega) (by show _ + (6 : Int) ≤ _; omega)
            exact ih (i + 6) zu yu zm ym (by omega) (by omega) (by omega) hJU hJM hE.2 _ _ hPU hPM hS _ hl
          | n1 + 44, hn1, _ => exact absurd hn1 (by omega)
  exact loop (L + 1) 0 _ _ _ _ (by show (L : Int) - (0 : Int) < _; omega) (by decide) (by decide) (zU0_J _ _ _ _) (zM0_J _ _) (z0_REL _ _ _ _ _ _) _ _ hPU hPM hS _ hl
