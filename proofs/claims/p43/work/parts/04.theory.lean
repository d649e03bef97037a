/-! worlds as functions: n cells at o, o + 1, ..; cell k holds w k -/
def qw_P (D : va_G) (cl : List vw_C) (o n : Nat) (w : Nat → va_E) (H : Heap) : Prop := ∀ k, k < n → va_at D cl (o + k, w k) H
def qw_A (o n : Nat) : Nat → Prop := fun q => o ≤ q ∧ q < o + n
def qw_l (o n : Nat) (w : Nat → va_E) : va_W := (List.range n).map (fun k => (o + k, w k))
theorem qw_l_get {o n : Nat} {w : Nat → va_E} {k : Nat} (h : k < n) : (qw_l o n w)[k]? = some (o + k, w k) := by
  simp [qw_l, h]
theorem qw_l_inv {o n : Nat} {w : Nat → va_E} {k : Nat} {x : Nat × va_E} (h : (qw_l o n w)[k]? = some x) : k < n ∧ x = (o + k, w k) := by
  have hk : k < n := by
    have := (List.getElem?_eq_some_iff.mp h).1
    simpa [qw_l] using this
  rw [qw_l_get hk] at h
  exact ⟨hk, (Option.some.inj h).symm⟩
theorem qw_P_of {D : va_G} {cl : List vw_C} {o n : Nat} {w : Nat → va_E} {H : Heap} (h : qw_P D cl o n w H) : va_P D cl (qw_l o n w) H := by
  intro k q hk
  obtain ⟨h1, rfl⟩ := qw_l_inv hk
  exact h k h1
theorem qw_P_to {D : va_G} {cl : List vw_C} {o n : Nat} {w : Nat → va_E} {H : Heap} (h : va_P D cl (qw_l o n w) H) : qw_P D cl o n w H := fun k hk => h k _ (qw_l_get hk)
theorem qw_l_set {o n : Nat} {w : Nat → va_E} {q0 : Nat} (hq : q0 < n) (e : va_E) : (qw_l o n w).set q0 (o + q0, e) = qw_l o n (va_up w q0 e) := by
  apply List.ext_getElem?
  intro k
  by_cases hk : k < n
  · rw [qw_l_get hk]
    by_cases h : k = q0
    · subst h
      rw [List.getElem?_set_self (by simpa [qw_l] using hk)]
      simp [va_up]
    · rw [List.getElem?_set_ne (Ne.symm h), qw_l_get hk]
      simp [va_up, h]
  · rw [List.getElem?_eq_none (by simp [qw_l]; omega), List.getElem?_eq_none (by simp [qw_l]; omega)]
theorem qw_D {A : Nat → Prop} {o n : Nat} {w : Nat → va_E} (hA : ∀ q, qw_A o n q → A q) : va_D A (qw_l o n w) := by
  refine ⟨fun i j p q hi hj h => ?_, fun k q hk => ?_⟩
  · obtain ⟨_, rfl⟩ := qw_l_inv hi
    obtain ⟨_, rfl⟩ := qw_l_inv hj
    have h : o + i = o + j := h
    omega
  · obtain ⟨h, rfl⟩ := qw_l_inv hk
    exact hA _ ⟨Nat.le_add_right _ _, Nat.add_lt_add_left h _⟩
theorem qw_Ai {o n : Nat} : ∀ q, qw_A o n q → qw_A o n q := fun _ h => h
theorem qw_kept {D : va_G} {cl : List vw_C} {o n : Nat} {w : Nat → va_E} {H H1 : Heap} (h : qw_P D cl o n w H) (hq : ∀ q, qw_A o n q → H1[q]? = H[q]?) : qw_P D cl o n w H1 :=
  fun k hk => (h k hk).kept (hq _ ⟨Nat.le_add_right _ _, Nat.add_lt_add_left hk _⟩)
theorem qw_to {D : va_G} {cl : List vw_C} {o n : Nat} {w w' : Nat → va_E} {H : Heap} (h : qw_P D cl o n w H) (hw : ∀ k, k < n → w k = w' k) : qw_P D cl o n w' H := fun k hk => by
  rw [← hw k hk]; exact h k hk
/-! what the cells hold: ints z, longs y, by cell and place -/
def qu (z : Nat → Nat → Int32) (a b : Nat) (x : Int32) : Nat → Nat → Int32 := fun k => if k = a then upd (z a) b x else z k
def qul (y : Nat → Nat → Int64) (a b : Nat) (x : Int64) : Nat → Nat → Int64 := fun k => if k = a then vp_updL (y a) b x else y k
def qG (G : Nat → (Nat → Int32) → (Nat → Int64) → va_E) (z : Nat → Nat → Int32) (y : Nat → Nat → Int64) : Nat → va_E := fun k => G k (z k) (y k)
theorem qu_ne {z : Nat → Nat → Int32} {a b k : Nat} {x : Int32} (h : k ≠ a) : qu z a b x k = z k := if_neg h
theorem qu_eq {z : Nat → Nat → Int32} {a b : Nat} {x : Int32} : qu z a b x a = upd (z a) b x := if_pos rfl
theorem qu_at {z : Nat → Nat → Int32} {a b : Nat} {x : Int32} : qu z a b x a b = x := by rw [qu_eq]; simp [upd]
theorem qu_off {z : Nat → Nat → Int32} {a b j : Nat} {x : Int32} (h : j ≠ b) : qu z a b x a j = z a j := by rw [qu_eq]; simp [upd, h]
theorem qul_ne {y : Nat → Nat → Int64} {a b k : Nat} {x : Int64} (h : k ≠ a) : qul y a b x k = y k := if_neg h
theorem qul_eq {y : Nat → Nat → Int64} {a b : Nat} {x : Int64} : qul y a b x a = vp_updL (y a) b x := if_pos rfl
theorem qw_G_up {G : Nat → (Nat → Int32) → (Nat → Int64) → va_E} {z : Nat → Nat → Int32} {y : Nat → Nat → Int64} {a b : Nat} {x : Int32} {e : va_E} (h : G a (upd (z a) b x) (y a) = e) : va_up (qG G z y) a e = qG G (qu z a b x) y := by
  funext k
  by_cases hk : k = a
  · subst hk
    show (if k = k then e else _) = G k (qu z k b x k) (y k)
    rw [if_pos rfl, qu_eq, h]
  · show (if k = a then e else G k (z k) (y k)) = G k (qu z a b x k) (y k)
    rw [if_neg hk, qu_ne hk]
theorem qw_G_upl {G : Nat → (Nat → Int32) → (Nat → Int64) → va_E} {z : Nat → Nat → Int32} {y : Nat → Nat → Int64} {a b : Nat} {x : Int64} {e : va_E} (h : G a (z a) (vp_updL (y a) b x) = e) : va_up (qG G z y) a e = qG G z (qul y a b x) := by
  funext k
  by_cases hk : k = a
  · subst hk
    show (if k = k then e else _) = G k (z k) (qul y k b x k)
    rw [if_pos rfl, qul_eq, h]
  · show (if k = a then e else G k (z k) (y k)) = G k (z k) (qul y a b x k)
    rw [if_neg hk, qul_ne hk]
section QW
variable {p : Program} {l : Launch} {e : Env} {R : Room} {s : State} {m : MethodId} {args : Array Value} {below : List Frame} {meth : Method} {c : Code} {H : Heap} {locs : List Loc} {cells slots : Nat} {Q : State → Prop}
variable {cc : ByteArray} {pc : Nat} {ls : Array Slot} {rest : List Value} {D : va_G} {cl : List vw_C} {tys : List (ClassId × FieldType)} {o n : Nat} {A : Nat → Prop} {H0 : Heap} {G : Nat → (Nat → Int32) → (Nat → Int64) → va_E} {z : Nat → Nat → Int32} {y : Nat → Nat → Int64}
/-- getfield -/
theorem qf_get (hexec : p.tables.exec = Jvm.exec) (hb : c.code = cc) {own C : String} {T : u_T} {N ci index : Nat} {Ts : List Cond} (hts : ∀ w ∈ Ts, w.before args s = true) (hin : ∀ w ∈ u_ws C T N, w ∈ Ts) (hown : s.vm.findClass own = some m.cls) (hK : va_K D cl tys s) (hP : qw_P D cl o n (qG G z y) H) {q0 : Nat} (hq : q0 < n) {F : (Nat → Int32) → List Value} (hg : ∀ f g, G q0 f g = .inr (ci, F f)) (hc : cl[ci]? = some (C, T, N)) (k : Nat) (hk : k < N)
    (hlink : (Cond.fieldLink own index (T k).1 (T k).2.1 (T k).2.2.1) ∈ Ts) {v : Value} (hv : (F (z q0))[k]? = some v) (hdg : decode cc pc = .ok (.getfield index, 3))
    (kk : W p l e R s m args below meth c H locs cells slots Q (F0 m (pc + 3) ls (v :: rest))) : W p l e R s m args below meth c H locs cells slots Q (F0 m pc ls (.ref (o + q0) :: rest)) :=
  va_get hexec hb hts hin hown hK (ws := qw_l o n (qG G z y)) (qw_P_of hP) q0 (by rw [qw_l_get hq]; exact congrArg (fun t => some (o + q0, t)) (hg _ _)) hc k hk (hts _ hlink) (fun _ h => h) hv hdg kk
/-- putfield of an int or a boolean -/
theorem qf_put (hexec : p.tables.exec = Jvm.exec) (hb : c.code = cc) {own C : String} {T : u_T} {N ci index : Nat} {Ts : List Cond} (hts : ∀ w ∈ Ts, w.before args s = true) (hin : ∀ w ∈ u_ws C T N, w ∈ Ts) (ty0 : Nat → FieldType) (hty : ∀ k, k < N → parseFieldDescriptor (T k).2.2.1 = some (ty0 k)) (hnm : ∀ a, a < N → ∀ b, b < N → a ≠ b → (T a).2.1 ≠ (T b).2.1) (hown : s.vm.findClass own = some m.cls) (hK : va_K D cl tys s) (hP : qw_P D cl o n (qG G z y) H) (hS0 : va_S A H0 H locs) (hA : ∀ q, qw_A o n q → A q) {q0 : Nat} (hq : q0 < n) {F : (Nat → Int32) → List Value} (hg : ∀ f g, G q0 f g = .inr (ci, F f)) (hc : cl[ci]? = some (C, T, N)) (k : Nat) (hk : k < N)
    (hlink : (Cond.fieldLink own index (T k).1 (T k).2.1 (T k).2.2.1) ∈ Ts) (hfin : (T k).2.2.2 = false) {x : Int32} (b : Nat) (hF : F (upd (z q0) b x) = (F (z q0)).set k (.int x)) (hn : narrow (ty0 k) (.int x) = .int x) (hfit : fits (ty0 k) (.int x) = true) (hl : k < (F (z q0)).length) (hdg : decode cc pc = .ok (.putfield index, 3))
    (kk : ∀ (H1 : Heap) (locs1 : List Loc), qw_P D cl o n (qG G (qu z q0 b x) y) H1 → va_S A H0 H1 locs1 → W p l e R s m args below meth c H1 locs1 cells slots Q (F0 m (pc + 3) ls rest)) : W p l e R s m args below meth c H locs cells slots Q (F0 m pc ls (.int x :: .ref (o + q0) :: rest)) := by
  refine va_put hexec hb hts hin ty0 hty hnm hown hK (ws := qw_l o n (qG G z y)) (qw_P_of hP) (qw_D hA) hS0 q0 (fs := F (z q0)) (by rw [qw_l_get hq]; exact congrArg (fun t => some (o + q0, t)) (hg _ _)) hc k hk (hts _ hlink) (fun _ h => h) hfin (hty k hk) hn hfit hl hdg ?_
  intro H1 locs1 h1 _ h3
  refine kk H1 locs1 ?_ h3
  rw [qw_l_set hq] at h1
  have h2 := qw_P_to h1
  rwa [qw_G_up (b := b) (x := x) (by rw [hg, hF])] at h2
/-- iaload -/
theorem qa_iald (hexec : p.tables.exec = Jvm.exec) (hb : c.code = cc) (hK : va_K D cl tys s) (hP : qw_P D cl o n (qG G z y) H) {q0 : Nat} (hq : q0 < n) (t0 : Nat) {cA : ClassId} {N : Nat} (hg : ∀ f g, G q0 f g = .inl (cA, N, .inl f)) (ht : tys[t0]? = some (cA, .int)) {i : Int32} (hin : vp_in i N) (hdg : decode cc pc = .ok (.iaload, 1))
    (kk : W p l e R s m args below meth c H locs cells slots Q (F0 m (pc + 1) ls (.int (z q0 i.toNatClampNeg) :: rest))) : W p l e R s m args below meth c H locs cells slots Q (F0 m pc ls (.int i :: .ref (o + q0) :: rest)) :=
  va_iald hexec hb hK (ws := qw_l o n (qG G z y)) (qw_P_of hP) q0 t0 (f := z q0) (by rw [qw_l_get hq]; exact congrArg (fun t => some (o + q0, t)) (hg _ _)) ht hin hdg kk
theorem qa_bald (hexec : p.tables.exec = Jvm.exec) (hb : c.code = cc) (hK : va_K D cl tys s) (hP : qw_P D cl o n (qG G z y) H) {q0 : Nat} (hq : q0 < n) (t0 : Nat) {cA : ClassId} {N : Nat} (hg : ∀ f g, G q0 f g = .inl (cA, N, .inl f)) (ht : tys[t0]? = some (cA, .byte)) {i : Int32} (hin : vp_in i N) (hdg : decode cc pc = .ok (.baload, 1))
    (kk : W p l e R s m args below meth c H locs cells slots Q (F0 m (pc + 1) ls (.int (z q0 i.toNatClampNeg) :: rest))) : W p l e R s m args below meth c H locs cells slots Q (F0 m pc ls (.int i :: .ref (o + q0) :: rest)) :=
  va_bald hexec hb hK (ws := qw_l o n (qG G z y)) (qw_P_of hP) q0 t0 (f := z q0) (by rw [qw_l_get hq]; exact congrArg (fun t => some (o + q0, t)) (hg _ _)) ht hin hdg kk
theorem qa_zald (hexec : p.tables.exec = Jvm.exec) (hb : c.code = cc) (hK : va_K D cl tys s) (hP : qw_P D cl o n (qG G z y) H) {q0 : Nat} (hq : q0 < n) (t0 : Nat) {cA : ClassId} {N : Nat} (hg : ∀ f g, G q0 f g = .inl (cA, N, .inl f)) (ht : tys[t0]? = some (cA, .boolean)) {i : Int32} (hin : vp_in i N) (hdg : decode cc pc = .ok (.baload, 1))
    (kk : W p l e R s m args below meth c H locs cells slots Q (F0 m (pc + 1) ls (.int (z q0 i.toNatClampNeg) :: rest))) : W p l e R s m args below meth c H locs cells slots Q (F0 m pc ls (.int i :: .ref (o + q0) :: rest)) :=
  va_zald hexec hb hK (ws := qw_l o n (qG G z y)) (qw_P_of hP) q0 t0 (f := z q0) (by rw [qw_l_get hq]; exact congrArg (fun t => some (o + q0, t)) (hg _ _)) ht hin hdg kk
theorem qa_lald (hexec : p.tables.exec = Jvm.exec) (hb : c.code = cc) (hK : va_K D cl tys s) (hP : qw_P D cl o n (qG G z y) H) {q0 : Nat} (hq : q0 < n) (t0 : Nat) {cA : ClassId} {N : Nat} (hg : ∀ f g, G q0 f g = .inl (cA, N, .inr (.inl g))) (ht : tys[t0]? = some (cA, .long)) {i : Int32} (hin : vp_in i N) (hdg : decode cc pc = .ok (.laload, 1))
    (kk : W p l e R s m args below meth c H locs cells slots Q (F0 m (pc + 1) ls (.long (y q0 i.toNatClampNeg) :: rest))) : W p l e R s m args below meth c H locs cells slots Q (F0 m pc ls (.int i :: .ref (o + q0) :: rest)) :=
  va_lald hexec hb hK (ws := qw_l o n (qG G z y)) (qw_P_of hP) q0 t0 (f := y q0) (by rw [qw_l_get hq]; exact congrArg (fun t => some (o + q0, t)) (hg _ _)) ht hin hdg kk
/-- aaload of a row of rows that never change: place j holds o + r j -/
theorem qa_aald (hexec : p.tables.exec = Jvm.exec) (hb : c.code = cc) (hK : va_K D cl tys s) (hP : qw_P D cl o n (qG G z y) H) {q0 : Nat} (hq : q0 < n) (t0 : Nat) {cA : ClassId} {ty : FieldType} (hty : ty.isReference = true) {N : Nat} {r : Nat → Nat} (hg : ∀ f g, G q0 f g = .inl (cA, N, .inr (.inr (.inr (.inr (fun j => some (o + r j))))))) (ht : tys[t0]? = some (cA, ty)) {i : Int32} (hin : vp_in i N) (hdg : decode cc pc = .ok (.aaload, 1))
    (kk : W p l e R s m args below meth c H locs cells slots Q (F0 m (pc + 1) ls (.ref (o + r i.toNatClampNeg) :: rest))) : W p l e R s m args below meth c H locs cells slots Q (F0 m pc ls (.int i :: .ref (o + q0) :: rest)) := by
  have hlt : i.toNatClampNeg < N := Nat.not_le.mp fun q => hin (Or.inr q)
  have ha := hP q0 hq
  rw [show qG G z y q0 = G q0 (z q0) (y q0) from rfl, hg] at ha
  exact W.aald (v := .ref (o + r i.toNatClampNeg)) (ty := ty) hexec hb ha ((hK.2 t0 _ ht).1 N (fun j => va_rf (some (o + r j)))) hty (fun q => by cases q) (by show ¬ (i < 0 ∨ (arrV _ _ _).slots.size ≤ _); rw [arrV_size]; exact hin) (by show (arrV _ _ _).slots[_]? = _; rw [arrV_read _ _ hlt]; rfl) rfl rfl hdg kk
theorem qa_iast (hexec : p.tables.exec = Jvm.exec) (hb : c.code = cc) (hK : va_K D cl tys s) (hP : qw_P D cl o n (qG G z y) H) (hS : va_S A H0 H locs) (hA : ∀ q, qw_A o n q → A q) {q0 : Nat} (hq : q0 < n) (t0 : Nat) {cA : ClassId} {N : Nat} (hg : ∀ f g, G q0 f g = .inl (cA, N, .inl f)) (ht : tys[t0]? = some (cA, .int)) {i x : Int32} (hin : vp_in i N) (hdg : decode cc pc = .ok (.iastore, 1))
    (kk : ∀ (H1 : Heap) (locs1 : List Loc), qw_P D cl o n (qG G (qu z q0 i.toNatClampNeg x) y) H1 → va_S A H0 H1 locs1 → W p l e R s m args below meth c H1 locs1 cells slots Q (F0 m (pc + 1) ls rest)) : W p l e R s m args below meth c H locs cells slots Q (F0 m pc ls (.int x :: .int i :: .ref (o + q0) :: rest)) := by
  refine va_iast hexec hb hK (ws := qw_l o n (qG G z y)) (qw_P_of hP) (qw_D hA) hS q0 t0 (f := z q0) (by rw [qw_l_get hq]; exact congrArg (fun t => some (o + q0, t)) (hg _ _)) ht hin hdg ?_
  intro H1 locs1 h1 _ h3
  rw [qw_l_set hq] at h1
  have h2 := qw_P_to h1
  exact kk H1 locs1 (by rwa [qw_G_up (b := i.toNatClampNeg) (x := x) (hg _ _)] at h2) h3
theorem qa_bast (hexec : p.tables.exec = Jvm.exec) (hb : c.code = cc) (hK : va_K D cl tys s) (hP : qw_P D cl o n (qG G z y) H) (hS : va_S A H0 H locs) (hA : ∀ q, qw_A o n q → A q) {q0 : Nat} (hq : q0 < n) (t0 : Nat) {cA : ClassId} {N : Nat} (hg : ∀ f g, G q0 f g = .inl (cA, N, .inl f)) (ht : tys[t0]? = some (cA, .byte)) {i x : Int32} (hin : vp_in i N) (hdg : decode cc pc = .ok (.bastore, 1))
    (kk : ∀ (H1 : Heap) (locs1 : List Loc), qw_P D cl o n (qG G (qu z q0 i.toNatClampNeg (vp_nar .byte x)) y) H1 → va_S A H0 H1 locs1 → W p l e R s m args below meth c H1 locs1 cells slots Q (F0 m (pc + 1) ls rest)) : W p l e R s m args below meth c H locs cells slots Q (F0 m pc ls (.int x :: .int i :: .ref (o + q0) :: rest)) := by
  refine va_bast hexec hb hK (ws := qw_l o n (qG G z y)) (qw_P_of hP) (qw_D hA) hS q0 t0 (f := z q0) (by rw [qw_l_get hq]; exact congrArg (fun t => some (o + q0, t)) (hg _ _)) ht hin hdg ?_
  intro H1 locs1 h1 _ h3
  rw [qw_l_set hq] at h1
  have h2 := qw_P_to h1
  exact kk H1 locs1 (by rwa [qw_G_up (b := i.toNatClampNeg) (x := vp_nar .byte x) (hg _ _)] at h2) h3
theorem qa_zast (hexec : p.tables.exec = Jvm.exec) (hb : c.code = cc) (hK : va_K D cl tys s) (hP : qw_P D cl o n (qG G z y) H) (hS : va_S A H0 H locs) (hA : ∀ q, qw_A o n q → A q) {q0 : Nat} (hq : q0 < n) (t0 : Nat) {cA : ClassId} {N : Nat} (hg : ∀ f g, G q0 f g = .inl (cA, N, .inl f)) (ht : tys[t0]? = some (cA, .boolean)) {i x : Int32} (hin : vp_in i N) (hdg : decode cc pc = .ok (.bastore, 1))
    (kk : ∀ (H1 : Heap) (locs1 : List Loc), qw_P D cl o n (qG G (qu z q0 i.toNatClampNeg (vp_nar .boolean x)) y) H1 → va_S A H0 H1 locs1 → W p l e R s m args below meth c H1 locs1 cells slots Q (F0 m (pc + 1) ls rest)) : W p l e R s m args below meth c H locs cells slots Q (F0 m pc ls (.int x :: .int i :: .ref (o + q0) :: rest)) := by
  refine va_zast hexec hb hK (ws := qw_l o n (qG G z y)) (qw_P_of hP) (qw_D hA) hS q0 t0 (f := z q0) (by rw [qw_l_get hq]; exact congrArg (fun t => some (o + q0, t)) (hg _ _)) ht hin hdg ?_
  intro H1 locs1 h1 _ h3
  rw [qw_l_set hq] at h1
  have h2 := qw_P_to h1
  exact kk H1 locs1 (by rwa [qw_G_up (b := i.toNatClampNeg) (x := vp_nar .boolean x) (hg _ _)] at h2) h3
theorem qa_last (hexec : p.tables.exec = Jvm.exec) (hb : c.code = cc) (hK : va_K D cl tys s) (hP : qw_P D cl o n (qG G z y) H) (hS : va_S A H0 H locs) (hA : ∀ q, qw_A o n q → A q) {q0 : Nat} (hq : q0 < n) (t0 : Nat) {cA : ClassId} {N : Nat} (hg : ∀ f g, G q0 f g = .inl (cA, N, .inr (.inl g))) (ht : tys[t0]? = some (cA, .long)) {i : Int32} {x : Int64} (hin : vp_in i N) (hdg : decode cc pc = .ok (.lastore, 1))
    (kk : ∀ (H1 : Heap) (locs1 : List Loc), qw_P D cl o n (qG G z (qul y q0 i.toNatClampNeg x)) H1 → va_S A H0 H1 locs1 → W p l e R s m args below meth c H1 locs1 cells slots Q (F0 m (pc + 1) ls rest)) : W p l e R s m args below meth c H locs cells slots Q (F0 m pc ls (.long x :: .int i :: .ref (o + q0) :: rest)) := by
  refine va_last hexec hb hK (ws := qw_l o n (qG G z y)) (qw_P_of hP) (qw_D hA) hS q0 t0 (f := y q0) (by rw [qw_l_get hq]; exact congrArg (fun t => some (o + q0, t)) (hg _ _)) ht hin hdg ?_
  intro H1 locs1 h1 _ h3
  rw [qw_l_set hq] at h1
  have h2 := qw_P_to h1
  exact kk H1 locs1 (by rwa [qw_G_upl (b := i.toNatClampNeg) (x := x) (hg _ _)] at h2) h3
theorem qa_len (hexec : p.tables.exec = Jvm.exec) (hb : c.code = cc) (hK : va_K D cl tys s) (hP : qw_P D cl o n (qG G z y) H) {q0 : Nat} (hq : q0 < n) (t0 : Nat) {cA : ClassId} {x : (Nat → Int32) → (Nat → Int64) → vp_A} (hg : ∀ f g, G q0 f g = .inl (cA, x f g)) {ty : FieldType} (ht : tys[t0]? = some (cA, ty)) {v : Int32} (hv : Int32.ofNat (x (z q0) (y q0)).1 = v) (hdg : decode cc pc = .ok (.arraylength, 1))
    (kk : W p l e R s m args below meth c H locs cells slots Q (F0 m (pc + 1) ls (.int v :: rest))) : W p l e R s m args below meth c H locs cells slots Q (F0 m pc ls (.ref (o + q0) :: rest)) :=
  va_alen hexec hb hK (ws := qw_l o n (qG G z y)) (qw_P_of hP) q0 t0 (x := x (z q0) (y q0)) (by rw [qw_l_get hq]; exact congrArg (fun t => some (o + q0, t)) (hg _ _)) ht hv hdg kk
end QW
/-! contracts over such worlds -/
abbrev qPre (D : va_G) (cl : List vw_C) (tys : List (ClassId × FieldType)) (o n : Nat) (w : Nat → va_E) (As : List Value) : Array Value → State → Prop := va_Pc As (fun U => qw_P D cl o n w U.heap ∧ va_K D cl tys U)
theorem qPre_blind {D : va_G} {cl : List vw_C} {tys : List (ClassId × FieldType)} {o n : Nat} {w : Nat → va_E} {As : List Value} : FrameBlind (qPre D cl tys o n w As) := fun a U g mk q => ⟨q.1, q.2.1, va_K.moved (u := U) (U := U.calling g mk a) (Vm.Alike.refl U.vm) q.2.2⟩
abbrev qB {S : Type} (D : va_G) (cl : List vw_C) (tys : List (ClassId × FieldType)) (o n : Nat) (B : S → Nat → va_E) : S → State → Prop := fun u t => qw_P D cl o n (B u) t.heap ∧ va_K D cl tys t
section QC
variable {p : Program} {l : Launch} {e : Env} {R : Room} {s : State} {m : MethodId} {args : Array Value} {below : List Frame} {meth : Method} {c : Code} {H : Heap} {locs : List Loc} {cells slots : Nat} {Q : State → Prop}
variable {cc bytes : ByteArray} {pc : Nat} {ls : Array Slot} {st0 rest As : List Value} {D : va_G} {cl : List vw_C} {tys : List (ClassId × FieldType)} {o n : Nat} {A : Nat → Prop} {H0 : Heap} {w : Nat → va_E} {own : String} {index maxL nL k0 : Nat} {y : MethodName} {ret : Option FieldType} {rm : Room}
/-- what the tables say of a method that is called -/
def qV (y : MethodName) (bytes : ByteArray) (maxL : Nat) (ret : Option FieldType) (k0 : Nat) : Prop := Cond.instanceMethod y ∈ qtbl ∧ Cond.selects y.cls y y ∈ qtbl ∧ Cond.initialized y.cls ∈ qtbl ∧ Cond.code y bytes maxL ret ∈ qtbl ∧ y.cls ≠ "java/lang/invoke/MethodHandle" ∧ y.cls ≠ "java/lang/invoke/VarHandle" ∧ (parseMethodDescriptor y.desc).map (fun d => d.parameters.length) = some k0
def qT (y : MethodName) (bytes : ByteArray) (maxL : Nat) (ret : Option FieldType) (k0 : Nat) : Prop := Cond.static y ∈ qtbl ∧ Cond.initialized y.cls ∈ qtbl ∧ Cond.code y bytes maxL ret ∈ qtbl ∧ y.cls ≠ "java/lang/invoke/MethodHandle" ∧ y.cls ≠ "java/lang/invoke/VarHandle" ∧ (parseMethodDescriptor y.desc).map (fun d => d.parameters.length) = some k0
theorem qV_cw (hv : qV y bytes maxL ret k0) (hall : qtbl.all goodWord = true) (hts : ∀ w ∈ qtbl, w.before args s = true) (hlink : Cond.methodLink own index y ∈ qtbl) (hrc : rm.cells = 0) (hrs : rm.slots = 0) (hR : rm.frames + 1 ≤ R.frames ∧ 8 + (maxL + 11) + rm.locals ≤ R.locals) : CallW R s args own y.cls index y bytes maxL ret (Cond.code y bytes maxL ret :: qtbl) rm 0 0 k0 := by
  obtain ⟨h1, h2, h3, h4, h5, h6, h7⟩ := hv
  refine ⟨callB_of k0 hts (fun w hw => ?_) rfl hrc hrs (hts _ h3) (hts _ hlink) ⟨h5, h6, h7⟩ hR, hts _ h1, hts _ h2⟩
  rcases List.mem_cons.mp hw with rfl | hw
  · exact ⟨h4, good_of_word (List.all_eq_true.mp hall _ h4)⟩
  · exact ⟨hw, good_of_word (List.all_eq_true.mp hall _ hw)⟩
theorem qT_cw (hv : qT y bytes maxL ret k0) (hall : qtbl.all goodWord = true) (hts : ∀ w ∈ qtbl, w.before args s = true) (hlink : Cond.methodLink own index y ∈ qtbl) (hrc : rm.cells = 0) (hrs : rm.slots = 0) (hR : rm.frames + 1 ≤ R.frames ∧ 8 + (maxL + 11) + rm.locals ≤ R.locals) : CallB R s args own index y bytes maxL ret (Cond.code y bytes maxL ret :: qtbl) rm 0 0 k0 ∧ (Cond.static y).before args s = true := by
  obtain ⟨h1, h3, h4, h5, h6, h7⟩ := hv
  refine ⟨callB_of k0 hts (fun w hw => ?_) rfl hrc hrs (hts _ h3) (hts _ hlink) ⟨h5, h6, h7⟩ hR, hts _ h1⟩
  rcases List.mem_cons.mp hw with rfl | hw
  · exact ⟨h4, good_of_word (List.all_eq_true.mp hall _ h4)⟩
  · exact ⟨hw, good_of_word (List.all_eq_true.mp hall _ hw)⟩
abbrev qFix (p : Program) (m : MethodId) (c : Code) (cc : ByteArray) (nL : Nat) (s : State) (args : Array Value) (own : String) : Prop := CallFix p m c cc nL s args qtbl own
/-- calls of a method that answers an int (boolean), a long, nothing; of an object, or static; the world is handed over whole -/
theorem qc_Vi {S : Type} {post : Int32 → S → Prop} {B : S → Nat → va_E} {q0 ci : Nat} {fs : List Value} {T : u_T} {N : Nat} (hM : Met l y (Cond.code y bytes maxL ret :: qtbl) rm (qPre D cl tys o n w (.ref (o + q0) :: As)) (va_Qi post (qB D cl tys o n B) (qw_A o n)) 0 0 (qw_A o n))
    (hv : qV y bytes maxL ret k0) (hF : qFix p m c cc nL s args own) (hlink : Cond.methodLink own index y ∈ qtbl) (hrc : rm.cells = 0) (hrs : rm.slots = 0) (hR : rm.frames + 1 ≤ R.frames ∧ 8 + (maxL + 11) + rm.locals ≤ R.locals) (hall : qtbl.all goodWord = true)
    (hP : qw_P D cl o n w H) (hK : va_K D cl tys s) (hS : va_S A H0 H locs) (hA : ∀ q, qw_A o n q → A q) (hq : q0 < n) (hw : w q0 = .inr (ci, fs)) (hc : cl[ci]? = some (y.cls, T, N)) (hn : As.length = k0) (hls : ls.size = nL) (hst : st0 = As.reverse ++ .ref (o + q0) :: rest) (hroom : (rest.map fun v => v.category).sum ≤ 8) (hdg : decode cc pc = .ok (.invokevirtual index, 3)) (hf : cells ≤ R.cells ∧ slots ≤ R.slots)
    (kk : ∀ (r : Int32) (u : S) (H1 : Heap) (locs1 : List Loc), post r u → qw_P D cl o n (B u) H1 → va_S A H0 H1 locs1 → H.size ≤ H1.size → (∀ q : Nat, q < H.size → ¬ qw_A o n q → H1[q]? = H[q]?) → W p l e R s m args below meth c H1 locs1 cells slots Q (F0 m (pc + 3) ls (.int r :: rest))) : W p l e R s m args below meth c H locs cells slots Q (F0 m pc ls st0) := by
  refine va_calli (va_runV (As := As) (rest := rest) hF hM (qV_cw hv hall hF.2.2.2.2 hlink hrc hrs hR) ⟨qPre_blind, va_recv hK (qw_P_of hP) (ci := ci) (q0 := q0) (a := o + q0) (fs := fs) hc (by rw [qw_l_get hq, hw]), fun U hU hW => ⟨rfl, by rw [hU]; exact hP, va_K.moved hW.alike hK⟩⟩ rfl hn hls hst (lv_room hroom) hdg ⟨hf.1, hf.2⟩) hS (fun q _ h => hA q h) hA (fun r u t H1 locs1 ht hvm hw hB hz hk hS1 => ?_)
  exact kk r u H1 locs1 hw (by rw [← ht]; exact hB.1) hS1 hz hk
theorem qc_Vl {S : Type} {post : Int64 → S → Prop} {B : S → Nat → va_E} {q0 ci : Nat} {fs : List Value} {T : u_T} {N : Nat} (hM : Met l y (Cond.code y bytes maxL ret :: qtbl) rm (qPre D cl tys o n w (.ref (o + q0) :: As)) (va_Ql post (qB D cl tys o n B) (qw_A o n)) 0 0 (qw_A o n))
    (hv : qV y bytes maxL ret k0) (hF : qFix p m c cc nL s args own) (hlink : Cond.methodLink own index y ∈ qtbl) (hrc : rm.cells = 0) (hrs : rm.slots = 0) (hR : rm.frames + 1 ≤ R.frames ∧ 8 + (maxL + 11) + rm.locals ≤ R.locals) (hall : qtbl.all goodWord = true)
    (hP : qw_P D cl o n w H) (hK : va_K D cl tys s) (hS : va_S A H0 H locs) (hA : ∀ q, qw_A o n q → A q) (hq : q0 < n) (hw : w q0 = .inr (ci, fs)) (hc : cl[ci]? = some (y.cls, T, N)) (hn : As.length = k0) (hls : ls.size = nL) (hst : st0 = As.reverse ++ .ref (o + q0) :: rest) (hroom : (rest.map fun v => v.category).sum ≤ 8) (hdg : decode cc pc = .ok (.invokevirtual index, 3)) (hf : cells ≤ R.cells ∧ slots ≤ R.slots)
    (kk : ∀ (r : Int64) (u : S) (H1 : Heap) (locs1 : List Loc), post r u → qw_P D cl o n (B u) H1 → va_S A H0 H1 locs1 → H.size ≤ H1.size → (∀ q : Nat, q < H.size → ¬ qw_A o n q → H1[q]? = H[q]?) → W p l e R s m args below meth c H1 locs1 cells slots Q (F0 m (pc + 3) ls (.long r :: rest))) : W p l e R s m args below meth c H locs cells slots Q (F0 m pc ls st0) := by
  refine va_calll (va_runV (As := As) (rest := rest) hF hM (qV_cw hv hall hF.2.2.2.2 hlink hrc hrs hR) ⟨qPre_blind, va_recv hK (qw_P_of hP) (ci := ci) (q0 := q0) (a := o + q0) (fs := fs) hc (by rw [qw_l_get hq, hw]), fun U hU hW => ⟨rfl, by rw [hU]; exact hP, va_K.moved hW.alike hK⟩⟩ rfl hn hls hst (lv_room hroom) hdg ⟨hf.1, hf.2⟩) hS (fun q _ h => hA q h) hA (fun r u t H1 locs1 ht hvm hw hB hz hk hS1 => ?_)
  exact kk r u H1 locs1 hw (by rw [← ht]; exact hB.1) hS1 hz hk
theorem qc_Vv {S : Type} {post : S → Prop} {B : S → Nat → va_E} {q0 ci : Nat} {fs : List Value} {T : u_T} {N : Nat} (hM : Met l y (Cond.code y bytes maxL ret :: qtbl) rm (qPre D cl tys o n w (.ref (o + q0) :: As)) (va_Qv post (qB D cl tys o n B) (qw_A o n)) 0 0 (qw_A o n))
    (hv : qV y bytes maxL ret k0) (hF : qFix p m c cc nL s args own) (hlink : Cond.methodLink own index y ∈ qtbl) (hrc : rm.cells = 0) (hrs : rm.slots = 0) (hR : rm.frames + 1 ≤ R.frames ∧ 8 + (maxL + 11) + rm.locals ≤ R.locals) (hall : qtbl.all goodWord = true)
    (hP : qw_P D cl o n w H) (hK : va_K D cl tys s) (hS : va_S A H0 H locs) (hA : ∀ q, qw_A o n q → A q) (hq : q0 < n) (hw : w q0 = .inr (ci, fs)) (hc : cl[ci]? = some (y.cls, T, N)) (hn : As.length = k0) (hls : ls.size = nL) (hst : st0 = As.reverse ++ .ref (o + q0) :: rest) (hroom : (rest.map fun v => v.category).sum ≤ 8) (hdg : decode cc pc = .ok (.invokevirtual index, 3)) (hf : cells ≤ R.cells ∧ slots ≤ R.slots)
    (kk : ∀ (u : S) (H1 : Heap) (locs1 : List Loc), post u → qw_P D cl o n (B u) H1 → va_S A H0 H1 locs1 → H.size ≤ H1.size → (∀ q : Nat, q < H.size → ¬ qw_A o n q → H1[q]? = H[q]?) → W p l e R s m args below meth c H1 locs1 cells slots Q (F0 m (pc + 3) ls rest)) : W p l e R s m args below meth c H locs cells slots Q (F0 m pc ls st0) := by
  refine va_callv (va_runV (As := As) (rest := rest) hF hM (qV_cw hv hall hF.2.2.2.2 hlink hrc hrs hR) ⟨qPre_blind, va_recv hK (qw_P_of hP) (ci := ci) (q0 := q0) (a := o + q0) (fs := fs) hc (by rw [qw_l_get hq, hw]), fun U hU hW => ⟨rfl, by rw [hU]; exact hP, va_K.moved hW.alike hK⟩⟩ rfl hn hls hst (lv_room hroom) hdg ⟨hf.1, hf.2⟩) hS (fun q _ h => hA q h) hA (fun u t H1 locs1 ht hvm hw hB hz hk hS1 => ?_)
  exact kk u H1 locs1 hw (by rw [← ht]; exact hB.1) hS1 hz hk
theorem qc_Si {S : Type} {post : Int32 → S → Prop} {B : S → Nat → va_E} (hM : Met l y (Cond.code y bytes maxL ret :: qtbl) rm (qPre D cl tys o n w As) (va_Qi post (qB D cl tys o n B) (qw_A o n)) 0 0 (qw_A o n))
    (hv : qT y bytes maxL ret k0) (hF : qFix p m c cc nL s args own) (hlink : Cond.methodLink own index y ∈ qtbl) (hrc : rm.cells = 0) (hrs : rm.slots = 0) (hR : rm.frames + 1 ≤ R.frames ∧ 8 + (maxL + 11) + rm.locals ≤ R.locals) (hall : qtbl.all goodWord = true)
    (hP : qw_P D cl o n w H) (hK : va_K D cl tys s) (hS : va_S A H0 H locs) (hA : ∀ q, qw_A o n q → A q) (hn : As.length = k0) (hls : ls.size = nL) (hst : st0 = As.reverse ++ rest) (hroom : (rest.map fun v => v.category).sum ≤ 8) (hdg : decode cc pc = .ok (.invokestatic index, 3)) (hf : cells ≤ R.cells ∧ slots ≤ R.slots)
    (kk : ∀ (r : Int32) (u : S) (H1 : Heap) (locs1 : List Loc), post r u → qw_P D cl o n (B u) H1 → va_S A H0 H1 locs1 → H.size ≤ H1.size → (∀ q : Nat, q < H.size → ¬ qw_A o n q → H1[q]? = H[q]?) → W p l e R s m args below meth c H1 locs1 cells slots Q (F0 m (pc + 3) ls (.int r :: rest))) : W p l e R s m args below meth c H locs cells slots Q (F0 m pc ls st0) := by
  refine va_calli (va_runS (As := As) (rest := rest) hF hM (qT_cw hv hall hF.2.2.2.2 hlink hrc hrs hR) ⟨qPre_blind, fun U hU hW => ⟨rfl, by rw [hU]; exact hP, va_K.moved hW.alike hK⟩⟩ rfl hn hls hst (lv_room hroom) hdg ⟨hf.1, hf.2⟩) hS (fun q _ h => hA q h) hA (fun r u t H1 locs1 ht hvm hw hB hz hk hS1 => ?_)
  exact kk r u H1 locs1 hw (by rw [← ht]; exact hB.1) hS1 hz hk
theorem qc_Sv {S : Type} {post : S → Prop} {B : S → Nat → va_E} (hM : Met l y (Cond.code y bytes maxL ret :: qtbl) rm (qPre D cl tys o n w As) (va_Qv post (qB D cl tys o n B) (qw_A o n)) 0 0 (qw_A o n))
    (hv : qT y bytes maxL ret k0) (hF : qFix p m c cc nL s args own) (hlink : Cond.methodLink own index y ∈ qtbl) (hrc : rm.cells = 0) (hrs : rm.slots = 0) (hR : rm.frames + 1 ≤ R.frames ∧ 8 + (maxL + 11) + rm.locals ≤ R.locals) (hall : qtbl.all goodWord = true)
    (hP : qw_P D cl o n w H) (hK : va_K D cl tys s) (hS : va_S A H0 H locs) (hA : ∀ q, qw_A o n q → A q) (hn : As.length = k0) (hls : ls.size = nL) (hst : st0 = As.reverse ++ rest) (hroom : (rest.map fun v => v.category).sum ≤ 8) (hdg : decode cc pc = .ok (.invokestatic index, 3)) (hf : cells ≤ R.cells ∧ slots ≤ R.slots)
    (kk : ∀ (u : S) (H1 : Heap) (locs1 : List Loc), post u → qw_P D cl o n (B u) H1 → va_S A H0 H1 locs1 → H.size ≤ H1.size → (∀ q : Nat, q < H.size → ¬ qw_A o n q → H1[q]? = H[q]?) → W p l e R s m args below meth c H1 locs1 cells slots Q (F0 m (pc + 3) ls rest)) : W p l e R s m args below meth c H locs cells slots Q (F0 m pc ls st0) := by
  refine va_callv (va_runS (As := As) (rest := rest) hF hM (qT_cw hv hall hF.2.2.2.2 hlink hrc hrs hR) ⟨qPre_blind, fun U hU hW => ⟨rfl, by rw [hU]; exact hP, va_K.moved hW.alike hK⟩⟩ rfl hn hls hst (lv_room hroom) hdg ⟨hf.1, hf.2⟩) hS (fun q _ h => hA q h) hA (fun u t H1 locs1 ht hvm hw hB hz hk hS1 => ?_)
  exact kk u H1 locs1 hw (by rw [← ht]; exact hB.1) hS1 hz hk
end QC
