/-! objects as they are made: the cells of a list L at a, a + 1, .., the heap ends behind them -/
def qL (D : va_G) (cl : List vw_C) (a : Nat) (L : List va_E) (H : Heap) : Prop := H.size = a + L.length ∧ ∀ (k : Nat) (e : va_E), L[k]? = some e → va_at D cl (a + k, e) H
theorem qL_push {D : va_G} {cl : List vw_C} {a : Nat} {L : List va_E} {H H1 : Heap} {e : va_E} (h : qL D cl a L H) (z1 : H1.size = H.size + 1) (he : va_at D cl (a + L.length, e) H1) (o1 : ∀ q : Nat, q < H.size → H1[q]? = H[q]?) : qL D cl a (L ++ [e]) H1 := by
  refine ⟨by rw [z1, h.1, List.length_append]; rfl, fun k x hx => ?_⟩
  by_cases hk : k < L.length
  · rw [List.getElem?_append_left hk] at hx
    exact (h.2 k x hx).kept (o1 (a + k) (by rw [h.1]; omega))
  · rw [List.getElem?_append_right (by omega)] at hx
    have h1 : k - L.length < 1 := (List.getElem?_eq_some_iff.mp hx).1
    have hk0 : k = L.length := by omega
    subst hk0
    rw [Nat.sub_self] at hx
    cases hx
    exact he
theorem qL_set {D : va_G} {cl : List vw_C} {a k0 : Nat} {L : List va_E} {H H1 : Heap} {e : va_E} (h : qL D cl a L H) (hk0 : k0 < L.length) (z1 : H1.size = H.size) (he : va_at D cl (a + k0, e) H1) (o1 : ∀ q : Nat, q ≠ a + k0 → H1[q]? = H[q]?) : qL D cl a (L.set k0 e) H1 := by
  refine ⟨by rw [z1, h.1, List.length_set], fun k x hx => ?_⟩
  by_cases hk : k = k0
  · subst hk
    rw [List.getElem?_set_self hk0] at hx
    cases hx
    exact he
  · rw [List.getElem?_set_ne (Ne.symm hk)] at hx
    exact (h.2 k x hx).kept (o1 (a + k) (by omega))
theorem qL_len {L : List va_E} {k : Nat} {e : va_E} (h : L[k]? = some e) : k < L.length := (List.getElem?_eq_some_iff.mp h).1
/-- the cells from k on are another's world -/
theorem qL_drop {D : va_G} {cl : List vw_C} {a : Nat} {L : List va_E} {H : Heap} (h : qL D cl a L H) (k : Nat) (hk : k ≤ L.length) : qL D cl (a + k) (L.drop k) H := by
  refine ⟨by rw [h.1, List.length_drop]; omega, fun j e hj => ?_⟩
  rw [List.getElem?_drop] at hj
  have := h.2 (k + j) e hj
  rwa [← Nat.add_assoc] at this
theorem qL_join {D : va_G} {cl : List vw_C} {a k : Nat} {L L2 : List va_E} {H H1 : Heap} (h : qL D cl a L H) (hk : k ≤ L.length) (h2 : qL D cl (a + k) L2 H1) (o1 : ∀ q : Nat, q < H.size → ¬ a + k ≤ q → H1[q]? = H[q]?) : qL D cl a (L.take k ++ L2) H1 := by
  have hl : (L.take k).length = k := by rw [List.length_take]; omega
  refine ⟨by rw [h2.1, List.length_append, hl]; omega, fun j e hj => ?_⟩
  by_cases hjk : j < k
  · rw [List.getElem?_append_left (by omega), List.getElem?_take] at hj
    rw [if_pos hjk] at hj
    exact (h.2 j e hj).kept (o1 (a + j) (by rw [h.1]; have := qL_len hj; omega) (by omega))
  · rw [List.getElem?_append_right (by omega), hl] at hj
    have := h2.2 (j - k) e hj
    rwa [Nat.add_assoc, show k + (j - k) = j from by omega] at this
theorem qL_P {D : va_G} {cl : List vw_C} {a n : Nat} {w : Nat → va_E} {L : List va_E} {H : Heap} (h : qL D cl a L H) (hw : L = (List.range n).map w) : qw_P D cl a n w H := by
  intro k hk
  exact h.2 k (w k) (by rw [hw]; simp [hk])
section QN
variable {p : Program} {l : Launch} {e : Env} {R : Room} {s : State} {m : MethodId} {args : Array Value} {below : List Frame} {meth : Method} {c : Code} {H : Heap} {locs : List Loc} {cells slots : Nat} {Q : State → Prop}
variable {cc : ByteArray} {pc : Nat} {ls : Array Slot} {rest : List Value} {D : va_G} {cl : List vw_C} {tys : List (ClassId × FieldType)} {a : Nat} {A : Nat → Prop} {H0 : Heap} {L : List va_E}
theorem qS_push {H1 : Heap} (hS : va_S A H0 H locs) (z1 : H1.size = H.size + 1) (o1 : ∀ q : Nat, q < H.size → H1[q]? = H[q]?) : va_S A H0 H1 locs := ⟨by rw [z1]; have := hS.1; omega, fun q h1 h2 => (o1 q (Nat.lt_of_lt_of_le h1 hS.1)).trans (hS.2.1 q h1 h2), hS.2.2⟩
theorem qn_new (hexec : p.tables.exec = Jvm.exec) (hb : c.code = cc) {own C : String} {T : u_T} {N ci index : Nat} {Ts : List Cond} (hts : ∀ w ∈ Ts, w.before args s = true) (hin : ∀ w ∈ u_ws C T N, w ∈ Ts) (ty : Nat → FieldType) (hty : ∀ k, k < N → parseFieldDescriptor (T k).2.2.1 = some (ty k)) (hown : s.vm.findClass own = some m.cls) (hcl : Cond.classLink own index C ∈ Ts) (hinst : Cond.instantiable C N ∈ Ts) (hini : Cond.initialized C ∈ Ts)
    (hK : va_K D cl tys s) (hP : qL D cl a L H) (hS : va_S A H0 H locs) (hc : cl[ci]? = some (C, T, N)) {fs : List Value} (hfs : ∀ j, j < N → defaultValue (ty j) = vp_V fs j) (hcells : cells + 1 ≤ R.cells) (hslots : slots + N ≤ R.slots) (hdg : decode cc pc = .ok (.new index, 3))
    (kk : ∀ (H1 : Heap), qL D cl a (L ++ [.inr (ci, fs)]) H1 → va_S A H0 H1 locs → W p l e R s m args below meth c H1 locs (cells + 1) (slots + N) Q (F0 m (pc + 3) ls (.ref (a + L.length) :: rest))) : W p l e R s m args below meth c H locs cells slots Q (F0 m pc ls rest) := by
  have hKn := hK.1 ci _ hc
  refine W.newcK hexec hb hown (hts _ hcl) (hts _ hinst) (hts _ hini) rfl hdg hcells hslots hKn.2.1 hP.1 fun H1 kC hkC e1 z1 o1 => ?_
  have z2 : H1.size = H.size + 1 := by rw [z1, hP.1]
  have o2 : ∀ q : Nat, q < H.size → H1[q]? = H[q]? := fun q hq => o1 q (by rw [← hP.1]; exact hq)
  exact kk H1 (qL_push hP z2 ⟨_, hc, (u_born ty hts hin hKn hkC e1 hty).to hfs⟩ o2) (qS_push hS z2 o2)
theorem qn_newa (hexec : p.tables.exec = Jvm.exec) (hb : c.code = cc) {atype : ArrayType} {Ts : List Cond} (hts : ∀ w ∈ Ts, w.before args s = true) {ty : FieldType} (harr : Cond.arrayClass (newarray.typeOf atype) ∈ Ts) (hty : newarray.typeOf atype = ty) (hK : va_K D cl tys s) (hP : qL D cl a L H) (hS : va_S A H0 H locs) (t0 : Nat) {cA : ClassId} (ht : tys[t0]? = some (cA, ty)) (hra : va_RA s cA ty → s.vm.findClass ("[" ++ ty.toString) = some cA)
    {n : Int32} {N' : Nat} {a0 : vp_A} (ha : ∀ cA : ClassId, vp_cell cA a0 = arrV cA N' (fun _ => defaultValue ty)) (hn : ¬ n < 0) (hN : n.toNatClampNeg = N') (hbytes : N' * componentBytes ty ≤ 536870912) (hcells : cells + 1 ≤ R.cells) (hslots : slots + N' ≤ R.slots) (hdg : decode cc pc = .ok (.newarray atype, 2))
    (kk : ∀ (H1 : Heap), qL D cl a (L ++ [.inl (cA, a0)]) H1 → va_S A H0 H1 locs → W p l e R s m args below meth c H1 locs (cells + 1) (slots + N') Q (F0 m (pc + 2) ls (.ref (a + L.length) :: rest))) : W p l e R s m args below meth c H locs cells slots Q (F0 m pc ls (.int n :: rest)) := by
  subst hty
  refine va_newaK hexec hb (hts _ harr) rfl hdg rfl hn hN hbytes hcells hslots hP.1 fun H1 cB e1 z1 o1 hAr hNm => ?_
  have hcc : cB = cA := Option.some.inj (hNm.symm.trans (hra (hK.2 t0 _ ht).2))
  subst hcc
  have z2 : H1.size = H.size + 1 := by rw [z1, hP.1]
  have o2 : ∀ q : Nat, q < H.size → H1[q]? = H[q]? := fun q hq => o1 q (by rw [← hP.1]; exact hq)
  exact kk H1 (qL_push hP z2 (by show H1[a + L.length]? = some (vp_cell _ _); rw [ha]; exact e1) o2) (qS_push hS z2 o2)
theorem qn_newq (hexec : p.tables.exec = Jvm.exec) (hb : c.code = cc) {own C : String} {index : Nat} {Ts : List Cond} (hts : ∀ w ∈ Ts, w.before args s = true) (hown : s.vm.findClass own = some m.cls) (hclink : Cond.classLink own index C ∈ Ts) (hover : va_AO C s) (hK : va_K D cl tys s) (hP : qL D cl a L H) (hS : va_S A H0 H locs) (t0 : Nat) {cA : ClassId} (ht : tys[t0]? = some (cA, .object C))
    {n : Int32} {N' : Nat} (hn : ¬ n < 0) (hN : n.toNatClampNeg = N') (hbytes : N' * 4 ≤ 536870912) (hcells : cells + 1 ≤ R.cells) (hslots : slots + N' ≤ R.slots) (hdg : decode cc pc = .ok (.anewarray index, 3))
    (kk : ∀ (H1 : Heap), qL D cl a (L ++ [.inl (cA, N', .inr (.inr (.inr (.inr (fun _ => none)))))]) H1 → va_S A H0 H1 locs → W p l e R s m args below meth c H1 locs (cells + 1) (slots + N') Q (F0 m (pc + 3) ls (.ref (a + L.length) :: rest))) : W p l e R s m args below meth c H locs cells slots Q (F0 m pc ls (.int n :: rest)) := by
  subst hN
  refine W.anew hexec hb hown (hts _ hclink) (va_AO.use hover) rfl hdg rfl hn hbytes hcells hslots fun cB kA comp f1 f2 f3 f4 => ?_
  obtain ⟨kA', comp', g1, g2, g3, g4⟩ := (hK.2 t0 _ ht).2
  have hcc : cB = cA := Option.some.inj (f1.symm.trans g4)
  subst hcc
  generalize hH1 : H.push ({ cls := cB, slots := Array.replicate n.toNatClampNeg .null, vm := .none } : Cell) = H1
  have z1 : H1.size = H.size + 1 := by rw [← hH1, Array.size_push]
  have e1 : H1[H.size]? = some (arrV cB n.toNatClampNeg (fun _ => .null)) := by rw [← hH1, Array.getElem?_push_size, ← arrV_new]
  have o1 : ∀ q : Nat, q < H.size → H1[q]? = H[q]? := fun q hq => by rw [← hH1, Array.getElem?_push, if_neg (Nat.ne_of_lt hq)]
  have hz := hP.1
  rw [hz] at e1
  have k2 := kk H1 (qL_push hP z1 (by show H1[a + L.length]? = some (vp_cell _ _); rw [vp_cell_q]; exact e1) o1) (qS_push hS z1 o1)
  rw [← hz] at k2
  exact k2
theorem qn_put (hexec : p.tables.exec = Jvm.exec) (hb : c.code = cc) {own C : String} {T : u_T} {N ci index : Nat} {Ts : List Cond} (hts : ∀ w ∈ Ts, w.before args s = true) (hin : ∀ w ∈ u_ws C T N, w ∈ Ts) (ty0 : Nat → FieldType) (hty : ∀ k, k < N → parseFieldDescriptor (T k).2.2.1 = some (ty0 k)) (hnm : ∀ a, a < N → ∀ b, b < N → a ≠ b → (T a).2.1 ≠ (T b).2.1) (hown : s.vm.findClass own = some m.cls) (hK : va_K D cl tys s) (hP : qL D cl a L H) (hS0 : va_S A H0 H locs) {q0 : Nat} {fs : List Value} (he : L[q0]? = some (.inr (ci, fs))) (hA : A (a + q0)) (hc : cl[ci]? = some (C, T, N)) (k : Nat) (hk : k < N)
    (hlink : (Cond.fieldLink own index (T k).1 (T k).2.1 (T k).2.2.1) ∈ Ts) (hfin : (T k).2.2.2 = true) (hin2 : meth.name = "<init>") (hdecl : (T k).1 = own) {v : Value} (hn : narrow (ty0 k) v = v) (hfit : fits (ty0 k) v = true) (hl : k < fs.length) (hdg : decode cc pc = .ok (.putfield index, 3))
    (kk : ∀ (H1 : Heap) (locs1 : List Loc), qL D cl a (L.set q0 (.inr (ci, fs.set k v))) H1 → va_S A H0 H1 locs1 → W p l e R s m args below meth c H1 locs1 cells slots Q (F0 m (pc + 3) ls rest)) : W p l e R s m args below meth c H locs cells slots Q (F0 m pc ls (v :: .ref (a + q0) :: rest)) := by
  have hap := va_apart (own := own) hts hin ty0 hty hnm hK hc
  obtain ⟨r, h1, cell, q1, q2, q3, q4⟩ := hP.2 q0 _ he
  have hr : r = (C, T, N) := Option.some.inj (h1.symm.trans hc)
  subst hr
  obtain ⟨hS, hfc, kC, hkC, hkind⟩ := hK.1 ci _ hc
  obtain ⟨cf, kf, fi, f, hi, hsl⟩ := hS k hk
  have hlay := hts _ (hin _ (u_in_lay hk))
  unfold u_lay at hlay
  rw [if_pos hfin] at hlay
  have hst := (u_facts hfc hkC (u_lays hts hin hk) hi).1
  have hcf : m.cls = cf := by
    obtain ⟨_, _, c', _, _, _, -, -, hf', -, -, -, hown2, -⟩ := Cond.laysFinal_spec hlay
    have e1 : c' = cf := by have := hi.symm.trans hf'; simp at this; exact this.1.symm
    rw [hdecl] at hown2
    rw [← e1]; exact Option.some.inj (hown.symm.trans hown2)
  have h6 := u_fits hfc hkC hkind (Or.inr hlay) hi (hty k hk) hn hfit
  refine W.putFinK hexec hb hown (hts _ hlink) hi hst hcf hin2 (by rw [q2]; exact h6) q1 q3 (by rw [hsl]; exact k2_hasslot (q4 k hk)) rfl rfl hdg fun H' e1 e2 e3 => ?_
  rw [hsl] at e1 ⊢
  exact kk H' _ (qL_set hP (qL_len he) e2 ⟨_, hc, t_OB.to (V := updV (vp_V fs) k v) ⟨_, e1, q2, q3, t_set q4 hap hk v⟩ (fun j _ => vp_updV_set hl v j)⟩ e3) (hS0.put e2 e3 hA)
theorem qn_get (hexec : p.tables.exec = Jvm.exec) (hb : c.code = cc) {own C : String} {T : u_T} {N ci index : Nat} {Ts : List Cond} (hts : ∀ w ∈ Ts, w.before args s = true) (hin : ∀ w ∈ u_ws C T N, w ∈ Ts) (hown : s.vm.findClass own = some m.cls) (hK : va_K D cl tys s) (hP : qL D cl a L H) {q0 : Nat} {fs : List Value} (he : L[q0]? = some (.inr (ci, fs))) (hc : cl[ci]? = some (C, T, N)) (k : Nat) (hk : k < N) (hlink : (Cond.fieldLink own index (T k).1 (T k).2.1 (T k).2.2.1) ∈ Ts) {v : Value} (hv : fs[k]? = some v) (hdg : decode cc pc = .ok (.getfield index, 3))
    (kk : W p l e R s m args below meth c H locs cells slots Q (F0 m (pc + 3) ls (v :: rest))) : W p l e R s m args below meth c H locs cells slots Q (F0 m pc ls (.ref (a + q0) :: rest)) :=
  va_get hexec hb hts hin hown hK (ws := [(a + q0, .inr (ci, fs))]) (fun k q hq => by
    have h0 : k < 1 := (List.getElem?_eq_some_iff.mp hq).1
    rw [show k = 0 by omega] at hq
    cases hq
    exact hP.2 q0 _ he) 0 rfl hc k hk (hts _ hlink) (fun _ h => h) hv hdg kk
theorem qn_iast (hexec : p.tables.exec = Jvm.exec) (hb : c.code = cc) (hK : va_K D cl tys s) (hP : qL D cl a L H) (hS : va_S A H0 H locs) (t0 : Nat) {q0 : Nat} {cA : ClassId} {n : Nat} {f : Nat → Int32} (he : L[q0]? = some (.inl (cA, n, .inl f))) (hA : A (a + q0)) (ht : tys[t0]? = some (cA, .int)) {i x : Int32} (hin : vp_in i n) (hdg : decode cc pc = .ok (.iastore, 1))
    (kk : ∀ (H1 : Heap) (locs1 : List Loc), qL D cl a (L.set q0 (.inl (cA, n, .inl (upd f i.toNatClampNeg x)))) H1 → va_S A H0 H1 locs1 → W p l e R s m args below meth c H1 locs1 cells slots Q (F0 m (pc + 1) ls rest)) : W p l e R s m args below meth c H locs cells slots Q (F0 m pc ls (.int x :: .int i :: .ref (a + q0) :: rest)) := by
  refine W.iast hexec hb (hP.2 q0 _ he) ((hK.2 t0 _ ht).1 n (fun j => .int (f j))) (fun q => by cases q) (by show ¬ (i < 0 ∨ (arrV _ _ _).slots.size ≤ _); rw [arrV_size]; exact hin) rfl rfl hdg fun H1 e z oq => ?_
  refine kk H1 _ (qL_set hP (qL_len he) z ?_ oq) (hS.put z oq hA)
  show H1[a + q0]? = some (vp_cell _ _)
  rw [e]
  rw [vp_cell_i, vp_cell_i, arrV_store]
  congr 2
  funext q
  by_cases hq : q = i.toNatClampNeg
  · subst hq
    simp [updV, upd]
  · simp [updV, upd, hq]
theorem qn_aast (hexec : p.tables.exec = Jvm.exec) (hb : c.code = cc) (hK : va_K D cl tys s) (hP : qL D cl a L H) (hS : va_S A H0 H locs) (t0 : Nat) {q0 qk ci : Nat} {cA : ClassId} {r : vw_C} {n : Nat} {vs : List Value} {f : Nat → Option Nat} (he : L[q0]? = some (.inl (cA, n, .inr (.inr (.inr (.inr f)))))) (hA : A (a + q0)) (ht : tys[t0]? = some (cA, .object r.1)) (hv : L[qk]? = some (.inr (ci, vs))) (hc : cl[ci]? = some r) {i : Int32} (hin : vp_in i n) (hdg : decode cc pc = .ok (.aastore, 1))
    (kk : ∀ (H1 : Heap) (locs1 : List Loc), qL D cl a (L.set q0 (.inl (cA, n, .inr (.inr (.inr (.inr (va_up f i.toNatClampNeg (some (a + qk))))))))) H1 → va_S A H0 H1 locs1 → W p l e R s m args below meth c H1 locs1 cells slots Q (F0 m (pc + 1) ls rest)) : W p l e R s m args below meth c H locs cells slots Q (F0 m pc ls (.ref (a + qk) :: .int i :: .ref (a + q0) :: rest)) := by
  have hlt : i.toNatClampNeg < n := Nat.not_le.mp fun q => hin (Or.inr q)
  have h0 : ¬ i < 0 := fun q => hin (Or.inl q)
  obtain ⟨r', hr', cellV, g1, g2, g3, -⟩ := hP.2 qk _ hv
  have hcls := (hK.1 ci r hc).2
  obtain ⟨kA, comp, k1, k2, k3, -⟩ := (hK.2 t0 _ ht).2
  have hcomp : comp = D.1 ci := Option.some.inj (k3.symm.trans hcls.1)
  subst hcomp
  obtain ⟨kC, hkC, -⟩ := hcls.2
  refine W.aast hexec hb (hP.2 q0 _ he) (fun q h => by cases h) (fun h => by cases h) k1 k2 rfl hkC ⟨h0, by show _ < (arrV _ _ _).slots.size; rw [arrV_size]; exact hlt⟩ g1 (fun q h => by rw [g3] at h; cases h) (by rw [g2]; exact hkC) (by rw [g2]; exact va_assign hcls) rfl rfl hdg fun H1 e z oq => ?_
  refine kk H1 _ (qL_set hP (qL_len he) z ?_ oq) (hS.put z oq hA)
  show H1[a + q0]? = some (vp_cell _ _)
  rw [e]
  rw [vp_cell_q, vp_cell_q, arrV_store]
  congr 2
  funext q
  by_cases hq : q = i.toNatClampNeg
  · subst hq
    simp [updV, va_up, va_rf]
  · simp [updV, va_up, hq]
end QN
theorem qGood {y : MethodName} {bytes : ByteArray} {maxL : Nat} {ret : Option FieldType} (h : Cond.code y bytes maxL ret ∈ qtbl) : GoodIn qtbl (Cond.code y bytes maxL ret :: qtbl) := fun w hw => by
  rcases List.mem_cons.mp hw with rfl | hw
  · exact ⟨h, good_of_word (List.all_eq_true.mp wq_all _ h)⟩
  · exact ⟨hw, good_of_word (List.all_eq_true.mp wq_all _ hw)⟩
section QO
variable {p : Program} {l : Launch} {e : Env} {R : Room} {s : State} {m : MethodId} {args : Array Value} {below : List Frame} {meth : Method} {c : Code} {H : Heap} {locs : List Loc} {cells slots : Nat} {Q : State → Prop}
variable {cc bytes : ByteArray} {pc : Nat} {ls : Array Slot} {st0 rest As : List Value} {D : va_G} {cl : List vw_C} {tys : List (ClassId × FieldType)} {a k0 : Nat} {A : Nat → Prop} {H0 : Heap} {L : List va_E} {own : String} {index maxL nL n0 mc ms : Nat} {y : MethodName} {rm : Room} {X : State → Prop} {e0 : va_E}
abbrev qCP (D : va_G) (cl : List vw_C) (tys : List (ClassId × FieldType)) (a : Nat) (L : List va_E) (X : State → Prop) (As : List Value) : Array Value → State → Prop := va_Pc As (fun U => qL D cl a L U.heap ∧ va_K D cl tys U ∧ X U)
abbrev qCQ {S : Type} (D : va_G) (cl : List vw_C) (tys : List (ClassId × FieldType)) (a : Nat) (B : S → List va_E) : Array Value → State → Outcome → State → Prop := va_Qv (fun _ : S => True) (fun u t => qL D cl a (B u) t.heap ∧ va_K D cl tys t) (fun q => a ≤ q)
def qXb (X : State → Prop) : Prop := ∀ (U : State) (g : JFrame) (mk : MethodId) (b : Array Value), X U → X (U.calling g mk b)
theorem qCP_blind (hX : qXb X) : FrameBlind (qCP D cl tys a L X As) := fun b U g mk q => ⟨q.1, q.2.1, va_K.moved (u := U) (U := U.calling g mk b) (Vm.Alike.refl U.vm) q.2.2.1, hX U g mk b q.2.2.2⟩
theorem qn_callI {S : Type} {B : S → List va_E} (hM : Met l y (Cond.code y bytes maxL none :: qtbl) rm (qCP D cl tys (a + k0) [e0] X (.ref (a + k0) :: As)) (qCQ D cl tys (a + k0) B) mc ms (fun q => a + k0 ≤ q)) (hXb : qXb X) (hX : ∀ U : State, s.WarmedH U.vm → X U)
    (hF : qFix p m c cc nL s args own) (hlink : Cond.methodLink own index y ∈ qtbl) (hinst : Cond.instanceMethod y ∈ qtbl) (hini : Cond.initialized y.cls ∈ qtbl) (hcode : Cond.code y bytes maxL none ∈ qtbl) (hy1 : y.name = "<init>") (hd : y.cls ≠ "java/lang/invoke/MethodHandle" ∧ y.cls ≠ "java/lang/invoke/VarHandle" ∧ (parseMethodDescriptor y.desc).map (fun d => d.parameters.length) = some n0) (hrc : rm.cells = mc) (hrs : rm.slots = ms) (hR : rm.frames + 1 ≤ R.frames ∧ 8 + (maxL + 11) + rm.locals ≤ R.locals)
    (hP : qL D cl a L H) (hL : L.drop k0 = [e0]) (hk : k0 ≤ L.length) (hK : va_K D cl tys s) (hS : va_S A H0 H locs) (hA : ∀ q, a + k0 ≤ q → A q) (hn : As.length = n0) (hls : ls.size = nL) (hst : st0 = As.reverse ++ .ref (a + k0) :: rest) (hroom : (rest.map fun v => v.category).sum ≤ 8) (hdg : decode cc pc = .ok (.invokespecial index, 3)) (hf : cells + mc ≤ R.cells ∧ slots + ms ≤ R.slots)
    (kk : ∀ (u : S) (H1 : Heap) (locs1 : List Loc), qL D cl a (L.take k0 ++ B u) H1 → va_S A H0 H1 locs1 → W p l e R s m args below meth c H1 locs1 (cells + mc) (slots + ms) Q (F0 m (pc + 3) ls rest)) : W p l e R s m args below meth c H locs cells slots Q (F0 m pc ls st0) := by
  have hts := hF.2.2.2.2
  refine va_callv (va_runI (As := As) (rest := rest) hF hM (cwI n0 hts (qGood hcode) rfl hrc hrs (hts _ hini) (hts _ hlink) (hts _ hinst) hy1 hd hR) ⟨qCP_blind hXb, fun U hU hW => ⟨rfl, by rw [hU]; have := qL_drop hP k0 hk; rwa [hL] at this, va_K.moved hW.alike hK, hX U hW⟩⟩ rfl hn hls hst (lv_room hroom) hdg hf) hS (fun q _ h => hA q h) hA (fun u t H1 locs1 ht hvm hw hB hz hk1 hS1 => ?_)
  exact kk u H1 locs1 (qL_join hP hk (by rw [← ht]; exact hB.1) (fun q h1 h2 => hk1 q h1 h2)) hS1
theorem qn_callIN {S : Type} {host : String} {B : S → List va_E} (hM : Met l y (Cond.code y bytes maxL none :: qtbl) rm (qCP D cl tys (a + k0) [e0] X (.ref (a + k0) :: As)) (qCQ D cl tys (a + k0) B) mc ms (fun q => a + k0 ≤ q)) (hXb : qXb X) (hX : ∀ U : State, s.WarmedH U.vm → X U)
    (hF : qFix p m c cc nL s args own) (hlink : va_Nw (.methodLinkNest own index y host) s) (hinst : Cond.instanceMethod y ∈ qtbl) (hini : Cond.initialized y.cls ∈ qtbl) (hcode : Cond.code y bytes maxL none ∈ qtbl) (hy1 : y.name = "<init>") (hd : y.cls ≠ "java/lang/invoke/MethodHandle" ∧ y.cls ≠ "java/lang/invoke/VarHandle" ∧ (parseMethodDescriptor y.desc).map (fun d => d.parameters.length) = some n0) (hrc : rm.cells = mc) (hrs : rm.slots = ms) (hR : rm.frames + 1 ≤ R.frames ∧ 8 + (maxL + 11) + rm.locals ≤ R.locals)
    (hP : qL D cl a L H) (hL : L.drop k0 = [e0]) (hk : k0 ≤ L.length) (hK : va_K D cl tys s) (hS : va_S A H0 H locs) (hA : ∀ q, a + k0 ≤ q → A q) (hn : As.length = n0) (hls : ls.size = nL) (hst : st0 = As.reverse ++ .ref (a + k0) :: rest) (hroom : (rest.map fun v => v.category).sum ≤ 8) (hdg : decode cc pc = .ok (.invokespecial index, 3)) (hf : cells + mc ≤ R.cells ∧ slots + ms ≤ R.slots)
    (kk : ∀ (u : S) (H1 : Heap) (locs1 : List Loc), qL D cl a (L.take k0 ++ B u) H1 → va_S A H0 H1 locs1 → W p l e R s m args below meth c H1 locs1 (cells + mc) (slots + ms) Q (F0 m (pc + 3) ls rest)) : W p l e R s m args below meth c H locs cells slots Q (F0 m pc ls st0) := by
  have hts := hF.2.2.2.2
  refine va_callv (va_runIN (As := As) (rest := rest) hF hM ⟨va_cnB n0 hts (qGood hcode) rfl hrc hrs hlink (hts _ hini) hd hR, hy1, hts _ hinst⟩ ⟨qCP_blind hXb, fun U hU hW => ⟨rfl, by rw [hU]; have := qL_drop hP k0 hk; rwa [hL] at this, va_K.moved hW.alike hK, hX U hW⟩⟩ rfl hn hls hst (lv_room hroom) hdg hf) hS (fun q _ h => hA q h) hA (fun u t H1 locs1 ht hvm hw hB hz hk1 hS1 => ?_)
  exact kk u H1 locs1 (qL_join hP hk (by rw [← ht]; exact hB.1) (fun q h1 h2 => hk1 q h1 h2)) hS1
/-- a static call over the whole of the list (Arrays.fill) -/
theorem qn_callS {S : Type} {B : S → List va_E} (hM : Met l y (Cond.code y bytes maxL none :: qtbl) rm (qCP D cl tys a L X As) (qCQ D cl tys a B) 0 0 (fun q => a ≤ q)) (hXb : qXb X) (hX : ∀ U : State, s.WarmedH U.vm → X U)
    (hv : qT y bytes maxL none n0) (hF : qFix p m c cc nL s args own) (hlink : Cond.methodLink own index y ∈ qtbl) (hrc : rm.cells = 0) (hrs : rm.slots = 0) (hR : rm.frames + 1 ≤ R.frames ∧ 8 + (maxL + 11) + rm.locals ≤ R.locals)
    (hP : qL D cl a L H) (hK : va_K D cl tys s) (hS : va_S A H0 H locs) (hA : ∀ q, a ≤ q → A q) (hn : As.length = n0) (hls : ls.size = nL) (hst : st0 = As.reverse ++ rest) (hroom : (rest.map fun v => v.category).sum ≤ 8) (hdg : decode cc pc = .ok (.invokestatic index, 3)) (hf : cells ≤ R.cells ∧ slots ≤ R.slots)
    (kk : ∀ (u : S) (H1 : Heap) (locs1 : List Loc), qL D cl a (B u) H1 → va_S A H0 H1 locs1 → W p l e R s m args below meth c H1 locs1 cells slots Q (F0 m (pc + 3) ls rest)) : W p l e R s m args below meth c H locs cells slots Q (F0 m pc ls st0) := by
  refine va_callv (va_runS (As := As) (rest := rest) hF hM (qT_cw hv wq_all hF.2.2.2.2 hlink hrc hrs hR) ⟨qCP_blind hXb, fun U hU hW => ⟨rfl, by rw [hU]; exact hP, va_K.moved hW.alike hK, hX U hW⟩⟩ rfl hn hls hst (lv_room hroom) hdg hf) hS (fun q _ h => hA q h) hA (fun u t H1 locs1 ht hvm hw hB hz hk1 hS1 => ?_)
  exact kk u H1 locs1 (by rw [← ht]; exact hB.1) hS1
theorem qX_T : qXb (fun _ => True) := fun _ _ _ _ _ => trivial
/-- what Told() needs of the tables besides -/
def qX1 (U : State) : Prop := va_AO "UncleAges$Line" U ∧ va_Nw (.methodLinkNest "UncleAges$Told" 36 ⟨"UncleAges$Line", "<init>", "()V"⟩ "UncleAges") U
theorem qX1_b : qXb qX1 := fun U g mk b h => ⟨va_AO.moved (u := U) (U := U.calling g mk b) (Vm.Alike.refl U.vm) h.1, va_Nw.same rfl (u := U) (U := U.calling g mk b) rfl h.2⟩
theorem qX1_w {U : State} (hW : s.WarmedH U.vm) (h : qX1 s) : qX1 U := ⟨va_AO.moved hW.alike h.1, va_Nw.warmM hW h.2⟩
end QO
