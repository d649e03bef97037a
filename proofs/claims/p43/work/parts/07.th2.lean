section Q2
variable {p : Program} {l : Launch} {e : Env} {R : Room} {s : State} {m : MethodId} {args : Array Value} {below : List Frame} {meth : Method} {c : Code} {H : Heap} {locs : List Loc} {cells slots : Nat} {Q : State → Prop}
variable {cc : ByteArray} {pc : Nat} {ls : Array Slot} {rest : List Value} {D : va_G} {cl : List vw_C} {tys : List (ClassId × FieldType)} {o n : Nat} {A : Nat → Prop} {H0 : Heap} {G : Nat → (Nat → Int32) → (Nat → Int64) → va_E} {z : Nat → Nat → Int32} {y : Nat → Nat → Int64}
theorem qf_put2 (hexec : p.tables.exec = Jvm.exec) (hb : c.code = cc) {own C : String} {T : u_T} {N ci index : Nat} {Ts : List Cond} (hts : ∀ w ∈ Ts, w.before args s = true) (hin : ∀ w ∈ u_ws C T N, w ∈ Ts) (ty0 : Nat → FieldType) (hty : ∀ k, k < N → parseFieldDescriptor (T k).2.2.1 = some (ty0 k)) (hnm : ∀ a, a < N → ∀ b, b < N → a ≠ b → (T a).2.1 ≠ (T b).2.1) (hown : s.vm.findClass own = some m.cls) (hK : va_K D cl tys s) (hP : qw_P D cl o n (qG G z y) H) (hS0 : va_S A H0 H locs) (hA : ∀ q, qw_A o n q → A q) {q0 : Nat} (hq : q0 < n) {F : (Nat → Int32) → List Value} (hg : ∀ f g, G q0 f g = .inr (ci, F f)) (hc : cl[ci]? = some (C, T, N)) (k : Nat) (hk : k < N)
    (hlink : (Cond.fieldLink own index (T k).1 (T k).2.1 (T k).2.2.1) ∈ Ts) (hfin : (T k).2.2.2 = false) {x : Int32} (b : Nat) (hF : F (upd (z q0) b x) = (F (z q0)).set k (.int x)) (hn : narrow (ty0 k) (.int x) = .int x) (hfit : fits (ty0 k) (.int x) = true) (hl : k < (F (z q0)).length) (hdg : decode cc pc = .ok (.putfield index, 3))
    (kk : ∀ (z1 : Nat → Nat → Int32) (H1 : Heap) (locs1 : List Loc), z1 = qu z q0 b x → qw_P D cl o n (qG G z1 y) H1 → va_S A H0 H1 locs1 → W p l e R s m args below meth c H1 locs1 cells slots Q (F0 m (pc + 3) ls rest)) : W p l e R s m args below meth c H locs cells slots Q (F0 m pc ls (.int x :: .ref (o + q0) :: rest)) := by
  exact qf_put hexec hb hts hin ty0 hty hnm hown hK hP hS0 hA hq hg hc k hk hlink hfin b hF hn hfit hl hdg (fun H1 locs1 a1 a2 => kk _ H1 locs1 rfl a1 a2)
theorem qa_iast2 (hexec : p.tables.exec = Jvm.exec) (hb : c.code = cc) (hK : va_K D cl tys s) (hP : qw_P D cl o n (qG G z y) H) (hS : va_S A H0 H locs) (hA : ∀ q, qw_A o n q → A q) {q0 : Nat} (hq : q0 < n) (t0 : Nat) {cA : ClassId} {N : Nat} (hg : ∀ f g, G q0 f g = .inl (cA, N, .inl f)) (ht : tys[t0]? = some (cA, .int)) {i x : Int32} (hin : vp_in i N) (hdg : decode cc pc = .ok (.iastore, 1))
    (kk : ∀ (z1 : Nat → Nat → Int32) (H1 : Heap) (locs1 : List Loc), z1 = qu z q0 i.toNatClampNeg x → qw_P D cl o n (qG G z1 y) H1 → va_S A H0 H1 locs1 → W p l e R s m args below meth c H1 locs1 cells slots Q (F0 m (pc + 1) ls rest)) : W p l e R s m args below meth c H locs cells slots Q (F0 m pc ls (.int x :: .int i :: .ref (o + q0) :: rest)) := by
  exact qa_iast hexec hb hK hP hS hA hq t0 hg ht hin hdg (fun H1 locs1 a1 a2 => kk _ H1 locs1 rfl a1 a2)
theorem qa_bast2 (hexec : p.tables.exec = Jvm.exec) (hb : c.code = cc) (hK : va_K D cl tys s) (hP : qw_P D cl o n (qG G z y) H) (hS : va_S A H0 H locs) (hA : ∀ q, qw_A o n q → A q) {q0 : Nat} (hq : q0 < n) (t0 : Nat) {cA : ClassId} {N : Nat} (hg : ∀ f g, G q0 f g = .inl (cA, N, .inl f)) (ht : tys[t0]? = some (cA, .byte)) {i x : Int32} (hin : vp_in i N) (hdg : decode cc pc = .ok (.bastore, 1))
    (kk : ∀ (z1 : Nat → Nat → Int32) (H1 : Heap) (locs1 : List Loc), z1 = qu z q0 i.toNatClampNeg (vp_nar .byte x) → qw_P D cl o n (qG G z1 y) H1 → va_S A H0 H1 locs1 → W p l e R s m args below meth c H1 locs1 cells slots Q (F0 m (pc + 1) ls rest)) : W p l e R s m args below meth c H locs cells slots Q (F0 m pc ls (.int x :: .int i :: .ref (o + q0) :: rest)) := by
  exact qa_bast hexec hb hK hP hS hA hq t0 hg ht hin hdg (fun H1 locs1 a1 a2 => kk _ H1 locs1 rfl a1 a2)
theorem qa_zast2 (hexec : p.tables.exec = Jvm.exec) (hb : c.code = cc) (hK : va_K D cl tys s) (hP : qw_P D cl o n (qG G z y) H) (hS : va_S A H0 H locs) (hA : ∀ q, qw_A o n q → A q) {q0 : Nat} (hq : q0 < n) (t0 : Nat) {cA : ClassId} {N : Nat} (hg : ∀ f g, G q0 f g = .inl (cA, N, .inl f)) (ht : tys[t0]? = some (cA, .boolean)) {i x : Int32} (hin : vp_in i N) (hdg : decode cc pc = .ok (.bastore, 1))
    (kk : ∀ (z1 : Nat → Nat → Int32) (H1 : Heap) (locs1 : List Loc), z1 = qu z q0 i.toNatClampNeg (vp_nar .boolean x) → qw_P D cl o n (qG G z1 y) H1 → va_S A H0 H1 locs1 → W p l e R s m args below meth c H1 locs1 cells slots Q (F0 m (pc + 1) ls rest)) : W p l e R s m args below meth c H locs cells slots Q (F0 m pc ls (.int x :: .int i :: .ref (o + q0) :: rest)) := by
  exact qa_zast hexec hb hK hP hS hA hq t0 hg ht hin hdg (fun H1 locs1 a1 a2 => kk _ H1 locs1 rfl a1 a2)
theorem qa_last2 (hexec : p.tables.exec = Jvm.exec) (hb : c.code = cc) (hK : va_K D cl tys s) (hP : qw_P D cl o n (qG G z y) H) (hS : va_S A H0 H locs) (hA : ∀ q, qw_A o n q → A q) {q0 : Nat} (hq : q0 < n) (t0 : Nat) {cA : ClassId} {N : Nat} (hg : ∀ f g, G q0 f g = .inl (cA, N, .inr (.inl g))) (ht : tys[t0]? = some (cA, .long)) {i : Int32} {x : Int64} (hin : vp_in i N) (hdg : decode cc pc = .ok (.lastore, 1))
    (kk : ∀ (y1 : Nat → Nat → Int64) (H1 : Heap) (locs1 : List Loc), y1 = qul y q0 i.toNatClampNeg x → qw_P D cl o n (qG G z y1) H1 → va_S A H0 H1 locs1 → W p l e R s m args below meth c H1 locs1 cells slots Q (F0 m (pc + 1) ls rest)) : W p l e R s m args below meth c H locs cells slots Q (F0 m pc ls (.long x :: .int i :: .ref (o + q0) :: rest)) := by
  exact qa_last hexec hb hK hP hS hA hq t0 hg ht hin hdg (fun H1 locs1 a1 a2 => kk _ H1 locs1 rfl a1 a2)
theorem qa_copy2 (hexec : p.tables.exec = Jvm.exec) (hb : c.code = cc) (hml : c.maxLocals = ls.size) {own : String} {index : Nat} (hown : s.vm.findClass own = some m.cls) (hlink : (Cond.methodLink own index arraycopyName).before args s = true) (hnat : (Cond.native arraycopyName).before args s = true) (hstat : (Cond.static arraycopyName).before args s = true) (hini : (Cond.initialized "java/lang/System").before args s = true)
    (hK : va_K D cl tys s) (hP : qw_P D cl o n (qG G z y) H) (hS : va_S A H0 H locs) (hA : ∀ q, qw_A o n q → A q) {q0 q1 : Nat} (hq0 : q0 < n) (hq1 : q1 < n) (t0 : Nat) {cA : ClassId} {n0 n1 : Nat} (hg0 : ∀ f g, G q0 f g = .inl (cA, n0, .inl f)) (hg1 : ∀ f g, G q1 f g = .inl (cA, n1, .inl f)) (ht : tys[t0]? = some (cA, .int))
    {sp dp k : Int32} (h1 : ¬ sp < 0) (h2 : ¬ dp < 0) (h3 : ¬ k < 0) (h4 : sp.toNatClampNeg + k.toNatClampNeg ≤ n0) (h5 : dp.toNatClampNeg + k.toNatClampNeg ≤ n1)
    (hframes : 1 ≤ R.frames) (hlocals : (rest.map fun v => v.category).sum + (nativeFrameWords "java/lang/System" "arraycopy" 5 + 11) ≤ R.locals) (hdg : decode cc pc = .ok (.invokestatic index, 3))
    (kk : ∀ (z1 : Nat → Nat → Int32) (H1 : Heap) (locs1 : List Loc), z1 = quf z q1 (va_cpy (z q0) (z q1) sp.toNatClampNeg dp.toNatClampNeg k.toNatClampNeg) → qw_P D cl o n (qG G z1 y) H1 → va_S A H0 H1 locs1 → W p l e R s m args below meth c H1 locs1 cells slots Q (F0 m (pc + 3) ls rest)) : W p l e R s m args below meth c H locs cells slots Q (F0 m pc ls (.int k :: .int dp :: .ref (o + q1) :: .int sp :: .ref (o + q0) :: rest)) := by
  exact qa_copy hexec hb hml hown hlink hnat hstat hini hK hP hS hA hq0 hq1 t0 hg0 hg1 ht h1 h2 h3 h4 h5 hframes hlocals hdg (fun H1 locs1 a1 a2 => kk _ H1 locs1 rfl a1 a2)
end Q2
section Q3
variable {p : Program} {l : Launch} {e : Env} {R : Room} {s : State} {m : MethodId} {args : Array Value} {below : List Frame} {meth : Method} {c : Code} {H : Heap} {locs : List Loc} {cells slots : Nat} {Q : State → Prop}
variable {cc bytes : ByteArray} {pc : Nat} {ls : Array Slot} {st0 rest As : List Value} {D : va_G} {cl : List vw_C} {tys : List (ClassId × FieldType)} {o n : Nat} {A : Nat → Prop} {H0 : Heap} {w : Nat → va_E} {own : String} {index maxL nL k0 : Nat} {y : MethodName} {ret : Option FieldType} {rm : Room}
theorem qc_Vi2 {post : Int32 → qZ → Prop} {G : Nat → (Nat → Int32) → (Nat → Int64) → va_E} {q0 ci : Nat} {fs : List Value} {T : u_T} {N : Nat} (hM : Met l y (Cond.code y bytes maxL ret :: qtbl) rm (qPre D cl tys o n w (.ref (o + q0) :: As)) (va_Qi post (qB D cl tys o n (fun u : qZ => qG G u.1 u.2)) (qw_A o n)) 0 0 (qw_A o n))
    (hv : qV y bytes maxL ret k0) (hF : qFix p m c cc nL s args own) (hlink : Cond.methodLink own index y ∈ qtbl) (hrc : rm.cells = 0) (hrs : rm.slots = 0) (hR : rm.frames + 1 ≤ R.frames ∧ 8 + (maxL + 11) + rm.locals ≤ R.locals) (hall : qtbl.all goodWord = true)
    (hP : qw_P D cl o n w H) (hK : va_K D cl tys s) (hS : va_S A H0 H locs) (hA : ∀ q, qw_A o n q → A q) (hq : q0 < n) (hw : w q0 = .inr (ci, fs)) (hc : cl[ci]? = some (y.cls, T, N)) (hn : As.length = k0) (hls : ls.size = nL) (hst : st0 = As.reverse ++ .ref (o + q0) :: rest) (hroom : (rest.map fun v => v.category).sum ≤ 8) (hdg : decode cc pc = .ok (.invokevirtual index, 3)) (hf : cells ≤ R.cells ∧ slots ≤ R.slots)
    (kk : ∀ (r : Int32) (z1 : Nat → Nat → Int32) (y1 : Nat → Nat → Int64) (H1 : Heap) (locs1 : List Loc), post r (z1, y1) → qw_P D cl o n (qG G z1 y1) H1 → va_S A H0 H1 locs1 → H.size ≤ H1.size → (∀ q : Nat, q < H.size → ¬ qw_A o n q → H1[q]? = H[q]?) → W p l e R s m args below meth c H1 locs1 cells slots Q (F0 m (pc + 3) ls (.int r :: rest))) : W p l e R s m args below meth c H locs cells slots Q (F0 m pc ls st0) := by
  exact qc_Vi hM hv hF hlink hrc hrs hR hall hP hK hS hA hq hw hc hn hls hst hroom hdg hf (fun r u H1 locs1 a1 a2 a3 a4 a5 => kk r u.1 u.2 H1 locs1 a1 a2 a3 a4 a5)
theorem qc_Vip {post : Int32 → Unit → Prop} {q0 ci : Nat} {fs : List Value} {T : u_T} {N : Nat} (hM : Met l y (Cond.code y bytes maxL ret :: qtbl) rm (qPre D cl tys o n w (.ref (o + q0) :: As)) (va_Qi post (qB D cl tys o n (fun _ : Unit => w)) (qw_A o n)) 0 0 (qw_A o n))
    (hv : qV y bytes maxL ret k0) (hF : qFix p m c cc nL s args own) (hlink : Cond.methodLink own index y ∈ qtbl) (hrc : rm.cells = 0) (hrs : rm.slots = 0) (hR : rm.frames + 1 ≤ R.frames ∧ 8 + (maxL + 11) + rm.locals ≤ R.locals) (hall : qtbl.all goodWord = true)
    (hP : qw_P D cl o n w H) (hK : va_K D cl tys s) (hS : va_S A H0 H locs) (hA : ∀ q, qw_A o n q → A q) (hq : q0 < n) (hw : w q0 = .inr (ci, fs)) (hc : cl[ci]? = some (y.cls, T, N)) (hn : As.length = k0) (hls : ls.size = nL) (hst : st0 = As.reverse ++ .ref (o + q0) :: rest) (hroom : (rest.map fun v => v.category).sum ≤ 8) (hdg : decode cc pc = .ok (.invokevirtual index, 3)) (hf : cells ≤ R.cells ∧ slots ≤ R.slots)
    (kk : ∀ (r : Int32) (H1 : Heap) (locs1 : List Loc), post r () → qw_P D cl o n w H1 → va_S A H0 H1 locs1 → H.size ≤ H1.size → (∀ q : Nat, q < H.size → ¬ qw_A o n q → H1[q]? = H[q]?) → W p l e R s m args below meth c H1 locs1 cells slots Q (F0 m (pc + 3) ls (.int r :: rest))) : W p l e R s m args below meth c H locs cells slots Q (F0 m pc ls st0) := by
  exact qc_Vi hM hv hF hlink hrc hrs hR hall hP hK hS hA hq hw hc hn hls hst hroom hdg hf (fun r u H1 locs1 a1 a2 a3 a4 a5 => kk r H1 locs1 a1 a2 a3 a4 a5)
theorem qc_Vl2 {post : Int64 → qZ → Prop} {G : Nat → (Nat → Int32) → (Nat → Int64) → va_E} {q0 ci : Nat} {fs : List Value} {T : u_T} {N : Nat} (hM : Met l y (Cond.code y bytes maxL ret :: qtbl) rm (qPre D cl tys o n w (.ref (o + q0) :: As)) (va_Ql post (qB D cl tys o n (fun u : qZ => qG G u.1 u.2)) (qw_A o n)) 0 0 (qw_A o n))
    (hv : qV y bytes maxL ret k0) (hF : qFix p m c cc nL s args own) (hlink : Cond.methodLink own index y ∈ qtbl) (hrc : rm.cells = 0) (hrs : rm.slots = 0) (hR : rm.frames + 1 ≤ R.frames ∧ 8 + (maxL + 11) + rm.locals ≤ R.locals) (hall : qtbl.all goodWord = true)
    (hP : qw_P D cl o n w H) (hK : va_K D cl tys s) (hS : va_S A H0 H locs) (hA : ∀ q, qw_A o n q → A q) (hq : q0 < n) (hw : w q0 = .inr (ci, fs)) (hc : cl[ci]? = some (y.cls, T, N)) (hn : As.length = k0) (hls : ls.size = nL) (hst : st0 = As.reverse ++ .ref (o + q0) :: rest) (hroom : (rest.map fun v => v.category).sum ≤ 8) (hdg : decode cc pc = .ok (.invokevirtual index, 3)) (hf : cells ≤ R.cells ∧ slots ≤ R.slots)
    (kk : ∀ (r : Int64) (z1 : Nat → Nat → Int32) (y1 : Nat → Nat → Int64) (H1 : Heap) (locs1 : List Loc), post r (z1, y1) → qw_P D cl o n (qG G z1 y1) H1 → va_S A H0 H1 locs1 → H.size ≤ H1.size → (∀ q : Nat, q < H.size → ¬ qw_A o n q → H1[q]? = H[q]?) → W p l e R s m args below meth c H1 locs1 cells slots Q (F0 m (pc + 3) ls (.long r :: rest))) : W p l e R s m args below meth c H locs cells slots Q (F0 m pc ls st0) := by
  exact qc_Vl hM hv hF hlink hrc hrs hR hall hP hK hS hA hq hw hc hn hls hst hroom hdg hf (fun r u H1 locs1 a1 a2 a3 a4 a5 => kk r u.1 u.2 H1 locs1 a1 a2 a3 a4 a5)
theorem qc_Vlp {post : Int64 → Unit → Prop} {q0 ci : Nat} {fs : List Value} {T : u_T} {N : Nat} (hM : Met l y (Cond.code y bytes maxL ret :: qtbl) rm (qPre D cl tys o n w (.ref (o + q0) :: As)) (va_Ql post (qB D cl tys o n (fun _ : Unit => w)) (qw_A o n)) 0 0 (qw_A o n))
    (hv : qV y bytes maxL ret k0) (hF : qFix p m c cc nL s args own) (hlink : Cond.methodLink own index y ∈ qtbl) (hrc : rm.cells = 0) (hrs : rm.slots = 0) (hR : rm.frames + 1 ≤ R.frames ∧ 8 + (maxL + 11) + rm.locals ≤ R.locals) (hall : qtbl.all goodWord = true)
    (hP : qw_P D cl o n w H) (hK : va_K D cl tys s) (hS : va_S A H0 H locs) (hA : ∀ q, qw_A o n q → A q) (hq : q0 < n) (hw : w q0 = .inr (ci, fs)) (hc : cl[ci]? = some (y.cls, T, N)) (hn : As.length = k0) (hls : ls.size = nL) (hst : st0 = As.reverse ++ .ref (o + q0) :: rest) (hroom : (rest.map fun v => v.category).sum ≤ 8) (hdg : decode cc pc = .ok (.invokevirtual index, 3)) (hf : cells ≤ R.cells ∧ slots ≤ R.slots)
    (kk : ∀ (r : Int64) (H1 : Heap) (locs1 : List Loc), post r () → qw_P D cl o n w H1 → va_S A H0 H1 locs1 → H.size ≤ H1.size → (∀ q : Nat, q < H.size → ¬ qw_A o n q → H1[q]? = H[q]?) → W p l e R s m args below meth c H1 locs1 cells slots Q (F0 m (pc + 3) ls (.long r :: rest))) : W p l e R s m args below meth c H locs cells slots Q (F0 m pc ls st0) := by
  exact qc_Vl hM hv hF hlink hrc hrs hR hall hP hK hS hA hq hw hc hn hls hst hroom hdg hf (fun r u H1 locs1 a1 a2 a3 a4 a5 => kk r H1 locs1 a1 a2 a3 a4 a5)
theorem qc_Vv2 {post : qZ → Prop} {G : Nat → (Nat → Int32) → (Nat → Int64) → va_E} {q0 ci : Nat} {fs : List Value} {T : u_T} {N : Nat} (hM : Met l y (Cond.code y bytes maxL ret :: qtbl) rm (qPre D cl tys o n w (.ref (o + q0) :: As)) (va_Qv post (qB D cl tys o n (fun u : qZ => qG G u.1 u.2)) (qw_A o n)) 0 0 (qw_A o n))
    (hv : qV y bytes maxL ret k0) (hF : qFix p m c cc nL s args own) (hlink : Cond.methodLink own index y ∈ qtbl) (hrc : rm.cells = 0) (hrs : rm.slots = 0) (hR : rm.frames + 1 ≤ R.frames ∧ 8 + (maxL + 11) + rm.locals ≤ R.locals) (hall : qtbl.all goodWord = true)
    (hP : qw_P D cl o n w H) (hK : va_K D cl tys s) (hS : va_S A H0 H locs) (hA : ∀ q, qw_A o n q → A q) (hq : q0 < n) (hw : w q0 = .inr (ci, fs)) (hc : cl[ci]? = some (y.cls, T, N)) (hn : As.length = k0) (hls : ls.size = nL) (hst : st0 = As.reverse ++ .ref (o + q0) :: rest) (hroom : (rest.map fun v => v.category).sum ≤ 8) (hdg : decode cc pc = .ok (.invokevirtual index, 3)) (hf : cells ≤ R.cells ∧ slots ≤ R.slots)
    (kk : ∀ (z1 : Nat → Nat → Int32) (y1 : Nat → Nat → Int64) (H1 : Heap) (locs1 : List Loc), post (z1, y1) → qw_P D cl o n (qG G z1 y1) H1 → va_S A H0 H1 locs1 → H.size ≤ H1.size → (∀ q : Nat, q < H.size → ¬ qw_A o n q → H1[q]? = H[q]?) → W p l e R s m args below meth c H1 locs1 cells slots Q (F0 m (pc + 3) ls rest)) : W p l e R s m args below meth c H locs cells slots Q (F0 m pc ls st0) := by
  exact qc_Vv hM hv hF hlink hrc hrs hR hall hP hK hS hA hq hw hc hn hls hst hroom hdg hf (fun u H1 locs1 a1 a2 a3 a4 a5 => kk u.1 u.2 H1 locs1 a1 a2 a3 a4 a5)
theorem qc_Vvp {post : Unit → Prop} {q0 ci : Nat} {fs : List Value} {T : u_T} {N : Nat} (hM : Met l y (Cond.code y bytes maxL ret :: qtbl) rm (qPre D cl tys o n w (.ref (o + q0) :: As)) (va_Qv post (qB D cl tys o n (fun _ : Unit => w)) (qw_A o n)) 0 0 (qw_A o n))
    (hv : qV y bytes maxL ret k0) (hF : qFix p m c cc nL s args own) (hlink : Cond.methodLink own index y ∈ qtbl) (hrc : rm.cells = 0) (hrs : rm.slots = 0) (hR : rm.frames + 1 ≤ R.frames ∧ 8 + (maxL + 11) + rm.locals ≤ R.locals) (hall : qtbl.all goodWord = true)
    (hP : qw_P D cl o n w H) (hK : va_K D cl tys s) (hS : va_S A H0 H locs) (hA : ∀ q, qw_A o n q → A q) (hq : q0 < n) (hw : w q0 = .inr (ci, fs)) (hc : cl[ci]? = some (y.cls, T, N)) (hn : As.length = k0) (hls : ls.size = nL) (hst : st0 = As.reverse ++ .ref (o + q0) :: rest) (hroom : (rest.map fun v => v.category).sum ≤ 8) (hdg : decode cc pc = .ok (.invokevirtual index, 3)) (hf : cells ≤ R.cells ∧ slots ≤ R.slots)
    (kk : ∀ (H1 : Heap) (locs1 : List Loc), post () → qw_P D cl o n w H1 → va_S A H0 H1 locs1 → H.size ≤ H1.size → (∀ q : Nat, q < H.size → ¬ qw_A o n q → H1[q]? = H[q]?) → W p l e R s m args below meth c H1 locs1 cells slots Q (F0 m (pc + 3) ls rest)) : W p l e R s m args below meth c H locs cells slots Q (F0 m pc ls st0) := by
  exact qc_Vv hM hv hF hlink hrc hrs hR hall hP hK hS hA hq hw hc hn hls hst hroom hdg hf (fun u H1 locs1 a1 a2 a3 a4 a5 => kk H1 locs1 a1 a2 a3 a4 a5)
theorem qc_Si2 {post : Int32 → qZ → Prop} {G : Nat → (Nat → Int32) → (Nat → Int64) → va_E} (hM : Met l y (Cond.code y bytes maxL ret :: qtbl) rm (qPre D cl tys o n w As) (va_Qi post (qB D cl tys o n (fun u : qZ => qG G u.1 u.2)) (qw_A o n)) 0 0 (qw_A o n))
    (hv : qT y bytes maxL ret k0) (hF : qFix p m c cc nL s args own) (hlink : Cond.methodLink own index y ∈ qtbl) (hrc : rm.cells = 0) (hrs : rm.slots = 0) (hR : rm.frames + 1 ≤ R.frames ∧ 8 + (maxL + 11) + rm.locals ≤ R.locals) (hall : qtbl.all goodWord = true)
    (hP : qw_P D cl o n w H) (hK : va_K D cl tys s) (hS : va_S A H0 H locs) (hA : ∀ q, qw_A o n q → A q) (hn : As.length = k0) (hls : ls.size = nL) (hst : st0 = As.reverse ++ rest) (hroom : (rest.map fun v => v.category).sum ≤ 8) (hdg : decode cc pc = .ok (.invokestatic index, 3)) (hf : cells ≤ R.cells ∧ slots ≤ R.slots)
    (kk : ∀ (r : Int32) (z1 : Nat → Nat → Int32) (y1 : Nat → Nat → Int64) (H1 : Heap) (locs1 : List Loc), post r (z1, y1) → qw_P D cl o n (qG G z1 y1) H1 → va_S A H0 H1 locs1 → H.size ≤ H1.size → (∀ q : Nat, q < H.size → ¬ qw_A o n q → H1[q]? = H[q]?) → W p l e R s m args below meth c H1 locs1 cells slots Q (F0 m (pc + 3) ls (.int r :: rest))) : W p l e R s m args below meth c H locs cells slots Q (F0 m pc ls st0) := by
  exact qc_Si hM hv hF hlink hrc hrs hR hall hP hK hS hA hn hls hst hroom hdg hf (fun r u H1 locs1 a1 a2 a3 a4 a5 => kk r u.1 u.2 H1 locs1 a1 a2 a3 a4 a5)
theorem qc_Sip {post : Int32 → Unit → Prop} (hM : Met l y (Cond.code y bytes maxL ret :: qtbl) rm (qPre D cl tys o n w As) (va_Qi post (qB D cl tys o n (fun _ : Unit => w)) (qw_A o n)) 0 0 (qw_A o n))
    (hv : qT y bytes maxL ret k0) (hF : qFix p m c cc nL s args own) (hlink : Cond.methodLink own index y ∈ qtbl) (hrc : rm.cells = 0) (hrs : rm.slots = 0) (hR : rm.frames + 1 ≤ R.frames ∧ 8 + (maxL + 11) + rm.locals ≤ R.locals) (hall : qtbl.all goodWord = true)
    (hP : qw_P D cl o n w H) (hK : va_K D cl tys s) (hS : va_S A H0 H locs) (hA : ∀ q, qw_A o n q → A q) (hn : As.length = k0) (hls : ls.size = nL) (hst : st0 = As.reverse ++ rest) (hroom : (rest.map fun v => v.category).sum ≤ 8) (hdg : decode cc pc = .ok (.invokestatic index, 3)) (hf : cells ≤ R.cells ∧ slots ≤ R.slots)
    (kk : ∀ (r : Int32) (H1 : Heap) (locs1 : List Loc), post r () → qw_P D cl o n w H1 → va_S A H0 H1 locs1 → H.size ≤ H1.size → (∀ q : Nat, q < H.size → ¬ qw_A o n q → H1[q]? = H[q]?) → W p l e R s m args below meth c H1 locs1 cells slots Q (F0 m (pc + 3) ls (.int r :: rest))) : W p l e R s m args below meth c H locs cells slots Q (F0 m pc ls st0) := by
  exact qc_Si hM hv hF hlink hrc hrs hR hall hP hK hS hA hn hls hst hroom hdg hf (fun r u H1 locs1 a1 a2 a3 a4 a5 => kk r H1 locs1 a1 a2 a3 a4 a5)
theorem qc_Sv2 {post : qZ → Prop} {G : Nat → (Nat → Int32) → (Nat → Int64) → va_E} (hM : Met l y (Cond.code y bytes maxL ret :: qtbl) rm (qPre D cl tys o n w As) (va_Qv post (qB D cl tys o n (fun u : qZ => qG G u.1 u.2)) (qw_A o n)) 0 0 (qw_A o n))
    (hv : qT y bytes maxL ret k0) (hF : qFix p m c cc nL s args own) (hlink : Cond.methodLink own index y ∈ qtbl) (hrc : rm.cells = 0) (hrs : rm.slots = 0) (hR : rm.frames + 1 ≤ R.frames ∧ 8 + (maxL + 11) + rm.locals ≤ R.locals) (hall : qtbl.all goodWord = true)
    (hP : qw_P D cl o n w H) (hK : va_K D cl tys s) (hS : va_S A H0 H locs) (hA : ∀ q, qw_A o n q → A q) (hn : As.length = k0) (hls : ls.size = nL) (hst : st0 = As.reverse ++ rest) (hroom : (rest.map fun v => v.category).sum ≤ 8) (hdg : decode cc pc = .ok (.invokestatic index, 3)) (hf : cells ≤ R.cells ∧ slots ≤ R.slots)
    (kk : ∀ (z1 : Nat → Nat → Int32) (y1 : Nat → Nat → Int64) (H1 : Heap) (locs1 : List Loc), post (z1, y1) → qw_P D cl o n (qG G z1 y1) H1 → va_S A H0 H1 locs1 → H.size ≤ H1.size → (∀ q : Nat, q < H.size → ¬ qw_A o n q → H1[q]? = H[q]?) → W p l e R s m args below meth c H1 locs1 cells slots Q (F0 m (pc + 3) ls rest)) : W p l e R s m args below meth c H locs cells slots Q (F0 m pc ls st0) := by
  exact qc_Sv hM hv hF hlink hrc hrs hR hall hP hK hS hA hn hls hst hroom hdg hf (fun u H1 locs1 a1 a2 a3 a4 a5 => kk u.1 u.2 H1 locs1 a1 a2 a3 a4 a5)
theorem qc_Svp {post : Unit → Prop} (hM : Met l y (Cond.code y bytes maxL ret :: qtbl) rm (qPre D cl tys o n w As) (va_Qv post (qB D cl tys o n (fun _ : Unit => w)) (qw_A o n)) 0 0 (qw_A o n))
    (hv : qT y bytes maxL ret k0) (hF : qFix p m c cc nL s args own) (hlink : Cond.methodLink own index y ∈ qtbl) (hrc : rm.cells = 0) (hrs : rm.slots = 0) (hR : rm.frames + 1 ≤ R.frames ∧ 8 + (maxL + 11) + rm.locals ≤ R.locals) (hall : qtbl.all goodWord = true)
    (hP : qw_P D cl o n w H) (hK : va_K D cl tys s) (hS : va_S A H0 H locs) (hA : ∀ q, qw_A o n q → A q) (hn : As.length = k0) (hls : ls.size = nL) (hst : st0 = As.reverse ++ rest) (hroom : (rest.map fun v => v.category).sum ≤ 8) (hdg : decode cc pc = .ok (.invokestatic index, 3)) (hf : cells ≤ R.cells ∧ slots ≤ R.slots)
    (kk : ∀ (H1 : Heap) (locs1 : List Loc), post () → qw_P D cl o n w H1 → va_S A H0 H1 locs1 → H.size ≤ H1.size → (∀ q : Nat, q < H.size → ¬ qw_A o n q → H1[q]? = H[q]?) → W p l e R s m args below meth c H1 locs1 cells slots Q (F0 m (pc + 3) ls rest)) : W p l e R s m args below meth c H locs cells slots Q (F0 m pc ls st0) := by
  exact qc_Sv hM hv hF hlink hrc hrs hR hall hP hK hS hA hn hls hst hroom hdg hf (fun u H1 locs1 a1 a2 a3 a4 a5 => kk H1 locs1 a1 a2 a3 a4 a5)
end Q3
/-! what the places of the cells may hold, which of them stay; kept up at each store -/
def qI (b : Nat → Nat → Int × Int) (z : Nat → Nat → Int32) : Prop := ∀ c s, (b c s).1 ≤ (z c s).toInt ∧ (z c s).toInt ≤ (b c s).2
def qK (k : Nat → Nat → Bool) (z0 z : Nat → Nat → Int32) : Prop := ∀ c s, k c s = true → z c s = z0 c s
theorem qu_in {z z1 : Nat → Nat → Int32} {c s : Nat} {x : Int32} (hz : z1 = qu z c s x) (c' s' : Nat) : (c' = c ∧ s' = s ∧ z1 c' s' = x) ∨ z1 c' s' = z c' s' := by
  rw [hz]
  by_cases hc : c' = c
  · subst hc
    rw [qu_eq]; unfold upd
    by_cases hs : s' = s
    · exact Or.inl ⟨rfl, hs, if_pos hs⟩
    · exact Or.inr (if_neg hs)
  · exact Or.inr (congrFun (qu_ne hc) s')
theorem qt_ne {z z1 : Nat → Nat → Int32} {c s : Nat} {x : Int32} (hz : z1 = qu z c s x) {c' : Nat} (s' : Nat) (h : c' ≠ c) : z1 c' s' = z c' s' := by rw [hz, qu_ne h]
theorem qt_off {z z1 : Nat → Nat → Int32} {c s : Nat} {x : Int32} (hz : z1 = qu z c s x) {s' : Nat} (h : s' ≠ s) : z1 c s' = z c s' := by rw [hz, qu_off h]
theorem qt_at {z z1 : Nat → Nat → Int32} {c s : Nat} {x : Int32} (hz : z1 = qu z c s x) : z1 c s = x := by rw [hz, qu_at]
theorem qt_row {z z1 : Nat → Nat → Int32} {c s : Nat} {x : Int32} (hz : z1 = qu z c s x) {c' : Nat} (h : c' ≠ c) : z1 c' = z c' := by rw [hz, qu_ne h]
theorem qI_up {b : Nat → Nat → Int × Int} {z z1 : Nat → Nat → Int32} {c s : Nat} {x : Int32} (h : qI b z) (hz : z1 = qu z c s x) (hx : (b c s).1 ≤ x.toInt ∧ x.toInt ≤ (b c s).2) : qI b z1 := by
  intro c' s'
  rcases qu_in hz c' s' with ⟨h1, h2, h3⟩ | h1
  · rw [h3, h1, h2]; exact hx
  · rw [h1]; exact h c' s'
theorem qK_rf {k : Nat → Nat → Bool} {z : Nat → Nat → Int32} : qK k z z := fun _ _ _ => rfl
theorem qK_up {k : Nat → Nat → Bool} {z0 z z1 : Nat → Nat → Int32} {c s : Nat} {x : Int32} (h : qK k z0 z) (hz : z1 = qu z c s x) (hc : k c s = false) : qK k z0 z1 := by
  intro c' s' hk
  rcases qu_in hz c' s' with ⟨h1, h2, -⟩ | h1
  · rw [h1, h2, hc] at hk; cases hk
  · rw [h1]; exact h c' s' hk
theorem qK_upc {k : Nat → Nat → Bool} {z0 z z1 : Nat → Nat → Int32} {c s : Nat} {x : Int32} (h : qK k z0 z) (hz : z1 = qu z c s x) : qK k (qu z0 c s x) z1 := by
  intro c' s' hk
  rw [hz]
  unfold qu upd
  by_cases hc : c' = c
  · rw [if_pos hc, if_pos hc]
    by_cases hs : s' = s
    · simp only [hs, if_true]
    · simp only [hs, if_false]
      rw [← hc]
      exact h c' s' hk
  · rw [if_neg hc, if_neg hc]; exact h c' s' hk
theorem quf_in {z z1 : Nat → Nat → Int32} {c : Nat} {f : Nat → Int32} (hz : z1 = quf z c f) (c' s' : Nat) : (c' = c ∧ z1 c' s' = f s') ∨ z1 c' s' = z c' s' := by
  rw [hz]
  by_cases hc : c' = c
  · subst hc; exact Or.inl ⟨rfl, by rw [quf_eq]⟩
  · exact Or.inr (congrFun (quf_ne hc) s')
theorem qtf_ne {z z1 : Nat → Nat → Int32} {c : Nat} {f : Nat → Int32} (hz : z1 = quf z c f) {c' : Nat} (s' : Nat) (h : c' ≠ c) : z1 c' s' = z c' s' := by rw [hz, quf_ne h]
theorem qI_upf {b : Nat → Nat → Int × Int} {z z1 : Nat → Nat → Int32} {c : Nat} {f : Nat → Int32} (h : qI b z) (hz : z1 = quf z c f) (hf : ∀ s, (b c s).1 ≤ (f s).toInt ∧ (f s).toInt ≤ (b c s).2) : qI b z1 := by
  intro c' s'
  rcases quf_in hz c' s' with ⟨h1, h2⟩ | h1
  · rw [h2, h1]; exact hf s'
  · rw [h1]; exact h c' s'
theorem qK_upf {k : Nat → Nat → Bool} {z0 z z1 : Nat → Nat → Int32} {c : Nat} {f : Nat → Int32} (h : qK k z0 z) (hz : z1 = quf z c f) (hc : ∀ s, k c s = false) : qK k z0 z1 := by
  intro c' s' hk
  rcases quf_in hz c' s' with ⟨h1, -⟩ | h1
  · rw [h1, hc] at hk; cases hk
  · rw [h1]; exact h c' s' hk
theorem qK_upfc {k : Nat → Nat → Bool} {z0 z z1 : Nat → Nat → Int32} {c : Nat} {f : Nat → Int32} (h : qK k z0 z) (hz : z1 = quf z c f) : qK k (quf z0 c f) z1 := by
  intro c' s' hk
  rw [hz]
  unfold quf
  by_cases hc : c' = c
  · rw [if_pos hc, if_pos hc]
  · rw [if_neg hc, if_neg hc]; exact h c' s' hk
theorem cpy_b {f g : Nat → Int32} {sp dp n : Nat} {L U : Int} (hf : ∀ j, L ≤ (f j).toInt ∧ (f j).toInt ≤ U) (hg : ∀ j, L ≤ (g j).toInt ∧ (g j).toInt ≤ U) (j : Nat) : L ≤ (va_cpy f g sp dp n j).toInt ∧ (va_cpy f g sp dp n j).toInt ≤ U := by
  unfold va_cpy
  split
  · exact hf _
  · exact hg _
/-! arithmetic, where nothing wraps around -/
theorem ga_add {x a b : Int32} {A B : Int} (e : x = a + b) (p : a.toInt = A) (q : b.toInt = B) (h1 : -2147483648 ≤ A + B) (h2 : A + B ≤ 2147483647) : x.toInt = A + B := by
  subst p q; rw [e]; exact gi_add h1 h2
theorem ga_sub {x a b : Int32} {A B : Int} (e : x = a - b) (p : a.toInt = A) (q : b.toInt = B) (h1 : -2147483648 ≤ A - B) (h2 : A - B ≤ 2147483647) : x.toInt = A - B := by
  subst p q; rw [e]; exact gi_sub h1 h2
theorem ga_mul {x a b : Int32} {A B : Int} (e : x = a * b) (p : a.toInt = A) (q : b.toInt = B) (h1 : -2147483648 ≤ A * B) (h2 : A * B ≤ 2147483647) : x.toInt = A * B := by
  subst p q; rw [e]; exact gi_mul h1 h2
theorem ga_neg {x a : Int32} (e : x = -a) (h : -2147483647 ≤ a.toInt) : x.toInt = -a.toInt := by
  have hb := gl_b a
  rw [e, Int32.toInt_neg]
  exact gi_bm (by omega) (by omega)
theorem ga_div {x a b : Int32} {B : Int} (e : x = a / b) (q : b.toInt = B) (h1 : 0 ≤ a.toInt) (h2 : 0 < B) : x.toInt = a.toInt / B := by
  have hb := gl_b a
  subst q
  rw [e, Int32.toInt_div, Int.tdiv_eq_ediv_of_nonneg h1]
  have h3 : a.toInt / b.toInt ≤ a.toInt := Int.ediv_le_self _ h1
  have h4 : 0 ≤ a.toInt / b.toInt := Int.ediv_nonneg h1 (Int.le_of_lt h2)
  exact gi_bm (by omega) (by omega)
theorem ga_divv {x a b : Int32} (e : x = a / b) (h1 : 0 ≤ a.toInt) (h2 : 0 < b.toInt) : 0 ≤ x.toInt ∧ x.toInt ≤ a.toInt := by
  have h := ga_div e rfl h1 h2
  rw [h]
  exact ⟨Int.ediv_nonneg h1 (Int.le_of_lt h2), Int.ediv_le_self _ h1⟩
theorem ga_rem {x a b : Int32} {B : Int} (e : x = a - a / b * b) (q : b.toInt = B) (h1 : 0 ≤ a.toInt) (h2 : 0 < B) : x.toInt = a.toInt % B := by
  have hb := gl_b a
  have hd : (a / b).toInt = a.toInt / B := ga_div rfl q h1 h2
  have h3 : 0 ≤ a.toInt / B * B := Int.mul_nonneg (Int.ediv_nonneg h1 (Int.le_of_lt h2)) (Int.le_of_lt h2)
  have h4 : a.toInt / B * B ≤ a.toInt := by
    have := Int.emod_add_mul_ediv a.toInt B
    have h5 := Int.emod_nonneg a.toInt (show B ≠ 0 from by omega)
    have h6 : B * (a.toInt / B) = a.toInt / B * B := Int.mul_comm _ _
    omega
  have hm : (a / b * b).toInt = a.toInt / B * B := by
    rw [← q] at hd ⊢
    rw [gi_mul (by rw [hd, q]; omega) (by rw [hd, q]; omega), hd]
  rw [e, gi_sub (by rw [hm]; omega) (by rw [hm]; omega), hm]
  have := Int.emod_add_mul_ediv a.toInt B
  have h6 : B * (a.toInt / B) = a.toInt / B * B := Int.mul_comm _ _
  omega
theorem ga_remv {x a b : Int32} (e : x = a - a / b * b) (h1 : 0 ≤ a.toInt) (h2 : 0 < b.toInt) : 0 ≤ x.toInt ∧ x.toInt < b.toInt := by
  rw [ga_rem e rfl h1 h2]
  exact ⟨Int.emod_nonneg _ (by omega), Int.emod_lt_of_pos _ h2⟩
theorem ga_min {x a b : Int32} (e : x = if b < a then b else a) : x.toInt = min a.toInt b.toInt := by
  rw [e]
  split
  · have := gl_lt (by assumption); omega
  · have := gl_nlt (by assumption); omega
theorem ga_max {x a b : Int32} (e : x = if a < b then b else a) : x.toInt = max a.toInt b.toInt := by
  rw [e]
  split
  · have := gl_lt (by assumption); omega
  · have := gl_nlt (by assumption); omega
theorem nJ_of {x : Int32} (h : 0 ≤ x.toInt) : ∃ i : Nat, x.toInt = (i : Int) ∧ x = nI i := by
  obtain ⟨i, hi⟩ := Int.eq_ofNat_of_zero_le h
  exact ⟨i, hi, gi_ofI hi⟩
theorem nI_and (i j : Nat) : nI i &&& nI j = nI (i &&& j) := by
  apply Int32.toBitVec_inj.mp
  rw [Int32.toBitVec_and]
  show (BitVec.ofNat 32 i &&& BitVec.ofNat 32 j) = BitVec.ofNat 32 (i &&& j)
  exact (BitVec.ofNat_and ..).symm
theorem nI_or (i j : Nat) : nI i ||| nI j = nI (i ||| j) := by
  apply Int32.toBitVec_inj.mp
  rw [Int32.toBitVec_or]
  show (BitVec.ofNat 32 i ||| BitVec.ofNat 32 j) = BitVec.ofNat 32 (i ||| j)
  exact (BitVec.ofNat_or ..).symm
theorem ga_and {x a b : Int32} {B : Int} (e : x = a &&& b) (q : b.toInt = B) (h : 0 ≤ B) : 0 ≤ x.toInt ∧ x.toInt ≤ B := by
  subst q
  obtain ⟨j, hj, hjb⟩ := nJ_of h
  have hb := gl_b b
  have h1 : x.toBitVec.toNat = a.toBitVec.toNat &&& j := by
    rw [e, Int32.toBitVec_and, BitVec.toNat_and, hjb]
    congr 1
    show (BitVec.ofNat 32 j).toNat = j
    rw [BitVec.toNat_ofNat]
    exact Nat.mod_eq_of_lt (by omega)
  have h2 : a.toBitVec.toNat &&& j ≤ j := Nat.and_le_right
  have h3 : x.toInt = (x.toBitVec.toNat : Int) := by
    show x.toBitVec.toInt = _
    rw [BitVec.toInt_eq_toNat_cond]
    rw [if_pos (by omega)]
  omega
theorem ga_and' {x a b : Int32} {A : Int} (e : x = a &&& b) (p : a.toInt = A) (h : 0 ≤ A) : 0 ≤ x.toInt ∧ x.toInt ≤ A := ga_and (by rw [e]; exact Int32.and_comm a b) p h
theorem ga_or {x a b : Int32} {A B : Int} (k : Nat) (K : Int) (e : x = a ||| b) (p : a.toInt = A) (q : b.toInt = B) (hK : ((2 ^ k : Nat) : Int) = K) (hk : K ≤ 2147483648) (h1 : 0 ≤ A) (h2 : A < K) (h3 : 0 ≤ B) (h4 : B < K) : 0 ≤ x.toInt ∧ x.toInt < K := by
  subst p q
  obtain ⟨i, hi, hie⟩ := nJ_of h1
  obtain ⟨j, hj, hje⟩ := nJ_of h3
  have hl : i ||| j < 2 ^ k := Nat.or_lt_two_pow (by omega) (by omega)
  have hx : x = nI (i ||| j) := by rw [e, hie, hje, nI_or]
  rw [hx, nI_toInt (by omega)]
  omega
theorem ga_shl {x b : Int32} (k : Nat) (K : Int) (e : x = 1 <<< (b &&& 31)) (hk : k ≤ 16) (hK : ((2 ^ k : Nat) : Int) = K) (h1 : 0 ≤ b.toInt) (h2 : b.toInt ≤ (k : Int)) : 1 ≤ x.toInt ∧ x.toInt ≤ K := by
  obtain ⟨j, hj, hje⟩ := nJ_of h1
  have hx : x = nI (2 ^ j) := by
    rw [e, hje]
    rcases (by omega : j = 0 ∨ j = 1 ∨ j = 2 ∨ j = 3 ∨ j = 4 ∨ j = 5 ∨ j = 6 ∨ j = 7 ∨ j = 8 ∨ j = 9 ∨ j = 10 ∨ j = 11 ∨ j = 12 ∨ j = 13 ∨ j = 14 ∨ j = 15 ∨ j = 16) with rfl | rfl | rfl | rfl | rfl | rfl | rfl | rfl | rfl | rfl | rfl | rfl | rfl | rfl | rfl | rfl | rfl <;> decide
  have hp : 2 ^ j ≤ 2 ^ k := Nat.pow_le_pow_right (by decide) (by omega)
  have hm : 2 ^ k ≤ 2 ^ 16 := Nat.pow_le_pow_right (by decide) hk
  have h0 : 1 ≤ 2 ^ j := Nat.one_le_two_pow
  rw [hx, nI_toInt (by omega)]
  omega
theorem ga_jand {x a b : Int64} (e : x = a &&& b) (hb : b = 65535) : 0 ≤ x.toInt ∧ x.toInt ≤ 65535 := by
  have h1 : x.toBitVec.toNat = a.toBitVec.toNat &&& 65535 := by
    rw [e, hb, Int64.toBitVec_and, BitVec.toNat_and]
    rfl
  have h2 : a.toBitVec.toNat &&& 65535 ≤ 65535 := Nat.and_le_right
  have h3 : x.toInt = (x.toBitVec.toNat : Int) := by
    show x.toBitVec.toInt = _
    rw [BitVec.toInt_eq_toNat_cond]
    rw [if_pos (by omega)]
  omega
theorem ga_l2i {x : Int32} {a : Int64} (e : x = a.toInt32) (h1 : -2147483648 ≤ a.toInt) (h2 : a.toInt ≤ 2147483647) : x.toInt = a.toInt := by
  rw [e, Int64.toInt_toInt32]
  exact gi_bm h1 h2
theorem ga_i2l {x : Int64} {a : Int32} (e : x = a.toInt64) : x.toInt = a.toInt := by
  rw [e, Int32.toInt_toInt64]
theorem ga_nat {x : Int32} {n : Nat} (h1 : 0 ≤ x.toInt) (h2 : x.toInt < (n : Int)) : x.toNatClampNeg < n := by
  show x.toInt.toNat < n
  omega
theorem nb_ok {x : Int32} (h : 0 ≤ x.toInt ∧ x.toInt ≤ 1) : narrow .boolean (.int x) = .int x := by
  rcases (by omega : x.toInt = 0 ∨ x.toInt = 1) with h | h
  · rw [gr_eq (y := 0) h]; rfl
  · rw [gr_eq (y := 1) h]; rfl
theorem nby_ok {x : Int32} (h : -128 ≤ x.toInt ∧ x.toInt ≤ 127) : x.toInt8.toInt32 = x := by
  apply gr_eq
  rw [Int8.toInt_toInt32, Int32.toInt_toInt8]
  rw [Int.bmod_def]
  split <;> omega
theorem nby_nar {x : Int32} (h : -128 ≤ x.toInt ∧ x.toInt ≤ 127) : vp_nar .byte x = x := by
  rw [vp_nar_byte]; exact nby_ok h
theorem lit_eq {x : Int32} {k : Int32} {K : Int} (hk : k.toInt = K) (h1 : K ≤ x.toInt) (h2 : x.toInt ≤ K) : x = k := gr_eq (by omega)
/-- one of PEOPLE is told, by the bits -/
def pHas (pe p : Int32) : Prop := 0 ≤ p.toInt ∧ p.toInt ≤ 5 ∧ pe >>> (p &&& 31) &&& 1 ≠ 0
theorem ga_bit {x a : Int32} (e : x = a &&& 1) : x = 0 ∨ x = 1 := by
  have h := ga_and (B := 1) e rfl (by decide)
  rcases (by omega : x.toInt = 0 ∨ x.toInt = 1) with h | h
  · exact Or.inl (gr_eq (y := 0) h)
  · exact Or.inr (gr_eq (y := 1) h)
