theorem gl_lt {x y : Int32} (h : x < y) : x.toInt < y.toInt := Int32.lt_iff_toInt_lt.mp h
theorem gl_nlt {x y : Int32} (h : ¬ x < y) : y.toInt ≤ x.toInt := Int.not_lt.mp (fun q => h (Int32.lt_iff_toInt_lt.mpr q))
theorem gl_le {x y : Int32} (h : x ≤ y) : x.toInt ≤ y.toInt := Int32.le_iff_toInt_le.mp h
theorem gl_nle {x y : Int32} (h : ¬ x ≤ y) : y.toInt < x.toInt := Int.not_le.mp (fun q => h (Int32.le_iff_toInt_le.mpr q))
theorem gl_eq {x y : Int32} (h : x = y) : x.toInt = y.toInt := congrArg Int32.toInt h
theorem gl_ne {x y : Int32} (h : ¬ x = y) : x.toInt ≠ y.toInt := fun q => h (Int32.toInt_inj.mp q)
theorem gr_lt {x y : Int32} (h : x.toInt < y.toInt) : x < y := Int32.lt_iff_toInt_lt.mpr h
theorem gr_nlt {x y : Int32} (h : y.toInt ≤ x.toInt) : ¬ x < y := fun q => Int.not_lt.mpr h (Int32.lt_iff_toInt_lt.mp q)
theorem gr_le {x y : Int32} (h : x.toInt ≤ y.toInt) : x ≤ y := Int32.le_iff_toInt_le.mpr h
theorem gr_nle {x y : Int32} (h : y.toInt < x.toInt) : ¬ x ≤ y := fun q => Int.not_le.mpr h (Int32.le_iff_toInt_le.mp q)
theorem gr_eq {x y : Int32} (h : x.toInt = y.toInt) : x = y := Int32.toInt_inj.mp h
theorem gr_ne {x y : Int32} (h : x.toInt ≠ y.toInt) : ¬ x = y := fun q => h (congrArg Int32.toInt q)
theorem gl_b (x : Int32) : -2147483648 ≤ x.toInt ∧ x.toInt ≤ 2147483647 := by
  have h1 := Int32.le_toInt x
  have h2 := Int32.toInt_lt x
  omega
theorem gi_bm {a : Int} (h1 : -2147483648 ≤ a) (h2 : a ≤ 2147483647) : a.bmod (2 ^ 32) = a := by
  rw [Int.bmod_def]
  split <;> omega
theorem gi_add {x y : Int32} (h1 : -2147483648 ≤ x.toInt + y.toInt) (h2 : x.toInt + y.toInt ≤ 2147483647) : (x + y).toInt = x.toInt + y.toInt := by
  rw [Int32.toInt_add]; exact gi_bm h1 h2
theorem gi_sub {x y : Int32} (h1 : -2147483648 ≤ x.toInt - y.toInt) (h2 : x.toInt - y.toInt ≤ 2147483647) : (x - y).toInt = x.toInt - y.toInt := by
  rw [Int32.toInt_sub]; exact gi_bm h1 h2
theorem gi_mul {x y : Int32} (h1 : -2147483648 ≤ x.toInt * y.toInt) (h2 : x.toInt * y.toInt ≤ 2147483647) : (x * y).toInt = x.toInt * y.toInt := by
  rw [Int32.toInt_mul]; exact gi_bm h1 h2
theorem gi_in {x : Int32} {n : Nat} (h1 : 0 ≤ x.toInt) (h2 : x.toInt < n) : vp_in x n := vp_in_iff.mpr ⟨h1, h2⟩
theorem gi_nat {x : Int32} {j : Nat} (h : x.toInt = (j : Int)) : x.toNatClampNeg = j := by
  show x.toInt.toNat = j
  rw [h]; exact Int.toNat_natCast j
theorem gi_nN (n : Nat) (h : n < 2 ^ 31) : (nI n).toInt = (n : Int) := nI_toInt h
theorem gi_ofI {x : Int32} {j : Nat} (h : x.toInt = (j : Int)) : x = nI j := by
  have hb := gl_b x
  exact gr_eq (by rw [h, nI_toInt (by omega)])
theorem gi_m1 (x : Int32) : x &&& (-1) = x := by
  apply Int32.toBitVec_inj.mp
  rw [Int32.toBitVec_and]
  show x.toBitVec &&& (-1#32) = x.toBitVec
  rw [show (-1#32 : BitVec 32) = BitVec.allOnes 32 from by decide]
  exact BitVec.and_allOnes
theorem gi_0a (x : Int32) : (0 : Int32) &&& x = 0 := by
  apply Int32.toBitVec_inj.mp
  rw [Int32.toBitVec_and]
  show (0#32 &&& x.toBitVec) = 0#32
  exact BitVec.zero_and
theorem gi_a0 (x : Int32) : x &&& (0 : Int32) = 0 := by
  apply Int32.toBitVec_inj.mp
  rw [Int32.toBitVec_and]
  show (x.toBitVec &&& 0#32) = 0#32
  exact BitVec.and_zero
theorem gi_0s (x : Int32) : (0 : Int32) >>> x = 0 := by
  apply Int32.toBitVec_inj.mp
  rw [Int32.toBitVec_shiftRight]
  show (0#32).sshiftRight' _ = 0#32
  rw [BitVec.sshiftRight', BitVec.sshiftRight]
  simp
section QT
variable {p : Program} {l : Launch} {e : Env} {R : Room} {s : State} {m : MethodId} {args : Array Value} {below : List Frame} {meth : Method} {c : Code} {H : Heap} {locs : List Loc} {cells slots : Nat} {Q : State → Prop} {pc : Nat} {ls : Array Slot} {rest : List Value}
theorem qtop {x x' : Int32} (h : x = x') (k : W p l e R s m args below meth c H locs cells slots Q (F0 m pc ls (.int x' :: rest))) : W p l e R s m args below meth c H locs cells slots Q (F0 m pc ls (.int x :: rest)) := by rw [h]; exact k
theorem qtopl {x x' : Int64} (h : x = x') (k : W p l e R s m args below meth c H locs cells slots Q (F0 m pc ls (.long x' :: rest))) : W p l e R s m args below meth c H locs cells slots Q (F0 m pc ls (.long x :: rest)) := by rw [h]; exact k
end QT
/-! the shape of a contract over a world of n cells -/
abbrev qM (l : Launch) (y : MethodName) (cc : ByteArray) (maxL : Nat) (ret : Option FieldType) (fr lo : Nat) (Pc : Array Value → State → Prop) (Qc : Array Value → State → Outcome → State → Prop) (fre : Addr → Prop) : Prop := Met l y (Cond.code y cc maxL ret :: qtbl) ({ frames := fr, cells := 0, slots := 0, locals := lo }) Pc Qc 0 0 fre
abbrev qZ : Type := (Nat → Nat → Int32) × (Nat → Nat → Int64)
/-! a whole row copied -/
def quf (z : Nat → Nat → Int32) (a : Nat) (f : Nat → Int32) : Nat → Nat → Int32 := fun k => if k = a then f else z k
theorem quf_ne {z : Nat → Nat → Int32} {a k : Nat} {f : Nat → Int32} (h : k ≠ a) : quf z a f k = z k := if_neg h
theorem quf_eq {z : Nat → Nat → Int32} {a : Nat} {f : Nat → Int32} : quf z a f a = f := if_pos rfl
theorem qw_G_upf {G : Nat → (Nat → Int32) → (Nat → Int64) → va_E} {z : Nat → Nat → Int32} {y : Nat → Nat → Int64} {a : Nat} {f : Nat → Int32} {e : va_E} (h : G a f (y a) = e) : va_up (qG G z y) a e = qG G (quf z a f) y := by
  funext k
  by_cases hk : k = a
  · subst hk
    show (if k = k then e else _) = G k (quf z k f k) (y k)
    rw [if_pos rfl, quf_eq, h]
  · show (if k = a then e else G k (z k) (y k)) = G k (quf z a f k) (y k)
    rw [if_neg hk, quf_ne hk]
section QY
variable {p : Program} {l : Launch} {e : Env} {R : Room} {s : State} {m : MethodId} {args : Array Value} {below : List Frame} {meth : Method} {c : Code} {H : Heap} {locs : List Loc} {cells slots : Nat} {Q : State → Prop}
variable {cc : ByteArray} {pc : Nat} {ls : Array Slot} {rest : List Value} {D : va_G} {cl : List vw_C} {tys : List (ClassId × FieldType)} {o n : Nat} {A : Nat → Prop} {H0 : Heap} {G : Nat → (Nat → Int32) → (Nat → Int64) → va_E} {z : Nat → Nat → Int32} {y : Nat → Nat → Int64}
/-- System.arraycopy of ints -/
theorem qa_copy (hexec : p.tables.exec = Jvm.exec) (hb : c.code = cc) (hml : c.maxLocals = ls.size) {own : String} {index : Nat} (hown : s.vm.findClass own = some m.cls) (hlink : (Cond.methodLink own index arraycopyName).before args s = true) (hnat : (Cond.native arraycopyName).before args s = true) (hstat : (Cond.static arraycopyName).before args s = true) (hini : (Cond.initialized "java/lang/System").before args s = true)
    (hK : va_K D cl tys s) (hP : qw_P D cl o n (qG G z y) H) (hS : va_S A H0 H locs) (hA : ∀ q, qw_A o n q → A q) {q0 q1 : Nat} (hq0 : q0 < n) (hq1 : q1 < n) (t0 : Nat) {cA : ClassId} {n0 n1 : Nat} (hg0 : ∀ f g, G q0 f g = .inl (cA, n0, .inl f)) (hg1 : ∀ f g, G q1 f g = .inl (cA, n1, .inl f)) (ht : tys[t0]? = some (cA, .int))
    {sp dp k : Int32} (h1 : ¬ sp < 0) (h2 : ¬ dp < 0) (h3 : ¬ k < 0) (h4 : sp.toNatClampNeg + k.toNatClampNeg ≤ n0) (h5 : dp.toNatClampNeg + k.toNatClampNeg ≤ n1)
    (hframes : 1 ≤ R.frames) (hlocals : (rest.map fun v => v.category).sum + (nativeFrameWords "java/lang/System" "arraycopy" 5 + 11) ≤ R.locals) (hdg : decode cc pc = .ok (.invokestatic index, 3))
    (kk : ∀ (H1 : Heap) (locs1 : List Loc), qw_P D cl o n (qG G (quf z q1 (va_cpy (z q0) (z q1) sp.toNatClampNeg dp.toNatClampNeg k.toNatClampNeg)) y) H1 → va_S A H0 H1 locs1 → W p l e R s m args below meth c H1 locs1 cells slots Q (F0 m (pc + 3) ls rest)) : W p l e R s m args below meth c H locs cells slots Q (F0 m pc ls (.int k :: .int dp :: .ref (o + q1) :: .int sp :: .ref (o + q0) :: rest)) := by
  refine va_copyi hexec hb hml hown hlink hnat hstat hini hK (ws := qw_l o n (qG G z y)) (qw_P_of hP) (qw_D hA) hS q0 q1 t0 t0 (f := z q0) (g := z q1) (ty := .int) (by rw [qw_l_get hq0]; exact congrArg (fun t => some (o + q0, t)) (hg0 _ _)) (by rw [qw_l_get hq1]; exact congrArg (fun t => some (o + q1, t)) (hg1 _ _)) ht ht rfl h1 h2 h3 h4 h5 (fun _ _ => rfl) hframes hlocals hdg ?_
  intro H1 locs1 a1 _ a3
  rw [qw_l_set hq1] at a1
  have a2 := qw_P_to a1
  exact kk H1 locs1 (by rwa [qw_G_upf (f := va_cpy (z q0) (z q1) sp.toNatClampNeg dp.toNatClampNeg k.toNatClampNeg) (hg1 _ _)] at a2) a3
end QY
/-! how many rows by sets of remarks, of one row in which none is told: one for the empty set -/
def gMANY (f : Nat → Int32) : Prop := f 0 = 1 ∧ ∀ j : Nat, 0 < j → j < 1024 → f j = 0
theorem gfill_step {z : Nat → Nat → Int32} {c i : Nat} {x v : Int32} (hx : x.toInt = (i : Int)) (h : ∀ j : Nat, j < i → z c j = v) : ∀ j : Nat, j < i + 1 → qu z c x.toNatClampNeg v c j = v := by
  intro j hj
  rw [gi_nat hx, qu_eq]
  unfold upd
  by_cases e : j = i
  · rw [if_pos e]
  · rw [if_neg e]; exact h j (by omega)
theorem gmany_first {f : Nat → Int32} (h : ∀ j : Nat, j < 1024 → f j = 0) : gMANY (upd f (Int32.toNatClampNeg 0) 1) := by
  refine ⟨rfl, fun j h1 h2 => ?_⟩
  show (if j = Int32.toNatClampNeg 0 then (1 : Int32) else f j) = 0
  rw [if_neg (show j ≠ Int32.toNatClampNeg 0 from fun q => by rw [q] at h1; exact absurd h1 (by decide))]
  exact h j h2
theorem gmany_step {f : Nat → Int32} {x b v : Int32} (h : gMANY f) (h1 : 0 ≤ x.toInt) (h2 : x.toInt < 1024) (h3 : 0 ≤ (x ||| b).toInt ∧ (x ||| b).toInt < 1024) (h4 : 0 < (x ||| b).toInt) (hv : v = f x.toNatClampNeg + f (x ||| b).toNatClampNeg) : gMANY (upd f x.toNatClampNeg v) := by
  obtain ⟨i, hi⟩ := Int.eq_ofNat_of_zero_le h1
  obtain ⟨j, hj⟩ := Int.eq_ofNat_of_zero_le h3.1
  rw [gi_nat hi, gi_nat hj, h.2 j (by omega) (by omega)] at hv
  rw [gi_nat hi]
  have e : f i + 0 = f i := Int32.add_zero _
  rw [e] at hv
  subst hv
  have : upd f i (f i) = f := by
    funext k
    unfold upd
    by_cases q : k = i
    · rw [if_pos q, q]
    · rw [if_neg q]
  rw [this]
  exact h
theorem gmany_at {f : Nat → Int32} {x : Int32} (h : gMANY f) (h1 : 0 < x.toInt) (h2 : x.toInt < 1024) : f x.toNatClampNeg = 0 := by
  obtain ⟨i, hi⟩ := Int.eq_ofNat_of_zero_le (Int.le_of_lt h1)
  rw [gi_nat hi]
  exact h.2 i (by omega) (by omega)
