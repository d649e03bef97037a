/-- int[][] can be made: what the tables say -/
def qAI (U : State) : Prop := (Cond.arrayOver (.array .int)).before #[] U = true
theorem qAI_m {u U : State} (hvm : u.vm.Alike U.vm) (h : qAI u) : qAI U := by
  unfold qAI Cond.before Cond.holds at h ⊢
  simp only [Cond.value] at h ⊢
  rw [beq_iff_eq] at h ⊢
  simp only [Option.bind_eq_some_iff, Option.map_eq_some_iff] at h ⊢
  obtain ⟨comp, h1, c, h2, k, h3, h4⟩ := h
  obtain ⟨k', hk', he⟩ := hvm.2.2 _ _ h3
  refine ⟨comp, by rw [hvm.findClass]; exact h1, c, ?_, k', hk', ?_⟩
  · have q1 := va_idx_bare U.vm comp
    have q2 := va_idx_bare u.vm comp
    first | rw [hvm.bare_eq] at q2 | rw [← hvm.bare_eq] at q2
    exact (q1.symm.trans q2).trans h2
  · rw [he]; simp only [hvm.findClass]; exact h4
theorem qAI_b : qXb qAI := fun U g mk b h => qAI_m (u := U) (U := U.calling g mk b) (Vm.Alike.refl U.vm) h
theorem qL_rows {D : va_G} {cl : List vw_C} {a k n : Nat} {c : ClassId} {f g : Nat → Option Nat} {L : List va_E} {H : Heap} (h : qL D cl a L H) (hk : L[k]? = some (.inl (c, n, .inr (.inr (.inr (.inr f)))))) (hfg : ∀ j : Nat, j < n → f j = g j) : qL D cl a (L.set k (.inl (c, n, .inr (.inr (.inr (.inr g)))))) H := by
  refine qL_set h (qL_len hk) rfl ?_ (fun _ _ => rfl)
  have h1 := h.2 k _ hk
  show H[a + k]? = some (vp_cell _ _)
  rw [vp_cell_q]
  have h2 : H[a + k]? = some (vp_cell c (n, .inr (.inr (.inr (.inr f))))) := h1
  rw [vp_cell_q] at h2
  rw [h2]
  congr 1
  unfold arrV
  congr 1
  apply Array.ext
  · simp
  · intro i h1 h2
    simp only [Array.getElem_ofFn]
    rw [hfg i (by simpa using h1)]
theorem vr_outer (c : ClassId) (N h0 : Nat) : ∀ i : Nat, Jvm.Free.Multi.outerC c N h0 i = arrV c N (fun j => va_rf (if j < i then some (h0 + 1 + j) else none))
  | 0 => by
    show ({ cls := c, slots := Array.replicate N .null, vm := .none } : Cell) = _
    rw [arrV_new]
    refine congrArg (arrV c N) (funext fun j => ?_)
    simp [va_rf]
  | i + 1 => by
    show (Jvm.Free.Multi.outerC c N h0 i).setSlot i (.ref (h0 + 1 + i)) = _
    rw [vr_outer c N h0 i, arrV_store]
    refine congrArg (arrV c N) (funext fun j => ?_)
    by_cases e : j = i
    · subst e
      simp [updV, va_rf]
    · by_cases h : j < i
      · simp [updV, e, h, Nat.lt_succ_of_lt h]
      · simp [updV, e, h, show ¬ j < i + 1 by omega]
section QMN
variable {p : Program} {l : Launch} {e : Env} {R : Room} {s : State} {m : MethodId} {args : Array Value} {below : List Frame} {meth : Method} {c : Code} {H : Heap} {locs : List Loc} {cells slots : Nat} {Q : State → Prop}
variable {cc : ByteArray} {pc : Nat} {ls : Array Slot} {rest : List Value} {D : va_G} {cl : List vw_C} {tys : List (ClassId × FieldType)} {a : Nat} {A : Nat → Prop} {H0 : Heap} {L : List va_E}
/-- new int[n][k]: the outer row, and behind it the inner ones -/
theorem qn_mna (hexec : p.tables.exec = Jvm.exec) (hb : c.code = cc) {own : String} {index : Nat} {cI cO : ClassId} {Ts : List Cond} (hts : ∀ w ∈ Ts, w.before args s = true) (hown : s.vm.findClass own = some m.cls) (hclink : (Cond.classLink own index "[[I") ∈ Ts) (hover : qAI s) (harr : (Cond.arrayClass .int) ∈ Ts)
    (hI : s.vm.findClass "[I" = some cI) (hO2 : s.vm.findClass "[[I" = some cO) (hP : qL D cl a L H) (hS : va_S A H0 H locs) {n k : Int32} {N' K' : Nat} (hn : ¬ n < 0) (hk : ¬ k < 0) (hN : n.toNatClampNeg = N') (hM : k.toNatClampNeg = K')
    (hb1 : N' * 4 ≤ 536870912) (hb2 : K' * componentBytes .int ≤ 536870912) (hb3 : K' ≤ 536870912) (hcells : cells + (1 + N') ≤ R.cells) (hslots : slots + (N' + N' * K') ≤ R.slots) (hdg : decode cc pc = .ok (.multianewarray index 2, 4))
    (kk : ∀ (H1 : Heap), qL D cl a (L ++ (.inl (cO, N', .inr (.inr (.inr (.inr (fun j => if j < N' then some (a + L.length + 1 + j) else none))))) :: List.replicate N' (.inl (cI, K', .inl (fun _ => 0))))) H1 → va_S A H0 H1 locs →
      W p l e R s m args below meth c H1 locs (cells + 1 + N') (slots + N' + N' * K') Q (F0 m (pc + 4) ls (.ref (a + L.length) :: rest))) : W p l e R s m args below meth c H locs cells slots Q (F0 m pc ls (.int k :: .int n :: rest)) := by
  subst hN
  subst hM
  intro T hT Xs
  obtain ⟨vm₁, cA, comp, -, fA, fC, -, -, X', step⟩ := Xs.multianewarray2F (ty := .int) hexec hown (hts _ hclink) hover (hts _ harr) (g := F0 m pc ls (.int k :: .int n :: rest)) rfl (by rw [hb]; exact hdg) rfl hn hk hb1 hb2 hb3 rfl rfl hcells hslots
  have ec : cO = cA := Option.some.inj (hO2.symm.trans fA)
  have ei : cI = comp := Option.some.inj (hI.symm.trans fC)
  subst ec
  subst ei
  generalize hF : Jvm.Free.Multi.fill (T.setVm vm₁) cO cI n.toNatClampNeg k.toNatClampNeg (defaultValue .int) n.toNatClampNeg = F at X' step
  have hTh : (T.setVm vm₁).heap = H := hT
  obtain ⟨f1, f2, -, -⟩ := Jvm.Free.Multi.fill_facts (T.setVm vm₁) cO cI n.toNatClampNeg k.toNatClampNeg (defaultValue .int) n.toNatClampNeg
  rw [hF, hTh] at f1 f2
  have hold : ∀ x : Nat, x < H.size → F.heap[x]? = H[x]? := fun x hx => by
    have := Jvm.Free.Multi.fill_old (T.setVm vm₁) cO cI n.toNatClampNeg k.toNatClampNeg (defaultValue .int) (a := x) (by rw [hTh]; exact hx) n.toNatClampNeg
    rw [hF, hTh] at this
    exact this
  have hrow : ∀ j : Nat, j < n.toNatClampNeg → F.heap[H.size + 1 + j]? = some (vp_cell cI (k.toNatClampNeg, .inl (fun _ => 0))) := fun j hj => by
    have := Jvm.Free.Multi.fill_inner (T.setVm vm₁) cO cI n.toNatClampNeg k.toNatClampNeg (defaultValue .int) n.toNatClampNeg j hj
    rw [hF, hTh] at this
    rw [this, vp_cell_i]
    exact congrArg some (arrV_new cI k.toNatClampNeg (.int 0))
  rw [vr_outer] at f2
  have hz := hP.1
  rw [hz] at f1 f2 hrow hold
  obtain ⟨t, a1, b1⟩ := kk F.heap ⟨by rw [f1]; simp; omega, fun j x hx => by
    by_cases h1 : j < L.length
    · rw [List.getElem?_append_left h1] at hx
      exact (hP.2 j x hx).kept (hold (a + j) (by omega))
    · rw [List.getElem?_append_right (by omega)] at hx
      by_cases h2 : j = L.length
      · subst h2
        rw [Nat.sub_self] at hx
        cases hx
        show F.heap[a + L.length]? = some (vp_cell _ _)
        rw [vp_cell_q]
        exact f2
      · obtain ⟨i, hi⟩ : ∃ i, j - L.length = i + 1 := ⟨j - L.length - 1, by omega⟩
        rw [hi, List.getElem?_cons_succ, List.getElem?_replicate] at hx
        by_cases h3 : i < n.toNatClampNeg
        · rw [if_pos h3] at hx
          cases hx
          show F.heap[a + j]? = some (vp_cell _ _)
          rw [show a + j = a + L.length + 1 + i from by omega]
          exact hrow i h3
        · rw [if_neg h3] at hx; cases hx⟩ ⟨by rw [f1]; have := hS.1; omega, fun x h1 h2 => (hold x (by have := hS.1; omega)).trans (hS.2.1 x h1 h2), hS.2.2⟩ F rfl X'
  refine ⟨t, step t ?_, b1⟩
  have e : T.heap.size = a + L.length := by rw [hT]; exact hz
  rw [e]
  exact a1
end QMN
