/-- int[][] can be made: what the tables say -/
def qAI (U : State) : Prop := (Cond.arrayOver (.array .int)).before #[] U = true
theorem qAI_m {u U : State} (hvm : u.vm.Alike U.vm) (h : qAI u) : qAI U := by
  unfold qAI Cond.before Cond.holds at h ⊢
  simp only [Cond.value] at h ⊢
  rw [beq_iff_eq] at h ⊢
  simp only [Option.bind_eq_some_iff, Option.map_eq_some_iff] at h ⊢
  obtain ⟨comp, h1, c, h2, k, h3, h4⟩ := h
  obtain ⟨k', hk', he⟩ := hvm.2.2 _ _ h3
  refine ⟨comp, by rw [hvm.findClass]; exact h1, c, ?_, k', hk', ?_⟩
  · have q1 := va_idx_bare U.vm comp
    have q2 := va_idx_bare u.vm comp
    first | rw [hvm.bare_eq] at q2 | rw [← hvm.bare_eq] at q2
    exact (q1.symm.trans q2).trans h2
  · rw [he]; simp only [hvm.findClass]; exact h4
theorem qAI_b : qXb qAI := fun U g mk b h => qAI_m (u := U) (U := U.calling g mk b) (Vm.Alike.refl U.vm) h
theorem qL_rows {D : va_G} {cl : List vw_C} {a k n : Nat} {c : ClassId} {f g : Nat → Option Nat} {L : List va_E} {H : Heap} (h : qL D cl a L H) (hk : L[k]? = some (.inl (c, n, .inr (.inr (.inr (.inr f)))))) (hfg : ∀ j : Nat, j < n → f j = g j) : qL D cl a (L.set k (.inl (c, n, .inr (.inr (.inr (.inr g)))))) H := by
  refine qL_set h (qL_len hk) rfl ?_ (fun _ _ => rfl)
  have h1 := h.2 k _ hk
  show H[a + k]? = some (vp_cell _ _)
  rw [vp_cell_q]
  have h2 : H[a + k]? = some (vp_cell c (n, .inr (.inr (.inr (.inr f))))) := h1
  rw [vp_cell_q] at h2
  rw [h2]
  congr 1
  unfold arrV
  congr 1
  apply Array.ext
  · simp
  · intro i h1 h2
    simp only [Array.getElem_ofFn]
    rw [hfg i (by simpa using h1)]
set_option maxRecDepth 100000 in
set_option maxHeartbeats 4000000 in
theorem uC_Reader (l : Launch) (D : va_G) (ca : Nat → ClassId) (a : Nat) (t : Nat) : Met l yX6_init (Cond.code yX6_init cX6_init 2 none :: qtbl) ({ frames := 1, cells := 25, slots := 175, locals := 100 }) (qCP D vwCl (qT6 ca) a [.inr (6, [.null, .null, .null, .null, .null, .int 0, .int 0, .int 0, .int 0, .int 0, .int 0, .int 0, .int 0, .int 0, .int 0])] (qAI) [.ref (a + 0), .ref t]) (qCQ D vwCl (qT6 ca) a (fun u : Unit => [.inr (6, [.ref t, .ref (a + 1), .ref (a + 9), .ref (a + 17), .ref (a + 25), .int 0, .int 0, .int 0, .int 0, .int 0, .int 0, .int 0, .int 0, .int 0, .int 0]), .inl (ca 5, 7, .inr (.inr (.inr (.inr (fun j => if j < 7 then some (a + 1 + 1 + j) else none))))), .inl (ca 0, 7, .inl (fun _ => 0)), .inl (ca 0, 7, .inl (fun _ => 0)), .inl (ca 0, 7, .inl (fun _ => 0)), .inl (ca 0, 7, .inl (fun _ => 0)), .inl (ca 0, 7, .inl (fun _ => 0)), .inl (ca 0, 7, .inl (fun _ => 0)), .inl (ca 0, 7, .inl (fun _ => 0)), .inl (ca 5, 7, .inr (.inr (.inr (.inr (fun j => if j < 7 then some (a + 9 + 1 + j) else none))))), .inl (ca 0, 7, .inl (fun _ => 0)), .inl (ca 0, 7, .inl (fun _ => 0)), .inl (ca 0, 7, .inl (fun _ => 0)), .inl (ca 0, 7, .inl (fun _ => 0)), .inl (ca 0, 7, .inl (fun _ => 0)), .inl (ca 0, 7, .inl (fun _ => 0)), .inl (ca 0, 7, .inl (fun _ => 0)), .inl (ca 5, 7, .inr (.inr (.inr (.inr (fun j => if j < 7 then some (a + 17 + 1 + j) else none))))), .inl (ca 0, 7, .inl (fun _ => 0)), .inl (ca 0, 7, .inl (fun _ => 0)), .inl (ca 0, 7, .inl (fun _ => 0)), .inl (ca 0, 7, .inl (fun _ => 0)), .inl (ca 0, 7, .inl (fun _ => 0)), .inl (ca 0, 7, .inl (fun _ => 0)), .inl (ca 0, 7, .inl (fun _ => 0)), .inl (ca 0, 7, .inl (fun _ => 0))])) 25 175 (fun q => a ≤ q) := sorry
