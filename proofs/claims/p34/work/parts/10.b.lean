/-! TREE: bounds that are pulled along edges; no more than six passes are wanted where they come to rest -/
def bfCl (on : Nat → Bool) (up sr : Nat → Nat) (w : Nat → Int) (Y : Nat → Int) : Prop := ∀ e, e < 36 → on e = true → Y (sr e) + w e ≤ Y (up e)
def bfS (on : Nat → Bool) (up sr : Nat → Nat) (w : Nat → Int) (X : Nat → Nat → Int) : Prop :=
  (∀ k p, p < 6 → X k p ≤ X (k + 1) p) ∧ (∀ k e, e < 36 → on e = true → X k (sr e) + w e ≤ X (k + 1) (up e)) ∧ (∀ Y, (∀ p, p < 6 → X 0 p ≤ Y p) → bfCl on up sr w Y → ∀ k p, p < 6 → X k p ≤ Y p) ∧ (∀ k, (∀ p, p < 6 → X (k + 1) p = X k p) → ∀ j p, p < 6 → X (k + j) p = X k p) ∧ (∀ e, e < 36 → up e < 6 ∧ sr e < 6)
theorem bf_mono {on : Nat → Bool} {up sr : Nat → Nat} {w : Nat → Int} {X : Nat → Nat → Int} (h : bfS on up sr w X) {p : Nat} (hp : p < 6) (k : Nat) : ∀ j, X k p ≤ X (k + j) p
  | 0 => Int.le_refl _
  | j + 1 => Int.le_trans (bf_mono h hp k j) (h.1 (k + j) p hp)
theorem bf_leF {on : Nat → Bool} {up sr : Nat → Nat} {w : Nat → Int} {X : Nat → Nat → Int} (h : bfS on up sr w X) {K : Nat} (hK : ∀ p, p < 6 → X (K + 1) p = X K p) (k : Nat) {p : Nat} (hp : p < 6) : X k p ≤ X K p := by
  by_cases hk : k ≤ K
  · have := bf_mono h hp k (K - k)
    rw [show k + (K - k) = K from by omega] at this
    exact this
  · have := h.2.2.2.1 K hK (k - K) p hp
    rw [show K + (k - K) = k from by omega] at this
    exact Int.le_of_eq this
theorem bf_clF {on : Nat → Bool} {up sr : Nat → Nat} {w : Nat → Int} {X : Nat → Nat → Int} (h : bfS on up sr w X) {K : Nat} (hK : ∀ p, p < 6 → X (K + 1) p = X K p) : bfCl on up sr w (X K) := fun e he ho => by
  rw [← hK _ (h.2.2.2.2 e he).1]; exact h.2.1 K e he ho
/-- nobody is at rest, or all are: else one more comes to rest -/
theorem bf_next {on : Nat → Bool} {up sr : Nat → Nat} {w : Nat → Int} {X : Nat → Nat → Int} (h : bfS on up sr w X) {K : Nat} (hK : ∀ p, p < 6 → X (K + 1) p = X K p) (k : Nat) (hn : ∃ p, p < 6 ∧ X k p ≠ X K p) : ∃ p, p < 6 ∧ X k p ≠ X K p ∧ X (k + 1) p = X K p := by
  refine Classical.byContradiction fun hc => ?_
  obtain ⟨p0, hp0, hn0⟩ := hn
  have hs : ∀ p, p < 6 → X k p ≠ X K p → X (k + 1) p ≠ X K p := fun p hp h1 h2 => hc ⟨p, hp, h1, h2⟩
  have h0 : ∀ p, p < 6 → X 0 p ≤ (if X k p = X K p then X K p else X K p - 1) := fun p hp => by
    have h1 := bf_mono h hp 0 k
    rw [Nat.zero_add] at h1
    have h2 := bf_leF h hK k hp
    split <;> omega
  have hcl : bfCl on up sr w (fun p => if X k p = X K p then X K p else X K p - 1) := fun e he ho => by
    obtain ⟨hp, hq⟩ := h.2.2.2.2 e he
    have h1 := bf_clF h hK e he ho
    have h2 := h.2.1 k e he ho
    have h3 := bf_leF h hK (k + 1) hp
    have h4 := hs _ hp
    show (if X k (sr e) = X K (sr e) then X K (sr e) else X K (sr e) - 1) + w e ≤ (if X k (up e) = X K (up e) then X K (up e) else X K (up e) - 1)
    generalize up e = p at *
    generalize sr e = q at *
    by_cases e1 : X k p = X K p
    · rw [if_pos e1]
      split <;> omega
    · rw [if_neg e1]
      have h5 := h4 e1
      by_cases e2 : X k q = X K q
      · rw [if_pos e2]; omega
      · rw [if_neg e2]; omega
  have h9 := h.2.2.1 _ h0 hcl K p0 hp0
  have h9 : X K p0 ≤ (if X k p0 = X K p0 then X K p0 else X K p0 - 1) := h9
  rw [if_neg hn0] at h9
  omega
def bfB (X : Nat → Nat → Int) (K k p : Nat) : Nat := if X k p = X K p then 1 else 0
def bfN (X : Nat → Nat → Int) (K k : Nat) : Nat := bfB X K k 0 + bfB X K k 1 + bfB X K k 2 + bfB X K k 3 + bfB X K k 4 + bfB X K k 5
theorem bfB_1 (X : Nat → Nat → Int) (K k p : Nat) : bfB X K k p ≤ 1 := by unfold bfB; split <;> omega
theorem bf_grow {on : Nat → Bool} {up sr : Nat → Nat} {w : Nat → Int} {X : Nat → Nat → Int} (h : bfS on up sr w X) {K : Nat} (hK : ∀ p, p < 6 → X (K + 1) p = X K p) (k : Nat) (hn : bfN X K k < 6) : bfN X K k + 1 ≤ bfN X K (k + 1) := by
  have hm : ∀ p, p < 6 → bfB X K k p ≤ bfB X K (k + 1) p := fun p hp => by
    unfold bfB
    have h1 := h.1 k p hp
    have h2 := bf_leF h hK (k + 1) hp
    split
    · rw [if_pos (by omega)]; exact Nat.le_refl _
    · exact Nat.zero_le _
  have he : ∃ p, p < 6 ∧ X k p ≠ X K p := by
    refine Classical.byContradiction fun hc => ?_
    have ha : ∀ p, p < 6 → bfB X K k p = 1 := fun p hp => by
      unfold bfB
      rw [if_pos (Classical.byContradiction fun q => hc ⟨p, hp, q⟩)]
    unfold bfN at hn
    rw [ha 0 (by decide), ha 1 (by decide), ha 2 (by decide), ha 3 (by decide), ha 4 (by decide), ha 5 (by decide)] at hn
    exact absurd hn (by decide)
  obtain ⟨p, hp, h1, h2⟩ := bf_next h hK k he
  have g1 : bfB X K k p = 0 := if_neg h1
  have g2 : bfB X K (k + 1) p = 1 := if_pos h2
  have m0 := hm 0 (by decide)
  have m1 := hm 1 (by decide)
  have m2 := hm 2 (by decide)
  have m3 := hm 3 (by decide)
  have m4 := hm 4 (by decide)
  have m5 := hm 5 (by decide)
  unfold bfN
  rcases (by omega : p = 0 ∨ p = 1 ∨ p = 2 ∨ p = 3 ∨ p = 4 ∨ p = 5) with rfl | rfl | rfl | rfl | rfl | rfl <;> omega
theorem bf_first {on : Nat → Bool} {up sr : Nat → Nat} {w : Nat → Int} {X : Nat → Nat → Int} (h : bfS on up sr w X) {K : Nat} (hK : ∀ p, p < 6 → X (K + 1) p = X K p) : 1 ≤ bfN X K 0 := by
  refine Classical.byContradiction fun hc => ?_
  have hz : ∀ p, p < 6 → X 0 p ≠ X K p := fun p hp q => by
    have h1 : bfB X K 0 p = 1 := if_pos q
    unfold bfN at hc
    rcases (by omega : p = 0 ∨ p = 1 ∨ p = 2 ∨ p = 3 ∨ p = 4 ∨ p = 5) with rfl | rfl | rfl | rfl | rfl | rfl <;> omega
  have h9 := h.2.2.1 (fun p => X K p - 1) (fun p hp => by
    have h1 := bf_leF h hK 0 hp
    have h2 := hz p hp
    show X 0 p ≤ X K p - 1
    omega) (fun e he ho => by
    have h1 := bf_clF h hK e he ho
    show X K (sr e) - 1 + w e ≤ X K (up e) - 1
    omega) K 0 (by decide)
  have h9 : X K 0 ≤ X K 0 - 1 := h9
  omega
theorem bf_six {on : Nat → Bool} {up sr : Nat → Nat} {w : Nat → Int} {X : Nat → Nat → Int} (h : bfS on up sr w X) {K : Nat} (hK : ∀ p, p < 6 → X (K + 1) p = X K p) : ∀ p, p < 6 → X 5 p = X K p := by
  have hN : 6 ≤ bfN X K 5 := by
    have g0 := bf_first h hK
    have g1 := bf_grow h hK 0
    have g2 := bf_grow h hK 1
    have g3 := bf_grow h hK 2
    have g4 := bf_grow h hK 3
    have g5 := bf_grow h hK 4
    have hm : ∀ k, bfN X K k ≤ bfN X K (k + 1) := fun k => by
      by_cases e : bfN X K k < 6
      · have := bf_grow h hK k e; omega
      · have hb : ∀ p, p < 6 → bfB X K k p = 1 := fun p hp => by
          have b0 := bfB_1 X K k 0
          have b1 := bfB_1 X K k 1
          have b2 := bfB_1 X K k 2
          have b3 := bfB_1 X K k 3
          have b4 := bfB_1 X K k 4
          have b5 := bfB_1 X K k 5
          unfold bfN at e
          rcases (by omega : p = 0 ∨ p = 1 ∨ p = 2 ∨ p = 3 ∨ p = 4 ∨ p = 5) with rfl | rfl | rfl | rfl | rfl | rfl <;> omega
        have hb2 : ∀ p, p < 6 → bfB X K (k + 1) p = 1 := fun p hp => by
          have h1 : X k p = X K p := Classical.byContradiction fun q => by
            have := hb p hp
            unfold bfB at this
            rw [if_neg q] at this
            exact absurd this (by decide)
          have h2 := h.1 k p hp
          have h3 := bf_leF h hK (k + 1) hp
          unfold bfB
          rw [if_pos (by omega)]
        unfold bfN
        rw [hb 0 (by decide), hb 1 (by decide), hb 2 (by decide), hb 3 (by decide), hb 4 (by decide), hb 5 (by decide), hb2 0 (by decide), hb2 1 (by decide), hb2 2 (by decide), hb2 3 (by decide), hb2 4 (by decide), hb2 5 (by decide)]
        exact Nat.le_refl _
    have m0 : bfN X K 0 ≤ bfN X K 1 := hm 0
    have m1 : bfN X K 1 ≤ bfN X K 2 := hm 1
    have m2 : bfN X K 2 ≤ bfN X K 3 := hm 2
    have m3 : bfN X K 3 ≤ bfN X K 4 := hm 3
    have m4 : bfN X K 4 ≤ bfN X K 5 := hm 4
    have g1 : bfN X K 0 < 6 → bfN X K 0 + 1 ≤ bfN X K 1 := g1
    have g2 : bfN X K 1 < 6 → bfN X K 1 + 1 ≤ bfN X K 2 := g2
    have g3 : bfN X K 2 < 6 → bfN X K 2 + 1 ≤ bfN X K 3 := g3
    have g4 : bfN X K 3 < 6 → bfN X K 3 + 1 ≤ bfN X K 4 := g4
    have g5 : bfN X K 4 < 6 → bfN X K 4 + 1 ≤ bfN X K 5 := g5
    omega
  intro p hp
  refine Classical.byContradiction fun q => ?_
  have b0 := bfB_1 X K 5 0
  have b1 := bfB_1 X K 5 1
  have b2 := bfB_1 X K 5 2
  have b3 := bfB_1 X K 5 3
  have b4 := bfB_1 X K 5 4
  have b5 := bfB_1 X K 5 5
  have h1 : bfB X K 5 p = 0 := if_neg q
  unfold bfN at hN
  rcases (by omega : p = 0 ∨ p = 1 ∨ p = 2 ∨ p = 3 ∨ p = 4 ∨ p = 5) with rfl | rfl | rfl | rfl | rfl | rfl <;> omega
/-- what is bounded comes to rest -/
def bfT (X : Nat → Nat → Int) (k : Nat) : Int := X k 0 + X k 1 + X k 2 + X k 3 + X k 4 + X k 5
theorem bf_rest {on : Nat → Bool} {up sr : Nat → Nat} {w : Nat → Int} {X : Nat → Nat → Int} (h : bfS on up sr w X) {N : Nat} {A B : Int} (h0 : A ≤ bfT X 0) (h1 : bfT X N ≤ B) (hN : B - A < (N : Int)) : ∃ K, K < N ∧ ∀ p, p < 6 → X (K + 1) p = X K p := by
  refine Classical.byContradiction fun hc => ?_
  have hs : ∀ k, k < N → bfT X k + 1 ≤ bfT X (k + 1) := fun k hk => by
    have hn : ∃ p, p < 6 ∧ X (k + 1) p ≠ X k p := Classical.byContradiction fun q => hc ⟨k, hk, fun p hp => Classical.byContradiction fun q2 => q ⟨p, hp, q2⟩⟩
    obtain ⟨p, hp, hne⟩ := hn
    have m0 := h.1 k 0 (by decide)
    have m1 := h.1 k 1 (by decide)
    have m2 := h.1 k 2 (by decide)
    have m3 := h.1 k 3 (by decide)
    have m4 := h.1 k 4 (by decide)
    have m5 := h.1 k 5 (by decide)
    unfold bfT
    rcases (by omega : p = 0 ∨ p = 1 ∨ p = 2 ∨ p = 3 ∨ p = 4 ∨ p = 5) with rfl | rfl | rfl | rfl | rfl | rfl <;> omega
  have hg : ∀ k, k ≤ N → A + (k : Int) ≤ bfT X k := by
    intro k
    induction k with
    | zero => intro _; omega
    | succ k ih => intro hk; have := ih (by omega); have := hs k (by omega); omega
  have := hg N (Nat.le_refl _)
  omega
/-! one pass over the 36 pairs -/
def pG (on : Nat → Bool) (up sr : Nat → Nat) (w : Nat → Int) (f : Nat → Int) : Nat → Nat → Int
  | 0 => f
  | e + 1 => if on e = true then (fun s => if s = up e then max (pG on up sr w f e (up e)) (pG on up sr w f e (sr e) + w e) else pG on up sr w f e s) else pG on up sr w f e
theorem pG_s {on : Nat → Bool} {up sr : Nat → Nat} {w : Nat → Int} {f : Nat → Int} {e : Nat} (h : on e = true) (s : Nat) : pG on up sr w f (e + 1) s = if s = up e then max (pG on up sr w f e (up e)) (pG on up sr w f e (sr e) + w e) else pG on up sr w f e s := by
  show (if on e = true then (_ : Nat → Int) else _) s = _
  rw [if_pos h]
theorem pG_n {on : Nat → Bool} {up sr : Nat → Nat} {w : Nat → Int} {f : Nat → Int} {e : Nat} (h : ¬ on e = true) (s : Nat) : pG on up sr w f (e + 1) s = pG on up sr w f e s := by
  show (if on e = true then (_ : Nat → Int) else _) s = _
  rw [if_neg h]
theorem pG_m1 {on : Nat → Bool} {up sr : Nat → Nat} {w : Nat → Int} {f : Nat → Int} (e s : Nat) : pG on up sr w f e s ≤ pG on up sr w f (e + 1) s := by
  by_cases h : on e = true
  · rw [pG_s h]
    by_cases q : s = up e
    · rw [if_pos q, q]; omega
    · rw [if_neg q]; exact Int.le_refl _
  · rw [pG_n h]; exact Int.le_refl _
theorem pG_m {on : Nat → Bool} {up sr : Nat → Nat} {w : Nat → Int} {f : Nat → Int} (s e : Nat) : ∀ j, pG on up sr w f e s ≤ pG on up sr w f (e + j) s
  | 0 => Int.le_refl _
  | j + 1 => Int.le_trans (pG_m s e j) (pG_m1 (e + j) s)
theorem pG_e {on : Nat → Bool} {up sr : Nat → Nat} {w : Nat → Int} {f : Nat → Int} {e : Nat} (he : e < 36) (h : on e = true) : f (sr e) + w e ≤ pG on up sr w f 36 (up e) := by
  have h1 := pG_m (on := on) (up := up) (sr := sr) (w := w) (f := f) (sr e) 0 e
  rw [Nat.zero_add] at h1
  have h1 : f (sr e) ≤ pG on up sr w f e (sr e) := h1
  have h2 := pG_m (on := on) (up := up) (sr := sr) (w := w) (f := f) (up e) (e + 1) (35 - e)
  rw [show e + 1 + (35 - e) = 36 from by omega, pG_s h, if_pos rfl] at h2
  omega
theorem pG_l {on : Nat → Bool} {up sr : Nat → Nat} {w : Nat → Int} {f Y : Nat → Int} (hu : ∀ e, e < 36 → up e < 6 ∧ sr e < 6) (hf : ∀ p, p < 6 → f p ≤ Y p) (hY : bfCl on up sr w Y) : ∀ e, e ≤ 36 → ∀ p, p < 6 → pG on up sr w f e p ≤ Y p
  | 0, _, p, hp => hf p hp
  | e + 1, he, p, hp => by
    have ih := pG_l hu hf hY e (by omega)
    by_cases h : on e = true
    · rw [pG_s h]
      obtain ⟨u1, u2⟩ := hu e (by omega)
      have h1 := ih _ u1
      have h2 := ih _ u2
      have h3 := hY e (by omega) h
      by_cases q : p = up e
      · rw [if_pos q, q]; omega
      · rw [if_neg q]; exact ih p hp
    · rw [pG_n h]; exact ih p hp
theorem pG_c {on : Nat → Bool} {up sr : Nat → Nat} {w : Nat → Int} {f g : Nat → Int} (hu : ∀ e, e < 36 → up e < 6 ∧ sr e < 6) (hf : ∀ p, p < 6 → f p = g p) : ∀ e, e ≤ 36 → ∀ p, p < 6 → pG on up sr w f e p = pG on up sr w g e p
  | 0, _, p, hp => hf p hp
  | e + 1, he, p, hp => by
    have ih := pG_c (on := on) (w := w) hu hf e (by omega)
    by_cases h : on e = true
    · rw [pG_s h, pG_s h]
      obtain ⟨u1, u2⟩ := hu e (by omega)
      rw [ih _ u1, ih _ u2, ih p hp]
    · rw [pG_n h, pG_n h]; exact ih p hp
def itG (on : Nat → Bool) (up sr : Nat → Nat) (w : Nat → Int) (f : Nat → Int) : Nat → Nat → Int
  | 0 => f
  | k + 1 => pG on up sr w (itG on up sr w f k) 36
theorem itG_S {on : Nat → Bool} {up sr : Nat → Nat} {w : Nat → Int} {f : Nat → Int} (hu : ∀ e, e < 36 → up e < 6 ∧ sr e < 6) : bfS on up sr w (itG on up sr w f) := by
  refine ⟨fun k p _ => ?_, fun k e he ho => ?_, fun Y h0 hY k => ?_, fun k hk j => ?_, hu⟩
  · have h := pG_m (on := on) (up := up) (sr := sr) (w := w) (f := itG on up sr w f k) p 0 36
    exact h
  · exact pG_e he ho
  · induction k with
    | zero => exact h0
    | succ k ih => exact pG_l hu ih hY 36 (Nat.le_refl _)
  · induction j with
    | zero => intro p _; rfl
    | succ j ih =>
      intro p hp
      have h1 := pG_c (on := on) (w := w) hu ih 36 (Nat.le_refl _) p hp
      show pG on up sr w (itG on up sr w f (k + j)) 36 p = _
      rw [h1]; exact hk p hp
/-! TREE: the two rows of bounds, by who is whose parent -/
def oN (g : Nat → Int32) (e : Nat) : Bool := decide ((g e).toInt ≠ -1)
def oW (g : Nat → Int32) (e : Nat) : Int := (g e).toInt
def eP (e : Nat) : Nat := e / 6
def eQ (e : Nat) : Nat := e % 6
theorem oN_iff {g : Nat → Int32} {e : Nat} : oN g e = true ↔ (g e).toInt ≠ -1 := by unfold oN; exact decide_eq_true_iff
theorem eU : ∀ e, e < 36 → eP e < 6 ∧ eQ e < 6 := fun e he => ⟨by unfold eP; omega, by unfold eQ; omega⟩
theorem eU' : ∀ e, e < 36 → eQ e < 6 ∧ eP e < 6 := fun e he => ⟨by unfold eQ; omega, by unfold eP; omega⟩
def pA (g : Nat → Int32) (f : Nat → Int) (e : Nat) : Nat → Int := pG (oN g) eP eQ (oW g) f e
def pB (g : Nat → Int32) (f : Nat → Int) (e : Nat) : Nat → Int := pG (oN g) eQ eP (oW g) f e
def LA (g : Nat → Int32) (f : Nat → Int) (k : Nat) : Nat → Int := itG (oN g) eP eQ (oW g) f k
def HB (g : Nat → Int32) (f : Nat → Int) (k : Nat) : Nat → Int := itG (oN g) eQ eP (oW g) f k
def iI (f : Nat → Int32) : Nat → Int := fun s => (f s).toInt
def iN (f : Nat → Int32) : Nat → Int := fun s => -(f s).toInt
theorem pG_b {on : Nat → Bool} {up sr : Nat → Nat} {w : Nat → Int} {f : Nat → Int} {A B : Int} (hu : ∀ e, e < 36 → up e < 6 ∧ sr e < 6) (hw : ∀ e, e < 36 → on e = true → w e ≤ 99) (hf : ∀ p, p < 6 → A ≤ f p ∧ f p ≤ B) : ∀ e, e ≤ 36 → ∀ p, p < 6 → A ≤ pG on up sr w f e p ∧ pG on up sr w f e p ≤ B + 99 * (e : Int)
  | 0, _, p, hp => by have := hf p hp; show A ≤ f p ∧ f p ≤ B + 99 * 0; omega
  | e + 1, he, p, hp => by
    have ih := pG_b hu hw hf e (by omega)
    by_cases h : on e = true
    · rw [pG_s h]
      obtain ⟨u1, u2⟩ := hu e (by omega)
      have h1 := ih _ u1
      have h2 := ih _ u2
      have h3 := ih p hp
      have h4 := hw e (by omega) h
      by_cases q : p = up e
      · rw [if_pos q]; omega
      · rw [if_neg q]; omega
    · rw [pG_n h]
      have h3 := ih p hp
      omega
theorem itG_b {on : Nat → Bool} {up sr : Nat → Nat} {w : Nat → Int} {f : Nat → Int} {A B : Int} (hu : ∀ e, e < 36 → up e < 6 ∧ sr e < 6) (hw : ∀ e, e < 36 → on e = true → w e ≤ 99) (hf : ∀ p, p < 6 → A ≤ f p ∧ f p ≤ B) : ∀ k p, p < 6 → A ≤ itG on up sr w f k p ∧ itG on up sr w f k p ≤ B + 3564 * (k : Int)
  | 0, p, hp => by have := hf p hp; show A ≤ f p ∧ f p ≤ B + 3564 * 0; omega
  | k + 1, p, hp => by
    have ih := itG_b hu hw hf k
    have h := pG_b (A := A) (B := B + 3564 * (k : Int)) hu hw ih 36 (Nat.le_refl _) p hp
    show A ≤ pG on up sr w (itG on up sr w f k) 36 p ∧ pG on up sr w (itG on up sr w f k) 36 p ≤ _
    omega
/-- who is nobody's parent stays -/
theorem pG_stay {on : Nat → Bool} {up sr : Nat → Nat} {w : Nat → Int} {f : Nat → Int} {p : Nat} (hn : ∀ e, e < 36 → on e = true → up e ≠ p) : ∀ e, e ≤ 36 → pG on up sr w f e p = f p
  | 0, _ => rfl
  | e + 1, he => by
    have ih := pG_stay (sr := sr) (w := w) (f := f) hn e (by omega)
    by_cases h : on e = true
    · rw [pG_s h, if_neg (Ne.symm (hn e (by omega) h))]; exact ih
    · rw [pG_n h]; exact ih
theorem itG_stay {on : Nat → Bool} {up sr : Nat → Nat} {w : Nat → Int} {f : Nat → Int} {p : Nat} (hn : ∀ e, e < 36 → on e = true → up e ≠ p) : ∀ k, itG on up sr w f k p = f p
  | 0 => rfl
  | k + 1 => (pG_stay (sr := sr) (w := w) (f := itG on up sr w f k) hn 36 (Nat.le_refl _)).trans (itG_stay hn k)
/-- the part of one step of the walk of a pass: stored, or left -/
theorem tw_st {on : Nat → Bool} {up sr : Nat → Nat} {w f : Nat → Int} {e : Nat} {y y1 : Nat → Int} (h : ∀ s, s < 6 → y s = pG on up sr w f e s) (hu : up e < 6 ∧ sr e < 6) (ho : on e = true) (hm : ∀ s, s ≠ up e → y1 s = y s) (hx : y1 (up e) = max (y (up e)) (y (sr e) + w e)) : ∀ s, s < 6 → y1 s = pG on up sr w f (e + 1) s := by
  intro s hs
  rw [pG_s ho]
  by_cases q : s = up e
  · rw [if_pos q, q, hx, h _ hu.1, h _ hu.2]
  · rw [if_neg q, hm s q]; exact h s hs
theorem tw_no {on : Nat → Bool} {up sr : Nat → Nat} {w f : Nat → Int} {e : Nat} {y : Nat → Int} (h : ∀ s, s < 6 → y s = pG on up sr w f e s) (ho : ¬ on e = true) : ∀ s, s < 6 → y s = pG on up sr w f (e + 1) s := by
  intro s hs
  rw [pG_n ho]; exact h s hs
/-- what both answer comes to the same -/
def trT (pe : Int32) (p : Nat) : Prop := bitAt pe (nI p) ≠ 0
def trM0 (g : Nat → Int32) (lo hi : Nat → Int32) (pe : Int32) : Prop := (∃ k e, k < 700 ∧ e < 36 ∧ oN g e = true ∧ ((hi (eP e)).toInt < pA g (LA g (iI lo) k) (e + 1) (eP e) ∨ -(lo (eQ e)).toInt < pB g (HB g (iN hi) k) (e + 1) (eQ e))) ∨ (∃ p, p < 6 ∧ trT pe p ∧ -HB g (iN hi) 700 p < LA g (iI lo) 700 p)
def trM1 (g : Nat → Int32) (lo hi : Nat → Int32) (pe : Int32) : Prop := (∀ e, e < 36 → oN g e = true → LA g (iI lo) 700 (eP e) ≤ (hi (eP e)).toInt ∧ HB g (iN hi) 700 (eQ e) ≤ -(lo (eQ e)).toInt) ∧ (∀ p, p < 6 → trT pe p → LA g (iI lo) 700 p ≤ -HB g (iN hi) 700 p)
def trS (g : Nat → Int32) (lo hi : Nat → Int32) : Prop := ∀ s, s < 6 → LA g (iI lo) 7 s = LA g (iI lo) 6 s ∧ HB g (iN hi) 7 s = HB g (iN hi) 6 s
def trU1 (g : Nat → Int32) (lo hi : Nat → Int32) (pe : Int32) : Prop := trS g lo hi ∧ ∀ p, p < 6 → trT pe p → LA g (iI lo) 7 p ≤ -HB g (iN hi) 7 p
def trU0 (g : Nat → Int32) (lo hi : Nat → Int32) (pe : Int32) : Prop := ¬ trS g lo hi ∨ ∃ p, p < 6 ∧ trT pe p ∧ -HB g (iN hi) 7 p < LA g (iI lo) 7 p
theorem tr_far {g lo hi : Nat → Int32} (h : trS g lo hi) (j : Nat) {s : Nat} (hs : s < 6) : LA g (iI lo) (6 + j) s = LA g (iI lo) 6 s ∧ HB g (iN hi) (6 + j) s = HB g (iN hi) 6 s :=
  ⟨(itG_S (on := oN g) (w := oW g) (f := iI lo) eU).2.2.2.1 6 (fun p hp => (h p hp).1) j s hs, (itG_S (on := oN g) (w := oW g) (f := iN hi) eU').2.2.2.1 6 (fun p hp => (h p hp).2) j s hs⟩
theorem tr_le {g lo hi : Nat → Int32} (h : trS g lo hi) (k : Nat) {s : Nat} (hs : s < 6) : LA g (iI lo) k s ≤ LA g (iI lo) 6 s ∧ HB g (iN hi) k s ≤ HB g (iN hi) 6 s :=
  ⟨bf_leF (itG_S (on := oN g) (w := oW g) (f := iI lo) eU) (fun p hp => (h p hp).1) k hs, bf_leF (itG_S (on := oN g) (w := oW g) (f := iN hi) eU') (fun p hp => (h p hp).2) k hs⟩
/-- this side says yes: the reference doesn't say no -/
theorem tr_10 {g lo hi : Nat → Int32} {pe : Int32} (ht : ∀ e, e < 36 → oN g e = true → trT pe (eP e) ∧ trT pe (eQ e)) (hu : trU1 g lo hi pe) : ¬ trM0 g lo hi pe := by
  obtain ⟨hs, hc⟩ := hu
  have h0L : ∀ s, s < 6 → (lo s).toInt ≤ LA g (iI lo) 6 s := fun s hs6 => (tr_le hs 0 hs6).1
  have h0H : ∀ s, s < 6 → -(hi s).toInt ≤ HB g (iN hi) 6 s := fun s hs6 => (tr_le hs 0 hs6).2
  rintro (⟨k, e, hk, he, ho, h⟩ | ⟨p, hp, hpt, h⟩)
  · obtain ⟨u1, u2⟩ := eU e he
    obtain ⟨t1, t2⟩ := ht e he ho
    rcases h with h | h
    · have h1 := pG_m (on := oN g) (up := eP) (sr := eQ) (w := oW g) (f := LA g (iI lo) k) (eP e) (e + 1) (35 - e)
      rw [show e + 1 + (35 - e) = 36 from by omega] at h1
      have h1 : pA g (LA g (iI lo) k) (e + 1) (eP e) ≤ LA g (iI lo) (k + 1) (eP e) := h1
      have h2 := (tr_le hs (k + 1) u1).1
      have h3 := hc _ u1 t1
      have h4 := hs _ u1
      have h5 := h0H _ u1
      omega
    · have h1 := pG_m (on := oN g) (up := eQ) (sr := eP) (w := oW g) (f := HB g (iN hi) k) (eQ e) (e + 1) (35 - e)
      rw [show e + 1 + (35 - e) = 36 from by omega] at h1
      have h1 : pB g (HB g (iN hi) k) (e + 1) (eQ e) ≤ HB g (iN hi) (k + 1) (eQ e) := h1
      have h2 := (tr_le hs (k + 1) u2).2
      have h3 := hc _ u2 t2
      have h4 := hs _ u2
      have h5 := h0L _ u2
      omega
  · have h1 := tr_far hs 694 hp
    have h2 := hs p hp
    have h3 := hc p hp hpt
    have h1 : LA g (iI lo) 700 p = LA g (iI lo) 6 p ∧ HB g (iN hi) 700 p = HB g (iN hi) 6 p := h1
    omega
theorem tr_rest {on : Nat → Bool} {up sr : Nat → Nat} {w f : Nat → Int} {A B : Int} (hu : ∀ e, e < 36 → up e < 6 ∧ sr e < 6) (h0 : ∀ s, s < 6 → A ≤ f s ∧ f s ≤ B) (h7 : ∀ e, e < 36 → on e = true → itG on up sr w f 700 (up e) ≤ B) (hAB : B - A ≤ 99) : ∀ s, s < 6 → itG on up sr w f 7 s = itG on up sr w f 6 s := by
  have hS := itG_S (on := on) (w := w) (f := f) hu
  have hb : ∀ s, s < 6 → itG on up sr w f 700 s ≤ B := fun s hs => by
    by_cases q : ∃ e, e < 36 ∧ on e = true ∧ up e = s
    · obtain ⟨e, he, ho, rfl⟩ := q
      exact h7 e he ho
    · rw [itG_stay (fun e he ho hn => q ⟨e, he, ho, hn⟩)]; exact (h0 s hs).2
  have b0 := hb 0 (by decide)
  have b1 := hb 1 (by decide)
  have b2 := hb 2 (by decide)
  have b3 := hb 3 (by decide)
  have b4 := hb 4 (by decide)
  have b5 := hb 5 (by decide)
  have a0 := h0 0 (by decide)
  have a1 := h0 1 (by decide)
  have a2 := h0 2 (by decide)
  have a3 := h0 3 (by decide)
  have a4 := h0 4 (by decide)
  have a5 := h0 5 (by decide)
  obtain ⟨K, -, hK⟩ := bf_rest hS (N := 700) (A := 6 * A) (B := 6 * B) (by show 6 * A ≤ f 0 + f 1 + f 2 + f 3 + f 4 + f 5; omega) (by unfold bfT; omega) (by omega)
  intro s hs
  have g5 := bf_six hS hK
  have g6 : ∀ p, p < 6 → itG on up sr w f 6 p = itG on up sr w f 5 p := fun p hp => by
    have q1 : itG on up sr w f 5 p ≤ itG on up sr w f 6 p := hS.1 5 p hp
    have q2 : itG on up sr w f 6 p ≤ itG on up sr w f K p := bf_leF hS hK 6 hp
    have q3 : itG on up sr w f 5 p = itG on up sr w f K p := g5 p hp
    omega
  have q := hS.2.2.2.1 5 g6 2 s hs
  have q2 : itG on up sr w f 7 s = itG on up sr w f 5 s := q
  rw [q2, g6 s hs]
/-- the reference says yes: this side doesn't say no -/
theorem tr_01 {g lo hi : Nat → Int32} {pe : Int32} (hl : ∀ s, s < 6 → 0 ≤ (lo s).toInt ∧ (lo s).toInt ≤ 99) (hh : ∀ s, s < 6 → 0 ≤ (hi s).toInt ∧ (hi s).toInt ≤ 99) (hm : trM1 g lo hi pe) : ¬ trU0 g lo hi pe := by
  obtain ⟨h1, h2⟩ := hm
  have hA := tr_rest (on := oN g) (up := eP) (sr := eQ) (w := oW g) (f := iI lo) (A := 0) (B := 99) eU hl (fun e he ho => by
    have q1 := (h1 e he ho).1
    have q2 := (hh _ (eU e he).1).2
    have q1 : itG (oN g) eP eQ (oW g) (iI lo) 700 (eP e) ≤ (hi (eP e)).toInt := q1
    omega) (by decide)
  have hB := tr_rest (on := oN g) (up := eQ) (sr := eP) (w := oW g) (f := iN hi) (A := -99) (B := 0) eU' (fun s hs => by
    have q := hh s hs
    show -99 ≤ -(hi s).toInt ∧ -(hi s).toInt ≤ 0
    omega) (fun e he ho => by
    have q1 := (h1 e he ho).2
    have q2 := (hl _ (eU e he).2).1
    have q1 : itG (oN g) eQ eP (oW g) (iN hi) 700 (eQ e) ≤ -(lo (eQ e)).toInt := q1
    omega) (by decide)
  have hs : trS g lo hi := fun s hs => ⟨hA s hs, hB s hs⟩
  rintro (h | ⟨p, hp, hpt, h⟩)
  · exact h hs
  · have q1 := tr_far hs 694 hp
    have q1 : LA g (iI lo) 700 p = LA g (iI lo) 6 p ∧ HB g (iN hi) 700 p = HB g (iN hi) 6 p := q1
    have q2 := h2 p hp hpt
    have q3 := hs p hp
    omega
/-! TREE: the walk of one pass -/
def gB (g : Nat → Int32) : Prop := ∀ e, e < 36 → -1 ≤ (g e).toInt ∧ (g e).toInt ≤ 99
theorem gB_w {g : Nat → Int32} (h : gB g) : ∀ e, e < 36 → oN g e = true → oW g e ≤ 99 := fun e he _ => (h e he).2
def tA (c : Nat) (zn z : Nat → Nat → Int32) (g : Nat → Int32) (e : Nat) : Prop := ∀ s, s < 6 → (zn c s).toInt = pA g (iI (z c)) e s
def tB (c : Nat) (zn z : Nat → Nat → Int32) (g : Nat → Int32) (e : Nat) : Prop := ∀ s, s < 6 → -(zn c s).toInt = pB g (iN (z c)) e s
theorem tA_0 {c : Nat} {z : Nat → Nat → Int32} {g : Nat → Int32} : tA c z z g 0 := fun _ _ => rfl
theorem tB_0 {c : Nat} {z : Nat → Nat → Int32} {g : Nat → Int32} : tB c z z g 0 := fun _ _ => rfl
theorem tA_re {c : Nat} {zn z : Nat → Nat → Int32} {g : Nat → Int32} {e e' : Nat} (h : tA c zn z g e) (he : e = e') : tA c zn z g e' := by rw [← he]; exact h
theorem tB_re {c : Nat} {zn z : Nat → Nat → Int32} {g : Nat → Int32} {e e' : Nat} (h : tB c zn z g e) (he : e = e') : tB c zn z g e' := by rw [← he]; exact h
theorem tA_up {c c' s' : Nat} {zn z z1 : Nat → Nat → Int32} {g : Nat → Int32} {e : Nat} {x : Int32} (h : tA c zn z g e) (hz : z1 = qu zn c' s' x) (hc : c ≠ c') : tA c z1 z g e := fun s hs => by rw [qt_ne hz s hc]; exact h s hs
theorem tB_up {c c' s' : Nat} {zn z z1 : Nat → Nat → Int32} {g : Nat → Int32} {e : Nat} {x : Int32} (h : tB c zn z g e) (hz : z1 = qu zn c' s' x) (hc : c ≠ c') : tB c z1 z g e := fun s hs => by rw [qt_ne hz s hc]; exact h s hs
theorem tA_off {c : Nat} {zn z : Nat → Nat → Int32} {g : Nat → Int32} {e : Nat} {yv : Int32} (h : tA c zn z g e) (hy : yv = g e) (ho : yv.toInt = -1) : tA c zn z g (e + 1) := tw_no h (fun q => oN_iff.mp q (by rw [← hy]; exact ho))
theorem tB_off {c : Nat} {zn z : Nat → Nat → Int32} {g : Nat → Int32} {e : Nat} {yv : Int32} (h : tB c zn z g e) (hy : yv = g e) (ho : yv.toInt = -1) : tB c zn z g (e + 1) := tw_no (y := fun s => -(zn c s).toInt) h (fun q => oN_iff.mp q (by rw [← hy]; exact ho))
theorem eX {p q : Int32} (hp : 0 ≤ p.toInt) (hp5 : p.toInt ≤ 5) (hq : 0 ≤ q.toInt) (hq5 : q.toInt ≤ 5) : p.toNatClampNeg * 6 + q.toNatClampNeg < 36 ∧ eP (p.toNatClampNeg * 6 + q.toNatClampNeg) = p.toNatClampNeg ∧ eQ (p.toNatClampNeg * 6 + q.toNatClampNeg) = q.toNatClampNeg := by
  have h1 := gn_cast hp
  have h2 := gn_cast hq
  unfold eP eQ
  omega
theorem eI {p q i : Int32} (hp : 0 ≤ p.toInt) (hq : 0 ≤ q.toInt) (hi : i.toInt = p.toInt * 6 + q.toInt) : i.toNatClampNeg = p.toNatClampNeg * 6 + q.toNatClampNeg := by
  have h1 := gn_cast hp
  have h2 := gn_cast hq
  have h3 := gn_cast (x := i) (by omega)
  omega
theorem tA_st {c : Nat} {zn z z1 : Nat → Nat → Int32} {g : Nat → Int32} {p q x yv : Int32} (h : tA c zn z g (p.toNatClampNeg * 6 + q.toNatClampNeg)) (hp : 0 ≤ p.toInt) (hp5 : p.toInt ≤ 5) (hq : 0 ≤ q.toInt) (hq5 : q.toInt ≤ 5) (hy : yv = g (p.toNatClampNeg * 6 + q.toNatClampNeg)) (ho : yv.toInt ≠ -1) (hz : z1 = qu zn c p.toNatClampNeg x) (hx : x.toInt = max (zn c p.toNatClampNeg).toInt ((zn c q.toNatClampNeg).toInt + yv.toInt)) : tA c z1 z g (p.toNatClampNeg * 6 + q.toNatClampNeg + 1) := by
  obtain ⟨e1, e2, e3⟩ := eX hp hp5 hq hq5
  have hw : oW g (p.toNatClampNeg * 6 + q.toNatClampNeg) = yv.toInt := by rw [hy]; rfl
  refine tw_st (y := fun s => (zn c s).toInt) (y1 := fun s => (z1 c s).toInt) h (eU _ e1) (oN_iff.mpr (by rw [← hy]; exact ho)) (fun s hs => ?_) ?_
  · rw [e2] at hs
    show (z1 c s).toInt = (zn c s).toInt
    rw [qt_off hz hs]
  · show (z1 c _).toInt = max (zn c _).toInt ((zn c _).toInt + _)
    rw [e2, e3, hw, qt_at hz]; exact hx
theorem tA_lv {c : Nat} {zn z : Nat → Nat → Int32} {g : Nat → Int32} {p q yv : Int32} (h : tA c zn z g (p.toNatClampNeg * 6 + q.toNatClampNeg)) (hp : 0 ≤ p.toInt) (hp5 : p.toInt ≤ 5) (hq : 0 ≤ q.toInt) (hq5 : q.toInt ≤ 5) (hy : yv = g (p.toNatClampNeg * 6 + q.toNatClampNeg)) (ho : yv.toInt ≠ -1) (hx : (zn c q.toNatClampNeg).toInt + yv.toInt ≤ (zn c p.toNatClampNeg).toInt) : tA c zn z g (p.toNatClampNeg * 6 + q.toNatClampNeg + 1) := by
  obtain ⟨e1, e2, e3⟩ := eX hp hp5 hq hq5
  have hw : oW g (p.toNatClampNeg * 6 + q.toNatClampNeg) = yv.toInt := by rw [hy]; rfl
  refine tw_st (y := fun s => (zn c s).toInt) (y1 := fun s => (zn c s).toInt) h (eU _ e1) (oN_iff.mpr (by rw [← hy]; exact ho)) (fun s _ => rfl) ?_
  show (zn c _).toInt = max (zn c _).toInt ((zn c _).toInt + _)
  rw [e2, e3, hw]; omega
theorem tB_st {c : Nat} {zn z z1 : Nat → Nat → Int32} {g : Nat → Int32} {p q x yv : Int32} (h : tB c zn z g (p.toNatClampNeg * 6 + q.toNatClampNeg)) (hp : 0 ≤ p.toInt) (hp5 : p.toInt ≤ 5) (hq : 0 ≤ q.toInt) (hq5 : q.toInt ≤ 5) (hy : yv = g (p.toNatClampNeg * 6 + q.toNatClampNeg)) (ho : yv.toInt ≠ -1) (hz : z1 = qu zn c q.toNatClampNeg x) (hx : x.toInt = min (zn c q.toNatClampNeg).toInt ((zn c p.toNatClampNeg).toInt - yv.toInt)) : tB c z1 z g (p.toNatClampNeg * 6 + q.toNatClampNeg + 1) := by
  obtain ⟨e1, e2, e3⟩ := eX hp hp5 hq hq5
  have hw : oW g (p.toNatClampNeg * 6 + q.toNatClampNeg) = yv.toInt := by rw [hy]; rfl
  refine tw_st (y := fun s => -(zn c s).toInt) (y1 := fun s => -(z1 c s).toInt) h (eU' _ e1) (oN_iff.mpr (by rw [← hy]; exact ho)) (fun s hs => ?_) ?_
  · rw [e3] at hs
    show -(z1 c s).toInt = -(zn c s).toInt
    rw [qt_off hz hs]
  · show -(z1 c _).toInt = max (-(zn c _).toInt) (-(zn c _).toInt + _)
    rw [e2, e3, hw, qt_at hz]; omega
theorem tB_lv {c : Nat} {zn z : Nat → Nat → Int32} {g : Nat → Int32} {p q yv : Int32} (h : tB c zn z g (p.toNatClampNeg * 6 + q.toNatClampNeg)) (hp : 0 ≤ p.toInt) (hp5 : p.toInt ≤ 5) (hq : 0 ≤ q.toInt) (hq5 : q.toInt ≤ 5) (hy : yv = g (p.toNatClampNeg * 6 + q.toNatClampNeg)) (ho : yv.toInt ≠ -1) (hx : (zn c q.toNatClampNeg).toInt ≤ (zn c p.toNatClampNeg).toInt - yv.toInt) : tB c zn z g (p.toNatClampNeg * 6 + q.toNatClampNeg + 1) := by
  obtain ⟨e1, e2, e3⟩ := eX hp hp5 hq hq5
  have hw : oW g (p.toNatClampNeg * 6 + q.toNatClampNeg) = yv.toInt := by rw [hy]; rfl
  refine tw_st (y := fun s => -(zn c s).toInt) (y1 := fun s => -(zn c s).toInt) h (eU' _ e1) (oN_iff.mpr (by rw [← hy]; exact ho)) (fun s _ => rfl) ?_
  show -(zn c _).toInt = max (-(zn c _).toInt) (-(zn c _).toInt + _)
  rw [e2, e3, hw]; omega
theorem tA_b {c : Nat} {zn z : Nat → Nat → Int32} {g : Nat → Int32} {e s : Nat} {x : Int32} {A B : Int} (h : tA c zn z g e) (hg : gB g) (he : e ≤ 36) (hf : ∀ s, s < 6 → A ≤ (z c s).toInt ∧ (z c s).toInt ≤ B) (ex : x = zn c s) (hs : s < 6) : A ≤ x.toInt ∧ x.toInt ≤ B + 3564 := by
  have h1 := pG_b (f := iI (z c)) eU (gB_w hg) hf e he s hs
  rw [ex, h s hs]
  unfold pA
  omega
theorem tB_b {c : Nat} {zn z : Nat → Nat → Int32} {g : Nat → Int32} {e s : Nat} {x : Int32} {A B : Int} (h : tB c zn z g e) (hg : gB g) (he : e ≤ 36) (hf : ∀ s, s < 6 → A ≤ (z c s).toInt ∧ (z c s).toInt ≤ B) (ex : x = zn c s) (hs : s < 6) : A - 3564 ≤ x.toInt ∧ x.toInt ≤ B := by
  have h1 := pG_b (f := iN (z c)) (A := -B) (B := -A) eU' (gB_w hg) (fun s hs => by
    have := hf s hs
    show -B ≤ -(z c s).toInt ∧ -(z c s).toInt ≤ -A
    omega) e he s hs
  have h2 := h s hs
  unfold pB at h2
  rw [ex]
  omega
/-- has anything moved -/
def tM (c1 c2 : Nat) (zn z : Nat → Nat → Int32) (m : Int32) : Prop := (m.toInt = 0 → ∀ s, s < 6 → zn c1 s = z c1 s ∧ zn c2 s = z c2 s) ∧ (m.toInt ≠ 0 → ∃ s, s < 6 ∧ ((z c1 s).toInt < (zn c1 s).toInt ∨ (zn c2 s).toInt < (z c2 s).toInt))
theorem tM_0 {c1 c2 : Nat} {z : Nat → Nat → Int32} : tM c1 c2 z z 0 := ⟨fun _ _ _ => ⟨rfl, rfl⟩, fun h => absurd rfl h⟩
theorem tM_A {c1 c2 : Nat} {zn z z1 : Nat → Nat → Int32} {g : Nat → Int32} {e s : Nat} {x : Int32} (hA : tA c1 zn z g e) (hs : s < 6) (hz : z1 = qu zn c1 s x) (hlt : (zn c1 s).toInt < x.toInt) : tM c1 c2 z1 z 1 := by
  refine ⟨fun h => absurd h (by decide), fun _ => ⟨s, hs, Or.inl ?_⟩⟩
  have h1 := pG_m (on := oN g) (up := eP) (sr := eQ) (w := oW g) (f := iI (z c1)) s 0 e
  rw [Nat.zero_add] at h1
  have h1 : (z c1 s).toInt ≤ pA g (iI (z c1)) e s := h1
  rw [← hA s hs] at h1
  rw [qt_at hz]; omega
theorem tM_B {c1 c2 : Nat} {zn z z1 : Nat → Nat → Int32} {g : Nat → Int32} {e s : Nat} {x : Int32} (hB : tB c2 zn z g e) (hs : s < 6) (hz : z1 = qu zn c2 s x) (hlt : x.toInt < (zn c2 s).toInt) : tM c1 c2 z1 z 1 := by
  refine ⟨fun h => absurd h (by decide), fun _ => ⟨s, hs, Or.inr ?_⟩⟩
  have h1 := pG_m (on := oN g) (up := eQ) (sr := eP) (w := oW g) (f := iN (z c2)) s 0 e
  rw [Nat.zero_add] at h1
  have h1 : -(z c2 s).toInt ≤ pB g (iN (z c2)) e s := h1
  have h2 := hB s hs
  rw [qt_at hz]; omega
/-- some passes -/
def tK (c1 c2 : Nat) (zn z : Nat → Nat → Int32) (g lo hi : Nat → Int32) (k : Nat) : Prop := ∀ s, s < 6 → (zn c1 s).toInt = LA g (iI lo) k s ∧ -(zn c2 s).toInt = HB g (iN hi) k s
theorem tK_s {c1 c2 : Nat} {zn z1 z : Nat → Nat → Int32} {g lo hi : Nat → Int32} {k : Nat} (h : tK c1 c2 zn z g lo hi k) (hA : tA c1 z1 zn g 36) (hB : tB c2 z1 zn g 36) : tK c1 c2 z1 z g lo hi (k + 1) := fun s hs => by
  refine ⟨(hA s hs).trans ?_, (hB s hs).trans ?_⟩
  · exact pG_c (on := oN g) (w := oW g) eU (fun p hp => (h p hp).1) 36 (Nat.le_refl _) s hs
  · exact pG_c (on := oN g) (w := oW g) eU' (fun p hp => (h p hp).2) 36 (Nat.le_refl _) s hs
theorem tK_b {c1 c2 : Nat} {zn z : Nat → Nat → Int32} {g lo hi : Nat → Int32} {k : Nat} (h : tK c1 c2 zn z g lo hi k) (hg : gB g) (hl : ∀ s, s < 6 → 0 ≤ (lo s).toInt ∧ (lo s).toInt ≤ 99) (hh : ∀ s, s < 6 → 0 ≤ (hi s).toInt ∧ (hi s).toInt ≤ 99) : ∀ s, s < 6 → (0 ≤ (zn c1 s).toInt ∧ (zn c1 s).toInt ≤ 99 + 3564 * (k : Int)) ∧ (-(3564 * (k : Int)) ≤ (zn c2 s).toInt ∧ (zn c2 s).toInt ≤ 99) := fun s hs => by
  have h1 := itG_b (f := iI lo) (A := 0) (B := 99) eU (gB_w hg) hl k s hs
  have h2 := itG_b (f := iN hi) (A := -99) (B := 0) eU' (gB_w hg) (fun s hs => by
    have := hh s hs
    show -99 ≤ -(hi s).toInt ∧ -(hi s).toInt ≤ 0
    omega) k s hs
  have h3 := h s hs
  unfold LA HB at h3
  omega
theorem tK_eq {c1 c2 : Nat} {zn z1 z : Nat → Nat → Int32} {g lo hi : Nat → Int32} {k : Nat} (h : tK c1 c2 zn z g lo hi k) (h1 : z1 c1 = zn c1) (h2 : z1 c2 = zn c2) : tK c1 c2 z1 z g lo hi k := fun s hs => by rw [h1, h2]; exact h s hs
theorem qtf_row {z z1 : Nat → Nat → Int32} {c : Nat} {f : Nat → Int32} (hz : z1 = quf z c f) {c' : Nat} (h : c' ≠ c) : z1 c' = z c' := by rw [hz, quf_ne h]
theorem cpy_in6 {f g : Nat → Int32} {j : Nat} (hj : j < 6) : va_cpy f g (Int32.toNatClampNeg 0) (Int32.toNatClampNeg 0) (Int32.toNatClampNeg 6) j = f j := by
  have h0 : Int32.toNatClampNeg 0 = 0 := by decide
  have h6 : Int32.toNatClampNeg 6 = 6 := by decide
  rw [h0, h6]
  unfold va_cpy
  rw [if_pos (by omega)]
  congr 1; omega
theorem tK_re {c1 c2 : Nat} {zn z : Nat → Nat → Int32} {g lo hi : Nat → Int32} {k k' : Nat} (h : tK c1 c2 zn z g lo hi k) (hk : k = k') : tK c1 c2 zn z g lo hi k' := by rw [← hk]; exact h
theorem tK_0 {c1 c2 a1 a2 : Nat} {z z1 z2 : Nat → Nat → Int32} {g : Nat → Int32} (h1 : z1 = quf z c1 (va_cpy (z a1) (z c1) (Int32.toNatClampNeg 0) (Int32.toNatClampNeg 0) (Int32.toNatClampNeg 6))) (h2 : z2 = quf z1 c2 (va_cpy (z1 a2) (z1 c2) (Int32.toNatClampNeg 0) (Int32.toNatClampNeg 0) (Int32.toNatClampNeg 6))) (hc : c1 ≠ c2) (ha : a2 ≠ c1) : tK c1 c2 z2 z g (z a1) (z a2) 0 := fun s hs => by
  refine ⟨?_, ?_⟩
  · show _ = (z a1 s).toInt
    rw [h2, quf_ne hc, h1, quf_eq, cpy_in6 hs]
  · show _ = -(z a2 s).toInt
    rw [h2, quf_eq, cpy_in6 hs, h1, quf_ne ha]
theorem tr_same {c1 c2 : Nat} {zb zc z : Nat → Nat → Int32} {g lo hi : Nat → Int32} (h6 : tK c1 c2 zb z g lo hi 6) (h7 : tK c1 c2 zc z g lo hi 7) (hs : ∀ s, s < 6 → zc c1 s = zb c1 s ∧ zc c2 s = zb c2 s) : trS g lo hi := fun s hs6 => by
  have h1 := h6 s hs6
  have h2 := h7 s hs6
  have h3 := hs s hs6
  rw [h3.1, h3.2] at h2
  omega
theorem tr_moved {c1 c2 : Nat} {zb zc z : Nat → Nat → Int32} {g lo hi : Nat → Int32} (h6 : tK c1 c2 zb z g lo hi 6) (h7 : tK c1 c2 zc z g lo hi 7) (hs : ∃ s, s < 6 ∧ ((zb c1 s).toInt < (zc c1 s).toInt ∨ (zc c2 s).toInt < (zb c2 s).toInt)) : ¬ trS g lo hi := fun q => by
  obtain ⟨s, hs6, h⟩ := hs
  have h1 := h6 s hs6
  have h2 := h7 s hs6
  have h3 := q s hs6
  omega
def trC (L H : Nat → Int) (pe : Int32) (p : Int32) : Prop := ∀ s : Nat, (s : Int) < p.toInt → s < 6 → trT pe s → L s ≤ -H s
theorem trC_0 {L H : Nat → Int} {pe : Int32} : trC L H pe 0 := fun s h => by
  have h1 : (s : Int) < 0 := h
  omega
theorem trC_no {L H : Nat → Int} {pe p p' : Int32} (h : trC L H pe p) (h0 : 0 ≤ p.toInt) (h5 : p.toInt ≤ 5) (hp : p'.toInt = p.toInt + 1) (hb : ¬ pHas pe p) : trC L H pe p' := fun s hs h6 ht => by
  have hc := gn_cast h0
  by_cases e : s = p.toNatClampNeg
  · exfalso
    apply ht
    rw [e, gn_nI h0]; exact pHas_nbit hb h0 h5
  · exact h s (by omega) h6 ht
theorem trC_yes {L H : Nat → Int} {pe p p' : Int32} (h : trC L H pe p) (h0 : 0 ≤ p.toInt) (hp : p'.toInt = p.toInt + 1) (hl : L p.toNatClampNeg ≤ -H p.toNatClampNeg) : trC L H pe p' := fun s hs h6 ht => by
  have hc := gn_cast h0
  by_cases e : s = p.toNatClampNeg
  · rw [e]; exact hl
  · exact h s (by omega) h6 ht
theorem trT_of {pe p : Int32} (h : pHas pe p) : trT pe p.toNatClampNeg := by
  unfold trT
  rw [gn_nI h.1]; exact h.2.2
/-- the reference: the check at each step -/
def chI (cA cB : Nat) (zn : Nat → Nat → Int32) (g lo hi : Nat → Int32) (e : Nat) : Prop := ∀ t, t < e → oN g t = true → (zn cA (eP t)).toInt ≤ (hi (eP t)).toInt ∧ (lo (eQ t)).toInt ≤ (zn cB (eQ t)).toInt
theorem ch_0 {cA cB : Nat} {zn : Nat → Nat → Int32} {g lo hi : Nat → Int32} : chI cA cB zn g lo hi 0 := fun t ht => by omega
theorem ch_re {cA cB : Nat} {zn : Nat → Nat → Int32} {g lo hi : Nat → Int32} {e e' : Nat} (h : chI cA cB zn g lo hi e) (he : e = e') : chI cA cB zn g lo hi e' := by rw [← he]; exact h
theorem ch_off {cA cB : Nat} {zn : Nat → Nat → Int32} {g lo hi : Nat → Int32} {e : Nat} {yv : Int32} (h : chI cA cB zn g lo hi e) (hy : yv = g e) (ho : yv.toInt = -1) : chI cA cB zn g lo hi (e + 1) := fun t ht hon => by
  by_cases q : t = e
  · exact absurd (by rw [q, ← hy] at *; exact ho) (oN_iff.mp hon)
  · exact h t (by omega) hon
theorem ch_st {cA cB : Nat} {zn z1 z2 : Nat → Nat → Int32} {g lo hi : Nat → Int32} {p q x x2 : Int32} (h : chI cA cB zn g lo hi (p.toNatClampNeg * 6 + q.toNatClampNeg)) (hc : cA ≠ cB) (hp : 0 ≤ p.toInt) (hp5 : p.toInt ≤ 5) (hq : 0 ≤ q.toInt) (hq5 : q.toInt ≤ 5) (hz1 : z1 = qu zn cA p.toNatClampNeg x) (hz2 : z2 = qu z1 cB q.toNatClampNeg x2) (h1 : x.toInt ≤ (hi p.toNatClampNeg).toInt) (h2 : (lo q.toNatClampNeg).toInt ≤ x2.toInt) : chI cA cB z2 g lo hi (p.toNatClampNeg * 6 + q.toNatClampNeg + 1) := fun t ht hon => by
  obtain ⟨e1, e2, e3⟩ := eX hp hp5 hq hq5
  have hA : z2 cA = z1 cA := qt_row hz2 hc
  have a1 : (z2 cA (eP t)).toInt ≤ (hi (eP t)).toInt := by
    rw [hA]
    by_cases w : eP t = p.toNatClampNeg
    · rw [w, qt_at hz1]; exact h1
    · rw [qt_off hz1 w]
      by_cases w2 : t = p.toNatClampNeg * 6 + q.toNatClampNeg
      · exact absurd (by rw [w2]; exact e2) w
      · exact (h t (by omega) hon).1
  have a2 : (lo (eQ t)).toInt ≤ (z2 cB (eQ t)).toInt := by
    by_cases w : eQ t = q.toNatClampNeg
    · rw [w, qt_at hz2]; exact h2
    · rw [qt_off hz2 w, qt_ne hz1 _ (Ne.symm hc)]
      by_cases w2 : t = p.toNatClampNeg * 6 + q.toNatClampNeg
      · exact absurd (by rw [w2]; exact e3) w
      · exact (h t (by omega) hon).2
  exact ⟨a1, a2⟩
theorem tr_failA {c1 c2 : Nat} {zt zc z : Nat → Nat → Int32} {g lo hi : Nat → Int32} {k e s : Nat} {pe : Int32} (hK : tK c1 c2 zt z g lo hi k) (hA : tA c1 zc zt g (e + 1)) (he : e < 36) (hs : eP e = s) (ho : (g e).toInt ≠ -1) (hk : k < 700) (hlt : (hi s).toInt < (zc c1 s).toInt) : trM0 g lo hi pe := by
  refine Or.inl ⟨k, e, hk, he, oN_iff.mpr ho, Or.inl ?_⟩
  have h1 := hA (eP e) (eU e he).1
  have h2 : pA g (iI (zt c1)) (e + 1) (eP e) = pA g (LA g (iI lo) k) (e + 1) (eP e) := pG_c (on := oN g) (w := oW g) eU (fun p hp => (hK p hp).1) (e + 1) (by omega) _ (eU e he).1
  rw [← h2, ← h1, hs]; exact hlt
theorem tr_failB {c1 c2 : Nat} {zt zc z : Nat → Nat → Int32} {g lo hi : Nat → Int32} {k e s : Nat} {pe : Int32} (hK : tK c1 c2 zt z g lo hi k) (hB : tB c2 zc zt g (e + 1)) (he : e < 36) (hs : eQ e = s) (ho : (g e).toInt ≠ -1) (hk : k < 700) (hlt : (zc c2 s).toInt < (lo s).toInt) : trM0 g lo hi pe := by
  refine Or.inl ⟨k, e, hk, he, oN_iff.mpr ho, Or.inr ?_⟩
  have h1 := hB (eQ e) (eU e he).2
  have h2 : pB g (iN (zt c2)) (e + 1) (eQ e) = pB g (HB g (iN hi) k) (e + 1) (eQ e) := pG_c (on := oN g) (w := oW g) eU' (fun p hp => (hK p hp).2) (e + 1) (by omega) _ (eU e he).2
  rw [← h2, ← h1, hs]; omega
def cpI (c1 c2 : Nat) (zn : Nat → Nat → Int32) (lo hi : Nat → Int32) (p : Int32) : Prop := ∀ s : Nat, (s : Int) < p.toInt → zn c1 s = lo s ∧ zn c2 s = hi s
theorem cp_0 {c1 c2 : Nat} {zn : Nat → Nat → Int32} {lo hi : Nat → Int32} : cpI c1 c2 zn lo hi 0 := fun s h => by
  have h1 : (s : Int) < 0 := h
  omega
theorem cp_s {c1 c2 : Nat} {zn z1 z2 : Nat → Nat → Int32} {lo hi : Nat → Int32} {p p' x y : Int32} (h : cpI c1 c2 zn lo hi p) (hc : c1 ≠ c2) (h0 : 0 ≤ p.toInt) (hp : p'.toInt = p.toInt + 1) (hz1 : z1 = qu zn c1 p.toNatClampNeg x) (hx : x = lo p.toNatClampNeg) (hz2 : z2 = qu z1 c2 p.toNatClampNeg y) (hy : y = hi p.toNatClampNeg) : cpI c1 c2 z2 lo hi p' := fun s hs => by
  have g1 := gn_cast h0
  have hA : z2 c1 = z1 c1 := qt_row hz2 hc
  rw [hA]
  by_cases e : s = p.toNatClampNeg
  · rw [e, qt_at hz1, qt_at hz2]; exact ⟨hx, hy⟩
  · rw [qt_off hz1 e, qt_off hz2 e, qt_ne hz1 s (Ne.symm hc)]; exact h s (by omega)
theorem tK_c {c1 c2 : Nat} {zn z : Nat → Nat → Int32} {g lo hi : Nat → Int32} {p : Int32} (h : cpI c1 c2 zn lo hi p) (hp : 6 ≤ p.toInt) : tK c1 c2 zn z g lo hi 0 := fun s hs => by
  have h1 := h s (by omega)
  refine ⟨?_, ?_⟩
  · show _ = (lo s).toInt
    rw [h1.1]
  · show _ = -(hi s).toInt
    rw [h1.2]
theorem trM1_of {cA cB : Nat} {zn z : Nat → Nat → Int32} {g lo hi : Nat → Int32} {pe p : Int32} (hK : tK cA cB zn z g lo hi 700) (hc : chI cA cB zn g lo hi 36) (ht : trC (LA g (iI lo) 700) (HB g (iN hi) 700) pe p) (hp : 6 ≤ p.toInt) : trM1 g lo hi pe := by
  refine ⟨fun e he ho => ?_, fun s hs hT => ht s (by omega) hs hT⟩
  have h1 := hc e he ho
  have h2 := hK _ (eU e he).1
  have h3 := hK _ (eU e he).2
  omega
