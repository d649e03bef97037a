abbrev qT6 (ca : Nat → ClassId) : List (ClassId × FieldType) := [(ca 0, .int), (ca 1, .long), (ca 2, .boolean), (ca 3, .byte), (ca 4, .object "UncleAges$Line"), (ca 5, .array .int)]
/-! the cells of side U -/
def FU_0 (o : Nat) (f : Nat → Int32) : List Value := [.ref (o + 1), .ref (o + 39), .int (f 2), .ref (o + 77), .int (f 4), .ref (o + 78), .ref (o + 104), .ref (o + 108), .ref (o + 110), .ref (o + 114), .ref (o + 116), .ref (o + 120), .ref (o + 123), .ref (o + 130), .ref (o + 131)]
def FU_1 (o : Nat) (f : Nat → Int32) : List Value := [.ref (o + 2), .ref (o + 3), .ref (o + 4), .ref (o + 5), .ref (o + 6), .int (f 5), .int (f 6), .int (f 7)]
def FU_7 (o : Nat) (f : Nat → Int32) : List Value := [.ref (o + 8), .int (f 1), .int (f 2), .int (f 3), .int (f 4), .int (f 5), .int (f 6)]
def FU_9 (o : Nat) (f : Nat → Int32) : List Value := [.ref (o + 10), .int (f 1), .int (f 2), .int (f 3), .int (f 4), .int (f 5), .int (f 6)]
def FU_11 (o : Nat) (f : Nat → Int32) : List Value := [.ref (o + 12), .int (f 1), .int (f 2), .int (f 3), .int (f 4), .int (f 5), .int (f 6)]
def FU_13 (o : Nat) (f : Nat → Int32) : List Value := [.ref (o + 14), .int (f 1), .int (f 2), .int (f 3), .int (f 4), .int (f 5), .int (f 6)]
def FU_15 (o : Nat) (f : Nat → Int32) : List Value := [.ref (o + 16), .int (f 1), .int (f 2), .int (f 3), .int (f 4), .int (f 5), .int (f 6)]
def FU_17 (o : Nat) (f : Nat → Int32) : List Value := [.ref (o + 18), .int (f 1), .int (f 2), .int (f 3), .int (f 4), .int (f 5), .int (f 6)]
def FU_19 (o : Nat) (f : Nat → Int32) : List Value := [.ref (o + 20), .int (f 1), .int (f 2), .int (f 3), .int (f 4), .int (f 5), .int (f 6)]
def FU_21 (o : Nat) (f : Nat → Int32) : List Value := [.ref (o + 22), .int (f 1), .int (f 2), .int (f 3), .int (f 4), .int (f 5), .int (f 6)]
def FU_23 (o : Nat) (f : Nat → Int32) : List Value := [.ref (o + 24), .int (f 1), .int (f 2), .int (f 3), .int (f 4), .int (f 5), .int (f 6)]
def FU_25 (o : Nat) (f : Nat → Int32) : List Value := [.ref (o + 26), .int (f 1), .int (f 2), .int (f 3), .int (f 4), .int (f 5), .int (f 6)]
def FU_27 (o : Nat) (f : Nat → Int32) : List Value := [.ref (o + 28), .int (f 1), .int (f 2), .int (f 3), .int (f 4), .int (f 5), .int (f 6)]
def FU_29 (o : Nat) (f : Nat → Int32) : List Value := [.ref (o + 30), .int (f 1), .int (f 2), .int (f 3), .int (f 4), .int (f 5), .int (f 6)]
def FU_31 (o : Nat) (f : Nat → Int32) : List Value := [.ref (o + 32), .int (f 1), .int (f 2), .int (f 3), .int (f 4), .int (f 5), .int (f 6)]
def FU_33 (o : Nat) (f : Nat → Int32) : List Value := [.ref (o + 34), .int (f 1), .int (f 2), .int (f 3), .int (f 4), .int (f 5), .int (f 6)]
def FU_35 (o : Nat) (f : Nat → Int32) : List Value := [.ref (o + 36), .int (f 1), .int (f 2), .int (f 3), .int (f 4), .int (f 5), .int (f 6)]
def FU_37 (o : Nat) (f : Nat → Int32) : List Value := [.ref (o + 38), .int (f 1), .int (f 2), .int (f 3), .int (f 4), .int (f 5), .int (f 6)]
def FU_39 (o : Nat) (f : Nat → Int32) : List Value := [.ref (o + 40), .ref (o + 41), .ref (o + 42), .ref (o + 43), .ref (o + 44), .int (f 5), .int (f 6), .int (f 7)]
def FU_45 (o : Nat) (f : Nat → Int32) : List Value := [.ref (o + 46), .int (f 1), .int (f 2), .int (f 3), .int (f 4), .int (f 5), .int (f 6)]
def FU_47 (o : Nat) (f : Nat → Int32) : List Value := [.ref (o + 48), .int (f 1), .int (f 2), .int (f 3), .int (f 4), .int (f 5), .int (f 6)]
def FU_49 (o : Nat) (f : Nat → Int32) : List Value := [.ref (o + 50), .int (f 1), .int (f 2), .int (f 3), .int (f 4), .int (f 5), .int (f 6)]
def FU_51 (o : Nat) (f : Nat → Int32) : List Value := [.ref (o + 52), .int (f 1), .int (f 2), .int (f 3), .int (f 4), .int (f 5), .int (f 6)]
def FU_53 (o : Nat) (f : Nat → Int32) : List Value := [.ref (o + 54), .int (f 1), .int (f 2), .int (f 3), .int (f 4), .int (f 5), .int (f 6)]
def FU_55 (o : Nat) (f : Nat → Int32) : List Value := [.ref (o + 56), .int (f 1), .int (f 2), .int (f 3), .int (f 4), .int (f 5), .int (f 6)]
def FU_57 (o : Nat) (f : Nat → Int32) : List Value := [.ref (o + 58), .int (f 1), .int (f 2), .int (f 3), .int (f 4), .int (f 5), .int (f 6)]
def FU_59 (o : Nat) (f : Nat → Int32) : List Value := [.ref (o + 60), .int (f 1), .int (f 2), .int (f 3), .int (f 4), .int (f 5), .int (f 6)]
def FU_61 (o : Nat) (f : Nat → Int32) : List Value := [.ref (o + 62), .int (f 1), .int (f 2), .int (f 3), .int (f 4), .int (f 5), .int (f 6)]
def FU_63 (o : Nat) (f : Nat → Int32) : List Value := [.ref (o + 64), .int (f 1), .int (f 2), .int (f 3), .int (f 4), .int (f 5), .int (f 6)]
def FU_65 (o : Nat) (f : Nat → Int32) : List Value := [.ref (o + 66), .int (f 1), .int (f 2), .int (f 3), .int (f 4), .int (f 5), .int (f 6)]
def FU_67 (o : Nat) (f : Nat → Int32) : List Value := [.ref (o + 68), .int (f 1), .int (f 2), .int (f 3), .int (f 4), .int (f 5), .int (f 6)]
def FU_69 (o : Nat) (f : Nat → Int32) : List Value := [.ref (o + 70), .int (f 1), .int (f 2), .int (f 3), .int (f 4), .int (f 5), .int (f 6)]
def FU_71 (o : Nat) (f : Nat → Int32) : List Value := [.ref (o + 72), .int (f 1), .int (f 2), .int (f 3), .int (f 4), .int (f 5), .int (f 6)]
def FU_73 (o : Nat) (f : Nat → Int32) : List Value := [.ref (o + 74), .int (f 1), .int (f 2), .int (f 3), .int (f 4), .int (f 5), .int (f 6)]
def FU_75 (o : Nat) (f : Nat → Int32) : List Value := [.ref (o + 76), .int (f 1), .int (f 2), .int (f 3), .int (f 4), .int (f 5), .int (f 6)]
def FU_78 (o : Nat) (f : Nat → Int32) : List Value := [.ref (o + 77), .ref (o + 79), .ref (o + 87), .ref (o + 95), .ref (o + 103), .int (f 5), .int (f 6), .int (f 7), .int (f 8), .int (f 9), .int (f 10), .int (f 11), .int (f 12), .int (f 13), .int (f 14)]
def FU_104 (o : Nat) (f : Nat → Int32) : List Value := [.ref (o + 1), .ref (o + 105), .ref (o + 106), .ref (o + 107), .int (f 4), .int (f 5), .int (f 6)]
def FU_108 (o : Nat) (f : Nat → Int32) : List Value := [.ref (o + 109), .int (f 1)]
def FU_110 (o : Nat) (f : Nat → Int32) : List Value := [.ref (o + 111), .ref (o + 112), .ref (o + 113), .int (f 3), .int (f 4), .int (f 5), .int (f 6)]
def FU_114 (o : Nat) (f : Nat → Int32) : List Value := [.ref (o + 115), .int (f 1), .int (f 2), .int (f 3), .int (f 4), .int (f 5)]
def FU_116 (o : Nat) (f : Nat → Int32) : List Value := [.ref (o + 117), .ref (o + 118), .ref (o + 119), .int (f 3)]
def FU_120 (o : Nat) (f : Nat → Int32) : List Value := [.ref (o + 121), .ref (o + 122)]
def FU_123 (o : Nat) (f : Nat → Int32) : List Value := [.ref (o + 124), .ref (o + 125), .ref (o + 126), .ref (o + 127), .ref (o + 128), .ref (o + 129), .int (f 6)]
def lU (ca : Nat → ClassId) (o : Nat) (f : Nat → Int32) (g : Nat → Int64) : List va_E := [.inr (10, FU_0 o f), .inr (9, FU_1 o f), .inl (ca 0, 6, .inl f), .inl (ca 0, 6, .inl f), .inl (ca 0, 6, .inl f), .inl (ca 0, 36, .inl f), .inl (ca 4, 16, .inr (.inr (.inr (.inr (fun j => some (o + (7 + 2 * j))))))), .inr (5, FU_7 o f), .inl (ca 0, 6, .inl f), .inr (5, FU_9 o f), .inl (ca 0, 6, .inl f), .inr (5, FU_11 o f), .inl (ca 0, 6, .inl f), .inr (5, FU_13 o f), .inl (ca 0, 6, .inl f), .inr (5, FU_15 o f), .inl (ca 0, 6, .inl f), .inr (5, FU_17 o f), .inl (ca 0, 6, .inl f), .inr (5, FU_19 o f), .inl (ca 0, 6, .inl f), .inr (5, FU_21 o f), .inl (ca 0, 6, .inl f), .inr (5, FU_23 o f), .inl (ca 0, 6, .inl f), .inr (5, FU_25 o f), .inl (ca 0, 6, .inl f), .inr (5, FU_27 o f), .inl (ca 0, 6, .inl f), .inr (5, FU_29 o f), .inl (ca 0, 6, .inl f), .inr (5, FU_31 o f), .inl (ca 0, 6, .inl f), .inr (5, FU_33 o f), .inl (ca 0, 6, .inl f), .inr (5, FU_35 o f), .inl (ca 0, 6, .inl f), .inr (5, FU_37 o f), .inl (ca 0, 6, .inl f), .inr (9, FU_39 o f), .inl (ca 0, 6, .inl f), .inl (ca 0, 6, .inl f), .inl (ca 0, 6, .inl f), .inl (ca 0, 36, .inl f), .inl (ca 4, 16, .inr (.inr (.inr (.inr (fun j => some (o + (45 + 2 * j))))))), .inr (5, FU_45 o f), .inl (ca 0, 6, .inl f), .inr (5, FU_47 o f), .inl (ca 0, 6, .inl f), .inr (5, FU_49 o f), .inl (ca 0, 6, .inl f), .inr (5, FU_51 o f), .inl (ca 0, 6, .inl f), .inr (5, FU_53 o f), .inl (ca 0, 6, .inl f), .inr (5, FU_55 o f), .inl (ca 0, 6, .inl f), .inr (5, FU_57 o f), .inl (ca 0, 6, .inl f), .inr (5, FU_59 o f), .inl (ca 0, 6, .inl f), .inr (5, FU_61 o f), .inl (ca 0, 6, .inl f), .inr (5, FU_63 o f), .inl (ca 0, 6, .inl f), .inr (5, FU_65 o f), .inl (ca 0, 6, .inl f), .inr (5, FU_67 o f), .inl (ca 0, 6, .inl f), .inr (5, FU_69 o f), .inl (ca 0, 6, .inl f), .inr (5, FU_71 o f), .inl (ca 0, 6, .inl f), .inr (5, FU_73 o f), .inl (ca 0, 6, .inl f), .inr (5, FU_75 o f), .inl (ca 0, 6, .inl f), .inl (ca 0, 260, .inl f), .inr (6, FU_78 o f), .inl (ca 5, 7, .inr (.inr (.inr (.inr (fun j => some (o + (80 + j))))))), .inl (ca 0, 7, .inl f), .inl (ca 0, 7, .inl f), .inl (ca 0, 7, .inl f), .inl (ca 0, 7, .inl f), .inl (ca 0, 7, .inl f), .inl (ca 0, 7, .inl f), .inl (ca 0, 7, .inl f), .inl (ca 5, 7, .inr (.inr (.inr (.inr (fun j => some (o + (88 + j))))))), .inl (ca 0, 7, .inl f), .inl (ca 0, 7, .inl f), .inl (ca 0, 7, .inl f), .inl (ca 0, 7, .inl f), .inl (ca 0, 7, .inl f), .inl (ca 0, 7, .inl f), .inl (ca 0, 7, .inl f), .inl (ca 5, 7, .inr (.inr (.inr (.inr (fun j => some (o + (96 + j))))))), .inl (ca 0, 7, .inl f), .inl (ca 0, 7, .inl f), .inl (ca 0, 7, .inl f), .inl (ca 0, 7, .inl f), .inl (ca 0, 7, .inl f), .inl (ca 0, 7, .inl f), .inl (ca 0, 7, .inl f), .inl (ca 0, 7, .inl f), .inr (7, FU_104 o f), .inl (ca 0, 6, .inl f), .inl (ca 0, 10, .inl f), .inl (ca 0, 10, .inl f), .inr (3, FU_108 o f), .inl (ca 0, 1024, .inl f), .inr (2, FU_110 o f), .inl (ca 0, 12000, .inl f), .inl (ca 1, 2000, .inr (.inl g)), .inl (ca 2, 2000, .inl f), .inr (8, FU_114 o f), .inl (ca 0, 6, .inl f), .inr (4, FU_116 o f), .inl (ca 0, 6, .inl f), .inl (ca 0, 6, .inl f), .inl (ca 0, 6, .inl f), .inr (1, FU_120 o f), .inl (ca 0, 6, .inl f), .inl (ca 0, 6, .inl f), .inr (0, FU_123 o f), .inl (ca 0, 3, .inl f), .inl (ca 0, 3, .inl f), .inl (ca 0, 3, .inl f), .inl (ca 0, 3, .inl f), .inl (ca 0, 441, .inl f), .inl (ca 0, 441, .inl f), .inl (ca 0, 100, .inl f), .inl (ca 1, 2807, .inr (.inl g))]
def GU (ca : Nat → ClassId) (o k : Nat) (f : Nat → Int32) (g : Nat → Int64) : va_E := (lU ca o f g).getD k (.inr (0, []))
theorem hgU_0 (ca : Nat → ClassId) (o : Nat) : ∀ f g, GU ca o 0 f g = .inr (10, FU_0 o f) := fun _ _ => rfl
theorem hgU_1 (ca : Nat → ClassId) (o : Nat) : ∀ f g, GU ca o 1 f g = .inr (9, FU_1 o f) := fun _ _ => rfl
theorem hgU_2 (ca : Nat → ClassId) (o : Nat) : ∀ f g, GU ca o 2 f g = .inl (ca 0, 6, .inl f) := fun _ _ => rfl
theorem hgU_3 (ca : Nat → ClassId) (o : Nat) : ∀ f g, GU ca o 3 f g = .inl (ca 0, 6, .inl f) := fun _ _ => rfl
theorem hgU_4 (ca : Nat → ClassId) (o : Nat) : ∀ f g, GU ca o 4 f g = .inl (ca 0, 6, .inl f) := fun _ _ => rfl
theorem hgU_5 (ca : Nat → ClassId) (o : Nat) : ∀ f g, GU ca o 5 f g = .inl (ca 0, 36, .inl f) := fun _ _ => rfl
theorem hgU_6 (ca : Nat → ClassId) (o : Nat) : ∀ f g, GU ca o 6 f g = .inl (ca 4, 16, .inr (.inr (.inr (.inr (fun j => some (o + (7 + 2 * j))))))) := fun _ _ => rfl
theorem hgU_7 (ca : Nat → ClassId) (o : Nat) : ∀ f g, GU ca o 7 f g = .inr (5, FU_7 o f) := fun _ _ => rfl
theorem hgU_8 (ca : Nat → ClassId) (o : Nat) : ∀ f g, GU ca o 8 f g = .inl (ca 0, 6, .inl f) := fun _ _ => rfl
theorem hgU_9 (ca : Nat → ClassId) (o : Nat) : ∀ f g, GU ca o 9 f g = .inr (5, FU_9 o f) := fun _ _ => rfl
theorem hgU_10 (ca : Nat → ClassId) (o : Nat) : ∀ f g, GU ca o 10 f g = .inl (ca 0, 6, .inl f) := fun _ _ => rfl
theorem hgU_11 (ca : Nat → ClassId) (o : Nat) : ∀ f g, GU ca o 11 f g = .inr (5, FU_11 o f) := fun _ _ => rfl
theorem hgU_12 (ca : Nat → ClassId) (o : Nat) : ∀ f g, GU ca o 12 f g = .inl (ca 0, 6, .inl f) := fun _ _ => rfl
theorem hgU_13 (ca : Nat → ClassId) (o : Nat) : ∀ f g, GU ca o 13 f g = .inr (5, FU_13 o f) := fun _ _ => rfl
theorem hgU_14 (ca : Nat → ClassId) (o : Nat) : ∀ f g, GU ca o 14 f g = .inl (ca 0, 6, .inl f) := fun _ _ => rfl
theorem hgU_15 (ca : Nat → ClassId) (o : Nat) : ∀ f g, GU ca o 15 f g = .inr (5, FU_15 o f) := fun _ _ => rfl
theorem hgU_16 (ca : Nat → ClassId) (o : Nat) : ∀ f g, GU ca o 16 f g = .inl (ca 0, 6, .inl f) := fun _ _ => rfl
theorem hgU_17 (ca : Nat → ClassId) (o : Nat) : ∀ f g, GU ca o 17 f g = .inr (5, FU_17 o f) := fun _ _ => rfl
theorem hgU_18 (ca : Nat → ClassId) (o : Nat) : ∀ f g, GU ca o 18 f g = .inl (ca 0, 6, .inl f) := fun _ _ => rfl
theorem hgU_19 (ca : Nat → ClassId) (o : Nat) : ∀ f g, GU ca o 19 f g = .inr (5, FU_19 o f) := fun _ _ => rfl
theorem hgU_20 (ca : Nat → ClassId) (o : Nat) : ∀ f g, GU ca o 20 f g = .inl (ca 0, 6, .inl f) := fun _ _ => rfl
theorem hgU_21 (ca : Nat → ClassId) (o : Nat) : ∀ f g, GU ca o 21 f g = .inr (5, FU_21 o f) := fun _ _ => rfl
theorem hgU_22 (ca : Nat → ClassId) (o : Nat) : ∀ f g, GU ca o 22 f g = .inl (ca 0, 6, .inl f) := fun _ _ => rfl
theorem hgU_23 (ca : Nat → ClassId) (o : Nat) : ∀ f g, GU ca o 23 f g = .inr (5, FU_23 o f) := fun _ _ => rfl
theorem hgU_24 (ca : Nat → ClassId) (o : Nat) : ∀ f g, GU ca o 24 f g = .inl (ca 0, 6, .inl f) := fun _ _ => rfl
theorem hgU_25 (ca : Nat → ClassId) (o : Nat) : ∀ f g, GU ca o 25 f g = .inr (5, FU_25 o f) := fun _ _ => rfl
theorem hgU_26 (ca : Nat → ClassId) (o : Nat) : ∀ f g, GU ca o 26 f g = .inl (ca 0, 6, .inl f) := fun _ _ => rfl
theorem hgU_27 (ca : Nat → ClassId) (o : Nat) : ∀ f g, GU ca o 27 f g = .inr (5, FU_27 o f) := fun _ _ => rfl
theorem hgU_28 (ca : Nat → ClassId) (o : Nat) : ∀ f g, GU ca o 28 f g = .inl (ca 0, 6, .inl f) := fun _ _ => rfl
theorem hgU_29 (ca : Nat → ClassId) (o : Nat) : ∀ f g, GU ca o 29 f g = .inr (5, FU_29 o f) := fun _ _ => rfl
theorem hgU_30 (ca : Nat → ClassId) (o : Nat) : ∀ f g, GU ca o 30 f g = .inl (ca 0, 6, .inl f) := fun _ _ => rfl
theorem hgU_31 (ca : Nat → ClassId) (o : Nat) : ∀ f g, GU ca o 31 f g = .inr (5, FU_31 o f) := fun _ _ => rfl
theorem hgU_32 (ca : Nat → ClassId) (o : Nat) : ∀ f g, GU ca o 32 f g = .inl (ca 0, 6, .inl f) := fun _ _ => rfl
theorem hgU_33 (ca : Nat → ClassId) (o : Nat) : ∀ f g, GU ca o 33 f g = .inr (5, FU_33 o f) := fun _ _ => rfl
theorem hgU_34 (ca : Nat → ClassId) (o : Nat) : ∀ f g, GU ca o 34 f g = .inl (ca 0, 6, .inl f) := fun _ _ => rfl
theorem hgU_35 (ca : Nat → ClassId) (o : Nat) : ∀ f g, GU ca o 35 f g = .inr (5, FU_35 o f) := fun _ _ => rfl
theorem hgU_36 (ca : Nat → ClassId) (o : Nat) : ∀ f g, GU ca o 36 f g = .inl (ca 0, 6, .inl f) := fun _ _ => rfl
theorem hgU_37 (ca : Nat → ClassId) (o : Nat) : ∀ f g, GU ca o 37 f g = .inr (5, FU_37 o f) := fun _ _ => rfl
theorem hgU_38 (ca : Nat → ClassId) (o : Nat) : ∀ f g, GU ca o 38 f g = .inl (ca 0, 6, .inl f) := fun _ _ => rfl
theorem hgU_39 (ca : Nat → ClassId) (o : Nat) : ∀ f g, GU ca o 39 f g = .inr (9, FU_39 o f) := fun _ _ => rfl
theorem hgU_40 (ca : Nat → ClassId) (o : Nat) : ∀ f g, GU ca o 40 f g = .inl (ca 0, 6, .inl f) := fun _ _ => rfl
theorem hgU_41 (ca : Nat → ClassId) (o : Nat) : ∀ f g, GU ca o 41 f g = .inl (ca 0, 6, .inl f) := fun _ _ => rfl
theorem hgU_42 (ca : Nat → ClassId) (o : Nat) : ∀ f g, GU ca o 42 f g = .inl (ca 0, 6, .inl f) := fun _ _ => rfl
theorem hgU_43 (ca : Nat → ClassId) (o : Nat) : ∀ f g, GU ca o 43 f g = .inl (ca 0, 36, .inl f) := fun _ _ => rfl
theorem hgU_44 (ca : Nat → ClassId) (o : Nat) : ∀ f g, GU ca o 44 f g = .inl (ca 4, 16, .inr (.inr (.inr (.inr (fun j => some (o + (45 + 2 * j))))))) := fun _ _ => rfl
theorem hgU_45 (ca : Nat → ClassId) (o : Nat) : ∀ f g, GU ca o 45 f g = .inr (5, FU_45 o f) := fun _ _ => rfl
theorem hgU_46 (ca : Nat → ClassId) (o : Nat) : ∀ f g, GU ca o 46 f g = .inl (ca 0, 6, .inl f) := fun _ _ => rfl
theorem hgU_47 (ca : Nat → ClassId) (o : Nat) : ∀ f g, GU ca o 47 f g = .inr (5, FU_47 o f) := fun _ _ => rfl
theorem hgU_48 (ca : Nat → ClassId) (o : Nat) : ∀ f g, GU ca o 48 f g = .inl (ca 0, 6, .inl f) := fun _ _ => rfl
theorem hgU_49 (ca : Nat → ClassId) (o : Nat) : ∀ f g, GU ca o 49 f g = .inr (5, FU_49 o f) := fun _ _ => rfl
theorem hgU_50 (ca : Nat → ClassId) (o : Nat) : ∀ f g, GU ca o 50 f g = .inl (ca 0, 6, .inl f) := fun _ _ => rfl
theorem hgU_51 (ca : Nat → ClassId) (o : Nat) : ∀ f g, GU ca o 51 f g = .inr (5, FU_51 o f) := fun _ _ => rfl
theorem hgU_52 (ca : Nat → ClassId) (o : Nat) : ∀ f g, GU ca o 52 f g = .inl (ca 0, 6, .inl f) := fun _ _ => rfl
theorem hgU_53 (ca : Nat → ClassId) (o : Nat) : ∀ f g, GU ca o 53 f g = .inr (5, FU_53 o f) := fun _ _ => rfl
theorem hgU_54 (ca : Nat → ClassId) (o : Nat) : ∀ f g, GU ca o 54 f g = .inl (ca 0, 6, .inl f) := fun _ _ => rfl
theorem hgU_55 (ca : Nat → ClassId) (o : Nat) : ∀ f g, GU ca o 55 f g = .inr (5, FU_55 o f) := fun _ _ => rfl
theorem hgU_56 (ca : Nat → ClassId) (o : Nat) : ∀ f g, GU ca o 56 f g = .inl (ca 0, 6, .inl f) := fun _ _ => rfl
theorem hgU_57 (ca : Nat → ClassId) (o : Nat) : ∀ f g, GU ca o 57 f g = .inr (5, FU_57 o f) := fun _ _ => rfl
theorem hgU_58 (ca : Nat → ClassId) (o : Nat) : ∀ f g, GU ca o 58 f g = .inl (ca 0, 6, .inl f) := fun _ _ => rfl
theorem hgU_59 (ca : Nat → ClassId) (o : Nat) : ∀ f g, GU ca o 59 f g = .inr (5, FU_59 o f) := fun _ _ => rfl
theorem hgU_60 (ca : Nat → ClassId) (o : Nat) : ∀ f g, GU ca o 60 f g = .inl (ca 0, 6, .inl f) := fun _ _ => rfl
theorem hgU_61 (ca : Nat → ClassId) (o : Nat) : ∀ f g, GU ca o 61 f g = .inr (5, FU_61 o f) := fun _ _ => rfl
theorem hgU_62 (ca : Nat → ClassId) (o : Nat) : ∀ f g, GU ca o 62 f g = .inl (ca 0, 6, .inl f) := fun _ _ => rfl
theorem hgU_63 (ca : Nat → ClassId) (o : Nat) : ∀ f g, GU ca o 63 f g = .inr (5, FU_63 o f) := fun _ _ => rfl
theorem hgU_64 (ca : Nat → ClassId) (o : Nat) : ∀ f g, GU ca o 64 f g = .inl (ca 0, 6, .inl f) := fun _ _ => rfl
theorem hgU_65 (ca : Nat → ClassId) (o : Nat) : ∀ f g, GU ca o 65 f g = .inr (5, FU_65 o f) := fun _ _ => rfl
theorem hgU_66 (ca : Nat → ClassId) (o : Nat) : ∀ f g, GU ca o 66 f g = .inl (ca 0, 6, .inl f) := fun _ _ => rfl
theorem hgU_67 (ca : Nat → ClassId) (o : Nat) : ∀ f g, GU ca o 67 f g = .inr (5, FU_67 o f) := fun _ _ => rfl
theorem hgU_68 (ca : Nat → ClassId) (o : Nat) : ∀ f g, GU ca o 68 f g = .inl (ca 0, 6, .inl f) := fun _ _ => rfl
theorem hgU_69 (ca : Nat → ClassId) (o : Nat) : ∀ f g, GU ca o 69 f g = .inr (5, FU_69 o f) := fun _ _ => rfl
theorem hgU_70 (ca : Nat → ClassId) (o : Nat) : ∀ f g, GU ca o 70 f g = .inl (ca 0, 6, .inl f) := fun _ _ => rfl
theorem hgU_71 (ca : Nat → ClassId) (o : Nat) : ∀ f g, GU ca o 71 f g = .inr (5, FU_71 o f) := fun _ _ => rfl
theorem hgU_72 (ca : Nat → ClassId) (o : Nat) : ∀ f g, GU ca o 72 f g = .inl (ca 0, 6, .inl f) := fun _ _ => rfl
theorem hgU_73 (ca : Nat → ClassId) (o : Nat) : ∀ f g, GU ca o 73 f g = .inr (5, FU_73 o f) := fun _ _ => rfl
theorem hgU_74 (ca : Nat → ClassId) (o : Nat) : ∀ f g, GU ca o 74 f g = .inl (ca 0, 6, .inl f) := fun _ _ => rfl
theorem hgU_75 (ca : Nat → ClassId) (o : Nat) : ∀ f g, GU ca o 75 f g = .inr (5, FU_75 o f) := fun _ _ => rfl
theorem hgU_76 (ca : Nat → ClassId) (o : Nat) : ∀ f g, GU ca o 76 f g = .inl (ca 0, 6, .inl f) := fun _ _ => rfl
theorem hgU_77 (ca : Nat → ClassId) (o : Nat) : ∀ f g, GU ca o 77 f g = .inl (ca 0, 260, .inl f) := fun _ _ => rfl
theorem hgU_78 (ca : Nat → ClassId) (o : Nat) : ∀ f g, GU ca o 78 f g = .inr (6, FU_78 o f) := fun _ _ => rfl
theorem hgU_79 (ca : Nat → ClassId) (o : Nat) : ∀ f g, GU ca o 79 f g = .inl (ca 5, 7, .inr (.inr (.inr (.inr (fun j => some (o + (80 + j))))))) := fun _ _ => rfl
theorem hgU_80 (ca : Nat → ClassId) (o : Nat) : ∀ f g, GU ca o 80 f g = .inl (ca 0, 7, .inl f) := fun _ _ => rfl
theorem hgU_81 (ca : Nat → ClassId) (o : Nat) : ∀ f g, GU ca o 81 f g = .inl (ca 0, 7, .inl f) := fun _ _ => rfl
theorem hgU_82 (ca : Nat → ClassId) (o : Nat) : ∀ f g, GU ca o 82 f g = .inl (ca 0, 7, .inl f) := fun _ _ => rfl
theorem hgU_83 (ca : Nat → ClassId) (o : Nat) : ∀ f g, GU ca o 83 f g = .inl (ca 0, 7, .inl f) := fun _ _ => rfl
theorem hgU_84 (ca : Nat → ClassId) (o : Nat) : ∀ f g, GU ca o 84 f g = .inl (ca 0, 7, .inl f) := fun _ _ => rfl
theorem hgU_85 (ca : Nat → ClassId) (o : Nat) : ∀ f g, GU ca o 85 f g = .inl (ca 0, 7, .inl f) := fun _ _ => rfl
theorem hgU_86 (ca : Nat → ClassId) (o : Nat) : ∀ f g, GU ca o 86 f g = .inl (ca 0, 7, .inl f) := fun _ _ => rfl
theorem hgU_87 (ca : Nat → ClassId) (o : Nat) : ∀ f g, GU ca o 87 f g = .inl (ca 5, 7, .inr (.inr (.inr (.inr (fun j => some (o + (88 + j))))))) := fun _ _ => rfl
theorem hgU_88 (ca : Nat → ClassId) (o : Nat) : ∀ f g, GU ca o 88 f g = .inl (ca 0, 7, .inl f) := fun _ _ => rfl
theorem hgU_89 (ca : Nat → ClassId) (o : Nat) : ∀ f g, GU ca o 89 f g = .inl (ca 0, 7, .inl f) := fun _ _ => rfl
theorem hgU_90 (ca : Nat → ClassId) (o : Nat) : ∀ f g, GU ca o 90 f g = .inl (ca 0, 7, .inl f) := fun _ _ => rfl
theorem hgU_91 (ca : Nat → ClassId) (o : Nat) : ∀ f g, GU ca o 91 f g = .inl (ca 0, 7, .inl f) := fun _ _ => rfl
theorem hgU_92 (ca : Nat → ClassId) (o : Nat) : ∀ f g, GU ca o 92 f g = .inl (ca 0, 7, .inl f) := fun _ _ => rfl
theorem hgU_93 (ca : Nat → ClassId) (o : Nat) : ∀ f g, GU ca o 93 f g = .inl (ca 0, 7, .inl f) := fun _ _ => rfl
theorem hgU_94 (ca : Nat → ClassId) (o : Nat) : ∀ f g, GU ca o 94 f g = .inl (ca 0, 7, .inl f) := fun _ _ => rfl
theorem hgU_95 (ca : Nat → ClassId) (o : Nat) : ∀ f g, GU ca o 95 f g = .inl (ca 5, 7, .inr (.inr (.inr (.inr (fun j => some (o + (96 + j))))))) := fun _ _ => rfl
theorem hgU_96 (ca : Nat → ClassId) (o : Nat) : ∀ f g, GU ca o 96 f g = .inl (ca 0, 7, .inl f) := fun _ _ => rfl
theorem hgU_97 (ca : Nat → ClassId) (o : Nat) : ∀ f g, GU ca o 97 f g = .inl (ca 0, 7, .inl f) := fun _ _ => rfl
theorem hgU_98 (ca : Nat → ClassId) (o : Nat) : ∀ f g, GU ca o 98 f g = .inl (ca 0, 7, .inl f) := fun _ _ => rfl
theorem hgU_99 (ca : Nat → ClassId) (o : Nat) : ∀ f g, GU ca o 99 f g = .inl (ca 0, 7, .inl f) := fun _ _ => rfl
theorem hgU_100 (ca : Nat → ClassId) (o : Nat) : ∀ f g, GU ca o 100 f g = .inl (ca 0, 7, .inl f) := fun _ _ => rfl
theorem hgU_101 (ca : Nat → ClassId) (o : Nat) : ∀ f g, GU ca o 101 f g = .inl (ca 0, 7, .inl f) := fun _ _ => rfl
theorem hgU_102 (ca : Nat → ClassId) (o : Nat) : ∀ f g, GU ca o 102 f g = .inl (ca 0, 7, .inl f) := fun _ _ => rfl
theorem hgU_103 (ca : Nat → ClassId) (o : Nat) : ∀ f g, GU ca o 103 f g = .inl (ca 0, 7, .inl f) := fun _ _ => rfl
theorem hgU_104 (ca : Nat → ClassId) (o : Nat) : ∀ f g, GU ca o 104 f g = .inr (7, FU_104 o f) := fun _ _ => rfl
theorem hgU_105 (ca : Nat → ClassId) (o : Nat) : ∀ f g, GU ca o 105 f g = .inl (ca 0, 6, .inl f) := fun _ _ => rfl
theorem hgU_106 (ca : Nat → ClassId) (o : Nat) : ∀ f g, GU ca o 106 f g = .inl (ca 0, 10, .inl f) := fun _ _ => rfl
theorem hgU_107 (ca : Nat → ClassId) (o : Nat) : ∀ f g, GU ca o 107 f g = .inl (ca 0, 10, .inl f) := fun _ _ => rfl
theorem hgU_108 (ca : Nat → ClassId) (o : Nat) : ∀ f g, GU ca o 108 f g = .inr (3, FU_108 o f) := fun _ _ => rfl
theorem hgU_109 (ca : Nat → ClassId) (o : Nat) : ∀ f g, GU ca o 109 f g = .inl (ca 0, 1024, .inl f) := fun _ _ => rfl
theorem hgU_110 (ca : Nat → ClassId) (o : Nat) : ∀ f g, GU ca o 110 f g = .inr (2, FU_110 o f) := fun _ _ => rfl
theorem hgU_111 (ca : Nat → ClassId) (o : Nat) : ∀ f g, GU ca o 111 f g = .inl (ca 0, 12000, .inl f) := fun _ _ => rfl
theorem hgU_112 (ca : Nat → ClassId) (o : Nat) : ∀ f g, GU ca o 112 f g = .inl (ca 1, 2000, .inr (.inl g)) := fun _ _ => rfl
theorem hgU_113 (ca : Nat → ClassId) (o : Nat) : ∀ f g, GU ca o 113 f g = .inl (ca 2, 2000, .inl f) := fun _ _ => rfl
theorem hgU_114 (ca : Nat → ClassId) (o : Nat) : ∀ f g, GU ca o 114 f g = .inr (8, FU_114 o f) := fun _ _ => rfl
theorem hgU_115 (ca : Nat → ClassId) (o : Nat) : ∀ f g, GU ca o 115 f g = .inl (ca 0, 6, .inl f) := fun _ _ => rfl
theorem hgU_116 (ca : Nat → ClassId) (o : Nat) : ∀ f g, GU ca o 116 f g = .inr (4, FU_116 o f) := fun _ _ => rfl
theorem hgU_117 (ca : Nat → ClassId) (o : Nat) : ∀ f g, GU ca o 117 f g = .inl (ca 0, 6, .inl f) := fun _ _ => rfl
theorem hgU_118 (ca : Nat → ClassId) (o : Nat) : ∀ f g, GU ca o 118 f g = .inl (ca 0, 6, .inl f) := fun _ _ => rfl
theorem hgU_119 (ca : Nat → ClassId) (o : Nat) : ∀ f g, GU ca o 119 f g = .inl (ca 0, 6, .inl f) := fun _ _ => rfl
theorem hgU_120 (ca : Nat → ClassId) (o : Nat) : ∀ f g, GU ca o 120 f g = .inr (1, FU_120 o f) := fun _ _ => rfl
theorem hgU_121 (ca : Nat → ClassId) (o : Nat) : ∀ f g, GU ca o 121 f g = .inl (ca 0, 6, .inl f) := fun _ _ => rfl
theorem hgU_122 (ca : Nat → ClassId) (o : Nat) : ∀ f g, GU ca o 122 f g = .inl (ca 0, 6, .inl f) := fun _ _ => rfl
theorem hgU_123 (ca : Nat → ClassId) (o : Nat) : ∀ f g, GU ca o 123 f g = .inr (0, FU_123 o f) := fun _ _ => rfl
theorem hgU_124 (ca : Nat → ClassId) (o : Nat) : ∀ f g, GU ca o 124 f g = .inl (ca 0, 3, .inl f) := fun _ _ => rfl
theorem hgU_125 (ca : Nat → ClassId) (o : Nat) : ∀ f g, GU ca o 125 f g = .inl (ca 0, 3, .inl f) := fun _ _ => rfl
theorem hgU_126 (ca : Nat → ClassId) (o : Nat) : ∀ f g, GU ca o 126 f g = .inl (ca 0, 3, .inl f) := fun _ _ => rfl
theorem hgU_127 (ca : Nat → ClassId) (o : Nat) : ∀ f g, GU ca o 127 f g = .inl (ca 0, 3, .inl f) := fun _ _ => rfl
theorem hgU_128 (ca : Nat → ClassId) (o : Nat) : ∀ f g, GU ca o 128 f g = .inl (ca 0, 441, .inl f) := fun _ _ => rfl
theorem hgU_129 (ca : Nat → ClassId) (o : Nat) : ∀ f g, GU ca o 129 f g = .inl (ca 0, 441, .inl f) := fun _ _ => rfl
theorem hgU_130 (ca : Nat → ClassId) (o : Nat) : ∀ f g, GU ca o 130 f g = .inl (ca 0, 100, .inl f) := fun _ _ => rfl
theorem hgU_131 (ca : Nat → ClassId) (o : Nat) : ∀ f g, GU ca o 131 f g = .inl (ca 1, 2807, .inr (.inl g)) := fun _ _ => rfl
def FU_L (o q : Nat) (f : Nat → Int32) : List Value := [.ref (o + (q + 1)), .int (f 1), .int (f 2), .int (f 3), .int (f 4), .int (f 5), .int (f 6)]
theorem hgU_LT (ca : Nat → ClassId) (o : Nat) {i : Nat} (hi : i < 16) : ∀ f g, GU ca o (7 + 2 * i) f g = .inr (5, FU_L o (7 + 2 * i) f) := by
  intro f g
  rcases (by omega : i = 0 ∨ i = 1 ∨ i = 2 ∨ i = 3 ∨ i = 4 ∨ i = 5 ∨ i = 6 ∨ i = 7 ∨ i = 8 ∨ i = 9 ∨ i = 10 ∨ i = 11 ∨ i = 12 ∨ i = 13 ∨ i = 14 ∨ i = 15) with rfl | rfl | rfl | rfl | rfl | rfl | rfl | rfl | rfl | rfl | rfl | rfl | rfl | rfl | rfl | rfl <;> rfl
theorem hgU_AT (ca : Nat → ClassId) (o : Nat) {i : Nat} (hi : i < 16) : ∀ f g, GU ca o (7 + 2 * i + 1) f g = .inl (ca 0, 6, .inl f) := by
  intro f g
  rcases (by omega : i = 0 ∨ i = 1 ∨ i = 2 ∨ i = 3 ∨ i = 4 ∨ i = 5 ∨ i = 6 ∨ i = 7 ∨ i = 8 ∨ i = 9 ∨ i = 10 ∨ i = 11 ∨ i = 12 ∨ i = 13 ∨ i = 14 ∨ i = 15) with rfl | rfl | rfl | rfl | rfl | rfl | rfl | rfl | rfl | rfl | rfl | rfl | rfl | rfl | rfl | rfl <;> rfl
theorem hgU_LK (ca : Nat → ClassId) (o : Nat) {i : Nat} (hi : i < 16) : ∀ f g, GU ca o (45 + 2 * i) f g = .inr (5, FU_L o (45 + 2 * i) f) := by
  intro f g
  rcases (by omega : i = 0 ∨ i = 1 ∨ i = 2 ∨ i = 3 ∨ i = 4 ∨ i = 5 ∨ i = 6 ∨ i = 7 ∨ i = 8 ∨ i = 9 ∨ i = 10 ∨ i = 11 ∨ i = 12 ∨ i = 13 ∨ i = 14 ∨ i = 15) with rfl | rfl | rfl | rfl | rfl | rfl | rfl | rfl | rfl | rfl | rfl | rfl | rfl | rfl | rfl | rfl <;> rfl
theorem hgU_AK (ca : Nat → ClassId) (o : Nat) {i : Nat} (hi : i < 16) : ∀ f g, GU ca o (45 + 2 * i + 1) f g = .inl (ca 0, 6, .inl f) := by
  intro f g
  rcases (by omega : i = 0 ∨ i = 1 ∨ i = 2 ∨ i = 3 ∨ i = 4 ∨ i = 5 ∨ i = 6 ∨ i = 7 ∨ i = 8 ∨ i = 9 ∨ i = 10 ∨ i = 11 ∨ i = 12 ∨ i = 13 ∨ i = 14 ∨ i = 15) with rfl | rfl | rfl | rfl | rfl | rfl | rfl | rfl | rfl | rfl | rfl | rfl | rfl | rfl | rfl | rfl <;> rfl
theorem hgU_S (ca : Nat → ClassId) (o : Nat) {i : Nat} (hi : i < 7) : ∀ f g, GU ca o (80 + i) f g = .inl (ca 0, 7, .inl f) := by
  intro f g
  rcases (by omega : i = 0 ∨ i = 1 ∨ i = 2 ∨ i = 3 ∨ i = 4 ∨ i = 5 ∨ i = 6) with rfl | rfl | rfl | rfl | rfl | rfl | rfl <;> rfl
theorem hgU_E (ca : Nat → ClassId) (o : Nat) {i : Nat} (hi : i < 7) : ∀ f g, GU ca o (88 + i) f g = .inl (ca 0, 7, .inl f) := by
  intro f g
  rcases (by omega : i = 0 ∨ i = 1 ∨ i = 2 ∨ i = 3 ∨ i = 4 ∨ i = 5 ∨ i = 6) with rfl | rfl | rfl | rfl | rfl | rfl | rfl <;> rfl
theorem hgU_X (ca : Nat → ClassId) (o : Nat) {i : Nat} (hi : i < 7) : ∀ f g, GU ca o (96 + i) f g = .inl (ca 0, 7, .inl f) := by
  intro f g
  rcases (by omega : i = 0 ∨ i = 1 ∨ i = 2 ∨ i = 3 ∨ i = 4 ∨ i = 5 ∨ i = 6) with rfl | rfl | rfl | rfl | rfl | rfl | rfl <;> rfl
/-! the cells of side M -/
def FM_0 (o : Nat) (f : Nat → Int32) : List Value := [.ref (o + 1), .ref (o + 2), .ref (o + 3), .ref (o + 4), .int (f 4), .int (f 5), .int (f 6), .ref (o + 5), .ref (o + 6), .ref (o + 7), .ref (o + 8), .ref (o + 9), .ref (o + 10), .ref (o + 11), .ref (o + 12), .int (f 15), .int (f 16), .int (f 17), .int (f 18), .int (f 19), .ref (o + 13), .ref (o + 14), .ref (o + 15), .ref (o + 16), .ref (o + 17), .ref (o + 18), .ref (o + 19), .ref (o + 20), .ref (o + 21), .int (f 29), .int (f 30), .int (f 31), .ref (o + 22), .int (f 33), .int (f 34), .int (f 35), .ref (o + 23), .ref (o + 24), .ref (o + 25), .ref (o + 26), .ref (o + 27), .int (f 41), .ref (o + 28), .int (f 43), .int (f 44), .int (f 45), .int (f 46), .int (f 47), .ref (o + 29), .ref (o + 30), .ref (o + 31), .ref (o + 32), .ref (o + 33), .ref (o + 34), .ref (o + 35), .ref (o + 36), .ref (o + 37), .ref (o + 38), .int (f 58), .ref (o + 39), .ref (o + 40), .int (f 61), .int (f 62)]
def lM (ca : Nat → ClassId) (o : Nat) (f : Nat → Int32) (g : Nat → Int64) : List va_E := [.inr (11, FM_0 o f), .inl (ca 0, 6, .inl f), .inl (ca 0, 6, .inl f), .inl (ca 0, 6, .inl f), .inl (ca 0, 36, .inl f), .inl (ca 0, 96, .inl f), .inl (ca 0, 16, .inl f), .inl (ca 0, 16, .inl f), .inl (ca 0, 16, .inl f), .inl (ca 0, 16, .inl f), .inl (ca 0, 16, .inl f), .inl (ca 0, 16, .inl f), .inl (ca 3, 260, .inl f), .inl (ca 0, 49, .inl f), .inl (ca 0, 49, .inl f), .inl (ca 0, 7, .inl f), .inl (ca 0, 7, .inl f), .inl (ca 0, 7, .inl f), .inl (ca 0, 7, .inl f), .inl (ca 0, 7, .inl f), .inl (ca 0, 7, .inl f), .inl (ca 0, 7, .inl f), .inl (ca 0, 7, .inl f), .inl (ca 0, 6, .inl f), .inl (ca 0, 1024, .inl f), .inl (ca 0, 100, .inl f), .inl (ca 3, 12000, .inl f), .inl (ca 0, 2000, .inl f), .inl (ca 2, 2000, .inl f), .inl (ca 0, 6, .inl f), .inl (ca 0, 6, .inl f), .inl (ca 0, 6, .inl f), .inl (ca 0, 6, .inl f), .inl (ca 0, 6, .inl f), .inl (ca 0, 6, .inl f), .inl (ca 0, 3, .inl f), .inl (ca 0, 3, .inl f), .inl (ca 0, 9261, .inl f), .inl (ca 0, 9261, .inl f), .inl (ca 1, 2807, .inr (.inl g)), .inl (ca 0, 249, .inl f)]
def GM (ca : Nat → ClassId) (o k : Nat) (f : Nat → Int32) (g : Nat → Int64) : va_E := (lM ca o f g).getD k (.inr (0, []))
theorem hgM_0 (ca : Nat → ClassId) (o : Nat) : ∀ f g, GM ca o 0 f g = .inr (11, FM_0 o f) := fun _ _ => rfl
theorem hgM_1 (ca : Nat → ClassId) (o : Nat) : ∀ f g, GM ca o 1 f g = .inl (ca 0, 6, .inl f) := fun _ _ => rfl
theorem hgM_2 (ca : Nat → ClassId) (o : Nat) : ∀ f g, GM ca o 2 f g = .inl (ca 0, 6, .inl f) := fun _ _ => rfl
theorem hgM_3 (ca : Nat → ClassId) (o : Nat) : ∀ f g, GM ca o 3 f g = .inl (ca 0, 6, .inl f) := fun _ _ => rfl
theorem hgM_4 (ca : Nat → ClassId) (o : Nat) : ∀ f g, GM ca o 4 f g = .inl (ca 0, 36, .inl f) := fun _ _ => rfl
theorem hgM_5 (ca : Nat → ClassId) (o : Nat) : ∀ f g, GM ca o 5 f g = .inl (ca 0, 96, .inl f) := fun _ _ => rfl
theorem hgM_6 (ca : Nat → ClassId) (o : Nat) : ∀ f g, GM ca o 6 f g = .inl (ca 0, 16, .inl f) := fun _ _ => rfl
theorem hgM_7 (ca : Nat → ClassId) (o : Nat) : ∀ f g, GM ca o 7 f g = .inl (ca 0, 16, .inl f) := fun _ _ => rfl
theorem hgM_8 (ca : Nat → ClassId) (o : Nat) : ∀ f g, GM ca o 8 f g = .inl (ca 0, 16, .inl f) := fun _ _ => rfl
theorem hgM_9 (ca : Nat → ClassId) (o : Nat) : ∀ f g, GM ca o 9 f g = .inl (ca 0, 16, .inl f) := fun _ _ => rfl
theorem hgM_10 (ca : Nat → ClassId) (o : Nat) : ∀ f g, GM ca o 10 f g = .inl (ca 0, 16, .inl f) := fun _ _ => rfl
theorem hgM_11 (ca : Nat → ClassId) (o : Nat) : ∀ f g, GM ca o 11 f g = .inl (ca 0, 16, .inl f) := fun _ _ => rfl
theorem hgM_12 (ca : Nat → ClassId) (o : Nat) : ∀ f g, GM ca o 12 f g = .inl (ca 3, 260, .inl f) := fun _ _ => rfl
theorem hgM_13 (ca : Nat → ClassId) (o : Nat) : ∀ f g, GM ca o 13 f g = .inl (ca 0, 49, .inl f) := fun _ _ => rfl
theorem hgM_14 (ca : Nat → ClassId) (o : Nat) : ∀ f g, GM ca o 14 f g = .inl (ca 0, 49, .inl f) := fun _ _ => rfl
theorem hgM_15 (ca : Nat → ClassId) (o : Nat) : ∀ f g, GM ca o 15 f g = .inl (ca 0, 7, .inl f) := fun _ _ => rfl
theorem hgM_16 (ca : Nat → ClassId) (o : Nat) : ∀ f g, GM ca o 16 f g = .inl (ca 0, 7, .inl f) := fun _ _ => rfl
theorem hgM_17 (ca : Nat → ClassId) (o : Nat) : ∀ f g, GM ca o 17 f g = .inl (ca 0, 7, .inl f) := fun _ _ => rfl
theorem hgM_18 (ca : Nat → ClassId) (o : Nat) : ∀ f g, GM ca o 18 f g = .inl (ca 0, 7, .inl f) := fun _ _ => rfl
theorem hgM_19 (ca : Nat → ClassId) (o : Nat) : ∀ f g, GM ca o 19 f g = .inl (ca 0, 7, .inl f) := fun _ _ => rfl
theorem hgM_20 (ca : Nat → ClassId) (o : Nat) : ∀ f g, GM ca o 20 f g = .inl (ca 0, 7, .inl f) := fun _ _ => rfl
theorem hgM_21 (ca : Nat → ClassId) (o : Nat) : ∀ f g, GM ca o 21 f g = .inl (ca 0, 7, .inl f) := fun _ _ => rfl
theorem hgM_22 (ca : Nat → ClassId) (o : Nat) : ∀ f g, GM ca o 22 f g = .inl (ca 0, 7, .inl f) := fun _ _ => rfl
theorem hgM_23 (ca : Nat → ClassId) (o : Nat) : ∀ f g, GM ca o 23 f g = .inl (ca 0, 6, .inl f) := fun _ _ => rfl
theorem hgM_24 (ca : Nat → ClassId) (o : Nat) : ∀ f g, GM ca o 24 f g = .inl (ca 0, 1024, .inl f) := fun _ _ => rfl
theorem hgM_25 (ca : Nat → ClassId) (o : Nat) : ∀ f g, GM ca o 25 f g = .inl (ca 0, 100, .inl f) := fun _ _ => rfl
theorem hgM_26 (ca : Nat → ClassId) (o : Nat) : ∀ f g, GM ca o 26 f g = .inl (ca 3, 12000, .inl f) := fun _ _ => rfl
theorem hgM_27 (ca : Nat → ClassId) (o : Nat) : ∀ f g, GM ca o 27 f g = .inl (ca 0, 2000, .inl f) := fun _ _ => rfl
theorem hgM_28 (ca : Nat → ClassId) (o : Nat) : ∀ f g, GM ca o 28 f g = .inl (ca 2, 2000, .inl f) := fun _ _ => rfl
theorem hgM_29 (ca : Nat → ClassId) (o : Nat) : ∀ f g, GM ca o 29 f g = .inl (ca 0, 6, .inl f) := fun _ _ => rfl
theorem hgM_30 (ca : Nat → ClassId) (o : Nat) : ∀ f g, GM ca o 30 f g = .inl (ca 0, 6, .inl f) := fun _ _ => rfl
theorem hgM_31 (ca : Nat → ClassId) (o : Nat) : ∀ f g, GM ca o 31 f g = .inl (ca 0, 6, .inl f) := fun _ _ => rfl
theorem hgM_32 (ca : Nat → ClassId) (o : Nat) : ∀ f g, GM ca o 32 f g = .inl (ca 0, 6, .inl f) := fun _ _ => rfl
theorem hgM_33 (ca : Nat → ClassId) (o : Nat) : ∀ f g, GM ca o 33 f g = .inl (ca 0, 6, .inl f) := fun _ _ => rfl
theorem hgM_34 (ca : Nat → ClassId) (o : Nat) : ∀ f g, GM ca o 34 f g = .inl (ca 0, 6, .inl f) := fun _ _ => rfl
theorem hgM_35 (ca : Nat → ClassId) (o : Nat) : ∀ f g, GM ca o 35 f g = .inl (ca 0, 3, .inl f) := fun _ _ => rfl
theorem hgM_36 (ca : Nat → ClassId) (o : Nat) : ∀ f g, GM ca o 36 f g = .inl (ca 0, 3, .inl f) := fun _ _ => rfl
theorem hgM_37 (ca : Nat → ClassId) (o : Nat) : ∀ f g, GM ca o 37 f g = .inl (ca 0, 9261, .inl f) := fun _ _ => rfl
theorem hgM_38 (ca : Nat → ClassId) (o : Nat) : ∀ f g, GM ca o 38 f g = .inl (ca 0, 9261, .inl f) := fun _ _ => rfl
theorem hgM_39 (ca : Nat → ClassId) (o : Nat) : ∀ f g, GM ca o 39 f g = .inl (ca 1, 2807, .inr (.inl g)) := fun _ _ => rfl
theorem hgM_40 (ca : Nat → ClassId) (o : Nat) : ∀ f g, GM ca o 40 f g = .inl (ca 0, 249, .inl f) := fun _ _ => rfl
