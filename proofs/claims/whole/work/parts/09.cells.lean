def mmF : List (List Nat) := [[0, 0, 0, 0, 1, 1, 1, 1, 1, 1], [1, 1, 1, 1, 1, 1, 1, 1, 0, 0, 0, 0, 0, 0], [1, 1, 1, 1, 1], [0, 1, 1], [1, 0, 0], [1, 1], [1, 1, 1, 1, 1, 1], [1, 1, 1, 1, 1, 2, 2], [1, 1, 1, 1, 1, 1, 1, 1, 1, 0], [0, 0, 0, 0, 1, 1, 1, 1, 1, 1, 1, 0, 1, 1, 1, 1, 1, 2, 2, 1, 1, 1, 1]]
def mmK : List (Nat × Nat) := [(99, 0), (8, 0), (0, 0), (10, 12), (10, 12), (10, 12), (10, 12), (10, 12), (14, 8), (10, 12), (10, 12), (10, 12), (10, 12), (10, 12), (10, 12), (10, 12), (10, 12), (3, 0), (10, 500), (10, 500), (13, 4), (4, 0), (10, 100), (4, 0), (10, 100), (4, 0), (10, 100), (4, 0), (10, 100), (12, 3), (0, 0), (10, 12), (10, 12), (10, 12), (10, 12), (10, 12), (14, 8), (10, 12), (10, 12), (10, 12), (10, 12), (10, 12), (10, 12), (10, 12), (10, 12), (0, 0), (10, 12), (10, 12), (10, 12), (10, 12), (10, 12), (14, 8), (10, 12), (10, 12), (10, 12), (10, 12), (10, 12), (10, 12), (10, 12), (10, 12), (0, 0), (10, 12), (10, 12), (10, 12), (10, 12), (10, 12), (14, 8), (10, 12), (10, 12), (10, 12), (10, 12), (10, 12), (10, 12), (10, 12), (10, 12), (11, 3), (1, 0), (10, 12), (5, 0), (10, 64), (10, 64), (5, 0), (10, 64), (10, 64), (10, 500), (10, 500), (10, 500), (2, 0), (5, 0), (10, 64), (10, 64), (10, 500), (10, 500), (7, 0), (5, 0), (10, 64), (10, 64), (10, 500), (10, 500), (6, 0), (5, 0), (10, 64), (10, 64), (5, 0), (10, 64), (10, 64), (10, 4096), (10, 4096), (9, 0), (10, 12), (10, 12), (10, 12), (10, 12), (10, 12), (11, 8), (10, 96), (10, 501), (10, 4), (10, 4), (10, 400), (10, 500), (10, 500), (10, 500), (11, 3), (10, 600)]
def mmN : List (String × Nat × MethodName × String) := [("LeastRue", 9, ⟨"LeastRue$Bench", "<init>", "()V"⟩, "LeastRue"), ("LeastRue", 18, ⟨"LeastRue$Choices", "<init>", "()V"⟩, "LeastRue"), ("LeastRue", 33, ⟨"LeastRue$Sheet", "<init>", "()V"⟩, "LeastRue"), ("LeastRue$ByEnds", 17, ⟨"LeastRue$Sums", "<init>", "()V"⟩, "LeastRue"), ("LeastRue$ByWorlds", 11, ⟨"LeastRue$Sums", "<init>", "()V"⟩, "LeastRue"), ("LeastRue$TwoWorlds", 11, ⟨"LeastRue$Sums", "<init>", "()V"⟩, "LeastRue"), ("LeastRue$TwoSteps", 11, ⟨"LeastRue$Sums", "<init>", "()V"⟩, "LeastRue"), ("LeastRue$Bench", 51, ⟨"LeastRue", "isWithin", "(II)Z"⟩, "LeastRue"), ("LeastRue$Choices", 22, ⟨"LeastRue", "isWithin", "(II)Z"⟩, "LeastRue"), ("LeastRue$ByEnds", 68, ⟨"LeastRue", "firstLeast", "([II)I"⟩, "LeastRue"), ("LeastRue$ByWorlds", 55, ⟨"LeastRue", "firstLeast", "([II)I"⟩, "LeastRue"), ("LeastRue$TwoWorlds", 84, ⟨"LeastRue", "firstLeast", "([II)I"⟩, "LeastRue"), ("LeastRue$TwoSteps", 73, ⟨"LeastRue", "firstLeast", "([II)I"⟩, "LeastRue")]
def mmL : List Int32 := [0, 1, 1, 0]
def mmM : List Int32 := [12, 5, 6, 6]
def cok (ci : Nat) (q : vw_C) : Prop := (∀ w ∈ u_ws q.1 q.2.1 q.2.2, w ∈ lw_g) ∧ q.2.2 = (mmF.getD ci []).length ∧ ci < 10 ∧ (∃ ty0 : Nat → FieldType, ∀ k, k < q.2.2 → parseFieldDescriptor (q.2.1 k).2.2.1 = some (ty0 k)) ∧ ∀ a, a < q.2.2 → ∀ b, b < q.2.2 → a ≠ b → (q.2.1 a).2.1 ≠ (q.2.1 b).2.1
theorem cok_all : ∀ (ci : Nat) (q : vw_C), vwCl[ci]? = some q → cok ci q := by
  intro ci q h
  match ci, h with
  | 0, h => cases h; exact ⟨inX0, rfl, by decide, ⟨tyX0, tyX0_ok⟩, nmX0⟩
  | 1, h => cases h; exact ⟨inX1, rfl, by decide, ⟨tyX1, tyX1_ok⟩, nmX1⟩
  | 2, h => cases h; exact ⟨inX2, rfl, by decide, ⟨tyX2, tyX2_ok⟩, nmX2⟩
  | 3, h => cases h; exact ⟨inX3, rfl, by decide, ⟨tyX3, tyX3_ok⟩, nmX3⟩
  | 4, h => cases h; exact ⟨inX4, rfl, by decide, ⟨tyX4, tyX4_ok⟩, nmX4⟩
  | 5, h => cases h; exact ⟨inX5, rfl, by decide, ⟨tyX5, tyX5_ok⟩, nmX5⟩
  | 6, h => cases h; exact ⟨inX6, rfl, by decide, ⟨tyX6, tyX6_ok⟩, nmX6⟩
  | 7, h => cases h; exact ⟨inX7, rfl, by decide, ⟨tyX7, tyX7_ok⟩, nmX7⟩
  | 8, h => cases h; exact ⟨inX8, rfl, by decide, ⟨tyX8, tyX8_ok⟩, nmX8⟩
  | 9, h => cases h; exact ⟨inX9, rfl, by decide, ⟨tyX9, tyX9_ok⟩, nmX9⟩
  | k + 10, h => simp [vwCl] at h
