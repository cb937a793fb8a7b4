theorem mn_glb {f : Nat → Nat} {d n v : Nat} : v ≤ mn f d n ↔ v ≤ d ∧ ∀ j, j < n → v ≤ f j := by
  constructor
  · intro h
    have h1 := mn_le f d n
    exact ⟨by omega, fun j hj => by have := h1.2 j hj; omega⟩
  · rintro ⟨h1, h2⟩
    rcases mn_is f d n with h | ⟨j, hj, h⟩
    · omega
    · have := h2 j hj; omega
theorem le_ext {a b : Nat} (h : ∀ v, v ≤ a ↔ v ≤ b) : a = b := by
  have h1 := (h a).mp (Nat.le_refl _)
  have h2 := (h b).mpr (Nat.le_refl _)
  omega
def gL (f ch : Nat → Nat) (t m j : Nat) : Nat := if ch j / 2 ^ t = m / 2 ^ t then sm f (sdf (ch j) m) t else 1000000
def LSt (f : Nat → Nat) (N : Nat) (ch : Nat → Nat) (t m : Nat) : Nat := mn (gL f ch t m) 1000000 N
theorem LSt_le (f : Nat → Nat) (N : Nat) (ch : Nat → Nat) (t m : Nat) : LSt f N ch t m ≤ 1000000 := (mn_le _ _ N).1
theorem bk {t B r : Nat} (hr : r < 2 ^ t) : (2 ^ (t + 1) * B + r) / 2 ^ t = 2 * B ∧ (2 ^ (t + 1) * B + r + 2 ^ t) / 2 ^ t = 2 * B + 1 := by
  have hp := Nat.two_pow_pos t
  have e1 : 2 ^ (t + 1) * B + r = r + 2 ^ t * (2 * B) := by rw [Nat.pow_succ, Nat.mul_assoc]; omega
  rw [e1, Nat.add_mul_div_left _ _ hp, Nat.div_eq_of_lt hr]
  refine ⟨by omega, ?_⟩
  rw [show r + 2 ^ t * (2 * B) + 2 ^ t = r + 2 ^ t * (2 * B + 1) by rw [Nat.mul_add, Nat.mul_one]; omega, Nat.add_mul_div_left _ _ hp, Nat.div_eq_of_lt hr]
  omega
theorem tb_div (x t : Nat) : x.testBit t = decide (x / 2 ^ t % 2 = 1) := Nat.testBit_eq_decide_div_mod_eq
theorem bk_bits {t B r : Nat} (hr : r < 2 ^ t) : (2 ^ (t + 1) * B + r).testBit t = false ∧ (2 ^ (t + 1) * B + r + 2 ^ t).testBit t = true ∧ ∀ i, i < t → (2 ^ (t + 1) * B + r + 2 ^ t).testBit i = (2 ^ (t + 1) * B + r).testBit i := by
  obtain ⟨h1, h2⟩ := bk (B := B) hr
  refine ⟨by rw [tb_div, h1]; simp, by rw [tb_div, h2]; simp, fun i hi => ?_⟩
  rw [Nat.add_comm _ (2 ^ t), Nat.testBit_two_pow_add_gt hi]
theorem gL_lo (f ch : Nat → Nat) {t B r : Nat} (hr : r < 2 ^ t) (j : Nat) : gL f ch (t + 1) (2 ^ (t + 1) * B + r) j = if ch j / 2 ^ t = 2 * B then gL f ch t (2 ^ (t + 1) * B + r) j else if ch j / 2 ^ t = 2 * B + 1 then gL f ch t (2 ^ (t + 1) * B + r + 2 ^ t) j + f t else 1000000 := by
  obtain ⟨h1, h2⟩ := bk (B := B) hr
  obtain ⟨b1, b2, b3⟩ := bk_bits (B := B) hr
  unfold gL
  have e1 : ch j / 2 ^ (t + 1) = ch j / 2 ^ t / 2 := by rw [Nat.pow_succ, Nat.div_div_eq_div_mul]
  have e2 : (2 ^ (t + 1) * B + r) / 2 ^ (t + 1) = B := by rw [Nat.pow_succ, ← Nat.div_div_eq_div_mul, ← Nat.pow_succ, h1]; omega
  rw [e1, e2, h1, h2]
  by_cases c1 : ch j / 2 ^ t = 2 * B
  · rw [if_pos c1, if_pos c1, if_pos (by omega)]
    show sm f _ t + (if (sdf (ch j) (2 ^ (t + 1) * B + r)).testBit t then f t else 0) = _
    rw [sdf_bit, tb_div (ch j), c1, if_neg (by simp)]
    rfl
  · rw [if_neg c1]
    by_cases c2 : ch j / 2 ^ t = 2 * B + 1
    · rw [if_pos c2, if_pos c2, if_pos (by omega)]
      show sm f _ t + (if (sdf (ch j) (2 ^ (t + 1) * B + r)).testBit t then f t else 0) = _
      rw [sdf_bit, tb_div (ch j), c2, b1, if_pos (by simp)]
      congr 1
      exact sm_cong (fun i hi => by rw [sdf_bit, sdf_bit, b3 i hi]; exact ⟨rfl, fun _ => rfl⟩)
    · rw [if_neg c2, if_neg (by omega)]
theorem gL_hi (f ch : Nat → Nat) {t B r : Nat} (hr : r < 2 ^ t) (j : Nat) : gL f ch (t + 1) (2 ^ (t + 1) * B + r + 2 ^ t) j = if ch j / 2 ^ t = 2 * B then gL f ch t (2 ^ (t + 1) * B + r) j else if ch j / 2 ^ t = 2 * B + 1 then gL f ch t (2 ^ (t + 1) * B + r + 2 ^ t) j else 1000000 := by
  obtain ⟨h1, h2⟩ := bk (B := B) hr
  obtain ⟨b1, b2, b3⟩ := bk_bits (B := B) hr
  unfold gL
  have e1 : ch j / 2 ^ (t + 1) = ch j / 2 ^ t / 2 := by rw [Nat.pow_succ, Nat.div_div_eq_div_mul]
  have e2 : (2 ^ (t + 1) * B + r + 2 ^ t) / 2 ^ (t + 1) = B := by rw [Nat.pow_succ, ← Nat.div_div_eq_div_mul, ← Nat.pow_succ, h2]; omega
  rw [e1, e2, h1, h2]
  have e3 : sm f (sdf (ch j) (2 ^ (t + 1) * B + r + 2 ^ t)) (t + 1) = sm f (sdf (ch j) (2 ^ (t + 1) * B + r + 2 ^ t)) t := by
    show sm f _ t + (if (sdf (ch j) (2 ^ (t + 1) * B + r + 2 ^ t)).testBit t then f t else 0) = _
    rw [sdf_bit, b2, if_neg (by simp)]
    rfl
  by_cases c1 : ch j / 2 ^ t = 2 * B
  · rw [if_pos c1, if_pos c1, if_pos (by omega), e3]
    exact sm_cong (fun i hi => by rw [sdf_bit, sdf_bit, b3 i hi]; exact ⟨rfl, fun _ => rfl⟩)
  · rw [if_neg c1]
    by_cases c2 : ch j / 2 ^ t = 2 * B + 1
    · rw [if_pos c2, if_pos c2, if_pos (by omega), e3]
    · rw [if_neg c2, if_neg (by omega)]
theorem gL_no (f ch : Nat → Nat) {t m j : Nat} (h : ¬ ch j / 2 ^ t = m / 2 ^ t) : gL f ch t m j = 1000000 := if_neg h
theorem LSt_hi (f : Nat → Nat) (N : Nat) (ch : Nat → Nat) {t B r : Nat} (hr : r < 2 ^ t) : LSt f N ch (t + 1) (2 ^ (t + 1) * B + r + 2 ^ t) = if LSt f N ch t (2 ^ (t + 1) * B + r + 2 ^ t) < LSt f N ch t (2 ^ (t + 1) * B + r) then LSt f N ch t (2 ^ (t + 1) * B + r + 2 ^ t) else LSt f N ch t (2 ^ (t + 1) * B + r) := by
  obtain ⟨h1, h2⟩ := bk (B := B) hr
  apply le_ext
  intro v
  have key : (v ≤ LSt f N ch (t + 1) (2 ^ (t + 1) * B + r + 2 ^ t)) ↔ (v ≤ LSt f N ch t (2 ^ (t + 1) * B + r) ∧ v ≤ LSt f N ch t (2 ^ (t + 1) * B + r + 2 ^ t)) := by
    unfold LSt
    rw [mn_glb, mn_glb, mn_glb]
    constructor
    · rintro ⟨a, b⟩
      refine ⟨⟨a, fun j hj => ?_⟩, ⟨a, fun j hj => ?_⟩⟩
      · have := b j hj
        rw [gL_hi f ch hr] at this
        by_cases c1 : ch j / 2 ^ t = 2 * B
        · rw [if_pos c1] at this; exact this
        · rw [gL_no f ch (by rw [h1]; exact c1)]; exact a
      · have := b j hj
        rw [gL_hi f ch hr] at this
        by_cases c2 : ch j / 2 ^ t = 2 * B + 1
        · rw [if_neg (by omega), if_pos c2] at this; exact this
        · rw [gL_no f ch (by rw [h2]; exact c2)]; exact a
    · rintro ⟨⟨a, b⟩, -, d⟩
      refine ⟨a, fun j hj => ?_⟩
      rw [gL_hi f ch hr]
      split
      · exact b j hj
      · split
        · exact d j hj
        · exact a
  rw [key]
  split <;> omega
theorem LSt_lo (f : Nat → Nat) (N : Nat) (ch : Nat → Nat) {t B r : Nat} (hr : r < 2 ^ t) : LSt f N ch (t + 1) (2 ^ (t + 1) * B + r) = if LSt f N ch t (2 ^ (t + 1) * B + r + 2 ^ t) + f t < LSt f N ch t (2 ^ (t + 1) * B + r) then LSt f N ch t (2 ^ (t + 1) * B + r + 2 ^ t) + f t else LSt f N ch t (2 ^ (t + 1) * B + r) := by
  obtain ⟨h1, h2⟩ := bk (B := B) hr
  have hle := LSt_le f N ch t (2 ^ (t + 1) * B + r)
  apply le_ext
  intro v
  have key : (v ≤ LSt f N ch (t + 1) (2 ^ (t + 1) * B + r)) ↔ (v ≤ LSt f N ch t (2 ^ (t + 1) * B + r) ∧ v ≤ LSt f N ch t (2 ^ (t + 1) * B + r + 2 ^ t) + f t) := by
    have k2 : (v ≤ LSt f N ch t (2 ^ (t + 1) * B + r + 2 ^ t) + f t) ↔ (v ≤ 1000000 + f t ∧ ∀ j, j < N → v ≤ gL f ch t (2 ^ (t + 1) * B + r + 2 ^ t) j + f t) := by
      have : (v ≤ LSt f N ch t (2 ^ (t + 1) * B + r + 2 ^ t) + f t) ↔ (v - f t ≤ LSt f N ch t (2 ^ (t + 1) * B + r + 2 ^ t)) := by omega
      rw [this]
      unfold LSt
      rw [mn_glb]
      constructor
      · rintro ⟨a, b⟩; exact ⟨by omega, fun j hj => by have := b j hj; omega⟩
      · rintro ⟨a, b⟩; exact ⟨by omega, fun j hj => by have := b j hj; omega⟩
    rw [k2]
    unfold LSt
    rw [mn_glb, mn_glb]
    constructor
    · rintro ⟨a, b⟩
      refine ⟨⟨a, fun j hj => ?_⟩, by omega, fun j hj => ?_⟩
      · have := b j hj
        rw [gL_lo f ch hr] at this
        by_cases c1 : ch j / 2 ^ t = 2 * B
        · rw [if_pos c1] at this; exact this
        · rw [gL_no f ch (by rw [h1]; exact c1)]; exact a
      · have := b j hj
        rw [gL_lo f ch hr] at this
        by_cases c2 : ch j / 2 ^ t = 2 * B + 1
        · rw [if_neg (by omega), if_pos c2] at this; exact this
        · rw [gL_no f ch (by rw [h2]; exact c2)]; omega
    · rintro ⟨⟨a, b⟩, -, d⟩
      refine ⟨a, fun j hj => ?_⟩
      rw [gL_lo f ch hr]
      split
      · exact b j hj
      · split
        · exact d j hj
        · exact a
  rw [key]
  split <;> omega
theorem or_bk {t B r : Nat} (hr : r < 2 ^ t) : (2 ^ (t + 1) * B + r) ||| 2 ^ t = 2 ^ (t + 1) * B + r + 2 ^ t := by
  have hp : 2 ^ (t + 1) = 2 ^ t * 2 := Nat.pow_succ 2 t
  rw [Nat.two_pow_add_eq_or_of_lt (show r < 2 ^ (t + 1) by omega), Nat.or_assoc, or_add hr, ← Nat.two_pow_add_eq_or_of_lt (show r + 2 ^ t < 2 ^ (t + 1) by omega), ← Nat.two_pow_add_eq_or_of_lt (show r < 2 ^ (t + 1) by omega)]
  omega
-- the row 'least' within a turn: the pairs of block B before r, and all blocks before B, have had it
def Lst (S : St) (f : Nat → Nat) (N : Nat) (ch : Nat → Nat) (n t B r : Nat) : Prop := ∀ b q, q < 2 ^ t → 2 ^ (t + 1) * b + q + 2 ^ t < 2 ^ n →
  sI S 106 (2 ^ (t + 1) * b + q) = nI (LSt f N ch (if b < B ∨ (b = B ∧ q < r) then t + 1 else t) (2 ^ (t + 1) * b + q)) ∧ sI S 106 (2 ^ (t + 1) * b + q + 2 ^ t) = nI (LSt f N ch (if b < B ∨ (b = B ∧ q < r) then t + 1 else t) (2 ^ (t + 1) * b + q + 2 ^ t))
theorem bk_inj {t b q B r : Nat} (hq : q < 2 ^ t) (hr : r < 2 ^ t) : (2 ^ (t + 1) * b + q ≠ 2 ^ (t + 1) * B + r + 2 ^ t) ∧ (2 ^ (t + 1) * b + q = 2 ^ (t + 1) * B + r → b = B ∧ q = r) := by
  obtain ⟨h1, -⟩ := bk (B := b) hq
  obtain ⟨h3, h4⟩ := bk (B := B) hr
  refine ⟨fun e => ?_, fun e => ?_⟩
  · rw [e, h4] at h1; omega
  · have e2 := e
    rw [e2, h3] at h1
    have : b = B := by omega
    subst this
    exact ⟨rfl, by omega⟩
