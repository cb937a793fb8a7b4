def BB (S : St) (β : Nat → Nat → Nat) : Prop := RT S ∧ CB S 2 β ∧ WF β
theorem tb_eq {s t : Nat} (h : ¬ s.testBit t = false) : s.testBit t = true := by cases hq : s.testBit t with | true => rfl | false => exact absurd hq h
theorem tb_ne {s t : Nat} (h : ¬ s.testBit t = true) : s.testBit t = false := by cases hq : s.testBit t with | true => exact absurd hq h | false => rfl
-- the posts of a set
def ors (f : Nat → Nat) (s : Nat) : Nat → Nat
  | 0 => 0
  | n + 1 => if s.testBit n then ors f s n ||| 2 ^ f n else ors f s n
theorem l_meets {S : St} {β : Nat → Nat → Nat} {s : Nat} {K : Int32 → St → Prop} (h : BB S β) (hs : s < 4096) (hK : wX0_meetsAllPosts_55 K 2 (nI (ors (β 3) s (β 0 0))) (nI (ors (β 4) s (β 0 0))) S) :
    ∀ (n t : Nat), t ≤ β 0 0 → β 0 0 - t < n → wX0_meetsAllPosts_7 K n 2 (nI s) (nI (ors (β 3) s t)) (nI (ors (β 4) s t)) (nI t) S
  | 0, t, _, h => absurd h (by omega)
  | n + 1, t, ht, hn => by
    have hr := h.1
    have h12 := h.2.2.1.1
    have ih := l_meets h hs hK n
    rw [wX0_meetsAllPosts_7, h.2.1.1 0 (by decide), ple (by omega) (by omega), pbit0 (by omega) (by omega)]
    have e3 : ors (β 3) s (t + 1) = if s.testBit t then ors (β 3) s t ||| 2 ^ β 3 t else ors (β 3) s t := rfl
    have e4 : ors (β 4) s (t + 1) = if s.testBit t then ors (β 4) s t ||| 2 ^ β 4 t else ors (β 4) s t := rfl
    refine ⟨ok_O hr.1 (by decide), fun c => ?_, fun c => ⟨fun z => ?_, fun z => ?_⟩⟩
    · have e : t = β 0 0 := by omega
      rw [e]
      exact hK
    · have i2 := ih (t + 1) (by omega) (by omega)
      rw [e3, e4, if_neg (by rw [z]; decide), if_neg (by rw [z]; decide)] at i2
      intro x ex
      rw [ex, nI_1]
      exact i2
    · have z := tb_eq z
      have i2 := ih (t + 1) (by omega) (by omega)
      rw [e3, e4, if_pos z, if_pos z] at i2
      have p := h.2.2.2.2.1 t (by omega)
      have a3 := h.2.1.2.1 2 (by decide) t (by omega)
      have a4 := h.2.1.2.1 3 (by decide) t (by omega)
      rw [rt2_6 hr, rt2_7 hr, pcl (by omega), a3, a4, psh (by show β 3 t < 31; omega), psh (by show β 4 t < 31; omega), por, por]
      refine ⟨by decide, ok_A (N := 12) hr.1 (by decide) (by omega) (by decide), fun x2 ex2 => ⟨by decide, ok_A (N := 12) hr.1 (by decide) (by omega) (by decide), fun x3 ex3 x ex => ?_⟩⟩
      rw [ex, nI_1, ex2, ex3]
      exact i2
theorem k_le {β : Nat → Nat → Nat} (h : WF β) : β 0 2 ≤ 12 := h.1.2.2.1
theorem ors_lt {f : Nat → Nat} {s m : Nat} : ∀ {n : Nat}, (∀ t, t < n → f t < m) → ors f s n < 2 ^ m
  | 0, _ => Nat.two_pow_pos m
  | n + 1, h => by
    have h1 := ors_lt (n := n) (s := s) (fun t ht => h t (by omega))
    unfold ors
    split
    · exact Nat.or_lt_two_pow h1 (Nat.pow_lt_pow_right (by decide) (h n (by omega)))
    · exact h1
theorem w_meets {S : St} {β : Nat → Nat → Nat} {s : Nat} {K : Int32 → St → Prop} (h : BB S β) (hs : s < 4096) (h1 : (ors (β 3) s (β 0 0) = 2 ^ β 0 2 - 1 ∧ ors (β 4) s (β 0 0) = 2 ^ β 0 2 - 1) → K 1 S) (h0 : ¬ (ors (β 3) s (β 0 0) = 2 ^ β 0 2 - 1 ∧ ors (β 4) s (β 0 0) = 2 ^ β 0 2 - 1) → K 0 S) : wX0_meetsAllPosts S 2 (nI s) K := by
  have hr := h.1
  have h12 := h.2.2.1.1
  refine ⟨β 0 0 + 1, l_meets h hs ?_ _ 0 (by omega) (by omega)⟩
  have kl := k_le h.2.2
  have kp : 2 ^ β 0 2 ≤ 2 ^ 12 := Nat.pow_le_pow_right (by decide) kl
  have b3 : ors (β 3) s (β 0 0) < 2 ^ 6 := ors_lt (fun t ht => (h.2.2.2.2.1 t (by omega)).1)
  have b4 : ors (β 4) s (β 0 0) < 2 ^ 6 := ors_lt (fun t ht => (h.2.2.2.2.1 t (by omega)).2)
  unfold wX0_meetsAllPosts_55
  rw [h.2.1.1 2 (by decide), psh (by omega), pm1]
  refine ⟨ok_O hr.1 (by decide), fun x ex => ?_⟩
  subst ex
  rw [peq (by omega) (by omega), peq (by omega) (by omega)]
  exact ⟨fun c => ⟨fun c2 => h1 ⟨c, c2⟩, fun c2 => h0 (fun z => c2 z.2)⟩, fun c => h0 (fun z => c z.1)⟩
-- what is reached
def rst (β : Nat → Nat → Nat) (s seen t : Nat) : Nat := if s.testBit t ∧ (seen.testBit (β 3 t) = true ∨ seen.testBit (β 4 t) = true) then seen ||| (2 ^ β 3 t ||| 2 ^ β 4 t) else seen
def rro (β : Nat → Nat → Nat) (s seen : Nat) : Nat → Nat
  | 0 => seen
  | n + 1 => rst β s (rro β s seen n) n
def rch (β : Nat → Nat → Nat) (s : Nat) : Nat → Nat
  | 0 => 1
  | m + 1 => rro β s (rch β s m) (β 0 0)
theorem rst_lt {β : Nat → Nat → Nat} {s seen t : Nat} (h : seen < 64) (h1 : β 3 t < 6 ∧ β 4 t < 6) : rst β s seen t < 64 := by
  unfold rst
  split
  · refine Nat.or_lt_two_pow (n := 6) h (Nat.or_lt_two_pow ?_ ?_)
    · exact Nat.pow_lt_pow_right (by decide) h1.1
    · exact Nat.pow_lt_pow_right (by decide) h1.2
  · exact h
theorem rro_lt {β : Nat → Nat → Nat} (hw : WF β) {s seen : Nat} (h : seen < 64) : ∀ n, n ≤ 12 → rro β s seen n < 64
  | 0, _ => h
  | n + 1, hn => rst_lt (rro_lt hw h n (by omega)) (hw.2.2.1 n (by omega))
theorem rch_lt {β : Nat → Nat → Nat} (hw : WF β) (s : Nat) : ∀ m, rch β s m < 64
  | 0 => by show (1 : Nat) < 64; omega
  | m + 1 => rro_lt hw (rch_lt hw s m) _ hw.1.1
theorem and_or_bits (x p q : Nat) : (x &&& (2 ^ p ||| 2 ^ q) = 0) = (x.testBit p = false ∧ x.testBit q = false) := by
  apply propext
  rw [← fb_bit_nat, ← fb_bit_nat, Nat.and_or_distrib_left]
  constructor
  · intro h
    have := Nat.or_eq_zero_iff.mp h
    exact this
  · rintro ⟨h1, h2⟩
    rw [h1, h2]
    rfl
theorem l_ht15 {S : St} {β : Nat → Nat → Nat} {s m : Nat} {K : Int32 → St → Prop} {B : Nat → Int32 → Int32 → Int32 → St → Prop} (h : BB S β) (hs : s < 4096) (hm : m < 100) (hB : B 2 (nI s) (nI (rch β s (m + 1))) (nI (m + 2)) S) :
    ∀ (n t : Nat), t ≤ β 0 0 → β 0 0 - t < n → wX0_holdsTogether_15 K B n 2 (nI s) (nI (rro β s (rch β s m) t)) (nI (m + 1)) (nI t) S
  | 0, t, _, h => absurd h (by omega)
  | n + 1, t, ht, hn => by
    have hr := h.1
    have h12 := h.2.2.1.1
    have ih := l_ht15 (K := K) h hs hm hB n
    have hrr := rro_lt h.2.2 (s := s) (rch_lt h.2.2 s m) t (by omega)
    rw [wX0_holdsTogether_15, h.2.1.1 0 (by decide), ple (by omega) (by omega), pbit0 (by omega) (by omega)]
    have e3 : rro β s (rch β s m) (t + 1) = rst β s (rro β s (rch β s m) t) t := rfl
    refine ⟨ok_O hr.1 (by decide), fun c => ?_, fun c => ?_⟩
    · have e : t = β 0 0 := by omega
      intro x ex
      rw [ex, nI_1, e]
      exact hB
    · have p := h.2.2.2.2.1 t (by omega)
      have a3 := h.2.1.2.1 2 (by decide) t (by omega)
      have a4 := h.2.1.2.1 3 (by decide) t (by omega)
      have i2 := ih (t + 1) (by omega) (by omega)
      rw [e3] at i2
      have q3 : (2 : Nat) ^ β 3 t < 2 ^ 6 := Nat.pow_lt_pow_right (by decide) p.1
      have q4 : (2 : Nat) ^ β 4 t < 2 ^ 6 := Nat.pow_lt_pow_right (by decide) p.2
      have q5 := Nat.or_lt_two_pow q3 q4
      rw [rt2_6 hr, rt2_7 hr, pcl (by omega), a3, a4, psh (by show β 3 t < 31; omega), psh (by show β 4 t < 31; omega), por]
      refine ⟨by decide, ok_A (N := 12) hr.1 (by decide) (by omega) (by decide), by decide, ok_A (N := 12) hr.1 (by decide) (by omega) (by decide), fun x5 e5 => ?_⟩
      have e5 : x5 = nI (2 ^ β 3 t ||| 2 ^ β 4 t) := e5
      subst e5
      refine ⟨fun z x ex => ?_, fun z => ?_⟩
      · rw [ex, nI_1]
        unfold rst at i2
        rw [if_neg (by rw [z]; simp)] at i2
        exact i2
      · have z := tb_eq z
        have hal : rro β s (rch β s m) t &&& (2 ^ β 3 t ||| 2 ^ β 4 t) < 2147483648 := Nat.lt_of_le_of_lt Nat.and_le_left (by omega)
        rw [pan, show (0 : Int32) = nI 0 from rfl, peq hal (by omega), and_or_bits, por]
        refine ⟨fun z2 x ex => ?_, fun z2 x2 ex2 x ex => ?_⟩
        · rw [ex, nI_1]
          unfold rst at i2
          rw [if_neg (by rw [z2.1, z2.2]; simp)] at i2
          exact i2
        · rw [ex, nI_1, ex2]
          have hor : (rro β s (rch β s m) t).testBit (β 3 t) = true ∨ (rro β s (rch β s m) t).testBit (β 4 t) = true := by
            rcases Bool.eq_false_or_eq_true ((rro β s (rch β s m) t).testBit (β 3 t)) with w | w
            · exact Or.inl w
            · rcases Bool.eq_false_or_eq_true ((rro β s (rch β s m) t).testBit (β 4 t)) with w2 | w2
              · exact Or.inr w2
              · exact absurd ⟨w, w2⟩ z2
          unfold rst at i2
          rw [if_pos ⟨z, hor⟩] at i2
          exact i2
theorem l_ht4 {S : St} {β : Nat → Nat → Nat} {s : Nat} {K : Int32 → St → Prop} (h : BB S β) (hs : s < 4096) (h0 : 1 ≤ β 0 2) (hK : wX0_holdsTogether_78 K 2 (nI (rch β s (β 0 2 - 1))) S) :
    ∀ (n m : Nat), m + 1 ≤ β 0 2 → β 0 2 - m < n → wX0_holdsTogether_4 K n 2 (nI s) (nI (rch β s m)) (nI (m + 1)) S
  | 0, m, _, h => absurd h (by omega)
  | n + 1, m, hm, hn => by
    have hr := h.1
    have kl := k_le h.2.2
    have ih := l_ht4 h hs h0 hK n
    rw [wX0_holdsTogether_4, h.2.1.1 2 (by decide), ple (by omega) (by omega)]
    refine ⟨ok_O hr.1 (by decide), fun c => ?_, fun c => ?_⟩
    · rw [show m = β 0 2 - 1 by omega]
      exact hK
    · exact ⟨β 0 0 + 1, l_ht15 h hs (by omega) (ih (m + 1) (by omega) (by omega)) _ 0 (by omega) (by omega)⟩
theorem w_ht {S : St} {β : Nat → Nat → Nat} {s : Nat} {K : Int32 → St → Prop} (h : BB S β) (hs : s < 4096) (hk : 1 ≤ β 0 2) (h1 : rch β s (β 0 2 - 1) = 2 ^ β 0 2 - 1 → K 1 S) (h0 : ¬ rch β s (β 0 2 - 1) = 2 ^ β 0 2 - 1 → K 0 S) : wX0_holdsTogether S 2 (nI s) K := by
  have hr := h.1
  have kl := k_le h.2.2
  have kp : 2 ^ β 0 2 ≤ 2 ^ 12 := Nat.pow_le_pow_right (by decide) kl
  have hb := rch_lt h.2.2 s (β 0 2 - 1)
  refine ⟨β 0 2 + 1, l_ht4 h hs hk ?_ _ 0 (by omega) (by omega)⟩
  unfold wX0_holdsTogether_78
  rw [h.2.1.1 2 (by decide), psh (by omega), pm1, peq (by omega) (by omega)]
  exact ⟨ok_O hr.1 (by decide), h1, h0⟩
-- the walk
def rdf (β : Nat → Nat → Nat) (p rest : Nat) : Nat := fa_first (fun t => rest.testBit t && (β 3 t == p || β 4 t == p)) (β 0 0)
theorem l_road {S : St} {β : Nat → Nat → Nat} {s p : Nat} {K : Int32 → St → Prop} (h : BB S β) (hs : s < 4096) (hp : p < 6) (h1 : ∀ t, t < β 0 0 → s.testBit t = true → (β 3 t = p ∨ β 4 t = p) → rdf β p s = t → K (nI t) S) (h0 : rdf β p s = β 0 0 → K (-1) S) :
    ∀ (n t : Nat), t ≤ rdf β p s → β 0 0 - t < n → wX0_roadFrom_2 K n 2 (nI p) (nI s) (nI t) S
  | 0, t, ht, hn => absurd hn (by omega)
  | n + 1, t, ht, hn => by
    have hr := h.1
    have h12 := h.2.2.1.1
    have hle := fa_first_le (fun t => s.testBit t && (β 3 t == p || β 4 t == p)) (β 0 0)
    have ih := l_road h hs hp h1 h0 n
    have ht' : t ≤ fa_first (fun t => s.testBit t && (β 3 t == p || β 4 t == p)) (β 0 0) := ht
    rw [wX0_roadFrom_2, h.2.1.1 0 (by decide), ple (by omega) (by omega), pbit0 (by omega) (by omega)]
    refine ⟨ok_O hr.1 (by decide), fun c => h0 (by show fa_first _ _ = _; omega), fun c => ?_⟩
    have p1 := h.2.2.2.2.1 t (by omega)
    have a3 := h.2.1.2.1 2 (by decide) t (by omega)
    have a4 := h.2.1.2.1 3 (by decide) t (by omega)
    have yes : s.testBit t = true → (β 3 t = p ∨ β 4 t = p) → rdf β p s = t := fun z z2 => by
      show fa_first _ _ = t
      rcases Nat.lt_or_eq_of_le ht' with w | w
      · exfalso
        have := fa_first_no _ _ t w
        rw [z, Bool.true_and] at this
        simp at this
        omega
      · exact w.symm
    have no : ¬ (s.testBit t = true ∧ (β 3 t = p ∨ β 4 t = p)) → wX0_roadFrom_40 K (wX0_roadFrom_2 K n) 2 (nI p) (nI s) (nI t) S := fun z x ex => by
      rw [ex, nI_1]
      refine ih (t + 1) ?_ (by omega)
      show t + 1 ≤ fa_first _ _
      rcases Nat.lt_or_eq_of_le ht' with w | w
      · exact w
      · exfalso
        have := fa_first_yes (fun t => s.testBit t && (β 3 t == p || β 4 t == p)) (β 0 0) (by omega)
        rw [← w] at this
        simp at this
        exact z this
    refine ⟨fun z => no (fun w => by rw [z] at w; exact absurd w.1 (by decide)), fun z => ?_⟩
    have z := tb_eq z
    rw [rt2_6 hr, rt2_7 hr, pcl (by omega), a3, a4]
    show 5 ≠ 0 ∧ okA S 10 5 (nI t) ∧ ((nI (β 3 t) = nI p → _) ∧ (¬ nI (β 3 t) = nI p → 6 ≠ 0 ∧ okA S 10 6 (nI t) ∧ ((nI (β 4 t) = nI p → _) ∧ (¬ nI (β 4 t) = nI p → _))))
    rw [peq (by omega) (by omega), peq (by omega) (by omega)]
    refine ⟨by decide, ok_A (N := 12) hr.1 (by decide) (by omega) (by decide), fun c2 => h1 t (by omega) z (Or.inl c2) (yes z (Or.inl c2)), fun c2 => ⟨by decide, ok_A (N := 12) hr.1 (by decide) (by omega) (by decide), fun c3 => h1 t (by omega) z (Or.inr c3) (yes z (Or.inr c3)), fun c3 => no (fun w => by omega)⟩⟩
theorem w_road {S : St} {β : Nat → Nat → Nat} {s p : Nat} {K : Int32 → St → Prop} (h : BB S β) (hs : s < 4096) (hp : p < 6) (h1 : ∀ t, t < β 0 0 → s.testBit t = true → (β 3 t = p ∨ β 4 t = p) → rdf β p s = t → K (nI t) S) (h0 : rdf β p s = β 0 0 → K (-1) S) : wX0_roadFrom S 2 (nI p) (nI s) K :=
  ⟨β 0 0 + 1, l_road h hs hp h1 h0 (β 0 0 + 1) 0 (by omega) (by omega)⟩
def nxp (β : Nat → Nat → Nat) (t p : Nat) : Nat := if β 3 t = p then β 4 t else β 3 t
def wk (β : Nat → Nat → Nat) : Nat → Nat → Nat → Nat → Bool
  | 0, p, _, rest => decide (rest = 0 ∧ p = β 0 2)
  | m + 1, p, seen, rest => if rest = 0 then decide (p = β 0 2) else if rdf β p rest = β 0 0 then false else if seen.testBit (nxp β (rdf β p rest) p) then false else wk β m (nxp β (rdf β p rest) p) (seen ||| 2 ^ nxp β (rdf β p rest) p) (sdf rest (2 ^ rdf β p rest))
theorem l_way {S : St} {β : Nat → Nat → Nat} {K : Int32 → St → Prop} (h : BB S β) :
    ∀ (m n p seen rest : Nat), m < n → m ≤ 5 → p < 6 → seen < 64 → rest < 4096 → (wk β m p seen rest = true → K 1 S) → (wk β m p seen rest = false → K 0 S) → wX0_isWay_10 K n 2 (nI p) (nI seen) (nI rest) (nI (6 - m)) S
  | m, 0, _, _, _, h, _, _, _, _, _, _ => absurd h (by omega)
  | m, n + 1, p, seen, rest, hn, hm, hp, hse, hre, h1, h0 => by
    have hr := h.1
    have h12 := h.2.2.1.1
    have kl := k_le h.2.2
    have fin : (m = 0 ∨ rest = 0) → wX0_isWay_101 K 2 (nI p) (nI rest) S := fun z => by
      have e : wk β m p seen rest = decide (rest = 0 ∧ p = β 0 2) := by
        cases m with
        | zero => rfl
        | succ m =>
          have z : rest = 0 := by omega
          unfold wk
          rw [if_pos z]
          simp [z]
      rw [e] at h1 h0
      rw [decide_eq_true_eq] at h1
      rw [decide_eq_false_iff_not] at h0
      unfold wX0_isWay_101
      rw [h.2.1.1 2 (by decide), show (0 : Int32) = nI 0 from rfl, peq (by omega) (by omega), peq (by omega) (by omega)]
      exact ⟨fun c => ⟨ok_O hr.1 (by decide), fun c2 => h1 ⟨c, c2⟩, fun c2 => h0 (fun w => c2 w.2)⟩, fun c => h0 (fun w => c w.1)⟩
    rw [wX0_isWay_10, show (6 : Int32) = nI 6 from rfl, ple (by omega) (by omega)]
    refine ⟨fun c => fin (by omega), fun c => ?_⟩
    have hzz : (nI rest = 0) = (rest = 0) := by rw [show (0 : Int32) = nI 0 from rfl, peq (by omega) (by omega)]
    rw [hzz]
    refine ⟨fun c2 => fin (Or.inr c2), fun c2 => ⟨ok_O hr.1 (by decide), ?_⟩⟩
    cases m with
    | zero => exact absurd c (by omega)
    | succ m =>
      refine w_road h hre hp (fun t ht z1 z2 z3 => ?_) (fun z => ?_)
      · refine ⟨fun z => absurd z (neg1_ne (by omega)), fun _ => ?_⟩
        have p1 := h.2.2.2.2.1 t (by omega)
        have a3 := h.2.1.2.1 2 (by decide) t (by omega)
        have a4 := h.2.1.2.1 3 (by decide) t (by omega)
        have hnx : nxp β t p < 6 := by unfold nxp; split <;> omega
        have wke : wk β (m + 1) p seen rest = if seen.testBit (nxp β t p) then false else wk β m (nxp β t p) (seen ||| 2 ^ nxp β t p) (sdf rest (2 ^ t)) := by
          show (if rest = 0 then _ else if rdf β p rest = β 0 0 then false else if seen.testBit (nxp β (rdf β p rest) p) then false else wk β m (nxp β (rdf β p rest) p) (seen ||| 2 ^ nxp β (rdf β p rest) p) (sdf rest (2 ^ rdf β p rest))) = _
          rw [z3, if_neg c2, if_neg (by omega)]
        rw [wke] at h1 h0
        have go : wX0_isWay_67 K (wX0_isWay_10 K n) 2 (nI seen) (nI rest) (nI (6 - (m + 1))) (nI t) (nI (nxp β t p)) S := by
          unfold wX0_isWay_67
          rw [pbit0 (by omega) (by omega), psh (by omega), psh (by omega), por, pdf]
          refine ⟨fun c3 => ?_, fun c3 => ?_⟩
          · intro x3 e3 x4 e4 x5 e5
            rw [nI_1, show 6 - (m + 1) + 1 = 6 - m by omega] at e5
            rw [e3, e4, e5]
            rw [if_neg (by rw [c3]; decide)] at h1 h0
            exact l_way h m n (nxp β t p) (seen ||| 2 ^ nxp β t p) (sdf rest (2 ^ t)) (by omega) (by omega) hnx (Nat.or_lt_two_pow (n := 6) hse (Nat.pow_lt_pow_right (by decide) hnx)) (sdf_lt (n := 12) hre) h1 h0
          · rw [if_pos (tb_eq c3)] at h0
            exact h0 rfl
        rw [rt2_6 hr, rt2_7 hr, pcl (by omega), a3, a4]
        refine ⟨⟨ok_O hr.1 (by decide), by decide⟩, ok_A (N := 12) hr.1 (by decide) (by omega) (by decide), fun c3 => ⟨by decide, ok_A (N := 12) hr.1 (by decide) (by omega) (by decide), ?_⟩, fun c3 => ?_⟩
        · rw [show (1 + 2 : Nat) = 3 from rfl, peq (by omega) (by omega)] at c3
          have : nxp β t p = β 4 t := by unfold nxp; rw [if_pos c3]
          rw [this] at go
          exact go
        · rw [show (1 + 2 : Nat) = 3 from rfl, peq (by omega) (by omega)] at c3
          have : nxp β t p = β 3 t := by unfold nxp; rw [if_neg c3]
          rw [this] at go
          exact go
      · refine ⟨fun _ => h0 ?_, fun w => absurd rfl w⟩
        show (if rest = 0 then _ else if rdf β p rest = β 0 0 then false else _) = _
        rw [if_neg c2, if_pos z]
/-- what the class takes for a choice -/
def alC (β : Nat → Nat → Nat) (s : Nat) : Bool :=
  if β 0 1 = 1 then decide (popc s < 6) && wk β 5 0 1 s
  else if β 0 1 = 2 then decide (popc s = β 0 2 - 1 ∧ rch β s (β 0 2 - 1) = 2 ^ β 0 2 - 1)
  else if β 0 1 = 3 then decide (popc s = β 0 2 ∧ ors (β 3) s (β 0 0) = 2 ^ β 0 2 - 1 ∧ ors (β 4) s (β 0 0) = 2 ^ β 0 2 - 1)
  else decide (popc s = β 0 2)
theorem popc_le (s : Nat) : popc s ≤ 12 := sm_le (f := fun _ => 1) (M := 1) (n := 12) (fun _ _ => Nat.le_refl _)
theorem w_allows {S : St} {β : Nat → Nat → Nat} {s : Nat} {K : Int32 → St → Prop} (h : BB S β) (hs : s < 4096) (h1 : alC β s = true → K 1 S) (h0 : alC β s = false → K 0 S) : wX0_allows S 2 (nI s) K := by
  have hr := h.1
  have hk4 := h.2.2.1.2.1
  have kl := k_le h.2.2
  have pl := popc_le s
  have hwf := h.2.2.2.2.2.2.2.1
  unfold wX0_allows
  rw [h.2.1.1 1 (by decide), nI_toInt (n31 (by omega))]
  refine ⟨ok_O hr.1 (by decide), fun c => ?_, fun c => ?_, fun c => ?_, fun c => ?_⟩
  · have e : β 0 1 = 0 := by omega
    unfold alC at h1 h0
    rw [if_neg (by omega), if_neg (by omega), if_neg (by omega)] at h1 h0
    rw [decide_eq_true_eq] at h1
    rw [decide_eq_false_iff_not] at h0
    refine w_bc hs ?_
    rw [h.2.1.1 2 (by decide), peq (by omega) (by omega)]
    exact ⟨ok_O hr.1 (by decide), h1, h0⟩
  · have e : β 0 1 = 1 := by omega
    unfold alC at h1 h0
    rw [if_pos e] at h1 h0
    rw [Bool.and_eq_true, decide_eq_true_eq] at h1
    rw [Bool.and_eq_false_iff, decide_eq_false_iff_not] at h0
    refine w_bc hs ?_
    rw [show (6 : Int32) = nI 6 from rfl, ple (by omega) (by omega)]
    refine ⟨fun c2 => h0 (Or.inl (by omega)), fun c2 => ⟨ok_O hr.1 (by decide), ⟨6, ?_⟩⟩⟩
    refine l_way h 5 6 0 1 s (by omega) (by omega) (by omega) (by omega) hs (fun w => ?_) (fun w => ?_)
    · exact ⟨fun z => absurd z (by decide), fun _ => h1 ⟨by omega, w⟩⟩
    · exact ⟨fun _ => h0 (Or.inr w), fun z => absurd rfl z⟩
  · have e : β 0 1 = 2 := by omega
    have hk := hwf.2.1 e
    unfold alC at h1 h0
    rw [if_neg (by omega), if_pos e] at h1 h0
    rw [decide_eq_true_eq] at h1
    rw [decide_eq_false_iff_not] at h0
    refine w_bc hs ?_
    rw [h.2.1.1 2 (by decide), show nI (β 0 2) - 1 = nI (β 0 2 - 1) from pk_sub hk.1, peq (by omega) (by omega)]
    refine ⟨ok_O hr.1 (by decide), fun c2 => w_ht h hs hk.1 (fun w => ?_) (fun w => ?_), fun c2 => h0 (fun z => c2 z.1)⟩
    · exact ⟨fun z => absurd z (by decide), fun _ => h1 ⟨c2, w⟩⟩
    · exact ⟨fun _ => h0 (fun z => w z.2), fun z => absurd rfl z⟩
  · have e : β 0 1 = 3 := by omega
    unfold alC at h1 h0
    rw [if_neg (by omega), if_neg (by omega), if_pos e] at h1 h0
    rw [decide_eq_true_eq] at h1
    rw [decide_eq_false_iff_not] at h0
    refine w_bc hs ?_
    rw [h.2.1.1 2 (by decide), peq (by omega) (by omega)]
    refine ⟨ok_O hr.1 (by decide), fun c2 => w_meets h hs (fun w => ?_) (fun w => ?_), fun c2 => h0 (fun z => c2 z.1)⟩
    · exact ⟨fun z => absurd z (by decide), fun _ => h1 ⟨c2, w⟩⟩
    · exact ⟨fun _ => h0 (fun z => w z.2), fun z => absurd rfl z⟩
