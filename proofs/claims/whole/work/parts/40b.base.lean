-- numbers
theorem n31 {a : Nat} (h : a < 2147483648) : a < 2 ^ 31 := h
theorem ple {a b : Nat} (ha : a < 2147483648) (hb : b < 2147483648) : (nI a ≤ nI b) = (a ≤ b) := propext (nI_leI ha hb)
theorem plt {a b : Nat} (ha : a < 2147483648) (hb : b < 2147483648) : (nI a < nI b) = (a < b) := propext (nI_ltI ha hb)
theorem peq {a b : Nat} (ha : a < 2147483648) (hb : b < 2147483648) : (nI a = nI b) = (a = b) := propext (nI_eq ha hb)
theorem pcl {a : Nat} (ha : a < 2147483648) : (nI a).toNatClampNeg = a := nI_clamp ha
theorem psh {t : Nat} (ht : t < 31) : (1 : Int32) <<< (nI t &&& 31) = nI (2 ^ t) := by
  have h := pk_shlN (n := 1) (nI t &&& 31) t (s_l t (by omega)) (by rw [Nat.one_mul]; exact Nat.pow_lt_pow_of_lt (by decide) (by omega))
  rw [Nat.one_mul] at h
  exact h
theorem psr {s t : Nat} (hs : s < 2147483648) (ht : t < 32) : nI s >>> (nI t &&& 31) = nI (s / 2 ^ t) := pk_shrN hs (nI t &&& 31) t (s_l t ht)
theorem pan (a b : Nat) : nI a &&& nI b = nI (a &&& b) := fa_and a b
theorem por (a b : Nat) : nI a ||| nI b = nI (a ||| b) := fa_or a b
theorem pbit {s t : Nat} (hs : s < 2147483648) (ht : t < 32) : (nI s >>> (nI t &&& 31)) &&& 1 = nI (if s.testBit t then 1 else 0) := by
  rw [psr hs ht, show (1 : Int32) = nI 1 from rfl, pan, Nat.and_one_is_mod]
  congr 1
  rw [Nat.testBit_eq_decide_div_mod_eq]
  have := Nat.mod_two_eq_zero_or_one (s / 2 ^ t)
  by_cases h : s / 2 ^ t % 2 = 1
  · simp [h]
  · have : s / 2 ^ t % 2 = 0 := by omega
    simp [this]
theorem pbit0 {s t : Nat} (hs : s < 2147483648) (ht : t < 32) : ((nI s >>> (nI t &&& 31)) &&& 1 = 0) = (s.testBit t = false) := by
  rw [pbit hs ht]
  cases s.testBit t
  · simp; rfl
  · simp; decide
theorem pbit1 {s t : Nat} (hs : s < 2147483648) (ht : t < 32) : ((nI s >>> (nI t &&& 31)) &&& 1 = 1) = (s.testBit t = true) := by
  rw [pbit hs ht]
  cases s.testBit t
  · simp; decide
  · simp; rfl
theorem bt_n {a i : Nat} (hi : i < 32) : bt (nI a) i = a.testBit i := by
  unfold bt nI
  rw [show (Int32.ofNat a).toBitVec = BitVec.ofNat 32 a from rfl, BitVec.getLsbD_ofNat]
  simp [hi]
/-- a set without another -/
def sdf (a b : Nat) : Nat := a ^^^ (a &&& b)
theorem sdf_bit (a b i : Nat) : (sdf a b).testBit i = (a.testBit i && !b.testBit i) := by
  unfold sdf
  rw [Nat.testBit_xor, Nat.testBit_and]
  cases a.testBit i <;> cases b.testBit i <;> rfl
theorem sdf_lt {a b n : Nat} (h : a < 2 ^ n) : sdf a b < 2 ^ n := by
  unfold sdf
  exact Nat.xor_lt_two_pow h (Nat.lt_of_le_of_lt Nat.and_le_left h)
theorem pdf (a b : Nat) : nI a &&& (nI b ^^^ (-1)) = nI (sdf a b) := by
  apply b_ext
  intro i hi
  rw [b_and, b_xor, b_m1 i hi, bt_n hi, bt_n hi, bt_n hi, sdf_bit]
  cases a.testBit i <;> cases b.testBit i <;> rfl
theorem pm1 (n : Nat) : nI (2 ^ n) - 1 = nI (2 ^ n - 1) := pk_sub (Nat.one_le_two_pow)
theorem neg1_ne {a : Nat} (h : a < 2147483648) : ¬ nI a = -1 := by
  intro e
  have := congrArg Int32.toInt e
  rw [nI_toInt h] at this
  have h2 : ((-1 : Int32)).toInt = -1 := by decide
  rw [h2] at this
  omega
-- memory
theorem ok_O {S : St} {ci k : Nat} (h : S.1 = 124) (hk : 1 ≤ k ∧ k ≤ 124 ∧ kc k = ci) : okO S ci k := ⟨hk.1, by rw [h]; exact hk.2.1, hk.2.2⟩
theorem ok_A {S : St} {t k j N : Nat} (h : S.1 = 124) (hk : 1 ≤ k ∧ k ≤ 124 ∧ kc k = t ∧ ln k = N) (hj : j < N) (hN : N < 2147483648) : okA S t k (nI j) := ⟨⟨hk.1, by rw [h]; exact hk.2.1, hk.2.2.1⟩, by rw [hk.2.2.2]; exact vp_in_nI hj hN⟩
def Ex (P : Nat → Prop) (S S1 : St) : Prop := S1.1 = S.1 ∧ S1.2.2.1 = S.2.2.1 ∧ ∀ k, ¬ P k → S1.2.1 k = S.2.1 k
theorem Ex.rf {P : Nat → Prop} {S : St} : Ex P S S := ⟨rfl, rfl, fun _ _ => rfl⟩
theorem Ex.tr {P : Nat → Prop} {S S1 S2 : St} (h : Ex P S S1) (g : Ex P S1 S2) : Ex P S S2 := ⟨g.1.trans h.1, g.2.1.trans h.2.1, fun k hk => (g.2.2 k hk).trans (h.2.2 k hk)⟩
theorem Ex.mo {P Q : Nat → Prop} {S S1 : St} (h : Ex P S S1) (hm : ∀ k, P k → Q k) : Ex Q S S1 := ⟨h.1, h.2.1, fun k hk => h.2.2 k (fun z => hk (hm k z))⟩
theorem Ex.pI {P : Nat → Prop} {S S1 : St} {k j : Nat} {x : Int32} (h : Ex P S S1) (hk : P k) : Ex P S (pI S1 k j x) := ⟨h.1, h.2.1, fun a ha => by
  show va_up S1.2.1 k _ a = _
  have hne : a ≠ k := fun e => ha (by rw [e]; exact hk)
  rw [up_n hne]
  exact h.2.2 a ha⟩
theorem Ex.pA {P : Nat → Prop} {S S1 : St} {k : Nat} {f : Nat → Int32} (h : Ex P S S1) (hk : P k) : Ex P S (pA S1 k f) := ⟨h.1, h.2.1, fun a ha => by
  show va_up S1.2.1 k _ a = _
  have hne : a ≠ k := fun e => ha (by rw [e]; exact hk)
  rw [up_n hne]
  exact h.2.2 a ha⟩
theorem Ex.pL {P : Nat → Prop} {S S1 : St} {k j : Nat} {x : Int64} (h : Ex P S S1) : Ex P S (pL S1 k j x) := h
theorem Ex.i {P : Nat → Prop} {S S1 : St} (h : Ex P S S1) {k : Nat} (hk : ¬ P k) (j : Nat) : sI S1 k j = sI S k j := congrFun (h.2.2 k hk) j
theorem Ex.r {P : Nat → Prop} {S S1 : St} (h : Ex P S S1) (k j : Nat) : sR S1 k j = sR S k j := congrFun (congrFun h.2.1 k) j
theorem Ex.rt {P : Nat → Prop} {S S1 : St} (h : Ex P S S1) (hr : RT S) : RT S1 := ⟨h.1.trans hr.1, fun k j hk => (h.r k j).trans (hr.2 k j hk)⟩
theorem RT.pI {S : St} {k j : Nat} {x : Int32} (h : RT S) : RT (pI S k j x) := h
theorem sI_o {S : St} {k j a b : Nat} {x : Int32} (h : a ≠ k) : sI (pI S k j x) a b = sI S a b := by rw [sI_pI, if_neg (fun z => h z.1)]
-- sums over sets
def sm (f : Nat → Nat) (s : Nat) : Nat → Nat
  | 0 => 0
  | n + 1 => sm f s n + if s.testBit n then f n else 0
theorem sm_le {f : Nat → Nat} {s M : Nat} : ∀ {n : Nat}, (∀ t, t < n → f t ≤ M) → sm f s n ≤ n * M
  | 0, _ => by simp [sm]
  | n + 1, h => by
    have h1 := sm_le (n := n) (s := s) (fun t ht => h t (by omega))
    have h2 := h n (by omega)
    show sm f s n + _ ≤ (n + 1) * M
    rw [Nat.succ_mul]
    split <;> omega
theorem sm_cong {f g : Nat → Nat} {s r : Nat} : ∀ {n : Nat}, (∀ t, t < n → s.testBit t = r.testBit t ∧ (s.testBit t = true → f t = g t)) → sm f s n = sm g r n
  | 0, _ => rfl
  | n + 1, h => by
    have h1 := sm_cong (n := n) (s := s) (r := r) (f := f) (g := g) (fun t ht => h t (by omega))
    obtain ⟨h2, h3⟩ := h n (by omega)
    show sm f s n + _ = sm g r n + _
    rw [h1, ← h2]
    by_cases hb : s.testBit n = true
    · rw [if_pos hb, if_pos hb, h3 hb]
    · rw [if_neg hb, if_neg hb]
theorem sm_add {f g : Nat → Nat} {s : Nat} : ∀ n, sm (fun t => f t + g t) s n = sm f s n + sm g s n
  | 0 => rfl
  | n + 1 => by
    have h := sm_add (f := f) (g := g) (s := s) n
    show sm (fun t => f t + g t) s n + (if s.testBit n then f n + g n else 0) = (sm f s n + if s.testBit n then f n else 0) + (sm g s n + if s.testBit n then g n else 0)
    rw [h]
    split <;> omega
theorem sm_split (f : Nat → Nat) (s m : Nat) : ∀ n, sm f s (m + n) = sm f s m + sm (fun t => f (m + t)) (s / 2 ^ m) n
  | 0 => rfl
  | n + 1 => by
    have h := sm_split f s m n
    show sm f s (m + n) + (if s.testBit (m + n) then f (m + n) else 0) = sm f s m + (sm (fun t => f (m + t)) (s / 2 ^ m) n + if (s / 2 ^ m).testBit n then f (m + n) else 0)
    rw [h, Nat.testBit_div_two_pow, Nat.add_assoc, Nat.add_comm n m]
-- the first least of a row
def am (f : Nat → Nat) : Nat → Nat
  | 0 => 0
  | n + 1 => if n = 0 then 0 else if f n < f (am f n) then n else am f n
theorem am_lt (f : Nat → Nat) : ∀ n, 0 < n → am f n < n
  | 0, h => absurd h (by decide)
  | n + 1, _ => by
    unfold am
    by_cases h0 : n = 0
    · rw [if_pos h0]; omega
    · rw [if_neg h0]
      have := am_lt f n (by omega)
      split <;> omega
theorem am_le (f : Nat → Nat) : ∀ n j, j < n → f (am f n) ≤ f j
  | 0, j, h => absurd h (by omega)
  | n + 1, j, h => by
    unfold am
    by_cases h0 : n = 0
    · rw [if_pos h0]; rw [show j = 0 by omega]; exact Nat.le_refl _
    · rw [if_neg h0]
      by_cases hj : j = n
      · subst hj
        split <;> omega
      · have := am_le f n j (by omega)
        split <;> omega
theorem am_cong {f g : Nat → Nat} : ∀ {n}, (∀ j, j < n → f j = g j) → am f n = am g n
  | 0, _ => rfl
  | n + 1, h => by
    have h1 := am_cong (n := n) (fun j hj => h j (by omega))
    unfold am
    by_cases h0 : n = 0
    · rw [if_pos h0, if_pos h0]
    · rw [if_neg h0, if_neg h0, h1, h n (by omega), h (am g n) (by have := am_lt g n (by omega); omega)]
