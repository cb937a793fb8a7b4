theorem w_within {S : St} {x : Int32} {m : Nat} {K : Int32 → St → Prop} (hm : m < 2147483648) (h1 : ∀ j, j < m → x = nI j → K 1 S) (h0 : (∀ j, j < m → x ≠ nI j) → K 0 S) : wX8_isWithin S x (nI m) K := by
  unfold wX8_isWithin
  rcases pk_ix x (n31 hm) with h | h | ⟨j, hj, e⟩
  · refine ⟨fun _ => h0 (fun j hj e => ?_), fun z => absurd h z⟩
    rw [e] at h
    exact nI_pos (n31 (by omega)) h
  · have hp : ¬ x < 0 := fun z => by
      rw [fa_lt] at z
      rw [fa_le, nI_toInt (n31 hm)] at h
      have : (0 : Int32).toInt = 0 := by decide
      omega
    refine ⟨fun z => absurd z hp, fun _ => ⟨fun _ => h0 (fun j hj e => ?_), fun z => absurd h z⟩⟩
    rw [e, ple hm (by omega)] at h
    omega
  · refine ⟨fun z => absurd z (by rw [e]; exact nI_pos (n31 (by omega))), fun _ => ⟨fun z => ?_, fun _ => h1 j hj e⟩⟩
    rw [e, ple hm (by omega)] at z
    omega
theorem tb_add {s t i : Nat} (h : s < 2 ^ t) : (s + 2 ^ t).testBit i = if i = t then true else s.testBit i := by
  rw [Nat.add_comm]
  rcases Nat.lt_trichotomy i t with z | z | z
  · rw [if_neg (by omega), Nat.testBit_two_pow_add_gt z]
  · subst z
    rw [if_pos rfl, Nat.testBit_two_pow_add_eq, Nat.testBit_lt_two_pow h]
    rfl
  · rw [if_neg (by omega)]
    have hp : 2 ^ (t + 1) ≤ 2 ^ i := Nat.pow_le_pow_right (by decide) z
    rw [Nat.pow_succ] at hp
    rw [Nat.testBit_lt_two_pow (by omega), Nat.testBit_lt_two_pow (by omega)]
theorem or_add {s t : Nat} (h : s < 2 ^ t) : s ||| 2 ^ t = s + 2 ^ t := by
  have := Nat.two_pow_add_eq_or_of_lt h 1
  rw [Nat.mul_one] at this
  rw [Nat.or_comm, ← this, Nat.add_comm]
theorem sm_bit {f : Nat → Nat} {s t : Nat} (h : s < 2 ^ t) : ∀ n, sm f (s + 2 ^ t) n = sm f s n + if t < n then f t else 0
  | 0 => rfl
  | n + 1 => by
    have ih := sm_bit (f := f) h n
    show sm f (s + 2 ^ t) n + (if (s + 2 ^ t).testBit n then f n else 0) = (sm f s n + if s.testBit n then f n else 0) + _
    rw [ih, tb_add h]
    rcases Nat.lt_trichotomy n t with z | z | z
    · rw [if_neg (show ¬ n = t by omega), if_neg (show ¬ t < n by omega), if_neg (show ¬ t < n + 1 by omega)]
      omega
    · subst z
      rw [if_pos rfl, if_neg (show ¬ n < n by omega), if_pos (show n < n + 1 by omega), Nat.testBit_lt_two_pow h]
      simp
    · rw [if_neg (show ¬ n = t by omega), if_pos (show t < n by omega), if_pos (show t < n + 1 by omega)]
      omega
def SO (o : Nat) : Prop := o = 78 ∨ o = 81 ∨ o = 88 ∨ o = 94 ∨ o = 100 ∨ o = 103
theorem SO.f {o : Nat} (h : SO o) : (1 ≤ o ∧ o ≤ 124 ∧ kc o = 5) ∧ (1 ≤ o + 1 ∧ o + 1 ≤ 124 ∧ kc (o + 1) = 10 ∧ ln (o + 1) = 64) ∧ (1 ≤ o + 2 ∧ o + 2 ≤ 124 ∧ kc (o + 2) = 10 ∧ ln (o + 2) = 64) ∧ rt o 0 = o + 1 ∧ rt o 1 = o + 2 := by
  rcases h with h | h | h | h | h | h <;> subst h <;> decide
theorem SO.r0 {o : Nat} {S : St} (h : SO o) (hr : RT S) : sR S o 0 = o + 1 := by
  have := h.f.2.2.2.1
  rw [← this]
  exact hr.2 o 0 (by omega)
theorem SO.r1 {o : Nat} {S : St} (h : SO o) (hr : RT S) : sR S o 1 = o + 2 := by
  have := h.f.2.2.2.2
  rw [← this]
  exact hr.2 o 1 (by omega)
/-- the tables of a Sums object hold the sums of f -/
def SumT (S : St) (o : Nat) (f : Nat → Nat) : Prop := (∀ m, m < 64 → sI S (o + 1) m = nI (sm f m 6)) ∧ ∀ m, m < 64 → sI S (o + 2) m = nI (sm (fun t => f (6 + t)) m 6)
theorem sm_mod (f : Nat → Nat) (s : Nat) : sm f (s % 64) 6 = sm f s 6 := sm_cong (fun t ht => by
  rw [show (64 : Nat) = 2 ^ 6 from rfl, Nat.testBit_mod_two_pow]
  simp [ht])
theorem w_total {S : St} {o s : Nat} {f : Nat → Nat} {K : Int32 → St → Prop} (hr : RT S) (ho : SO o) (hT : SumT S o f) (hs : s < 4096) (hK : K (nI (sm f s 12)) S) : wX5_total S o (nI s) K := by
  obtain ⟨f1, f2, f3, -, -⟩ := ho.f
  unfold wX5_total
  rw [ho.r0 hr, ho.r1 hr]
  have e1 : nI s &&& 63 = nI (s % 64) := by rw [show (63 : Int32) = nI 63 from rfl, pan, show (63 : Nat) = 2 ^ 6 - 1 from rfl, Nat.and_two_pow_sub_one_eq_mod]
  have e2 : nI s >>> ((6 : Int32) &&& 31) &&& 63 = nI (s / 64) := by
    rw [show (6 : Int32) = nI 6 from rfl, psr (by omega) (by decide), show (63 : Int32) = nI 63 from rfl, pan, show (63 : Nat) = 2 ^ 6 - 1 from rfl, Nat.and_two_pow_sub_one_eq_mod, show (2 : Nat) ^ 6 = 64 from rfl, Nat.mod_eq_of_lt (by omega)]
  rw [e1, e2, pcl (by omega), pcl (by omega)]
  refine ⟨⟨ok_O hr.1 f1, by omega⟩, ok_A hr.1 f2 (by omega) (by decide), by omega, ok_A hr.1 f3 (by omega) (by decide), ?_⟩
  rw [hT.1 _ (by omega), hT.2 _ (by omega), nI_add, sm_mod]
  have := sm_split f s 6 6
  rw [show (6 + 6 : Nat) = 12 from rfl, show (2 : Nat) ^ 6 = 64 from rfl] at this
  rw [← this]
  exact hK
theorem l_fill15 {S : St} {o x1 t : Nat} {f : Nat → Nat} {K : St → Prop} {B : Nat → Nat → Int32 → St → Prop} (hr : RT S) (ho : SO o) (hx : 1 ≤ x1 ∧ x1 ≤ 124 ∧ kc x1 = 10 ∧ ln x1 = 12) (hn : x1 ≠ o + 1 ∧ x1 ≠ o + 2) (hf : ∀ q, q < 12 → sI S x1 q = nI (f q)) (ht : t < 6)
    (hB : ∀ S1, Ex (fun k => k = o + 1 ∨ k = o + 2) S S1 → (∀ q, q < 2 ^ (t + 1) → sI S1 (o + 1) q = nI (sm f q 6) ∧ sI S1 (o + 2) q = nI (sm (fun t => f (6 + t)) q 6)) → B o x1 (nI (t + 1)) S1) :
    ∀ (n m : Nat) (S1 : St), m ≤ 2 ^ t → 2 ^ t - m < n → Ex (fun k => k = o + 1 ∨ k = o + 2) S S1 → (∀ q, q < 2 ^ t + m → sI S1 (o + 1) q = nI (sm f q 6) ∧ sI S1 (o + 2) q = nI (sm (fun t => f (6 + t)) q 6)) → wX5_fill_15 K B n o x1 (nI t) (nI (2 ^ t)) (nI m) S1
  | 0, m, S1, _, h, _, _ => absurd h (by omega)
  | n + 1, m, S1, hm, hmn, hE, hI => by
    have h64 : 2 ^ (t + 1) ≤ 64 := by
      have : 2 ^ (t + 1) ≤ 2 ^ 6 := Nat.pow_le_pow_right (by decide) (by omega)
      exact this
    have hps : 2 ^ (t + 1) = 2 ^ t * 2 := Nat.pow_succ 2 t
    obtain ⟨f1, f2, f3, -, -⟩ := ho.f
    have hr1 := hE.rt hr
    rw [wX5_fill_15]
    refine ⟨fun c => ?_, fun c => ?_⟩
    · rw [ple (by omega) (by omega)] at c
      unfold wX5_fill_70
      intro x2 ex2
      subst ex2
      rw [nI_1]
      exact hB S1 hE (fun q hq => hI q (by omega))
    · rw [ple (by omega) (by omega)] at c
      have hlt : m < 2 ^ t := by omega
      rw [por, or_add hlt, pcl (by omega), pcl (by omega), pcl (by omega), ho.r0 hr1]
      refine ⟨⟨ok_O hr1.1 f1, by omega⟩, ok_A hr1.1 f2 (by omega) (by decide), ok_A hr1.1 hx (by omega) (by decide), ok_A hr1.1 f2 (by omega) (by decide), ?_⟩
      intro S2 e2
      have hE2 : Ex (fun k => k = o + 1 ∨ k = o + 2) S S2 := by rw [e2]; exact hE.pI (Or.inl rfl)
      have hr2 := hE2.rt hr
      rw [ho.r1 hr2, show (6 : Int32) = nI 6 from rfl, nI_add, pcl (by omega)]
      refine ⟨⟨ok_O hr2.1 f1, by omega⟩, ok_A hr2.1 f3 (by omega) (by decide), ok_A hr2.1 hx (by omega) (by decide), ok_A hr2.1 f3 (by omega) (by decide), ?_⟩
      intro S3 e3 x4 ex4
      subst ex4
      rw [nI_1]
      have hx1 : ∀ q, q < 12 → sI S1 x1 q = nI (f q) := fun q hq => by rw [hE.i (by omega)]; exact hf q hq
      have hx2 : ∀ q, q < 12 → sI S2 x1 q = nI (f q) := fun q hq => by rw [hE2.i (by omega)]; exact hf q hq
      refine l_fill15 hr ho hx hn hf ht hB n (m + 1) S3 (by omega) (by omega) (by rw [e3]; exact hE2.pI (Or.inr rfl)) (fun q hq => ?_)
      have a1 : sI S3 (o + 1) q = sI S2 (o + 1) q := by rw [e3, sI_o (by omega)]
      have a2 : sI S2 (o + 2) q = sI S1 (o + 2) q := by rw [e2, sI_o (by omega)]
      by_cases hq2 : q = m + 2 ^ t
      · subst hq2
        refine ⟨?_, ?_⟩
        · rw [a1, e2, sI_s, (hI m (by omega)).1, hx1 t (by omega), nI_add, sm_bit hlt, if_pos ht]
        · rw [e3, sI_s, e2, sI_o (by omega), (hI m (by omega)).2, ← e2, hx2 (t + 6) (by omega), nI_add, sm_bit hlt, if_pos ht, Nat.add_comm t 6]
      · refine ⟨?_, ?_⟩
        · rw [a1, e2, sI_n hq2]
          exact (hI q (by omega)).1
        · rw [e3, sI_n hq2, a2]
          exact (hI q (by omega)).2
theorem l_fill2 {S : St} {o x1 : Nat} {f : Nat → Nat} {K : St → Prop} (hr : RT S) (ho : SO o) (hx : 1 ≤ x1 ∧ x1 ≤ 124 ∧ kc x1 = 10 ∧ ln x1 = 12) (hn : x1 ≠ o + 1 ∧ x1 ≠ o + 2) (hf : ∀ q, q < 12 → sI S x1 q = nI (f q))
    (hK : ∀ S1, Ex (fun k => k = o + 1 ∨ k = o + 2) S S1 → SumT S1 o f → K S1) :
    ∀ (n t : Nat) (S1 : St), t ≤ 6 → 6 - t < n → Ex (fun k => k = o + 1 ∨ k = o + 2) S S1 → (∀ q, q < 2 ^ t → sI S1 (o + 1) q = nI (sm f q 6) ∧ sI S1 (o + 2) q = nI (sm (fun t => f (6 + t)) q 6)) → wX5_fill_2 K n o x1 (nI t) S1
  | 0, t, S1, _, h, _, _ => absurd h (by omega)
  | n + 1, t, S1, ht, htn, hE, hI => by
    rw [wX5_fill_2]
    refine ⟨fun c => ?_, fun c => ?_⟩
    · rw [show (6 : Int32) = nI 6 from rfl, ple (by decide) (by omega)] at c
      have : t = 6 := by omega
      subst this
      exact hK S1 hE ⟨fun m hm => (hI m hm).1, fun m hm => (hI m hm).2⟩
    · rw [show (6 : Int32) = nI 6 from rfl, ple (by decide) (by omega)] at c
      intro x3 ex3
      rw [psh (by omega)] at ex3
      subst ex3
      refine ⟨2 ^ t + 1, ?_⟩
      exact l_fill15 hr ho hx hn hf (by omega) (fun S2 hE2 hI2 => l_fill2 hr ho hx hn hf hK n (t + 1) S2 (by omega) (by omega) hE2 hI2) _ 0 S1 (Nat.zero_le _) (Nat.lt_succ_self _) hE (fun q hq => hI q (by omega))
theorem w_fill {S : St} {o x1 : Nat} {f : Nat → Nat} {K : St → Prop} (hr : RT S) (ho : SO o) (hx : 1 ≤ x1 ∧ x1 ≤ 124 ∧ kc x1 = 10 ∧ ln x1 = 12) (hn : x1 ≠ o + 1 ∧ x1 ≠ o + 2) (hf : ∀ q, q < 12 → sI S x1 q = nI (f q)) (h0 : sI S (o + 1) 0 = 0 ∧ sI S (o + 2) 0 = 0)
    (hK : ∀ S1, Ex (fun k => k = o + 1 ∨ k = o + 2) S S1 → SumT S1 o f → K S1) : wX5_fill S o x1 K := by
  refine ⟨7, l_fill2 hr ho hx hn hf hK 7 0 S (by omega) (by omega) Ex.rf (fun q hq => ?_)⟩
  have : q = 0 := by simp at hq; exact hq
  subst this
  have z : ∀ g : Nat → Nat, sm g 0 6 = 0 := fun g => by simp [sm]
  rw [h0.1, h0.2, z, z]
  exact ⟨rfl, rfl⟩
