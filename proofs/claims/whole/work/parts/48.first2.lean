theorem Lst_step {S1 S2 : St} {f ch : Nat → Nat} {N n t B r : Nat} (hr : r < 2 ^ t) (h : Lst S1 f N ch n t B r) (h1 : sI S2 106 (2 ^ (t + 1) * B + r) = nI (LSt f N ch (t + 1) (2 ^ (t + 1) * B + r))) (h2 : sI S2 106 (2 ^ (t + 1) * B + r + 2 ^ t) = nI (LSt f N ch (t + 1) (2 ^ (t + 1) * B + r + 2 ^ t))) (ho : ∀ i, i ≠ 2 ^ (t + 1) * B + r → i ≠ 2 ^ (t + 1) * B + r + 2 ^ t → sI S2 106 i = sI S1 106 i) : Lst S2 f N ch n t B (r + 1) := by
  intro b q hq hlt
  by_cases e : b = B ∧ q = r
  · obtain ⟨rfl, rfl⟩ := e
    rw [if_pos (by omega)]
    exact ⟨h1, h2⟩
  · have i1 := bk_inj (b := b) (B := B) hq hr
    have i2 := bk_inj (b := B) (B := b) hr hq
    have hc : (b < B ∨ (b = B ∧ q < r + 1)) = (b < B ∨ (b = B ∧ q < r)) := propext (by omega)
    have n1 : 2 ^ (t + 1) * b + q ≠ 2 ^ (t + 1) * B + r := fun z => e (i1.2 z)
    have n2 : 2 ^ (t + 1) * b + q + 2 ^ t ≠ 2 ^ (t + 1) * B + r := fun z => i2.1 z.symm
    have n3 : 2 ^ (t + 1) * b + q + 2 ^ t ≠ 2 ^ (t + 1) * B + r + 2 ^ t := fun z => n1 (by omega)
    simp only [hc]
    rw [ho _ n1 i1.1, ho _ n2 n3]
    exact h b q hq hlt
theorem l_set18 {S : St} {f ch : Nat → Nat} {N n t B : Nat} {K : St → Prop} {Bc : Nat → Int32 → Int32 → Int32 → Int32 → St → Prop} (hr : RT S) (ht : t < n) (hn : n ≤ 12) (hf : f t ≤ 1000) (hB : 2 ^ (t + 1) * B + 2 ^ (t + 1) ≤ 2 ^ n)
    (hK : ∀ S1, Ex (fun k => k = 106) S S1 → Lst S1 f N ch n t (B + 1) 0 → Bc 99 (nI (f t)) (nI (2 ^ n)) (nI (2 ^ t)) (nI (2 ^ (t + 1) * (B + 1))) S1) :
    ∀ (m r : Nat) (S1 : St), r ≤ 2 ^ t → 2 ^ t - r < m → Ex (fun k => k = 106) S S1 → Lst S1 f N ch n t B r → wX6_settle_18 K Bc m 99 (nI (f t)) (nI (2 ^ n)) (nI (2 ^ t)) (nI (2 ^ (t + 1) * B)) (nI (2 ^ (t + 1) * B + r)) S1
  | 0, r, S1, _, h, _, _ => absurd h (by omega)
  | m + 1, r, S1, hrt, hm, hE, hI => by
    have hp : 2 ^ (t + 1) = 2 ^ t * 2 := Nat.pow_succ 2 t
    have h4 : 2 ^ n ≤ 4096 := Nat.pow_le_pow_right (n := 2) (by decide) hn
    have hr1 := hE.rt hr
    rw [wX6_settle_18, nI_add]
    refine ⟨fun c => ?_, fun c => ?_⟩
    · rw [ple (by omega) (by omega)] at c
      have e : r = 2 ^ t := by omega
      subst e
      intro x5 e5
      have e5 : x5 = nI (2 ^ (t + 1) * (B + 1)) := by
        rw [e5, show (2 : Int32) = nI 2 from rfl, pk_mul, nI_add, Nat.mul_add, Nat.mul_one]
        congr 1
        omega
      rw [e5]
      refine hK S1 hE (fun b q hq hlt => ?_)
      have hc : (b < B + 1 ∨ (b = B + 1 ∧ q < 0)) = (b < B ∨ (b = B ∧ q < 2 ^ t)) := propext (by omega)
      simp only [hc]
      exact hI b q hq hlt
    · rw [ple (by omega) (by omega)] at c
      have hlt : r < 2 ^ t := by omega
      obtain ⟨v1, v2⟩ := hI B r hlt (by omega)
      rw [if_neg (by omega)] at v1 v2
      have b1 := LSt_le f N ch t (2 ^ (t + 1) * B + r)
      have b2 := LSt_le f N ch t (2 ^ (t + 1) * B + r + 2 ^ t)
      have k1 := LSt_lo f N ch (B := B) hlt
      have k2 := LSt_hi f N ch (B := B) hlt
      rw [por, or_bk hlt, rt99_4 hr1, pcl (by omega), pcl (by omega), v1, v2]
      refine ⟨⟨ok_O hr1.1 (by decide), by decide⟩, ok_A (N := 4096) hr1.1 (by decide) (by omega) (by decide), ?_⟩
      intro x7 e7
      refine ⟨ok_A (N := 4096) hr1.1 (by decide) (by omega) (by decide), ?_⟩
      intro x8 e8
      subst e7 e8
      have go : ∀ S2, Ex (fun k => k = 106) S S2 → Lst S2 f N ch n t B (r + 1) → wX6_settle_91 K (wX6_settle_18 K Bc m) 99 (nI (f t)) (nI (2 ^ n)) (nI (2 ^ t)) (nI (2 ^ (t + 1) * B)) (nI (2 ^ (t + 1) * B + r)) S2 := by
        intro S2 hE2 hI2 x ex
        subst ex
        rw [nI_1, Nat.add_assoc]
        exact l_set18 hr ht hn hf hB hK m (r + 1) S2 (by omega) (by omega) hE2 hI2
      rw [plt (by omega) (by omega)]
      refine ⟨fun c2 => ?_, fun c2 => ?_⟩
      · rw [nI_add, ple (by omega) (by omega)]
        refine ⟨fun c3 => ?_, fun c3 => ?_⟩
        · refine go S1 hE (Lst_step hlt hI ?_ ?_ (fun _ _ _ => rfl))
          · rw [v1, k1, if_neg (by omega)]
          · rw [v2, k2, if_pos c2]
        · intro S2 e2
          refine go S2 (by rw [e2]; exact hE.pI rfl) (Lst_step hlt hI ?_ ?_ (fun i h1 h2 => by rw [e2, sI_n h1]))
          · rw [e2, sI_s, k1, if_pos (by omega)]
          · rw [e2, sI_n (by have := Nat.two_pow_pos t; omega), v2, k2, if_pos c2]
      · intro S2 e2
        refine go S2 (by rw [e2]; exact hE.pI rfl) (Lst_step hlt hI ?_ ?_ (fun i h1 h2 => by rw [e2, sI_n h2]))
        · rw [e2, sI_n (by have := Nat.two_pow_pos t; omega), v1, k1, if_neg (by omega)]
        · rw [e2, sI_s, k2, if_neg c2]
theorem l_set8 {S : St} {f ch : Nat → Nat} {N n t : Nat} {K : St → Prop} (hr : RT S) (ht : t < n) (hn : n ≤ 12) (hf : f t ≤ 1000)
    (hK : ∀ S1, Ex (fun k => k = 106) S S1 → Lst S1 f N ch n t (2 ^ (n - t - 1)) 0 → K S1) :
    ∀ (m B : Nat) (S1 : St), B ≤ 2 ^ (n - t - 1) → 2 ^ (n - t - 1) - B < m → Ex (fun k => k = 106) S S1 → Lst S1 f N ch n t B 0 → wX6_settle_8 K m 99 (nI (f t)) (nI (2 ^ n)) (nI (2 ^ t)) (nI (2 ^ (t + 1) * B)) S1
  | 0, B, S1, _, h, _, _ => absurd h (by omega)
  | m + 1, B, S1, hB, hm, hE, hI => by
    have hp : 2 ^ n = 2 ^ (t + 1) * 2 ^ (n - t - 1) := by rw [← Nat.pow_add]; congr 1; omega
    have h4 : 2 ^ n ≤ 4096 := Nat.pow_le_pow_right (n := 2) (by decide) hn
    have hpos := Nat.two_pow_pos (t + 1)
    have hbb : 2 ^ (t + 1) * B ≤ 2 ^ n := by rw [hp]; exact Nat.mul_le_mul_left _ hB
    rw [wX6_settle_8]
    refine ⟨fun c => ?_, fun c => ?_⟩
    · rw [ple (by omega) (by omega)] at c
      have e : B = 2 ^ (n - t - 1) := by
        have : 2 ^ (t + 1) * 2 ^ (n - t - 1) ≤ 2 ^ (t + 1) * B := by omega
        have := Nat.le_of_mul_le_mul_left this hpos
        omega
      subst e
      exact hK S1 hE hI
    · rw [ple (by omega) (by omega)] at c
      have hlt : B < 2 ^ (n - t - 1) := by
        rcases Nat.lt_or_ge B (2 ^ (n - t - 1)) with z | z
        · exact z
        · exact absurd (by rw [hp]; exact Nat.mul_le_mul_left _ z) c
      have hb2 : 2 ^ (t + 1) * B + 2 ^ (t + 1) ≤ 2 ^ n := by
        have := Nat.mul_le_mul_left (2 ^ (t + 1)) hlt
        rw [Nat.succ_eq_add_one, Nat.mul_add, Nat.mul_one, ← hp] at this
        exact this
      refine ⟨2 ^ t + 1, ?_⟩
      have := l_set18 (K := K) (f := f) (N := N) (ch := ch) (B := B) hr ht hn hf hb2 (Bc := wX6_settle_8 K m) (fun S2 hE2 hI2 => l_set8 hr ht hn hf hK m (B + 1) S2 (by omega) (by omega) hE2 hI2) (2 ^ t + 1) 0 S1 (Nat.zero_le _) (Nat.lt_succ_self _) hE hI
      exact this
theorem w_settle {S : St} {f ch : Nat → Nat} {N n t : Nat} {K : St → Prop} (hr : RT S) (ht : t < n) (hn : n ≤ 12) (hf : f t ≤ 1000) (h : ∀ m, m < 2 ^ n → sI S 106 m = nI (LSt f N ch t m))
    (hK : ∀ S1, Ex (fun k => k = 106) S S1 → (∀ m, m < 2 ^ n → sI S1 106 m = nI (LSt f N ch (t + 1) m)) → K S1) : wX6_settle S 99 (nI t) (nI (f t)) (nI (2 ^ n)) K := by
  intro x4 e4
  rw [psh (by omega)] at e4
  subst e4
  refine ⟨2 ^ (n - t - 1) + 1, ?_⟩
  have hp : 2 ^ n = 2 ^ (t + 1) * 2 ^ (n - t - 1) := by rw [← Nat.pow_add]; congr 1; omega
  refine l_set8 (N := N) (ch := ch) (f := f) hr ht hn hf (fun S1 hE hI => hK S1 hE (fun m hm => ?_)) (2 ^ (n - t - 1) + 1) 0 S (Nat.zero_le _) (Nat.lt_succ_self _) Ex.rf (fun b q hq hlt => ?_)
  · have hp2 : 2 ^ (t + 1) = 2 ^ t * 2 := Nat.pow_succ 2 t
    have hpt := Nat.two_pow_pos t
    have e1 : m = 2 ^ t * (m / 2 ^ t) + m % 2 ^ t := (Nat.div_add_mod m (2 ^ t)).symm
    have hq := Nat.mod_lt m hpt
    have e2 : m / 2 ^ t = 2 * (m / 2 ^ t / 2) + m / 2 ^ t % 2 := by omega
    generalize m % 2 ^ t = q at e1 hq
    generalize m / 2 ^ t / 2 = b at e2
    have hmod : m / 2 ^ t % 2 = 0 ∨ m / 2 ^ t % 2 = 1 := by omega
    generalize m / 2 ^ t % 2 = z at e2 hmod
    rw [e2, Nat.mul_add, ← Nat.mul_assoc, ← hp2] at e1
    have hb : b < 2 ^ (n - t - 1) := by
      rcases Nat.lt_or_ge b (2 ^ (n - t - 1)) with y | y
      · exact y
      · have := Nat.mul_le_mul_left (2 ^ (t + 1)) y
        rw [← hp] at this
        omega
    have hb2 : 2 ^ (t + 1) * b + 2 ^ (t + 1) ≤ 2 ^ n := by
      have := Nat.mul_le_mul_left (2 ^ (t + 1)) hb
      rw [Nat.succ_eq_add_one, Nat.mul_add, Nat.mul_one, ← hp] at this
      exact this
    obtain ⟨v1, v2⟩ := hI b q hq (by omega)
    rw [if_pos (Or.inl hb)] at v1 v2
    rcases hmod with hz | hz
    · subst hz
      rw [Nat.mul_zero, Nat.add_zero] at e1
      rw [e1]
      exact v1
    · subst hz
      rw [Nat.mul_one] at e1
      rw [show m = 2 ^ (t + 1) * b + q + 2 ^ t by omega]
      exact v2
  · rw [if_neg (by omega)]
    exact ⟨h _ (by omega), h _ hlt⟩
