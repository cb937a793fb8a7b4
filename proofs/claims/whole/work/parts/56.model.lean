def MBn (S : St) (β : Nat → Nat → Nat) : Prop := sI S 108 1 = nI (β 0 0) ∧ sI S 108 2 = nI (β 0 1) ∧ sI S 108 3 = nI (β 0 2) ∧ (∀ f, f < 5 → ∀ i, i < 12 → sI S (109 + f) i = nI (β (1 + f) i)) ∧ (∀ w, w < 8 → sI S 114 w = if (β 0 3).testBit w then 1 else 0) ∧ ∀ w, w < 8 → ∀ i, i < 12 → sI S 115 (12 * w + i) = nI (β (6 + w) i)
def MCh (S : St) (β : Nat → Nat → Nat) : Prop := sI S 108 11 = nI (nch β) ∧ ∀ c, c < nch β → sI S 116 c = nI (chl β c)
def IB (S : St) (β : Nat → Nat → Nat) : Prop := RT S ∧ WF β ∧ MBn S β
def IM (S : St) (β : Nat → Nat → Nat) : Prop := IB S β ∧ nch β ≤ 500 ∧ MCh S β
theorem MBn.fr {S S1 : St} {β : Nat → Nat → Nat} {P : Nat → Prop} (h : MBn S β) (he : Fr P S S1) (hp : ∀ k, P k → k < 108 ∨ 115 < k ∨ k = 108) (h8 : ∀ j, 1 ≤ j → j ≤ 3 → sI S1 108 j = sI S 108 j) : MBn S1 β := by
  obtain ⟨a, b, c, d, e, f⟩ := h
  refine ⟨by rw [h8 1 (by decide) (by decide)]; exact a, by rw [h8 2 (by decide) (by decide)]; exact b, by rw [h8 3 (by decide) (by decide)]; exact c, fun g hg i hi => ?_, fun w hw => ?_, fun w hw i hi => ?_⟩
  · rw [he.i (fun z => by have := hp _ z; omega)]; exact d g hg i hi
  · rw [he.i (fun z => by have := hp _ z; omega)]; exact e w hw
  · rw [he.i (fun z => by have := hp _ z; omega)]; exact f w hw i hi
theorem IM.fr {S S1 : St} {β : Nat → Nat → Nat} {P : Nat → Prop} (h : IM S β) (he : Fr P S S1) (hp : ∀ k, P k → k < 108 ∨ 116 < k) : IM S1 β :=
  ⟨⟨he.1, h.1.2.1, h.1.2.2.fr he (fun k hk => by have := hp k hk; omega) (fun j _ _ => he.i (fun z => by have := hp _ z; omega) j)⟩, h.2.1, by rw [he.i (fun z => by have := hp _ z; omega)]; exact h.2.2.1, fun c hc => by rw [he.i (fun z => by have := hp _ z; omega)]; exact h.2.2.2 c hc⟩
theorem nI1_toInt {N : Nat} (h : N < 2147483648) : (nI N - 1).toInt = (N : Int) - 1 := by
  have h1 := nI_toInt (n31 h)
  have h2 : (1 : Int32).toInt = 1 := by decide
  rw [fb_subI (by rw [h1, h2]; omega) (by rw [h1, h2]; omega), h1, h2]
theorem m_in {S : St} {x hi : Int32} {N : Nat} {K : Int32 → St → Prop} (hN : N < 2147483648) (hh : hi.toInt = (N : Int) - 1) (h1 : ∀ j, j < N → x = nI j → K 1 S) (h0 : (∀ j, j < N → x ≠ nI j) → K 0 S) : wX9_in S x 0 hi K := by
  unfold wX9_in
  have z0 : (0 : Int32).toInt = 0 := by decide
  rcases pk_ix x (n31 hN) with h | h | ⟨j, hj, e⟩
  · refine ⟨fun _ => h0 (fun j hj e => ?_), fun z => absurd h z⟩
    rw [e] at h
    exact nI_pos (n31 (by omega)) h
  · have h' := h
    rw [fa_le, nI_toInt (n31 hN)] at h'
    refine ⟨fun z => ?_, fun _ => ⟨fun _ => h0 (fun j hj e => ?_), fun z => ?_⟩⟩
    · rw [fa_lt] at z; omega
    · rw [e, ple hN (by omega)] at h; omega
    · rw [fa_lt] at z; omega
  · have ex := nI_toInt (n31 (show j < 2147483648 by omega))
    refine ⟨fun z => absurd z (by rw [e]; exact nI_pos (n31 (by omega))), fun _ => ⟨fun z => ?_, fun _ => h1 j hj e⟩⟩
    rw [fa_lt, e, ex] at z
    omega
theorem m_has {S : St} {s t : Nat} {K : Int32 → St → Prop} (hs : s < 2147483648) (ht : t < 32) (h1 : s.testBit t = true → K 1 S) (h0 : s.testBit t = false → K 0 S) : wX9_has S (nI s) (nI t) K := by
  unfold wX9_has
  rw [pbit1 hs ht]
  exact ⟨h1, fun z => h0 (tb_ne z)⟩
theorem l_size {S : St} {s : Nat} {K : Int32 → St → Prop} (hs : s < 4096) (hK : K (nI (popc s)) S) : ∀ (n t : Nat), t ≤ 12 → 12 - t < n → wX9_size_4 K n (nI s) (nI (sm (fun _ => 1) s t)) (nI t) S
  | 0, t, _, h => absurd h (by omega)
  | n + 1, t, ht, hn => by
    have ih := l_size hs hK n
    have e : sm (fun _ => 1) s (t + 1) = sm (fun _ => 1) s t + if s.testBit t then 1 else 0 := rfl
    rw [wX9_size_4, show (12 : Int32) = nI 12 from rfl, ple (by omega) (by omega)]
    refine ⟨fun c => ?_, fun c => m_has (by omega) (by omega) (fun z => ?_) (fun z => ?_)⟩
    · rw [show t = 12 by omega]; exact hK
    · refine ⟨fun w => absurd w (by decide), fun _ x e1 y e2 => ?_⟩
      have i2 := ih (t + 1) (by omega) (by omega)
      rw [e, if_pos z] at i2
      rw [e1, e2, nI_1, nI_1]
      exact i2
    · refine ⟨fun _ x e1 y e2 => ?_, fun w => absurd rfl w⟩
      have i2 := ih (t + 1) (by omega) (by omega)
      rw [e, if_neg (by rw [z]; decide)] at i2
      rw [e1, e2, nI_1, show (0 : Int32) = nI 0 from rfl, nI_add]
      exact i2
theorem m_size {S : St} {s : Nat} {K : Int32 → St → Prop} (hs : s < 4096) (hK : K (nI (popc s)) S) : wX9_size S (nI s) K := ⟨13, l_size hs hK 13 0 (by omega) (by omega)⟩
theorem l_re13 {S : St} {β : Nat → Nat → Nat} {s m : Nat} {K : Int32 → St → Prop} {B : Nat → Int32 → Int32 → Int32 → St → Prop} (h : IB S β) (hs : s < 4096) (hm : m < 100) (hB : B 108 (nI s) (nI (rch β s (m + 1))) (nI (m + 1)) S) :
    ∀ (n t : Nat), t ≤ β 0 0 → β 0 0 - t < n → wX9_reached_13 K B n 108 (nI s) (nI (rro β s (rch β s m) t)) (nI m) (nI t) S
  | 0, t, _, h => absurd h (by omega)
  | n + 1, t, ht, hn => by
    have hr := h.1
    have h12 := h.2.1.1.1
    have ih := l_re13 (K := K) h hs hm hB n
    have hrr := rro_lt h.2.1 (s := s) (rch_lt h.2.1 s m) t (by omega)
    rw [wX9_reached_13, h.2.2.1, ple (by omega) (by omega)]
    have e3 : rro β s (rch β s m) (t + 1) = rst β s (rro β s (rch β s m) t) t := rfl
    refine ⟨ok_O hr.1 (by decide), fun c => ?_, fun c => ?_⟩
    · have e : t = β 0 0 := by omega
      intro x ex
      rw [ex, nI_1, e]
      exact hB
    · have p := h.2.1.2.2.1 t (by omega)
      have a3 := h.2.2.2.2.2.1 2 (by decide) t (by omega)
      have a4 := h.2.2.2.2.2.1 3 (by decide) t (by omega)
      have a3 : sI S 111 t = nI (β 3 t) := a3
      have a4 : sI S 112 t = nI (β 4 t) := a4
      have i2 := ih (t + 1) (by omega) (by omega)
      rw [e3] at i2
      unfold rst at i2
      have q3 : (2 : Nat) ^ β 3 t < 2 ^ 6 := Nat.pow_lt_pow_right (by decide) p.1
      have q4 : (2 : Nat) ^ β 4 t < 2 ^ 6 := Nat.pow_lt_pow_right (by decide) p.2
      have no : ¬ (s.testBit t = true ∧ ((rro β s (rch β s m) t).testBit (β 3 t) = true ∨ (rro β s (rch β s m) t).testBit (β 4 t) = true)) → wX9_reached_84 K (wX9_reached_13 K B n) 108 (nI s) (nI (rro β s (rch β s m) t)) (nI m) (nI t) S := fun z x ex => by
        rw [if_neg z] at i2
        rw [ex, nI_1]
        exact i2
      have yes : s.testBit t = true → ((rro β s (rch β s m) t).testBit (β 3 t) = true ∨ (rro β s (rch β s m) t).testBit (β 4 t) = true) → wX9_reached_62 K (wX9_reached_13 K B n) 108 (nI s) (nI (rro β s (rch β s m) t)) (nI m) (nI t) S := fun z z2 => by
        rw [if_pos ⟨z, z2⟩] at i2
        unfold wX9_reached_62
        rw [rt108_6 hr, rt108_7 hr, pcl (by omega), a3, a4, psh (by omega), psh (by omega), por, por]
        refine ⟨⟨ok_O hr.1 (by decide), by decide⟩, ok_A (N := 12) hr.1 (by decide) (by omega) (by decide), by decide, ok_A (N := 12) hr.1 (by decide) (by omega) (by decide), fun x2 e2 x ex => ?_⟩
        rw [ex, nI_1, e2]
        exact i2
      refine m_has (by omega) (by omega) (fun z => ?_) (fun z => ?_)
      · refine ⟨fun w => absurd w (by decide), fun _ => ?_⟩
        rw [rt108_6 hr, pcl (by omega), a3]
        refine ⟨⟨ok_O hr.1 (by decide), by decide⟩, ok_A (N := 12) hr.1 (by decide) (by omega) (by decide), m_has (by omega) (by omega) (fun z2 => ⟨fun w => absurd w (by decide), fun _ => yes z (Or.inl z2)⟩) (fun z2 => ⟨fun _ => ?_, fun w => absurd rfl w⟩)⟩
        rw [rt108_7 hr, a4]
        refine ⟨⟨ok_O hr.1 (by decide), by decide⟩, ok_A (N := 12) hr.1 (by decide) (by omega) (by decide), m_has (by omega) (by omega) (fun z3 => ⟨fun w => absurd w (by decide), fun _ => yes z (Or.inr z3)⟩) (fun z3 => ⟨fun _ => no (fun w => ?_), fun w => absurd rfl w⟩)⟩
        rw [z2, z3] at w
        simp at w
      · exact ⟨fun _ => no (fun w => by rw [z] at w; simp at w), fun w => absurd rfl w⟩
theorem l_re4 {S : St} {β : Nat → Nat → Nat} {s : Nat} {K : Int32 → St → Prop} (h : IB S β) (hs : s < 4096) (hK : K (nI (rch β s 6)) S) :
    ∀ (n m : Nat), m ≤ 6 → 6 - m < n → wX9_reached_4 K n 108 (nI s) (nI (rch β s m)) (nI m) S
  | 0, m, _, h => absurd h (by omega)
  | n + 1, m, hm, hn => by
    have ih := l_re4 h hs hK n
    rw [wX9_reached_4, show (6 : Int32) = nI 6 from rfl, ple (by omega) (by omega)]
    refine ⟨fun c => ?_, fun c => ?_⟩
    · rw [show m = 6 by omega]; exact hK
    · exact ⟨β 0 0 + 1, l_re13 h hs (by omega) (ih (m + 1) (by omega) (by omega)) _ 0 (by omega) (by omega)⟩
theorem m_reached {S : St} {β : Nat → Nat → Nat} {s : Nat} {K : Int32 → St → Prop} (h : IB S β) (hs : s < 4096) (hK : K (nI (rch β s 6)) S) : wX9_reached S 108 (nI s) K := ⟨7, l_re4 h hs hK 7 0 (by omega) (by omega)⟩
-- pairs
theorem cn_le (f : Nat → Nat) (s p : Nat) {n : Nat} (hn : n ≤ 12) : cn f s n p ≤ 12 := by
  have : cn f s n p ≤ n * 1 := sm_le (fun t _ => by split <;> omega)
  omega
theorem l_pr31 {S : St} {β : Nat → Nat → Nat} {s p : Nat} {K : Int32 → St → Prop} {B : Nat → Int32 → Int32 → St → Prop} (h : IB S β) (hs : s < 4096) (hp : p < 12) (hK : wX9_isPairs_98 K B 108 (nI s) (nI p) (nI (cn (β 3) s (β 0 0) p)) (nI (cn (β 4) s (β 0 0) p)) S) :
    ∀ (n t : Nat), t ≤ β 0 0 → β 0 0 - t < n → wX9_isPairs_31 K B n 108 (nI s) (nI p) (nI (cn (β 3) s t p)) (nI (cn (β 4) s t p)) (nI t) S
  | 0, t, _, h => absurd h (by omega)
  | n + 1, t, ht, hn => by
    have hr := h.1
    have h12 := h.2.1.1.1
    have ih := l_pr31 (K := K) h hs hp hK n
    have e3 : cn (β 3) s (t + 1) p = cn (β 3) s t p + if s.testBit t then (if β 3 t = p then 1 else 0) else 0 := rfl
    have e4 : cn (β 4) s (t + 1) p = cn (β 4) s t p + if s.testBit t then (if β 4 t = p then 1 else 0) else 0 := rfl
    rw [wX9_isPairs_31, h.2.2.1, ple (by omega) (by omega)]
    refine ⟨ok_O hr.1 (by decide), fun c => ?_, fun c => ?_⟩
    · rw [show t = β 0 0 by omega]; exact hK
    · have pp := h.2.1.2.2.1 t (by omega)
      have a3 : sI S 111 t = nI (β 3 t) := h.2.2.2.2.2.1 2 (by decide) t (by omega)
      have a4 : sI S 112 t = nI (β 4 t) := h.2.2.2.2.2.1 3 (by decide) t (by omega)
      have i2 := ih (t + 1) (by omega) (by omega)
      rw [e3, e4] at i2
      refine m_has (by omega) (by omega) (fun z => ?_) (fun z => ?_)
      · refine ⟨fun w => absurd w (by decide), fun _ => ?_⟩
        rw [if_pos z, if_pos z] at i2
        rw [rt108_6 hr, pcl (by omega), a3, peq (by omega) (by omega)]
        have go : ∀ x3 : Int32, x3 = nI (cn (β 3) s t p + if β 3 t = p then 1 else 0) → (okO S 9 108 ∧ sR S 108 7 ≠ 0) ∧ okA S 10 (sR S 108 7) (nI t) ∧ (((sI S (sR S 108 7) (nI t).toNatClampNeg) = nI p → wX9_isPairs_89 K (wX9_isPairs_31 K B n) 108 (nI s) (nI p) x3 (nI t) (nI (cn (β 4) s t p)) 1 S) ∧ (¬ (sI S (sR S 108 7) (nI t).toNatClampNeg) = nI p → wX9_isPairs_89 K (wX9_isPairs_31 K B n) 108 (nI s) (nI p) x3 (nI t) (nI (cn (β 4) s t p)) 0 S)) := by
          intro x3 e3
          subst e3
          rw [rt108_7 hr, pcl (by omega), a4, peq (by omega) (by omega)]
          refine ⟨⟨ok_O hr.1 (by decide), by decide⟩, ok_A (N := 12) hr.1 (by decide) (by omega) (by decide), fun c2 x4 e4 x ex => ?_, fun c2 x4 e4 x ex => ?_⟩
          · rw [if_pos c2] at i2
            rw [ex, e4, nI_1, nI_1]
            exact i2
          · rw [if_neg c2] at i2
            rw [ex, e4, nI_1, show (0 : Int32) = nI 0 from rfl, nI_add]
            exact i2
        refine ⟨⟨ok_O hr.1 (by decide), by decide⟩, ok_A (N := 12) hr.1 (by decide) (by omega) (by decide), fun c2 x3 e3 => go x3 ?_, fun c2 x3 e3 => go x3 ?_⟩
        · rw [if_pos c2, e3, nI_1]
        · rw [if_neg c2, e3, show (0 : Int32) = nI 0 from rfl, nI_add]
      · refine ⟨fun _ x ex => ?_, fun w => absurd rfl w⟩
        rw [if_neg (by rw [z]; decide), if_neg (by rw [z]; decide)] at i2
        rw [ex, nI_1]
        exact i2
theorem l_pr15 {S : St} {β : Nat → Nat → Nat} {s : Nat} {K : Int32 → St → Prop} (h : IB S β) (hs : s < 4096) (h1 : (∀ p, p < β 0 2 → cn (β 3) s (β 0 0) p = 1 ∧ cn (β 4) s (β 0 0) p = 1) → K 1 S) (h0 : ¬ (∀ p, p < β 0 2 → cn (β 3) s (β 0 0) p = 1 ∧ cn (β 4) s (β 0 0) p = 1) → K 0 S) :
    ∀ (n p : Nat), p ≤ β 0 2 → β 0 2 - p < n → (∀ q, q < p → cn (β 3) s (β 0 0) q = 1 ∧ cn (β 4) s (β 0 0) q = 1) → wX9_isPairs_15 K n 108 (nI s) (nI p) S
  | 0, p, _, h, _ => absurd h (by omega)
  | n + 1, p, hp, hn, hI => by
    have hr := h.1
    have h12 := h.2.1.1.1
    have kl := k_le h.2.1
    have ih := l_pr15 h hs h1 h0 n
    rw [wX9_isPairs_15, h.2.2.2.2.1, ple (by omega) (by omega)]
    refine ⟨ok_O hr.1 (by decide), fun c => ?_, fun c => ⟨β 0 0 + 1, l_pr31 h hs (by omega) ?_ _ 0 (by omega) (by omega)⟩⟩
    · exact h1 (fun q hq => hI q (by omega))
    · have b3 := cn_le (β 3) s p h12
      have b4 := cn_le (β 4) s p h12
      unfold wX9_isPairs_98
      rw [show (1 : Int32) = nI 1 from rfl, peq (by omega) (by omega), peq (by omega) (by omega)]
      refine ⟨fun c3 => ⟨fun c4 x ex => ?_, fun c4 => h0 (fun z => c4 (z p (by omega)).2)⟩, fun c3 => h0 (fun z => c3 (z p (by omega)).1)⟩
      rw [ex, nI_add]
      refine ih (p + 1) (by omega) (by omega) (fun q hq => ?_)
      by_cases e : q = p
      · rw [e]; exact ⟨c3, c4⟩
      · exact hI q (by omega)
theorem m_pairs {S : St} {β : Nat → Nat → Nat} {s : Nat} {K : Int32 → St → Prop} (h : IB S β) (hs : s < 4096) (h1 : (popc s = β 0 2 ∧ ∀ p, p < β 0 2 → cn (β 3) s (β 0 0) p = 1 ∧ cn (β 4) s (β 0 0) p = 1) → K 1 S) (h0 : ¬ (popc s = β 0 2 ∧ ∀ p, p < β 0 2 → cn (β 3) s (β 0 0) p = 1 ∧ cn (β 4) s (β 0 0) p = 1) → K 0 S) : wX9_isPairs S 108 (nI s) K := by
  have hr := h.1
  have kl := k_le h.2.1
  have pl := popc_le s
  refine m_size hs ?_
  rw [h.2.2.2.2.1, peq (by omega) (by omega)]
  refine ⟨ok_O hr.1 (by decide), fun c => ⟨β 0 2 + 1, l_pr15 h hs (fun z => h1 ⟨c, z⟩) (fun z => h0 (fun w => z w.2)) _ 0 (by omega) (by omega) (fun q hq => absurd hq (by omega))⟩, fun c => h0 (fun w => c w.1)⟩
-- trees
theorem l_tr17 {S : St} {β : Nat → Nat → Nat} {s : Nat} {K : Int32 → St → Prop} (h : IB S β) (hs : s < 4096) (h1 : ((∀ t, t < β 0 0 → s.testBit t = true → β 3 t < β 0 2 ∧ β 4 t < β 0 2) ∧ rch β s 6 = 2 ^ β 0 2 - 1) → K 1 S) (h0 : ¬ ((∀ t, t < β 0 0 → s.testBit t = true → β 3 t < β 0 2 ∧ β 4 t < β 0 2) ∧ rch β s 6 = 2 ^ β 0 2 - 1) → K 0 S) :
    ∀ (n t : Nat), t ≤ β 0 0 → β 0 0 - t < n → (∀ q, q < t → s.testBit q = true → β 3 q < β 0 2 ∧ β 4 q < β 0 2) → wX9_isTree_17 K n 108 (nI s) (nI t) S
  | 0, t, _, h, _ => absurd h (by omega)
  | n + 1, t, ht, hn, hI => by
    have hr := h.1
    have h12 := h.2.1.1.1
    have kl := k_le h.2.1
    have kp : 2 ^ β 0 2 ≤ 2 ^ 12 := Nat.pow_le_pow_right (by decide) kl
    have ih := l_tr17 h hs h1 h0 n
    rw [wX9_isTree_17, h.2.2.1, ple (by omega) (by omega)]
    refine ⟨ok_O hr.1 (by decide), fun c => ⟨ok_O hr.1 (by decide), m_reached h hs ?_⟩, fun c => m_has (by omega) (by omega) (fun z => ?_) (fun z => ?_)⟩
    · have hb := rch_lt h.2.1 s 6
      rw [h.2.2.2.2.1, psh (by omega), pm1, peq (by omega) (by omega)]
      exact ⟨ok_O hr.1 (by decide), fun c2 => h1 ⟨fun q hq => hI q (by omega), c2⟩, fun c2 => h0 (fun w => c2 w.2)⟩
    · have pp := h.2.1.2.2.1 t (by omega)
      have a3 : sI S 111 t = nI (β 3 t) := h.2.2.2.2.2.1 2 (by decide) t (by omega)
      have a4 : sI S 112 t = nI (β 4 t) := h.2.2.2.2.2.1 3 (by decide) t (by omega)
      refine ⟨fun w => absurd w (by decide), fun _ => ?_⟩
      rw [rt108_6 hr, rt108_7 hr, pcl (by omega), a3, a4, h.2.2.2.2.1, ple (by omega) (by omega), plt (by omega) (by omega)]
      refine ⟨⟨ok_O hr.1 (by decide), by decide⟩, ok_A (N := 12) hr.1 (by decide) (by omega) (by decide), fun c2 => h0 (fun w => ?_), fun c2 => ⟨by decide, ok_A (N := 12) hr.1 (by decide) (by omega) (by decide), fun c3 x ex => ?_, fun c3 => h0 (fun w => ?_)⟩⟩
      · have := w.1 t (by omega) z; omega
      · rw [ex, nI_1]
        refine ih (t + 1) (by omega) (by omega) (fun q hq hsq => ?_)
        by_cases e : q = t
        · rw [e]; omega
        · exact hI q (by omega) hsq
      · have := w.1 t (by omega) z; omega
    · refine ⟨fun _ x ex => ?_, fun w => absurd rfl w⟩
      rw [ex, nI_1]
      refine ih (t + 1) (by omega) (by omega) (fun q hq hsq => ?_)
      by_cases e : q = t
      · rw [e, z] at hsq; cases hsq
      · exact hI q (by omega) hsq
theorem m_tree {S : St} {β : Nat → Nat → Nat} {s : Nat} {K : Int32 → St → Prop} (h : IB S β) (hs : s < 4096) (hk : 1 ≤ β 0 2) (h1 : (popc s = β 0 2 - 1 ∧ (∀ t, t < β 0 0 → s.testBit t = true → β 3 t < β 0 2 ∧ β 4 t < β 0 2) ∧ rch β s 6 = 2 ^ β 0 2 - 1) → K 1 S) (h0 : ¬ (popc s = β 0 2 - 1 ∧ (∀ t, t < β 0 0 → s.testBit t = true → β 3 t < β 0 2 ∧ β 4 t < β 0 2) ∧ rch β s 6 = 2 ^ β 0 2 - 1) → K 0 S) : wX9_isTree S 108 (nI s) K := by
  have hr := h.1
  have kl := k_le h.2.1
  have pl := popc_le s
  refine m_size hs ?_
  rw [h.2.2.2.2.1, show nI (β 0 2) - 1 = nI (β 0 2 - 1) from pk_sub hk, peq (by omega) (by omega)]
  exact ⟨ok_O hr.1 (by decide), fun c => ⟨β 0 0 + 1, l_tr17 h hs (fun z => h1 ⟨c, z⟩) (fun z => h0 (fun w => z w.2)) _ 0 (by omega) (by omega) (fun q hq => absurd hq (by omega))⟩, fun c => h0 (fun w => c w.1)⟩
-- ways
def dgn (β : Nat → Nat → Nat) (s p n : Nat) : Nat := sm (fun t => if β 3 t = p ∨ β 4 t = p then 1 else 0) s n
theorem l_wy20 {S : St} {β : Nat → Nat → Nat} {s p : Nat} {K : Int32 → St → Prop} {B : Nat → Int32 → Int32 → Int32 → St → Prop} (h : IB S β) (hs : s < 4096) (hp : p < 6) (hK : (∀ t, t < β 0 0 → s.testBit t = true → β 3 t ≠ β 4 t ∧ (rch β s 6).testBit (β 3 t) = true) → wX9_isWay_112 K B 108 (nI s) (nI (rch β s 6)) (nI p) (nI (dg β s p)) S) (h0 : ¬ (∀ t, t < β 0 0 → s.testBit t = true → β 3 t ≠ β 4 t ∧ (rch β s 6).testBit (β 3 t) = true) → K 0 S) :
    ∀ (n t : Nat), t ≤ β 0 0 → β 0 0 - t < n → (∀ q, q < t → s.testBit q = true → β 3 q ≠ β 4 q ∧ (rch β s 6).testBit (β 3 q) = true) → wX9_isWay_20 K B n 108 (nI s) (nI (rch β s 6)) (nI p) (nI (dgn β s p t)) (nI t) S
  | 0, t, _, h, _ => absurd h (by omega)
  | n + 1, t, ht, hn, hI => by
    have hr := h.1
    have h12 := h.2.1.1.1
    have hb := rch_lt h.2.1 s 6
    have ih := l_wy20 (K := K) h hs hp hK h0 n
    have e3 : dgn β s p (t + 1) = dgn β s p t + if s.testBit t then (if β 3 t = p ∨ β 4 t = p then 1 else 0) else 0 := rfl
    rw [wX9_isWay_20, h.2.2.1, ple (by omega) (by omega)]
    refine ⟨ok_O hr.1 (by decide), fun c => ?_, fun c => m_has (by omega) (by omega) (fun z => ?_) (fun z => ?_)⟩
    · have e : t = β 0 0 := by omega
      have := hK (fun q hq => hI q (by omega))
      rw [e]
      exact this
    · have pp := h.2.1.2.2.1 t (by omega)
      have a3 : sI S 111 t = nI (β 3 t) := h.2.2.2.2.2.1 2 (by decide) t (by omega)
      have a4 : sI S 112 t = nI (β 4 t) := h.2.2.2.2.2.1 3 (by decide) t (by omega)
      refine ⟨fun w => absurd w (by decide), fun _ => ?_⟩
      rw [rt108_6 hr, rt108_7 hr, pcl (by omega), a3, a4, peq (by omega) (by omega)]
      refine ⟨⟨ok_O hr.1 (by decide), by decide⟩, ok_A (N := 12) hr.1 (by decide) (by omega) (by decide), by decide, ok_A (N := 12) hr.1 (by decide) (by omega) (by decide), fun c2 => h0 (fun w => (w t (by omega) z).1 c2), fun c2 => m_has (by omega) (by omega) (fun z2 => ⟨fun w => absurd w (by decide), fun _ => ?_⟩) (fun z2 => ⟨fun _ => h0 (fun w => ?_), fun w => absurd rfl w⟩)⟩
      · have i2 := fun hh => ih (t + 1) (by omega) (by omega) hh
        have hh : ∀ q, q < t + 1 → s.testBit q = true → β 3 q ≠ β 4 q ∧ (rch β s 6).testBit (β 3 q) = true := fun q hq hsq => by
          by_cases e : q = t
          · rw [e]; exact ⟨c2, z2⟩
          · exact hI q (by omega) hsq
        have i2 := i2 hh
        rw [e3, if_pos z] at i2
        rw [rt108_6 hr, rt108_7 hr, a3, a4, peq (by omega) (by omega), peq (by omega) (by omega)]
        have yes : (β 3 t = p ∨ β 4 t = p) → wX9_isWay_98 K (wX9_isWay_20 K B n) 108 (nI s) (nI (rch β s 6)) (nI p) (nI t) (nI (dgn β s p t)) S := fun c3 x4 e4 x ex => by
          rw [if_pos c3] at i2
          rw [ex, e4, nI_1, nI_1]
          exact i2
        refine ⟨⟨ok_O hr.1 (by decide), by decide⟩, ok_A (N := 12) hr.1 (by decide) (by omega) (by decide), fun c3 => yes (Or.inl c3), fun c3 => ⟨by decide, ok_A (N := 12) hr.1 (by decide) (by omega) (by decide), fun c4 => yes (Or.inr c4), fun c4 x4 e4 x ex => ?_⟩⟩
        rw [if_neg (by omega)] at i2
        rw [ex, e4, nI_1, show (0 : Int32) = nI 0 from rfl, nI_add]
        exact i2
      · have := (w t (by omega) z).2
        rw [z2] at this
        cases this
    · refine ⟨fun _ x ex => ?_, fun w => absurd rfl w⟩
      have i2 := ih (t + 1) (by omega) (by omega) (fun q hq hsq => by
        by_cases e : q = t
        · rw [e, z] at hsq; cases hsq
        · exact hI q (by omega) hsq)
      rw [e3, if_neg (by rw [z]; decide)] at i2
      rw [ex, nI_1]
      exact i2
theorem l_wy8 {S : St} {β : Nat → Nat → Nat} {s : Nat} {K : Int32 → St → Prop} (h : IB S β) (hs : s < 4096) (h1 : WM β s → K 1 S) (h0 : ¬ WM β s → K 0 S) :
    ∀ (n p : Nat), p ≤ 6 → 6 - p < n → (p = 0 ∨ ∀ t, t < β 0 0 → s.testBit t = true → β 3 t ≠ β 4 t ∧ (rch β s 6).testBit (β 3 t) = true) → (∀ q, q < p → ((q = 0 ∨ q = β 0 2) → dg β s q = 1) ∧ (¬ (q = 0 ∨ q = β 0 2) → dg β s q = 0 ∨ dg β s q = 2)) → wX9_isWay_8 K n 108 (nI s) (nI (rch β s 6)) (nI p) S
  | 0, p, _, h, _, _ => absurd h (by omega)
  | n + 1, p, hp, hn, hA, hI => by
    have hr := h.1
    have h12 := h.2.1.1.1
    have kl := k_le h.2.1
    have ih := l_wy8 h hs h1 h0 n
    rw [wX9_isWay_8, show (6 : Int32) = nI 6 from rfl, ple (by omega) (by omega)]
    refine ⟨fun c => ?_, fun c => ⟨β 0 0 + 1, l_wy20 h hs (by omega) (fun hA2 => ?_) (fun z => h0 (fun w => z w.1)) _ 0 (by omega) (by omega) (fun q hq => absurd hq (by omega))⟩⟩
    · rcases hA with z | z
      · omega
      · exact h1 ⟨z, fun q hq => hI q (by omega)⟩
    · have hd : dg β s p ≤ 12 := by
        have : dg β s p ≤ β 0 0 * 1 := sm_le (fun t _ => by split <;> omega)
        omega
      have go : (((p = 0 ∨ p = β 0 2) → dg β s p = 1) ∧ (¬ (p = 0 ∨ p = β 0 2) → dg β s p = 0 ∨ dg β s p = 2)) → wX9_isWay_146 K (wX9_isWay_8 K n) 108 (nI s) (nI (rch β s 6)) (nI p) S := fun g x ex => by
        rw [ex, nI_1]
        refine ih (p + 1) (by omega) (by omega) (Or.inr hA2) (fun q hq => ?_)
        by_cases e : q = p
        · rw [e]; exact g
        · exact hI q (by omega)
      have n1 : (nI (dg β s p) = 1) = (dg β s p = 1) := by rw [show (1 : Int32) = nI 1 from rfl, peq (by omega) (by omega)]
      have n0 : (nI (dg β s p) = 0) = (dg β s p = 0) := by rw [show (0 : Int32) = nI 0 from rfl, peq (by omega) (by omega)]
      have n2 : (nI (dg β s p) = 2) = (dg β s p = 2) := by rw [show (2 : Int32) = nI 2 from rfl, peq (by omega) (by omega)]
      have p0 : (nI p = 0) = (p = 0) := by rw [show (0 : Int32) = nI 0 from rfl, peq (by omega) (by omega)]
      unfold wX9_isWay_112 wX9_isWay_124
      rw [h.2.2.2.2.1, n1, n0, n2, p0, peq (by omega) (by omega)]
      refine ⟨fun c1 => ⟨fun c2 => go ⟨fun _ => c2, fun z => by omega⟩, fun c2 => h0 (fun w => c2 ((w.2 p (by omega)).1 (Or.inl c1)))⟩, fun c1 => ⟨ok_O hr.1 (by decide), fun c2 => ⟨fun c3 => go ⟨fun _ => c3, fun z => by omega⟩, fun c3 => h0 (fun w => c3 ((w.2 p (by omega)).1 (Or.inr c2)))⟩, fun c2 => ⟨fun c3 => go ⟨fun z => by omega, fun _ => Or.inl c3⟩, fun c3 => ⟨fun c4 => go ⟨fun z => by omega, fun _ => Or.inr c4⟩, fun c4 => h0 (fun w => ?_)⟩⟩⟩⟩
      have := (w.2 p (by omega)).2 (by omega)
      omega
theorem m_way {S : St} {β : Nat → Nat → Nat} {s : Nat} {K : Int32 → St → Prop} (h : IB S β) (hs : s < 4096) (h1 : WM β s → K 1 S) (h0 : ¬ WM β s → K 0 S) : wX9_isWay S 108 (nI s) K := by
  have hr := h.1
  exact ⟨ok_O hr.1 (by decide), m_reached h hs ⟨7, l_wy8 h hs h1 h0 7 0 (by omega) (by omega) (Or.inl rfl) (fun q hq => absurd hq (by omega))⟩⟩
theorem m_isChoice {S : St} {β : Nat → Nat → Nat} {s : Nat} {K : Int32 → St → Prop} (h : IB S β) (hs : s < 2 ^ β 0 0) (h1 : alC β s = true → K 1 S) (h0 : alC β s = false → K 0 S) : wX9_isChoice S 108 (nI s) K := by
  have hr := h.1
  have hw := h.2.1
  have h12 := hw.1.1
  have hk4 := hw.1.2.1
  have kl := k_le hw
  have pl := popc_le s
  have hs2 : s < 4096 := Nat.lt_of_lt_of_le hs (Nat.pow_le_pow_right (n := 2) (by decide) h12)
  have hwf := hw.2.2.2.2.2.1
  have hpc : sm (fun _ => 1) s (β 0 0) = popc s := sm_12 _ hs h12
  unfold wX9_isChoice
  rw [h.2.2.2.1, nI_toInt (n31 (by omega))]
  refine ⟨ok_O hr.1 (by decide), fun c => ?_, fun c => ?_, fun c => ?_, fun c => ?_⟩
  · have e : β 0 1 = 3 := by omega
    have hk := hwf.2.2 e
    unfold alC at h1 h0
    rw [if_neg (by omega), if_neg (by omega), if_pos e] at h1 h0
    rw [decide_eq_true_eq] at h1
    rw [decide_eq_false_iff_not] at h0
    refine m_pairs h hs2 (fun z => ⟨rfl, h1 ⟨z.1, ?_, ?_⟩⟩) (fun z => ⟨rfl, h0 (fun w => z ⟨w.1, fun p hp => ⟨?_, ?_⟩⟩)⟩)
    · exact (pairs_one (fun t ht => (hw.2.2.1 t (by omega)).1) hk (by rw [hpc]; exact z.1)).mpr (fun p hp => (z.2 p hp).1)
    · exact (pairs_one (fun t ht => (hw.2.2.1 t (by omega)).2) hk (by rw [hpc]; exact z.1)).mpr (fun p hp => (z.2 p hp).2)
    · exact (pairs_one (fun t ht => (hw.2.2.1 t (by omega)).1) hk (by rw [hpc]; exact w.1)).mp w.2.1 p hp
    · exact (pairs_one (fun t ht => (hw.2.2.1 t (by omega)).2) hk (by rw [hpc]; exact w.1)).mp w.2.2 p hp
  · have e : β 0 1 = 0 := by omega
    unfold alC at h1 h0
    rw [if_neg (by omega), if_neg (by omega), if_neg (by omega)] at h1 h0
    rw [decide_eq_true_eq] at h1
    rw [decide_eq_false_iff_not] at h0
    refine m_size hs2 ?_
    rw [h.2.2.2.2.1, peq (by omega) (by omega)]
    exact ⟨ok_O hr.1 (by decide), h1, h0⟩
  · have e : β 0 1 = 1 := by omega
    unfold alC at h1 h0
    rw [if_pos e] at h1 h0
    rw [Bool.and_eq_true, decide_eq_true_eq] at h1
    have wy := ways hw hs (hwf.1 e)
    refine m_way h hs2 (fun z => ⟨rfl, h1 (wy.mpr z)⟩) (fun z => ⟨rfl, h0 ?_⟩)
    cases hq : (decide (popc s < 6) && wk β 5 0 1 s) with
    | false => rfl
    | true =>
      rw [Bool.and_eq_true, decide_eq_true_eq] at hq
      exact absurd (wy.mp hq) z
  · have e : β 0 1 = 2 := by omega
    have hk := hwf.2.1 e
    unfold alC at h1 h0
    rw [if_neg (by omega), if_pos e] at h1 h0
    rw [decide_eq_true_eq] at h1
    rw [decide_eq_false_iff_not] at h0
    refine m_tree h hs2 hk.1 (fun z => ⟨rfl, h1 ⟨z.1, (trees hw hk (by rw [hpc]; exact z.1)).mpr z.2⟩⟩) (fun z => ⟨rfl, h0 (fun w => z ⟨w.1, (trees hw hk (by rw [hpc]; exact w.1)).mp w.2⟩)⟩)
theorem l_gath {S : St} {β : Nat → Nat → Nat} {K : Int32 → St → Prop} (h : IB S β)
    (k1 : nch β ≤ 500 → ∀ S1, Ex (fun k => k = 108 ∨ k = 116) S S1 → (∀ j, j ≠ 11 → sI S1 108 j = sI S 108 j) → MCh S1 β → K 1 S1)
    (k0 : 500 < nch β → ∀ S1, Ex (fun k => k = 108 ∨ k = 116) S S1 → (∀ j, j ≠ 11 → sI S1 108 j = sI S 108 j) → K 0 S1) :
    ∀ (n s : Nat) (S1 : St), s ≤ 2 ^ β 0 0 → 2 ^ β 0 0 - s < n → fb_ct (alC β) s ≤ 500 → Ex (fun k => k = 108 ∨ k = 116) S S1 → (∀ j, j ≠ 11 → sI S1 108 j = sI S 108 j) → sI S1 108 11 = nI (fb_ct (alC β) s) → (∀ q, q < s → alC β q = true → sI S1 116 (fb_ct (alC β) q) = nI q) → wX9_gathers_7 K n 108 (nI s) S1
  | 0, s, S1, _, hn, _, _, _, _, _ => absurd hn (by omega)
  | n + 1, s, S1, hs, hn, h5, hE, hj, hc, hI => by
    have hib : IB S1 β := ⟨hE.rt h.1, h.2.1, h.2.2.fr (Fr.of hE h.1) (fun k hk => by omega) (fun j h1 h2 => hj j (by omega))⟩
    have hr := hib.1
    have h12 : 2 ^ β 0 0 ≤ 2 ^ 12 := Nat.pow_le_pow_right (by decide) h.2.1.1.1
    have h0' := h.2.1.1.1
    have ih := l_gath h k1 k0 n
    rw [wX9_gathers_7, hib.2.2.1, psh (by omega), ple (by omega) (by omega)]
    refine ⟨ok_O hr.1 (by decide), fun c => ?_, fun c => ?_⟩
    · have e : s = 2 ^ β 0 0 := by omega
      rw [e] at h5 hI hc
      refine k1 h5 S1 hE hj ⟨hc, fun c hcc => ?_⟩
      obtain ⟨c1, c2, c3⟩ := chl_spec hcc
      have := hI _ c1 c2
      rw [c3] at this
      exact this
    · refine m_isChoice hib (by omega) (fun ha => ?_) (fun ha => ?_)
      · refine ⟨fun z => absurd z (by decide), fun _ => ?_⟩
        have hlt := (chl_at (β := β) (s := s) (by omega) ha).1
        have es : fb_ct (alC β) (s + 1) = fb_ct (alC β) s + 1 := by rw [fb_ct_succ, if_pos ha]
        rw [hc, show (500 : Int32) = nI 500 from rfl, peq (by omega) (by omega)]
        refine ⟨ok_O hr.1 (by decide), fun e => k0 (by omega) S1 hE hj, fun e => ?_⟩
        rw [rt108_12 hr, pcl (by omega)]
        refine ⟨by decide, ok_A (N := 501) hr.1 (by decide) (by omega) (by decide), fun S2 e2 => ?_⟩
        have hr2 : RT S2 := by rw [e2]; exact hr
        refine ⟨ok_O hr2.1 (by decide), fun S3 e3 x ex => ?_⟩
        rw [ex, nI_1]
        have c2 : sI S2 108 11 = nI (fb_ct (alC β) s) := by rw [e2, sI_o (by decide)]; exact hc
        refine ih (s + 1) S3 (by omega) (by omega) (by rw [es]; omega) ?_ (fun j hj2 => ?_) ?_ (fun q hq haq => ?_)
        · rw [e3, e2]
          exact Ex.pI (P := fun k => k = 108 ∨ k = 116) (Ex.pI (P := fun k => k = 108 ∨ k = 116) hE (Or.inr rfl)) (Or.inl rfl)
        · rw [e3, sI_n hj2, e2, sI_o (by decide)]; exact hj j hj2
        · rw [e3, sI_s, c2, nI_1, es]
        · rw [e3, sI_o (by decide)]
          by_cases e4 : q = s
          · rw [e2, e4, sI_s]
          · have : fb_ct (alC β) q ≠ fb_ct (alC β) s := fun z => e4 (fb_ct_kth_one haq ha z)
            rw [e2, sI_n this]
            exact hI q (by omega) haq
      · refine ⟨fun _ x ex => ?_, fun z => absurd rfl z⟩
        have es : fb_ct (alC β) (s + 1) = fb_ct (alC β) s := by rw [fb_ct_succ, if_neg (by rw [ha]; decide), Nat.add_zero]
        rw [ex, nI_1]
        refine ih (s + 1) S1 (by omega) (by omega) (by rw [es]; exact h5) hE hj (by rw [es]; exact hc) (fun q hq haq => ?_)
        by_cases e3 : q = s
        · rw [e3, ha] at haq; cases haq
        · exact hI q (by omega) haq
theorem m_gathers {S : St} {β : Nat → Nat → Nat} {K : Int32 → St → Prop} (h : IB S β)
    (k1 : nch β ≤ 500 → ∀ S1, Ex (fun k => k = 108 ∨ k = 116) S S1 → (∀ j, j ≠ 11 → sI S1 108 j = sI S 108 j) → MCh S1 β → K 1 S1)
    (k0 : 500 < nch β → ∀ S1, Ex (fun k => k = 108 ∨ k = 116) S S1 → (∀ j, j ≠ 11 → sI S1 108 j = sI S 108 j) → K 0 S1) : wX9_gathers S 108 K := by
  have hr := h.1
  refine ⟨ok_O hr.1 (by decide), fun S1 e1 => ⟨2 ^ β 0 0 + 1, l_gath h k1 k0 _ 0 S1 (Nat.zero_le _) (Nat.lt_succ_self _) (Nat.zero_le _) ?_ (fun j hj => ?_) ?_ (fun q hq => absurd hq (by omega))⟩⟩
  · rw [e1]; exact Ex.pI (P := fun k => k = 108 ∨ k = 116) Ex.rf (Or.inl rfl)
  · rw [e1, sI_n hj]
  · rw [e1, sI_s]; rfl
