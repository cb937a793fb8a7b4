/-- the rue of a choice in a world -/
def rwv (β : Nat → Nat → Nat) (N : Nat) (ch : Nat → Nat) (v c : Nat) : Nat := wc β v (ch c) - wc β v (ch (am (fun x => wc β v (ch x)) N))
theorem rwv_le {β : Nat → Nat → Nat} (h : WF β) (N : Nat) (ch : Nat → Nat) {v : Nat} (hv : v < 8) (c : Nat) : rwv β N ch v c ≤ 12000 := by
  have := wc_le h hv (ch c)
  unfold rwv
  omega
theorem l_fr18 {S : St} {β : Nat → Nat → Nat} {N : Nat} {ch : Nat → Nat} {w x1 : Nat} {K : St → Prop} (h : CS S β N ch) (hw : w < 8) (hx : x1 = 97 ∨ x1 = 98) (hT : SumT S 94 (β (6 + w))) (hK : ∀ S1, Ex (fun k => k = x1) S S1 → (∀ c, c < N → sI S1 x1 c = nI (wc β w (ch c))) → wX7_fillRues_54 K 93 x1 S1) :
    ∀ (n i : Nat) (S1 : St), i ≤ N → N - i < n → Ex (fun k => k = x1) S S1 → (∀ c, c < i → sI S1 x1 c = nI (wc β w (ch c))) → wX7_fillRues_18 K n 93 x1 (nI i) S1
  | 0, i, S1, _, h, _, _ => absurd h (by omega)
  | n + 1, i, S1, hi, hn, hE, hI => by
    have h1 := h.ex hE (fun k hk => by omega)
    have hr := h1.1.1
    have hN := h1.1.2.2.2.2.1
    have hx2 : 1 ≤ x1 ∧ x1 ≤ 124 ∧ kc x1 = 10 ∧ ln x1 = 500 := by rcases hx with e | e <;> rw [e] <;> decide
    rw [wX7_fillRues_18, rt93_1 hr, h1.1.2.2.2.1, ple (by omega) (by omega)]
    refine ⟨⟨ok_O hr.1 (by decide), by decide⟩, ok_O hr.1 (by decide), fun c => ?_, fun c => ?_⟩
    · have e : i = N := by omega
      subst e
      exact hK S1 hE hI
    · rw [rt93_2 hr, pcl (by omega), (h1.1.2.2.2.2.2.2 i (by omega)).1]
      refine ⟨by decide, h1.1.z0, ok_A hr.1 h1.1.z (by omega) (by decide), ok_O hr.1 (by decide), ?_⟩
      refine w_total hr so94 (hT.ex hE (by omega) (by omega)) (h1.c4 (by omega)) ?_
      refine ⟨ok_A hr.1 hx2 (by omega) (by decide), fun S2 e2 x ex => ?_⟩
      rw [ex, nI_1]
      refine l_fr18 h hw hx hT hK n (i + 1) S2 (by omega) (by omega) (by rw [e2]; exact hE.pI rfl) (fun q hq => ?_)
      by_cases e : q = i
      · rw [e2, e, sI_s]; rfl
      · rw [e2, sI_n e]; exact hI q (by omega)
theorem l_fr83 {S : St} {β : Nat → Nat → Nat} {N : Nat} {ch : Nat → Nat} {x1 m : Nat} {f : Nat → Nat} {K : St → Prop} (h : CS S β N ch) (hx : x1 = 97 ∨ x1 = 98) (hf : ∀ c, c < N → sI S x1 c = nI (f c)) (hm : ∀ c, c < N → m ≤ f c) (hK : ∀ S1, Ex (fun k => k = x1) S S1 → (∀ c, c < N → sI S1 x1 c = nI (f c - m)) → K S1) :
    ∀ (n i : Nat) (S1 : St), i ≤ N → N - i < n → Ex (fun k => k = x1) S S1 → (∀ c, c < N → sI S1 x1 c = nI (if c < i then f c - m else f c)) → wX7_fillRues_83 K n 93 x1 (nI m) (nI i) S1
  | 0, i, S1, _, h, _, _ => absurd h (by omega)
  | n + 1, i, S1, hi, hn, hE, hI => by
    have h1 := h.ex hE (fun k hk => by omega)
    have hr := h1.1.1
    have hN := h1.1.2.2.2.2.1
    have hx2 : 1 ≤ x1 ∧ x1 ≤ 124 ∧ kc x1 = 10 ∧ ln x1 = 500 := by rcases hx with e | e <;> rw [e] <;> decide
    rw [wX7_fillRues_83, rt93_1 hr, h1.1.2.2.2.1, ple (by omega) (by omega)]
    refine ⟨⟨ok_O hr.1 (by decide), by decide⟩, ok_O hr.1 (by decide), fun c => ?_, fun c => ?_⟩
    · refine hK S1 hE (fun q hq => ?_)
      rw [hI q hq, if_pos (by omega)]
    · have q1 := hI i (by omega)
      rw [if_neg (Nat.lt_irrefl _)] at q1
      rw [pcl (by omega), q1, pk_sub (hm i (by omega))]
      refine ⟨ok_A hr.1 hx2 (by omega) (by decide), fun S2 e2 x ex => ?_⟩
      rw [ex, nI_1]
      refine l_fr83 h hx hf hm hK n (i + 1) S2 (by omega) (by omega) (by rw [e2]; exact hE.pI rfl) (fun q hq => ?_)
      by_cases e : q = i
      · rw [e2, e, sI_s, if_pos (by omega)]
      · rw [e2, sI_n e, hI q hq]
        by_cases e3 : q < i
        · rw [if_pos e3, if_pos (by omega)]
        · rw [if_neg e3, if_neg (by omega)]
theorem w_fillR {S : St} {β : Nat → Nat → Nat} {N : Nat} {ch : Nat → Nat} {w x1 : Nat} {K : St → Prop} (h : CS S β N ch) (hw : w < 8) (hx : x1 = 97 ∨ x1 = 98) (hK : ∀ S1, Ex (fun k => k = 95 ∨ k = 96 ∨ k = x1) S S1 → CS S1 β N ch → (∀ c, c < N → sI S1 x1 c = nI (rwv β N ch w c)) → K S1) : wX7_fillRues S 93 x1 (nI w) K := by
  have hr := h.1.1
  have hN := h.1.2.2.2.2.1
  have hx2 : 1 ≤ x1 ∧ x1 ≤ 124 ∧ kc x1 = 10 ∧ ln x1 = 500 := by rcases hx with e | e <;> rw [e] <;> decide
  unfold wX7_fillRues
  rw [rt93_2 hr, rt93_0 hr, rt2_9 hr, pcl (by omega), r8w hr hw]
  refine ⟨⟨ok_O hr.1 (by decide), by decide⟩, by decide, ⟨ok_O hr.1 (by decide), by decide⟩, ⟨ok_A (N := 8) hr.1 (by decide) hw (by decide), by omega⟩, ok_O hr.1 (by decide), ?_⟩
  refine w_fill (f := β (6 + w)) hr so94 (c9w hw) (by omega) (fun q hq => ?_) (h.2.2 94 so94) (fun S1 hE1 hT => ?_)
  · have := h.1.2.1.2.2 w hw q hq
    rw [show 2 + 7 + w = 9 + w by omega] at this
    exact this
  have h1 := h.fill so94 (by decide) hE1 hT
  refine ⟨N + 1, l_fr18 h1 hw hx hT (fun S2 hE2 hI2 => ?_) _ 0 S1 (by omega) (by omega) Ex.rf (fun q hq => absurd hq (by omega))⟩
  have h2 := h1.ex hE2 (fun k hk => by omega)
  have hr2 := h2.1.1
  unfold wX7_fillRues_54
  rw [rt93_1 hr2, h2.1.2.2.2.1]
  refine ⟨⟨ok_O hr2.1 (by decide), by decide⟩, ok_O hr2.1 (by decide), ?_⟩
  refine w_first (M := 500) (f := fun c => wc β w (ch c)) hr2.1 hx2 (by decide) hN (fun c hc => ⟨hI2 c hc, by have := wc_le h.1.2.2.1 hw (ch c); omega⟩) ?_
  have fin : ∀ S3, Ex (fun k => k = x1) S2 S3 → (∀ c, c < N → sI S3 x1 c = nI (rwv β N ch w c)) → K S3 := fun S3 hE3 hI3 =>
    hK S3 ((hE1.mo (fun k hk => by omega)).tr ((hE2.mo (fun k hk => by omega)).tr (hE3.mo (fun k hk => by omega)))) (h2.ex hE3 (fun k hk => by omega)) hI3
  by_cases e : N = 0
  · rw [if_pos e]
    refine ⟨fun _ => ?_, fun z => absurd rfl z⟩
    refine ⟨N + 1, l_fr83 (m := 0) (f := fun c => wc β w (ch c)) h2 hx hI2 (fun c hc => by omega) (fun S3 hE3 hI3 => fin S3 hE3 (fun c hc => absurd hc (by omega))) _ 0 S2 (by omega) (by omega) Ex.rf (fun q hq => absurd hq (by omega))⟩
  · rw [if_neg e]
    have ha := am_lt (fun c => wc β w (ch c)) N (by omega)
    refine ⟨fun z => absurd z (neg1_ne (by omega)), fun _ => ⟨ok_A hr2.1 hx2 (by omega) (by decide), ?_⟩⟩
    rw [pcl (by omega), hI2 _ ha]
    refine ⟨N + 1, l_fr83 (f := fun c => wc β w (ch c)) h2 hx hI2 (fun c hc => am_le (fun c => wc β w (ch c)) N c hc) fin _ 0 S2 (by omega) (by omega) Ex.rf (fun q hq => by rw [if_neg (by omega)]; exact hI2 q hq)⟩
def P95 (k : Nat) : Prop := k = 95 ∨ k = 96 ∨ k = 97 ∨ k = 98
/-- the points -/
def PT (S : St) (N : Nat) (a b : Nat → Nat) : Prop := ∀ c, c < N → sI S 97 c = nI (a c) ∧ sI S 98 c = nI (b c) ∧ a c ≤ 12000 ∧ b c ≤ 12000
theorem w_look {S : St} {β : Nat → Nat → Nat} {N : Nat} {ch : Nat → Nat} {v w : Nat} {K : St → Prop} (h : CS S β N ch) (hv : v < 8) (hw : w < 8) (hK : ∀ S1, Ex P95 S S1 → CS S1 β N ch → PT S1 N (rwv β N ch v) (rwv β N ch w) → K S1) : wX7_look S 93 (nI v) (nI w) K := by
  have hr := h.1.1
  unfold wX7_look
  rw [rt93_3 hr]
  refine ⟨⟨ok_O hr.1 (by decide), by decide⟩, w_fillR h hv (Or.inl rfl) (fun S1 hE1 h1 hI1 => ?_)⟩
  have hr1 := h1.1.1
  rw [rt93_4 hr1]
  refine ⟨⟨ok_O hr1.1 (by decide), by decide⟩, w_fillR h1 hw (Or.inr rfl) (fun S2 hE2 h2 hI2 => ?_)⟩
  refine hK S2 ((hE1.mo (fun k hk => by unfold P95; omega)).tr (hE2.mo (fun k hk => by unfold P95; omega))) h2 (fun c hc => ⟨?_, hI2 c hc, rwv_le h.1.2.2.1 N ch hv c, rwv_le h.1.2.2.1 N ch hw c⟩)
  rw [hE2.i (by decide)]
  exact hI1 c hc
def key (f g : Nat → Nat) (c : Nat) : Nat := f c * 16384 + g c
theorem w_before {S : St} {N c d x y : Nat} {f g : Nat → Nat} {K : Int32 → St → Prop} (h1 : S.1 = 124) (hN : N ≤ 500) (hx : x = 97 ∨ x = 98) (hy : y = 97 ∨ y = 98) (hc : c < N) (hd : d < N) (hf : ∀ c, c < N → sI S x c = nI (f c) ∧ sI S y c = nI (g c) ∧ f c ≤ 12000 ∧ g c ≤ 12000) (k1 : key f g c < key f g d → K 1 S) (k0 : ¬ key f g c < key f g d → K 0 S) : wX7_comesBefore S (nI c) (nI d) x y K := by
  have hx2 : 1 ≤ x ∧ x ≤ 124 ∧ kc x = 10 ∧ ln x = 500 := by rcases hx with e | e <;> rw [e] <;> decide
  have hy2 : 1 ≤ y ∧ y ≤ 124 ∧ kc y = 10 ∧ ln y = 500 := by rcases hy with e | e <;> rw [e] <;> decide
  obtain ⟨c1, c2, c3, c4⟩ := hf c hc
  obtain ⟨d1, d2, d3, d4⟩ := hf d hd
  unfold key at k1 k0
  unfold wX7_comesBefore
  rw [pcl (by omega), pcl (by omega), c1, c2, d1, d2, plt (by omega) (by omega), peq (by omega) (by omega), ple (by omega) (by omega)]
  refine ⟨ok_A h1 hx2 (by omega) (by decide), ok_A h1 hx2 (by omega) (by decide), fun z => k1 (by omega), fun z => ⟨fun z2 => ⟨ok_A h1 hy2 (by omega) (by decide), ok_A h1 hy2 (by omega) (by decide), fun z3 => k0 (by omega), fun z3 => k1 (by omega)⟩, fun z2 => k0 (by omega)⟩⟩
theorem l_leastBy {S : St} {β : Nat → Nat → Nat} {N : Nat} {ch : Nat → Nat} {x y : Nat} {f g : Nat → Nat} {K : Int32 → St → Prop} (h : CS S β N ch) (hx : x = 97 ∨ x = 98) (hy : y = 97 ∨ y = 98) (hf : ∀ c, c < N → sI S x c = nI (f c) ∧ sI S y c = nI (g c) ∧ f c ≤ 12000 ∧ g c ≤ 12000) (hK : K (nI (am (key f g) N)) S) :
    ∀ (n i : Nat), 0 < i → i ≤ N → N - i < n → wX7_leastBy_5 K n 93 x y (nI (am (key f g) i)) (nI i) S
  | 0, i, _, _, h => absurd h (by omega)
  | n + 1, i, hi0, hi, hn => by
    have hr := h.1.1
    have hN := h.1.2.2.2.2.1
    have ih := l_leastBy h hx hy hf hK n
    have ha := am_lt (key f g) i hi0
    rw [wX7_leastBy_5, rt93_1 hr, h.1.2.2.2.1, ple (by omega) (by omega)]
    refine ⟨⟨ok_O hr.1 (by decide), by decide⟩, ok_O hr.1 (by decide), fun c => ?_, fun c => ?_⟩
    · have e : i = N := by omega
      subst e
      exact hK
    · have e : am (key f g) (i + 1) = if key f g i < key f g (am (key f g) i) then i else am (key f g) i := by
        show (if i = 0 then 0 else _) = _
        rw [if_neg (by omega)]
      have i2 := ih (i + 1) (by omega) (by omega) (by omega)
      rw [e] at i2
      refine w_before hr.1 hN hx hy (by omega) (by omega) hf (fun z => ?_) (fun z => ?_)
      · rw [if_pos z] at i2
        refine ⟨fun z => absurd z (by decide), fun _ xx ex => ?_⟩
        rw [ex, nI_1]
        exact i2
      · rw [if_neg z] at i2
        refine ⟨fun _ xx ex => ?_, fun z => absurd rfl z⟩
        rw [ex, nI_1]
        exact i2
theorem w_leastBy {S : St} {β : Nat → Nat → Nat} {N : Nat} {ch : Nat → Nat} {x y : Nat} {f g : Nat → Nat} {K : Int32 → St → Prop} (h : CS S β N ch) (h0 : 0 < N) (hx : x = 97 ∨ x = 98) (hy : y = 97 ∨ y = 98) (hf : ∀ c, c < N → sI S x c = nI (f c) ∧ sI S y c = nI (g c) ∧ f c ≤ 12000 ∧ g c ≤ 12000) (hK : K (nI (am (key f g) N)) S) : wX7_leastBy S 93 x y K :=
  ⟨N + 1, l_leastBy h hx hy hf hK (N + 1) 1 (by omega) (by omega) (by omega)⟩
/-- the first that has p and the least k -/
def fo (p : Nat → Bool) (k : Nat → Nat) : Nat → Option Nat
  | 0 => none
  | i + 1 => if p i then (match fo p k i with
    | none => some i
    | some f => if k i < k f then some i else some f) else fo p k i
theorem fo_none_aux {p : Nat → Bool} {k : Nat → Nat} : ∀ {n : Nat}, fo p k n = none → ∀ j, j < n → p j = true → False
  | 0, _, j, hj, _ => absurd hj (by omega)
  | n + 1, h, j, hj, hpj => by
    unfold fo at h
    by_cases hp : p n = true
    · rw [if_pos hp] at h
      cases hf : fo p k n with
      | none => rw [hf] at h; cases h
      | some f =>
        rw [hf] at h
        dsimp only at h
        by_cases hk : k n < k f
        · rw [if_pos hk] at h; cases h
        · rw [if_neg hk] at h; cases h
    · rw [if_neg hp] at h
      by_cases e : j = n
      · subst e; exact hp hpj
      · exact fo_none_aux h j (by omega) hpj
theorem fo_some {p : Nat → Bool} {k : Nat → Nat} : ∀ {n c : Nat}, fo p k n = some c → c < n ∧ p c = true ∧ ∀ j, j < n → p j = true → k c ≤ k j ∧ (j < c → k c < k j)
  | 0, c, h => by cases h
  | n + 1, c, h => by
    unfold fo at h
    by_cases hp : p n = true
    · rw [if_pos hp] at h
      cases hf : fo p k n with
      | none =>
        rw [hf] at h
        cases h
        refine ⟨by omega, hp, fun j hj hpj => ?_⟩
        by_cases e : j = n
        · subst e; exact ⟨Nat.le_refl _, fun z => absurd z (Nat.lt_irrefl _)⟩
        · exfalso
          exact fo_none_aux hf j (by omega) hpj
      | some f =>
        rw [hf] at h
        dsimp only at h
        obtain ⟨i1, i2, i3⟩ := fo_some hf
        by_cases hk : k n < k f
        · rw [if_pos hk] at h
          cases h
          refine ⟨by omega, hp, fun j hj hpj => ?_⟩
          by_cases e : j = n
          · subst e; exact ⟨Nat.le_refl _, fun z => absurd z (Nat.lt_irrefl _)⟩
          · have := i3 j (by omega) hpj
            exact ⟨by omega, fun _ => by omega⟩
        · rw [if_neg hk] at h
          cases h
          refine ⟨by omega, i2, fun j hj hpj => ?_⟩
          by_cases e : j = n
          · subst e; exact ⟨by omega, fun z => by omega⟩
          · exact i3 j (by omega) hpj
    · rw [if_neg hp] at h
      obtain ⟨i1, i2, i3⟩ := fo_some h
      refine ⟨by omega, i2, fun j hj hpj => ?_⟩
      by_cases e : j = n
      · subst e; exact absurd hpj hp
      · exact i3 j (by omega) hpj
theorem fo_none {p : Nat → Bool} {k : Nat → Nat} {n : Nat} (h : fo p k n = none) (j : Nat) (hj : j < n) : p j = false := by
  cases hp : p j with
  | false => rfl
  | true => exact absurd (fo_none_aux h j hj hp) id
/-- the leftmost below a height -/
def lmb (a b : Nat → Nat) (N h : Nat) : Option Nat := fo (fun c => decide (b c < h)) (key a b) N
theorem l_lmb {S : St} {β : Nat → Nat → Nat} {N : Nat} {ch : Nat → Nat} {hh : Nat} {a b : Nat → Nat} {K : Int32 → St → Prop} (h : CS S β N ch) (hp : PT S N a b) (h31 : hh < 2147483648) (hK : K (oI (lmb a b N hh)) S) :
    ∀ (n i : Nat), i ≤ N → N - i < n → wX7_leftmostBelow_4 K n 93 (nI hh) (oI (lmb a b i hh)) (nI i) S
  | 0, i, _, h => absurd h (by omega)
  | n + 1, i, hi, hn => by
    have hr := h.1.1
    have hN := h.1.2.2.2.2.1
    have ih := l_lmb h hp h31 hK n
    rw [wX7_leftmostBelow_4, rt93_1 hr, h.1.2.2.2.1, ple (by omega) (by omega)]
    refine ⟨⟨ok_O hr.1 (by decide), by decide⟩, ok_O hr.1 (by decide), fun c => ?_, fun c => ?_⟩
    · have e : i = N := by omega
      subst e
      exact hK
    · obtain ⟨p1, p2, p3, p4⟩ := hp i (by omega)
      rw [rt93_4 hr, rt93_3 hr, pcl (by omega), p2, ple (by omega) (by omega)]
      have i2 := ih (i + 1) (by omega) (by omega)
      have e : lmb a b (i + 1) hh = if decide (b i < hh) then (match lmb a b i hh with
        | none => some i
        | some f => if key a b i < key a b f then some i else some f) else lmb a b i hh := rfl
      rw [e] at i2
      refine ⟨by decide, ok_A (N := 500) hr.1 (by decide) (by omega) (by decide), fun z => ?_, fun z => ?_⟩
      · rw [if_neg (by rw [decide_eq_true_eq]; omega)] at i2
        intro x ex
        rw [ex, nI_1]
        exact i2
      · rw [if_pos (by rw [decide_eq_true_eq]; omega)] at i2
        cases hl : lmb a b i hh with
        | none =>
          rw [hl] at i2
          refine ⟨fun _ x ex => ?_, fun z => absurd rfl z⟩
          rw [ex, nI_1]
          exact i2
        | some f =>
          have hf := (fo_some hl).1
          rw [hl] at i2
          dsimp only at i2
          refine ⟨fun z => absurd z (neg1_ne (by omega)), fun _ => ⟨by decide, ?_⟩⟩
          refine w_before hr.1 hN (Or.inl rfl) (Or.inr rfl) (c := i) (d := f) (by omega) (by omega) hp (fun z => ?_) (fun z => ?_)
          · rw [if_pos z] at i2
            refine ⟨fun z => absurd z (by decide), fun _ x ex => ?_⟩
            rw [ex, nI_1]
            exact i2
          · rw [if_neg z] at i2
            refine ⟨fun _ x ex => ?_, fun z => absurd rfl z⟩
            rw [ex, nI_1]
            exact i2
theorem w_lmb {S : St} {β : Nat → Nat → Nat} {N : Nat} {ch : Nat → Nat} {hh : Nat} {a b : Nat → Nat} {K : Int32 → St → Prop} (h : CS S β N ch) (hp : PT S N a b) (h31 : hh < 2147483648) (hK : K (oI (lmb a b N hh)) S) : wX7_leftmostBelow S 93 (nI hh) K :=
  ⟨N + 1, l_lmb h hp h31 hK (N + 1) 0 (by omega) (by omega)⟩
