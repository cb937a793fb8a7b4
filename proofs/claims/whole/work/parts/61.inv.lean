def KI (S : St) (k : Nat) (γ : Nat → Nat → Nat) : Prop := (∀ f, f < 5 → ∀ i, i < 12 → sI S 124 (200 * k + 12 * f + i) = nI (γ (1 + f) i)) ∧ (∀ w, w < 8 → ∀ i, i < 12 → sI S 124 (200 * k + 60 + 12 * w + i) = nI (γ (6 + w) i)) ∧ (∀ w, w < 8 → sI S 124 (200 * k + 156 + w) = if (γ 0 3).testBit w then 1 else 0) ∧ sI S 124 (200 * k + 164) = nI (γ 0 0) ∧ sI S 124 (200 * k + 165) = nI (γ 0 1) ∧ sI S 124 (200 * k + 166) = nI (γ 0 2)
def KP (S : St) : Prop := ∀ k, k < 3 → (sI S 75 k = 0 ∧ sI S 123 k = 0) ∨ (sI S 75 k = 1 ∧ sI S 123 k = 1 ∧ ∃ γ, WF γ ∧ nch γ ≤ 500 ∧ CB S (30 + 15 * k) γ ∧ KI S k γ)
def SH (S : St) : Prop := ∀ s, s < 4 → sI S (21 + 2 * s) 2 = sI S 118 s ∧ sI S (21 + 2 * s) 1 = sI S 117 s ∧ (sI S 118 s = -1 ∨ ∃ n, n ≤ 100 ∧ sI S 118 s = nI n) ∧ ∀ i, i < 100 → sI S (22 + 2 * s) i = sI S 119 (100 * s + i)
def INV (S : St) (β : Nat → Nat → Nat) : Prop := CS S β (nch β) (chl β) ∧ IM S β ∧ KP S ∧ SH S ∧ sI S 1 9 = sI S 108 0
def J (S : St) : Prop := ∃ β, INV S β
theorem KI.fr {S S1 : St} {k : Nat} {γ : Nat → Nat → Nat} (h : KI S k γ) (he : S1.2.1 124 = S.2.1 124) : KI S1 k γ := by
  have e : ∀ j, sI S1 124 j = sI S 124 j := fun j => congrFun he j
  unfold KI
  simp only [e]
  exact h
theorem KP.fr {S S1 : St} {P : Nat → Prop} (h : KP S) (he : Fr P S S1) (hp : ∀ k, P k → k < 30 ∨ (75 < k ∧ k < 123)) : KP S1 := by
  intro k hk
  rw [he.i (fun z => by have := hp _ z; omega), he.i (fun z => by have := hp _ z; omega)]
  rcases h k hk with z | ⟨a, b, γ, c, d, e, f⟩
  · exact Or.inl z
  · exact Or.inr ⟨a, b, γ, c, d, e.fr he (fun j hj => by have := hp j hj; omega), f.fr (he.2 124 (fun z => by have := hp _ z; omega))⟩
theorem SH.fr {S S1 : St} {P : Nat → Prop} (h : SH S) (he : Fr P S S1) (hp : ∀ k, P k → k < 21 ∨ (28 < k ∧ k < 117) ∨ 119 < k) : SH S1 := by
  intro s hs
  rw [he.i (fun z => by have := hp _ z; omega), he.i (fun z => by have := hp _ z; omega), he.i (fun z => by have := hp _ z; omega), he.i (fun z => by have := hp _ z; omega)]
  obtain ⟨a, b, c, d⟩ := h s hs
  refine ⟨a, b, c, fun i hi => ?_⟩
  rw [he.i (fun z => by have := hp _ z; omega), he.i (fun z => by have := hp _ z; omega)]
  exact d i hi
theorem INV.q {S S1 : St} {β : Nat → Nat → Nat} {P : Nat → Prop} (h : INV S β) (he : Ex P S S1) (hc : CS S1 β (nch β) (chl β)) (hp : ∀ k, P k → (76 ≤ k ∧ k ≤ 107) ∨ (120 ≤ k ∧ k ≤ 122)) : INV S1 β := by
  obtain ⟨a, b, c, d, e⟩ := h
  have hf : Fr P S S1 := Fr.of he b.1.1
  refine ⟨hc, b.fr hf (fun k hk => by have := hp k hk; omega), c.fr hf (fun k hk => by have := hp k hk; omega), d.fr hf (fun k hk => by have := hp k hk; omega), ?_⟩
  rw [hf.i (fun z => by have := hp _ z; omega), hf.i (fun z => by have := hp _ z; omega)]
  exact e
theorem INV.m {S S1 : St} {β : Nat → Nat → Nat} {P : Nat → Prop} (h : INV S β) (he : Ex P S S1) (hp : ∀ k, P k → 120 ≤ k ∧ k ≤ 122) : INV S1 β :=
  h.q he (h.1.ex he (fun k hk => by have := hp k hk; omega)) (fun k hk => by have := hp k hk; omega)
theorem INV.N {S : St} {β : Nat → Nat → Nat} (h : INV S β) : sI S 17 0 = nI (nch β) ∧ nch β ≤ 500 := ⟨h.1.1.2.2.2.1, h.2.1.2.1⟩
theorem N0 {N : Nat} (h : N ≤ 500) : (nI N = 0) = (N = 0) := by rw [show (0 : Int32) = nI 0 from rfl, peq (by omega) (by omega)]
-- the queries
theorem s_status {S : St} {β : Nat → Nat → Nat} {K : Int32 → St → Prop} (h : INV S β) (hK : ∀ r S1, RT S1 → (∀ K2 : Int32 → St → Prop, (∀ S2, J S2 → K2 r S2) → wX9_status S1 108 K2) → K r S1) : wX8_status S 1 K := by
  have hr := h.1.1.1
  refine ⟨ok_O hr.1 (by decide), hK _ S hr (fun K2 h2 => ⟨ok_O hr.1 (by decide), ?_⟩)⟩
  rw [← h.2.2.2.2]
  exact h2 S ⟨β, h⟩
theorem s_choice {S : St} {β : Nat → Nat → Nat} {x : Int32} {K : Int32 → St → Prop} (h : INV S β) (hK : ∀ r S1, RT S1 → (∀ K2 : Int32 → St → Prop, (∀ S2, J S2 → K2 r S2) → wX9_choice S1 108 x K2) → K r S1) : wX8_choice S 1 x K := by
  have hr := h.1.1.1
  have hN := h.N.2
  unfold wX8_choice
  rw [rt1_1 hr]
  refine ⟨⟨ok_O hr.1 (by decide), by decide⟩, ok_O hr.1 (by decide), w_has h.1.1 (fun c hc e => ⟨fun z => absurd z (by decide), fun _ => ?_⟩) (fun z => ⟨fun _ => hK _ S hr (fun K2 h2 => ⟨ok_O hr.1 (by decide), m_num h.2.1 (fun c hc e => absurd e (z c hc)) (fun _ => ⟨fun _ => h2 S ⟨β, h⟩, fun z => absurd rfl z⟩)⟩), fun z => absurd rfl z⟩)⟩
  subst e
  rw [rt1_1 hr, pcl (by omega), (h.1.1.2.2.2.2.2.2 c hc).1]
  refine ⟨⟨ok_O hr.1 (by decide), by decide⟩, ⟨ok_O hr.1 (by decide), h.1.1.z0⟩, ok_A hr.1 h.1.1.z (by omega) (by decide), hK _ S hr (fun K2 h2 => ⟨ok_O hr.1 (by decide), m_num h.2.1 (fun c2 hc2 e2 => ⟨fun z => absurd z (by decide), fun _ => ?_⟩) (fun z => absurd rfl (z c hc))⟩)⟩
  rw [rt108_12 hr, pcl (by omega), (h.2.1.c hc).1]
  exact ⟨⟨ok_O hr.1 (by decide), by decide⟩, ok_A (N := 501) hr.1 (by decide) (by omega) (by decide), h2 S ⟨β, h⟩⟩
theorem l_find {S : St} {β : Nat → Nat → Nat} {x : Int32} {K : Int32 → St → Prop} (h : INV S β) (hK : K (if fa_first (fun c => decide (nI (chl β c) = x)) (nch β) < nch β then nI (fa_first (fun c => decide (nI (chl β c) = x)) (nch β)) else -1) S) :
    ∀ (n i : Nat), i ≤ fa_first (fun c => decide (nI (chl β c) = x)) (nch β) → nch β - i < n → wX8_find_2 K n 1 x (nI i) S
  | 0, i, _, h => absurd h (by omega)
  | n + 1, i, hi, hn => by
    have hr := h.1.1.1
    have hN := h.N.2
    have hle := fa_first_le (fun c => decide (nI (chl β c) = x)) (nch β)
    have ih := l_find h hK n
    rw [wX8_find_2, rt1_1 hr, h.N.1, ple (by omega) (by omega)]
    refine ⟨⟨ok_O hr.1 (by decide), by decide⟩, ok_O hr.1 (by decide), fun c => ?_, fun c => ?_⟩
    · rw [if_neg (by omega)] at hK; exact hK
    · rw [pcl (by omega), (h.1.1.2.2.2.2.2.2 i (by omega)).1]
      refine ⟨h.1.1.z0, ok_A hr.1 h.1.1.z (by omega) (by decide), fun e => ?_, fun e x2 ex => ?_⟩
      · have ei : fa_first (fun c => decide (nI (chl β c) = x)) (nch β) = i := by
          rcases Nat.lt_or_eq_of_le hi with z | z
          · have := fa_first_no _ _ i z
            rw [decide_eq_false_iff_not] at this
            exact absurd e this
          · exact z.symm
        rw [ei, if_pos (by omega)] at hK
        exact hK
      · rw [ex, nI_1]
        refine ih (i + 1) ?_ (by omega)
        rcases Nat.lt_or_eq_of_le hi with z | z
        · exact z
        · exfalso
          have := fa_first_yes (fun c => decide (nI (chl β c) = x)) (nch β) (by omega)
          rw [← z, decide_eq_true_eq] at this
          exact e this
theorem lm_find {S : St} {β : Nat → Nat → Nat} {x : Int32} {K : Int32 → St → Prop} (h : IM S β) (hK : K (if fa_first (fun c => decide (nI (chl β c) = x)) (nch β) < nch β then nI (fa_first (fun c => decide (nI (chl β c) = x)) (nch β)) else -1) S) :
    ∀ (n i : Nat), i ≤ fa_first (fun c => decide (nI (chl β c) = x)) (nch β) → nch β - i < n → wX9_find_2 K n 108 x (nI i) S
  | 0, i, _, h => absurd h (by omega)
  | n + 1, i, hi, hn => by
    have hr := h.1.1
    have hN := h.2.1
    have hle := fa_first_le (fun c => decide (nI (chl β c) = x)) (nch β)
    have ih := lm_find h hK n
    rw [wX9_find_2, h.2.2.1, ple (by omega) (by omega)]
    refine ⟨ok_O hr.1 (by decide), fun c => ?_, fun c => ?_⟩
    · rw [if_neg (by omega)] at hK; exact hK
    · rw [rt108_12 hr, pcl (by omega), (h.c (c := i) (by omega)).1]
      refine ⟨by decide, ok_A (N := 501) hr.1 (by decide) (by omega) (by decide), fun e => ?_, fun e x2 ex => ?_⟩
      · have ei : fa_first (fun c => decide (nI (chl β c) = x)) (nch β) = i := by
          rcases Nat.lt_or_eq_of_le hi with z | z
          · have := fa_first_no _ _ i z
            rw [decide_eq_false_iff_not] at this
            exact absurd e this
          · exact z.symm
        rw [ei, if_pos (by omega)] at hK
        exact hK
      · rw [ex, nI_1]
        refine ih (i + 1) ?_ (by omega)
        rcases Nat.lt_or_eq_of_le hi with z | z
        · exact z
        · exfalso
          have := fa_first_yes (fun c => decide (nI (chl β c) = x)) (nch β) (by omega)
          rw [← z, decide_eq_true_eq] at this
          exact e this
theorem s_find {S : St} {β : Nat → Nat → Nat} {x : Int32} {K : Int32 → St → Prop} (h : INV S β) (hK : ∀ r S1, RT S1 → (∀ K2 : Int32 → St → Prop, (∀ S2, J S2 → K2 r S2) → wX9_find S1 108 x K2) → K r S1) : wX8_find S 1 x K :=
  ⟨nch β + 1, l_find h (hK _ S h.1.1.1 (fun K2 h2 => ⟨nch β + 1, lm_find h.2.1 (h2 S ⟨β, h⟩) _ 0 (by omega) (by omega)⟩)) _ 0 (by omega) (by omega)⟩
theorem s_cost {S : St} {β : Nat → Nat → Nat} {x y : Int32} {K : Int32 → St → Prop} (h : INV S β) (hK : ∀ r S1, RT S1 → (∀ K2 : Int32 → St → Prop, (∀ S2, J S2 → K2 r S2) → wX9_cost S1 108 x y K2) → K r S1) : wX8_cost S 1 x y K := by
  have hr := h.1.1.1
  have hN := h.N.2
  have h12 := h.1.1.n12
  have hp : 2 ^ β 0 0 ≤ 2 ^ 12 := Nat.pow_le_pow_right (by decide) h12
  unfold wX8_cost
  rw [rt1_1 hr]
  refine ⟨⟨ok_O hr.1 (by decide), by decide⟩, ok_O hr.1 (by decide), w_has h.1.1 (fun c hc e => ⟨fun z => absurd z (by decide), fun _ => ⟨ok_O hr.1 (by decide), w_beyond h.1.1 (fun u hu eu => ⟨fun _ => ?_, fun z => absurd rfl z⟩) (fun zu => ⟨fun z => absurd z (by decide), fun _ => ?_⟩)⟩⟩) (fun z => ⟨fun _ => ?_, fun z => absurd rfl z⟩)⟩
  · rw [rt1_5 hr, e, eu]
    refine ⟨⟨ok_O hr.1 (by decide), by decide⟩, ok_O hr.1 (by decide), w_costAt h.1 hc (fun S1 hE h1 => ?_)⟩
    have hI1 := h.q hE h1 (fun k hk => by unfold P76 at hk; omega)
    have hr := h1.1.1
    refine hK _ S1 hr (fun K2 h2 => ⟨ok_O hr.1 (by decide), m_num hI1.2.1 (fun c2 hc2 e2 => ⟨fun z => absurd z (by decide), fun _ => ⟨ok_O hr.1 (by decide), m_isSet hI1.2.1.1 (fun u2 hu2 eu2 => ⟨fun z => absurd z (by decide), fun _ => ?_⟩) (fun z => absurd eu (z u hu))⟩⟩) (fun z => absurd e (z c hc))⟩)
    rw [rt108_12 hr, e, pcl (by omega), (hI1.2.1.c hc).1, eu]
    exact ⟨⟨ok_O hr.1 (by decide), by decide⟩, ok_A (N := 501) hr.1 (by decide) (by omega) (by decide), m_sum hI1.2.1.1 (hI1.2.1.c hc).2.1 (by omega) (h2 S1 ⟨β, hI1⟩)⟩
  · exact hK _ S hr (fun K2 h2 => ⟨ok_O hr.1 (by decide), m_num h.2.1 (fun c2 hc2 e2 => ⟨fun z => absurd z (by decide), fun _ => ⟨ok_O hr.1 (by decide), m_isSet h.2.1.1 (fun u2 hu2 eu2 => absurd eu2 (zu u2 hu2)) (fun z => ⟨fun _ => h2 S ⟨β, h⟩, fun z => absurd rfl z⟩)⟩⟩) (fun z => absurd e (z c hc))⟩)
  · exact hK _ S hr (fun K2 h2 => ⟨ok_O hr.1 (by decide), m_num h.2.1 (fun c hc e => absurd e (z c hc)) (fun _ => ⟨fun _ => h2 S ⟨β, h⟩, fun z => absurd rfl z⟩)⟩)
theorem s_cheapest {S : St} {β : Nat → Nat → Nat} {x : Int32} {K : Int32 → St → Prop} (h : INV S β) (hK : ∀ r S1, RT S1 → (∀ K2 : Int32 → St → Prop, (∀ S2, J S2 → K2 r S2) → wX9_cheapest S1 108 x K2) → K r S1) : wX8_cheapest S 1 x K := by
  have hr := h.1.1.1
  have hN := h.N.2
  have h12 := h.1.1.n12
  have hp : 2 ^ β 0 0 ≤ 2 ^ 12 := Nat.pow_le_pow_right (by decide) h12
  refine ⟨ok_O hr.1 (by decide), w_beyond h.1.1 (fun u hu eu => ⟨fun _ => ?_, fun z => absurd rfl z⟩) (fun zu => ⟨fun z => absurd z (by decide), fun _ => ?_⟩)⟩
  · rw [rt1_1 hr, rt1_5 hr, h.N.1, N0 hN]
    refine ⟨⟨ok_O hr.1 (by decide), by decide⟩, ok_O hr.1 (by decide), fun c => ?_, fun c => ⟨by decide, ok_O hr.1 (by decide), ?_⟩⟩
    · refine hK _ S hr (fun K2 h2 => ⟨ok_O hr.1 (by decide), m_isSet h.2.1.1 (fun u2 hu2 eu2 => ⟨fun z => absurd z (by decide), fun _ => ⟨ok_O hr.1 (by decide), ?_⟩⟩) (fun z => absurd eu (z u hu))⟩)
      rw [h.2.1.2.2.1, N0 hN]
      exact ⟨fun _ => h2 S ⟨β, h⟩, fun z => absurd c z⟩
    · rw [eu]
      refine w_cheapestAt h.1 (fun S1 hE h1 => ?_)
      rw [if_neg c]
      have hI1 := h.q hE h1 (fun k hk => by unfold P76 at hk; omega)
      have hr := h1.1.1
      refine hK _ S1 hr (fun K2 h2 => ⟨ok_O hr.1 (by decide), m_isSet hI1.2.1.1 (fun u2 hu2 eu2 => ⟨fun z => absurd z (by decide), fun _ => ⟨ok_O hr.1 (by decide), ?_⟩⟩) (fun z => absurd eu (z u hu))⟩)
      rw [hI1.2.1.2.2.1, N0 hN]
      refine ⟨fun z => absurd z c, fun _ => ?_⟩
      rw [eu]
      exact m_firstCh hI1.2.1 (by omega) (by omega) (h2 S1 ⟨β, hI1⟩)
  · exact hK _ S hr (fun K2 h2 => ⟨ok_O hr.1 (by decide), m_isSet h.2.1.1 (fun u2 hu2 eu2 => absurd eu2 (zu u2 hu2)) (fun z => ⟨fun _ => h2 S ⟨β, h⟩, fun z => absurd rfl z⟩)⟩)
theorem s_rue {S : St} {β : Nat → Nat → Nat} {x : Int32} {K : Int32 → St → Prop} (h : INV S β) (hK : ∀ r S1, RT S1 → (∀ K2 : Int32 → St → Prop, (∀ S2, J S2 → K2 r S2) → wX9_rue S1 108 x K2) → K r S1) : wX8_rue S 1 x K := by
  have hr := h.1.1.1
  have hN := h.N.2
  unfold wX8_rue
  rw [rt1_1 hr]
  refine ⟨⟨ok_O hr.1 (by decide), by decide⟩, ok_O hr.1 (by decide), w_has h.1.1 (fun c hc e => ⟨fun z => absurd z (by decide), fun _ => ?_⟩) (fun z => ⟨fun _ => hK _ S hr (fun K2 h2 => ⟨ok_O hr.1 (by decide), m_num h.2.1 (fun c hc e => absurd e (z c hc)) (fun _ => ⟨fun _ => h2 S ⟨β, h⟩, fun z => absurd rfl z⟩)⟩), fun z => absurd rfl z⟩)⟩
  rw [rt1_5 hr, e]
  refine ⟨⟨ok_O hr.1 (by decide), by decide⟩, ok_O hr.1 (by decide), w_greatestRue h.1 hc (fun S1 hE h1 => ?_)⟩
  have hI1 := h.q hE h1 (fun k hk => by unfold P76 at hk; omega)
  have hr := h1.1.1
  refine hK _ S1 hr (fun K2 h2 => ⟨ok_O hr.1 (by decide), m_num hI1.2.1 (fun c2 hc2 e2 => ⟨fun z => absurd z (by decide), fun _ => ⟨ok_O hr.1 (by decide), ?_⟩⟩) (fun z => absurd e (z c hc))⟩)
  rw [e]
  exact m_rueAt hI1.2.1 hc (h2 S1 ⟨β, hI1⟩)
theorem s_rival {S : St} {β : Nat → Nat → Nat} {x : Int32} {K : Int32 → St → Prop} (h : INV S β) (hK : ∀ r S1, RT S1 → (∀ K2 : Int32 → St → Prop, (∀ S2, J S2 → K2 r S2) → wX9_rival S1 108 x K2) → K r S1) : wX8_rival S 1 x K := by
  have hr := h.1.1.1
  have hN := h.N.2
  unfold wX8_rival
  rw [rt1_1 hr]
  refine ⟨⟨ok_O hr.1 (by decide), by decide⟩, ok_O hr.1 (by decide), w_has h.1.1 (fun c hc e => ⟨fun z => absurd z (by decide), fun _ => ?_⟩) (fun z => ⟨fun _ => hK _ S hr (fun K2 h2 => ⟨ok_O hr.1 (by decide), m_num h.2.1 (fun c hc e => absurd e (z c hc)) (fun _ => ⟨fun _ => h2 S ⟨β, h⟩, fun z => absurd rfl z⟩)⟩), fun z => absurd rfl z⟩)⟩
  rw [rt1_5 hr, rt1_1 hr, e, pcl (by omega), (h.1.1.2.2.2.2.2.2 c hc).1]
  refine ⟨⟨ok_O hr.1 (by decide), by decide⟩, by decide, ⟨ok_O hr.1 (by decide), h.1.1.z0⟩, ok_A hr.1 h.1.1.z (by omega) (by decide), ok_O hr.1 (by decide), w_cheapestAt h.1 (fun S1 hE h1 => ?_)⟩
  rw [if_neg (by omega)]
  have hI1 := h.q hE h1 (fun k hk => by unfold P76 at hk; omega)
  have hr := h1.1.1
  refine hK _ S1 hr (fun K2 h2 => ⟨ok_O hr.1 (by decide), m_num hI1.2.1 (fun c2 hc2 e2 => ⟨fun z => absurd z (by decide), fun _ => ?_⟩) (fun z => absurd e (z c hc))⟩)
  rw [rt108_12 hr, e, pcl (by omega), (hI1.2.1.c hc).1]
  exact ⟨⟨ok_O hr.1 (by decide), by decide⟩, ok_A (N := 501) hr.1 (by decide) (by omega) (by decide), m_firstCh hI1.2.1 (hI1.2.1.c hc).2.2 (by omega) (h2 S1 ⟨β, hI1⟩)⟩
theorem s_best {S : St} {β : Nat → Nat → Nat} {K : Int32 → St → Prop} (h : INV S β) (hK : ∀ r S1, RT S1 → (∀ K2 : Int32 → St → Prop, (∀ S2, J S2 → K2 r S2) → wX9_best S1 108 K2) → K r S1) : wX8_best S 1 K := by
  have hr := h.1.1.1
  have hN := h.N.2
  unfold wX8_best
  rw [rt1_1 hr, rt1_5 hr, h.N.1, N0 hN]
  refine ⟨⟨ok_O hr.1 (by decide), by decide⟩, ok_O hr.1 (by decide), fun c => hK _ S hr (fun K2 h2 => m_best h.2.1 (by rw [if_pos c]; exact h2 S ⟨β, h⟩)), fun c => ⟨by decide, ok_O hr.1 (by decide), w_leastRued h.1 (fun S1 hE h1 _ => ?_)⟩⟩
  rw [if_neg c]
  have hI1 := h.q hE h1 (fun k hk => by unfold P76 at hk; omega)
  exact hK _ S1 h1.1.1 (fun K2 h2 => m_best hI1.2.1 (by rw [if_neg c]; exact h2 S1 ⟨β, hI1⟩))
theorem s_many {S : St} {β : Nat → Nat → Nat} {K : Int32 → St → Prop} (h : INV S β) (hK : ∀ r S1, RT S1 → (∀ K2 : Int32 → St → Prop, (∀ S2, J S2 → K2 r S2) → wX9_many S1 108 K2) → K r S1) : wX8_many S 1 K := by
  have hr := h.1.1.1
  unfold wX8_many
  rw [rt1_5 hr]
  refine ⟨⟨ok_O hr.1 (by decide), by decide⟩, ok_O hr.1 (by decide), w_many h.1 (fun S1 hE h1 => ?_)⟩
  have hI1 := h.q hE h1 (fun k hk => by unfold P76 at hk; omega)
  exact hK _ S1 h1.1.1 (fun K2 h2 => m_many hI1.2.1 (h2 S1 ⟨β, hI1⟩))
theorem mid_cst {β : Nat → Nat → Nat} {s : Nat} (hs : s < 2 ^ β 0 0) : mid β s = cst β s 0 + cst β s (2 ^ β 0 0 - 1) := by
  have e1 : s &&& (2 ^ β 0 0 - 1) = s := by rw [Nat.and_two_pow_sub_one_eq_mod, Nat.mod_eq_of_lt hs]
  have e2 : gps β 0 = 0 := sm_zero_of (fun t _ h => by rw [Nat.zero_testBit] at h; cases h)
  unfold mid cst
  rw [e1, Nat.and_zero, e2]
  omega
theorem s_middle {S : St} {β : Nat → Nat → Nat} {K : Int32 → St → Prop} (h : INV S β) (hK : ∀ r S1, RT S1 → (∀ K2 : Int32 → St → Prop, (∀ S2, J S2 → K2 r S2) → wX9_middle S1 108 K2) → K r S1) : wX8_middle S 1 K := by
  have hr := h.1.1.1
  have hN := h.N.2
  unfold wX8_middle
  rw [rt1_1 hr, rt1_5 hr, h.N.1, N0 hN]
  refine ⟨⟨ok_O hr.1 (by decide), by decide⟩, ok_O hr.1 (by decide), fun c => hK _ S hr (fun K2 h2 => m_middle h.2.1 (by rw [if_pos c]; exact h2 S ⟨β, h⟩)), fun c => ⟨by decide, ok_O hr.1 (by decide), w_middles h.1 (fun S1 hE h1 => ?_)⟩⟩
  rw [if_neg c]
  have hI1 := h.q hE h1 (fun k hk => by unfold P76 at hk; omega)
  refine hK _ S1 h1.1.1 (fun K2 h2 => m_middle hI1.2.1 ?_)
  rw [if_neg c, am_cong (g := fun c => mid β (chl β c)) (fun j hj => (mid_cst (chl_spec hj).1).symm)]
  exact h2 S1 ⟨β, hI1⟩
theorem s_hold {S : St} {β : Nat → Nat → Nat} {x : Int32} {K : Int32 → St → Prop} (h : INV S β) (hK : ∀ r S1, RT S1 → (∀ K2 : Int32 → St → Prop, (∀ S2, J S2 → K2 r S2) → wX9_hold S1 108 x K2) → K r S1) : wX8_hold S 1 x K := by
  have hr := h.1.1.1
  have h12 := h.1.1.n12
  refine ⟨ok_O hr.1 (by decide), w_thing h.1.1 (fun t ht e => ⟨fun z => absurd z (by decide), fun _ => ?_⟩) (fun z => ⟨fun _ => hK _ S hr (fun K2 h2 => m_hold h.2.1 (fun t ht e => absurd e (z t ht)) (fun _ => h2 S ⟨β, h⟩)), fun z => absurd rfl z⟩)⟩
  rw [rt1_5 hr, e]
  refine ⟨⟨ok_O hr.1 (by decide), by decide⟩, ok_O hr.1 (by decide), w_hold h.1 ht (fun S1 hE h1 => ?_)⟩
  have hI1 := h.q hE h1 (fun k hk => by unfold P76 at hk; omega)
  refine hK _ S1 h1.1.1 (fun K2 h2 => m_hold hI1.2.1 (fun t2 ht2 e2 => ?_) (fun z => absurd e (z t ht)))
  rw [e, peq (by omega) (by omega)] at e2
  subst e2
  exact h2 S1 ⟨β, hI1⟩
theorem w_few' {S : St} {x : Int32} {K : Int32 → St → Prop} (h1 : ∀ k, k ≤ 12 → x = nI k → K 1 S) (h0 : (∀ k, k ≤ 12 → x ≠ nI k) → K 0 S) : wX8_isFew S x K := by
  have h := m_in (S := S) (x := x) (hi := 12) (N := 13) (K := K) (by decide) rfl (fun k hk e => h1 k (by omega) e) (fun z => h0 (fun k hk => z k (by omega)))
  exact h
theorem s_dearest {S : St} {β : Nat → Nat → Nat} {x y : Int32} {K : Int32 → St → Prop} (h : INV S β) (hK : ∀ r S1, RT S1 → (∀ K2 : Int32 → St → Prop, (∀ S2, J S2 → K2 r S2) → wX9_dearest S1 108 x y K2) → K r S1) : wX8_dearest S 1 x y K := by
  have hr := h.1.1.1
  have hN := h.N.2
  unfold wX8_dearest
  rw [rt1_1 hr]
  refine ⟨⟨ok_O hr.1 (by decide), by decide⟩, ok_O hr.1 (by decide), w_has h.1.1 (fun c hc e => ⟨fun z => absurd z (by decide), fun _ => w_few' (fun k hk ek => ⟨fun z => absurd z (by decide), fun _ => ?_⟩) (fun zk => ⟨fun _ => ?_, fun z => absurd rfl z⟩)⟩) (fun z => ⟨fun _ => hK _ S hr (fun K2 h2 => ⟨ok_O hr.1 (by decide), m_num h.2.1 (fun c hc e => absurd e (z c hc)) (fun _ => ⟨fun _ => h2 S ⟨β, h⟩, fun z => absurd rfl z⟩)⟩), fun z => absurd rfl z⟩)⟩
  · rw [rt1_5 hr, e, ek]
    refine ⟨⟨ok_O hr.1 (by decide), by decide⟩, ok_O hr.1 (by decide), w_dearest h.1 hc hk (fun S1 hE h1 => ?_)⟩
    have hI1 := h.q hE h1 (fun k hk => by unfold P76 at hk; omega)
    have hr := h1.1.1
    refine hK _ S1 hr (fun K2 h2 => ⟨ok_O hr.1 (by decide), m_num hI1.2.1 (fun c2 hc2 e2 => ⟨fun z => absurd z (by decide), fun _ => m_in (N := 13) (by decide) rfl (fun k2 hk2 ek2 => ⟨fun z => absurd z (by decide), fun _ => ⟨ok_O hr.1 (by decide), ?_⟩⟩) (fun z => absurd ek (z k (by omega)))⟩) (fun z => absurd e (z c hc))⟩)
    rw [e, ek]
    exact m_dearestAt hI1.2.1 hc hk (h2 S1 ⟨β, hI1⟩)
  · exact hK _ S hr (fun K2 h2 => ⟨ok_O hr.1 (by decide), m_num h.2.1 (fun c2 hc2 e2 => ⟨fun z => absurd z (by decide), fun _ => m_in (N := 13) (by decide) rfl (fun k2 hk2 ek2 => absurd ek2 (zk k2 (by omega))) (fun z => ⟨fun _ => h2 S ⟨β, h⟩, fun z => absurd rfl z⟩)⟩) (fun z => absurd e (z c hc))⟩)
theorem s_few {S : St} {β : Nat → Nat → Nat} {x : Int32} {K : Int32 → St → Prop} (h : INV S β) (hK : ∀ r S1, RT S1 → (∀ K2 : Int32 → St → Prop, (∀ S2, J S2 → K2 r S2) → wX9_few S1 108 x K2) → K r S1) : wX8_few S 1 x K := by
  have hr := h.1.1.1
  have hN := h.N.2
  refine w_few' (fun k hk ek => ⟨fun z => absurd z (by decide), fun _ => ?_⟩) (fun zk => ⟨fun _ => ?_, fun z => absurd rfl z⟩)
  · rw [rt1_1 hr, rt1_5 hr, h.N.1, N0 hN]
    refine ⟨⟨ok_O hr.1 (by decide), by decide⟩, ok_O hr.1 (by decide), fun c => ?_, fun c => ⟨by decide, ok_O hr.1 (by decide), ?_⟩⟩
    · refine hK _ S hr (fun K2 h2 => m_in (N := 13) (by decide) rfl (fun k2 hk2 ek2 => ⟨fun z => absurd z (by decide), fun _ => ⟨ok_O hr.1 (by decide), ?_⟩⟩) (fun z => absurd ek (z k (by omega))))
      rw [h.2.1.2.2.1, N0 hN]
      exact ⟨fun _ => h2 S ⟨β, h⟩, fun z => absurd c z⟩
    · rw [ek]
      refine w_few h.1 hk (fun S1 hE h1 => ?_)
      rw [if_neg c]
      have hI1 := h.q hE h1 (fun k hk => by unfold P76 at hk; omega)
      have hr := h1.1.1
      refine hK _ S1 hr (fun K2 h2 => m_in (N := 13) (by decide) rfl (fun k2 hk2 ek2 => ⟨fun z => absurd z (by decide), fun _ => ⟨ok_O hr.1 (by decide), ?_⟩⟩) (fun z => absurd ek (z k (by omega))))
      rw [hI1.2.1.2.2.1, N0 hN, ek]
      exact ⟨fun z => absurd z c, fun _ => ⟨nch β + 1, lm_few hI1.2.1 hk (h2 S1 ⟨β, hI1⟩) _ 1 (by omega) (by omega) (by omega)⟩⟩
  · exact hK _ S hr (fun K2 h2 => m_in (N := 13) (by decide) rfl (fun k2 hk2 ek2 => absurd ek2 (zk k2 (by omega))) (fun z => ⟨fun _ => h2 S ⟨β, h⟩, fun z => absurd rfl z⟩))
