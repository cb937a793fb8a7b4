theorem l_ciw {S : St} {β : Nat → Nat → Nat} {w s : Nat} {K : Int32 → St → Prop} (h : BB S β) (hw : w < 8) (hs : s < 4096) (hK : K (nI (sm (β (6 + w)) s (β 0 0))) S) : ∀ (n t : Nat), t ≤ β 0 0 → β 0 0 - t < n → wX0_costInWorld_5 K n 2 (nI w) (nI s) (nI (sm (β (6 + w)) s t)) (nI t) S
  | 0, t, _, h => absurd h (by omega)
  | n + 1, t, ht, hn => by
    have hr := h.1
    have h12 := h.2.2.1.1
    have ih := l_ciw h hw hs hK n
    have e : sm (β (6 + w)) s (t + 1) = sm (β (6 + w)) s t + if s.testBit t then β (6 + w) t else 0 := rfl
    have i2 := fun a b => ih (t + 1) a b
    rw [e] at i2
    rw [wX0_costInWorld_5, h.2.1.1 0 (by decide), ple (by omega) (by omega), pbit0 (by omega) (by omega)]
    refine ⟨ok_O hr.1 (by decide), fun c => ?_, fun c => ⟨fun z x ex => ?_, fun z => ?_⟩⟩
    · rw [show t = β 0 0 by omega]; exact hK
    · rw [if_neg (by rw [z]; decide)] at i2
      rw [ex, nI_1]; exact i2 (by omega) (by omega)
    · rw [if_pos (tb_eq z)] at i2
      have a := h.2.1.2.2 w hw t (by omega)
      rw [show 2 + 7 + w = 9 + w by omega] at a
      rw [rt2_9 hr, pcl (by omega), r8w hr hw, pcl (by omega), a]
      refine ⟨by decide, ⟨ok_A (N := 8) hr.1 (by decide) hw (by decide), by omega⟩, ok_A hr.1 (c9w hw) (by omega) (by decide), fun x3 e3 x ex => ?_⟩
      rw [ex, e3, nI_1, nI_add]; exact i2 (by omega) (by omega)
theorem s_costIn {S : St} {β : Nat → Nat → Nat} {x y : Int32} {K : Int32 → St → Prop} (h : INV S β) (hK : ∀ r S1, RT S1 → (∀ K2 : Int32 → St → Prop, (∀ S2, J S2 → K2 r S2) → wX9_costIn S1 108 x y K2) → K r S1) : wX8_costIn S 1 x y K := by
  have hr := h.1.1.1
  have hN := h.N.2
  have h12 := h.1.1.n12
  have hwf := h.1.1.2.2.1
  unfold wX8_costIn
  rw [rt1_0 hr]
  refine ⟨⟨ok_O hr.1 (by decide), by decide⟩, ok_O hr.1 (by decide), w_hasW hr.1 (by decide) h.1.1.2.1 hwf (fun w hw e ht => ⟨fun z => absurd z (by decide), fun _ => ?_⟩) (fun z => ⟨fun _ => ?_, fun z => absurd rfl z⟩)⟩
  · rw [rt1_1 hr]
    refine ⟨⟨ok_O hr.1 (by decide), by decide⟩, ok_O hr.1 (by decide), w_has h.1.1 (fun c hc ec => ⟨fun z => absurd z (by decide), fun _ => ?_⟩) (fun zc => ⟨fun _ => ?_, fun z => absurd rfl z⟩)⟩
    · rw [rt1_0 hr, rt1_1 hr, e, ec, pcl (by omega), (h.1.1.2.2.2.2.2.2 c hc).1]
      refine ⟨⟨ok_O hr.1 (by decide), by decide⟩, by decide, ⟨ok_O hr.1 (by decide), h.1.1.z0⟩, ok_A hr.1 h.1.1.z (by omega) (by decide), ok_O hr.1 (by decide), ⟨β 0 0 + 1, l_ciw ⟨hr, h.1.1.2.1, hwf⟩ hw (h.1.c4 hc) ?_ _ 0 (by omega) (by omega)⟩⟩
      refine hK _ S hr (fun K2 h2 => ⟨ok_O hr.1 (by decide), m_there h.2.1.1 (fun w2 hw2 e2 _ => ⟨fun z => absurd z (by decide), fun _ => ⟨ok_O hr.1 (by decide), m_num h.2.1 (fun c2 hc2 ec2 => ⟨fun z => absurd z (by decide), fun _ => ?_⟩) (fun z => absurd ec (z c hc))⟩⟩) (fun z => ?_)⟩)
      · rw [rt108_12 hr, e, ec, pcl (by omega), (h.2.1.c hc).1]
        refine ⟨⟨ok_O hr.1 (by decide), by decide⟩, ok_A (N := 501) hr.1 (by decide) (by omega) (by decide), m_sumIn h.2.1.1 hw (h.2.1.c hc).2.1 ?_⟩
        have e3 : wc β w (chl β c) = sm (β (6 + w)) (chl β c) (β 0 0) := (sm_12 _ (h.2.1.c hc).2.1 h12).symm
        rw [e3]
        exact h2 S ⟨β, h⟩
      · have := z w hw e; rw [ht] at this; cases this
    · refine hK _ S hr (fun K2 h2 => ⟨ok_O hr.1 (by decide), m_there h.2.1.1 (fun w2 hw2 e2 _ => ⟨fun z => absurd z (by decide), fun _ => ⟨ok_O hr.1 (by decide), m_num h.2.1 (fun c2 hc2 ec2 => absurd ec2 (zc c2 hc2)) (fun z => ⟨fun _ => h2 S ⟨β, h⟩, fun z => absurd rfl z⟩)⟩⟩) (fun z => ?_)⟩)
      have := z w hw e; rw [ht] at this; cases this
  · refine hK _ S hr (fun K2 h2 => ⟨ok_O hr.1 (by decide), m_there h.2.1.1 (fun w2 hw2 e2 ht => ?_) (fun _ => ⟨fun _ => h2 S ⟨β, h⟩, fun z => absurd rfl z⟩)⟩)
    have := z w2 hw2 e2; rw [ht] at this; cases this
theorem s_cheapestIn {S : St} {β : Nat → Nat → Nat} {x : Int32} {K : Int32 → St → Prop} (h : INV S β) (hK : ∀ r S1, RT S1 → (∀ K2 : Int32 → St → Prop, (∀ S2, J S2 → K2 r S2) → wX9_cheapestIn S1 108 x K2) → K r S1) : wX8_cheapestIn S 1 x K := by
  have hr := h.1.1.1
  have hN := h.N.2
  have hwf := h.1.1.2.2.1
  refine w_within (m := 8) (by decide) (fun w hw e => ⟨fun z => absurd z (by decide), fun _ => ?_⟩) (fun zw => ⟨fun _ => ?_, fun z => absurd rfl z⟩)
  · have mod : ∀ {S1 : St} {K2 : Int32 → St → Prop}, INV S1 β → ((β 0 3).testBit w = false → K2 (-2) S1) → ((β 0 3).testBit w = true → nch β = 0 → K2 (-6) S1) → ((β 0 3).testBit w = true → nch β ≠ 0 → K2 (nI (am (fun c => wc β w (chl β c)) (nch β))) S1) → wX9_cheapestIn S1 108 x K2 := fun {S1 K2} hI k2 k6 k1 => by
      have hr := hI.1.1.1
      refine m_in (N := 8) (by decide) rfl (fun w2 hw2 e2 => ⟨fun z => absurd z (by decide), fun _ => ?_⟩) (fun z => absurd e (z w hw))
      rw [e, rt108_9 hr, pcl (by omega), isw hI.2.1.1 hw, hI.2.1.2.2.1, N0 hN]
      exact ⟨⟨ok_O hr.1 (by decide), by decide⟩, ok_A (N := 8) hr.1 (by decide) (by omega) (by decide), k2, fun z => ⟨fun z2 => k6 (tb_eq z) z2, fun z2 => m_firstIn hI.2.1 hw (by omega) (k1 (tb_eq z) z2)⟩⟩
    rw [rt1_0 hr]
    refine ⟨⟨ok_O hr.1 (by decide), by decide⟩, ok_O hr.1 (by decide), w_hasW hr.1 (by decide) h.1.1.2.1 hwf (fun w2 hw2 e2 ht => ⟨fun z => absurd z (by decide), fun _ => ?_⟩) (fun z => ⟨fun _ => ?_, fun z => absurd rfl z⟩)⟩
    · rw [e, peq (by omega) (by omega)] at e2
      subst e2
      rw [rt1_1 hr, rt1_6 hr, h.N.1, N0 hN]
      refine ⟨⟨ok_O hr.1 (by decide), by decide⟩, ok_O hr.1 (by decide), fun c => ?_, fun c => ⟨by decide, ok_O hr.1 (by decide), ?_⟩⟩
      · exact hK _ S hr (fun K2 h2 => mod h (fun z => by rw [ht] at z; cases z) (fun _ _ => h2 S ⟨β, h⟩) (fun _ z => absurd c z))
      · rw [e]
        refine w_there h.1 hw (fun S1 hE h1 _ => ?_)
        rw [if_neg c]
        have hI1 := h.q hE h1 (fun k hk => by unfold P88 at hk; omega)
        exact hK _ S1 h1.1.1 (fun K2 h2 => mod hI1 (fun z => by rw [ht] at z; cases z) (fun _ z => absurd z c) (fun _ _ => h2 S1 ⟨β, hI1⟩))
    · have hf := z w hw e
      exact hK _ S hr (fun K2 h2 => mod h (fun _ => h2 S ⟨β, h⟩) (fun z => by rw [hf] at z; cases z) (fun z => by rw [hf] at z; cases z))
  · exact hK _ S hr (fun K2 h2 => m_in (N := 8) (by decide) rfl (fun w hw e => absurd e (zw w hw)) (fun _ => ⟨fun _ => h2 S ⟨β, h⟩, fun z => absurd rfl z⟩))
theorem th0 {S : St} {β : Nat → Nat → Nat} (h : INV S β) : (sI S 2 3 = 0) = (β 0 3 = 0) := by
  have := h.1.1.2.2.1.1.2.2.2
  rw [h.1.1.2.1.1 3 (by decide), show (0 : Int32) = nI 0 from rfl, peq (by omega) (by omega)]
theorem s_rueOf {S : St} {β : Nat → Nat → Nat} {x : Int32} {K : Int32 → St → Prop} (h : INV S β) (hK : ∀ r S1, RT S1 → (∀ K2 : Int32 → St → Prop, (∀ S2, J S2 → K2 r S2) → wX9_rueOf S1 108 x K2) → K r S1) : wX8_rueOf S 1 x K := by
  have hr := h.1.1.1
  have hN := h.N.2
  unfold wX8_rueOf
  rw [rt1_1 hr]
  refine ⟨⟨ok_O hr.1 (by decide), by decide⟩, ok_O hr.1 (by decide), w_has h.1.1 (fun c hc e => ⟨fun z => absurd z (by decide), fun _ => ?_⟩) (fun z => ⟨fun _ => hK _ S hr (fun K2 h2 => m_rueOf h.2.1 (fun c hc e => absurd e (z c hc)) (fun _ => h2 S ⟨β, h⟩)), fun z => absurd rfl z⟩)⟩
  rw [rt1_0 hr, rt1_6 hr, th0 h]
  refine ⟨⟨ok_O hr.1 (by decide), by decide⟩, ok_O hr.1 (by decide), fun c0 => hK _ S hr (fun K2 h2 => m_rueOf h.2.1 (fun _ _ _ z => absurd c0 z) (fun _ => h2 S ⟨β, h⟩)), fun c0 => ⟨by decide, ok_O hr.1 (by decide), ?_⟩⟩
  rw [e]
  refine w_rueOf h.1 hc (fun S1 hE h1 => ?_)
  have hI1 := h.q hE h1 (fun k hk => by unfold P92 P88 at hk; omega)
  refine hK _ S1 h1.1.1 (fun K2 h2 => m_rueOf hI1.2.1 (fun c2 hc2 e2 _ => ?_) (fun z => ?_))
  · rw [e, peq (by omega) (by omega)] at e2
    subst e2
    exact h2 S1 ⟨β, hI1⟩
  · rcases z with z | z
    · exact absurd e (z c hc)
    · exact absurd z c0
theorem s_bestOf {S : St} {β : Nat → Nat → Nat} {K : Int32 → St → Prop} (h : INV S β) (hK : ∀ r S1, RT S1 → (∀ K2 : Int32 → St → Prop, (∀ S2, J S2 → K2 r S2) → wX9_bestOf S1 108 K2) → K r S1) : wX8_bestOf S 1 K := by
  have hr := h.1.1.1
  have hN := h.N.2
  unfold wX8_bestOf
  rw [rt1_0 hr, rt1_1 hr, rt1_6 hr, th0 h, h.N.1, N0 hN]
  refine ⟨⟨ok_O hr.1 (by decide), by decide⟩, ok_O hr.1 (by decide), fun c => hK _ S hr (fun K2 h2 => m_bestOf h.2.1 (by rw [if_pos c]; exact h2 S ⟨β, h⟩)), fun c => ⟨by decide, ok_O hr.1 (by decide), fun c2 => hK _ S hr (fun K2 h2 => m_bestOf h.2.1 (by rw [if_neg c, if_pos c2]; exact h2 S ⟨β, h⟩)), fun c2 => ⟨by decide, ok_O hr.1 (by decide), w_bestOf h.1 (fun S1 hE h1 => ?_)⟩⟩⟩
  rw [if_neg c2]
  have hI1 := h.q hE h1 (fun k hk => by unfold P92 P88 at hk; omega)
  exact hK _ S1 h1.1.1 (fun K2 h2 => m_bestOf hI1.2.1 (by rw [if_neg c, if_neg c2]; exact h2 S1 ⟨β, hI1⟩))
theorem s_two {S : St} {β : Nat → Nat → Nat} {x : Int32} {K : Int32 → St → Prop} (h : INV S β) (hK : ∀ r S1, RT S1 → (∀ K2 : Int32 → St → Prop, (∀ S2, J S2 → K2 r S2) → wX9_two S1 108 x K2) → K r S1) : wX8_two S 1 x K := by
  have hr := h.1.1.1
  have hN := h.N.2
  have h12 := h.1.1.n12
  have hp : 2 ^ β 0 0 ≤ 2 ^ 12 := Nat.pow_le_pow_right (by decide) h12
  have pl := popc_le (β 0 3)
  have mod : ∀ {S1 : St} {K2 : Int32 → St → Prop}, INV S1 β → ((∀ u, u < 2 ^ β 0 0 → x ≠ nI u) → K2 (-1) S1) → (∀ u, u < 2 ^ β 0 0 → x = nI u → K2 (if β 0 3 = 0 then -2 else if nch β = 0 then -6 else nI (twv β (nch β) (chl β) u)) S1) → wX9_two S1 108 x K2 := fun {S1 K2} hI k0 k1 => by
    have hr := hI.1.1.1
    refine ⟨ok_O hr.1 (by decide), m_isSet hI.2.1.1 (fun u hu e => ⟨fun z => absurd z (by decide), fun _ => ⟨ok_O hr.1 (by decide), m_worlds hI.2.1.1 ?_⟩⟩) (fun z => ⟨fun _ => k0 z, fun z => absurd rfl z⟩)⟩
    have k := k1 u hu e
    rw [show (0 : Int32) = nI 0 from rfl, peq (by omega) (by omega), pop0 hI.2.1.1.2.1]
    refine ⟨fun z => ?_, fun z => ⟨ok_O hr.1 (by decide), ?_⟩⟩
    · rw [if_pos z] at k; exact k
    · rw [if_neg z] at k
      rw [hI.2.1.2.2.1, peq (by omega) (by omega)]
      refine ⟨fun c => ?_, fun c => ?_⟩
      · rw [if_pos c] at k; exact k
      · rw [if_neg c] at k
        rw [e]
        exact m_twoOf hI.2.1 hu z k
  refine ⟨ok_O hr.1 (by decide), w_beyond h.1.1 (fun u hu eu => ⟨fun _ => ?_, fun z => absurd rfl z⟩) (fun zu => ⟨fun z => absurd z (by decide), fun _ => hK _ S hr (fun K2 h2 => mod h (fun _ => h2 S ⟨β, h⟩) (fun u hu e => absurd e (zu u hu)))⟩)⟩
  have one : ∀ u2, u2 < 2 ^ β 0 0 → x = nI u2 → u2 = u := fun u2 hu2 e2 => by
    rw [eu, peq (by omega) (by omega)] at e2; exact e2.symm
  rw [rt1_0 hr, rt1_1 hr, rt1_8 hr, th0 h, h.N.1, N0 hN]
  refine ⟨⟨ok_O hr.1 (by decide), by decide⟩, ok_O hr.1 (by decide), fun c => hK _ S hr (fun K2 h2 => mod h (fun z => absurd eu (z u hu)) (fun u2 hu2 e2 => by rw [if_pos c]; exact h2 S ⟨β, h⟩)), fun c => ⟨by decide, ok_O hr.1 (by decide), fun c2 => hK _ S hr (fun K2 h2 => mod h (fun z => absurd eu (z u hu)) (fun u2 hu2 e2 => by rw [if_neg c, if_pos c2]; exact h2 S ⟨β, h⟩)), fun c2 => ⟨by decide, ok_O hr.1 (by decide), ?_⟩⟩⟩
  rw [eu]
  refine w_with h.1 (by omega) (fun S1 hE h1 => ?_)
  have hI1 := h.q hE h1 (fun k hk => by unfold P101 at hk; omega)
  refine hK _ S1 h1.1.1 (fun K2 h2 => ?_)
  exact mod hI1 (fun z => absurd eu (z u hu)) (fun u2 hu2 e2 => by rw [if_neg c, if_neg c2, one u2 hu2 e2]; exact h2 S1 ⟨β, hI1⟩)
theorem s_first {S : St} {β : Nat → Nat → Nat} {K : Int32 → St → Prop} (h : INV S β) (hK : ∀ r S1, RT S1 → (∀ K2 : Int32 → St → Prop, (∀ S2, J S2 → K2 r S2) → wX9_first S1 108 K2) → K r S1) : wX8_first S 1 K := by
  have hr := h.1.1.1
  have hN := h.N.2
  unfold wX8_first
  rw [rt1_0 hr, rt1_1 hr, rt1_8 hr, th0 h, h.N.1, N0 hN]
  refine ⟨⟨ok_O hr.1 (by decide), by decide⟩, ok_O hr.1 (by decide), fun c => hK _ S hr (fun K2 h2 => m_first h.2.1 (by rw [if_pos c]; exact h2 S ⟨β, h⟩)), fun c => ⟨by decide, ok_O hr.1 (by decide), fun c2 => hK _ S hr (fun K2 h2 => m_first h.2.1 (by rw [if_neg c, if_pos c2]; exact h2 S ⟨β, h⟩)), fun c2 => ⟨by decide, ok_O hr.1 (by decide), w_least h.1 (fun S1 hE h1 => ?_)⟩⟩⟩
  have hI1 := h.q hE h1 (fun k hk => by unfold P07 at hk; omega)
  exact hK _ S1 h1.1.1 (fun K2 h2 => m_first hI1.2.1 (by rw [if_neg c, if_neg c2]; exact h2 S1 ⟨β, hI1⟩))
theorem s_front {S : St} {β : Nat → Nat → Nat} {x y z : Int32} {K : Int32 → St → Prop} (h : INV S β) (hK : ∀ r S1, RT S1 → (∀ K2 : Int32 → St → Prop, (∀ S2, J S2 → K2 r S2) → wX9_front S1 108 x y z K2) → K r S1) : wX8_front S 1 x y z K := by
  have hr := h.1.1.1
  have hN := h.N.2
  have hwf := h.1.1.2.2.1
  -- the model where a world is not there
  have no : ∀ {S1 : St} {K2 : Int32 → St → Prop}, INV S1 β → ¬ (∃ v w, v < 8 ∧ w < 8 ∧ x = nI v ∧ y = nI w ∧ (β 0 3).testBit v = true ∧ (β 0 3).testBit w = true) → K2 (-1) S1 → wX9_front S1 108 x y z K2 := fun {S1 K2} hI hn k => by
    have hr := hI.1.1.1
    exact ⟨ok_O hr.1 (by decide), m_there hI.2.1.1 (fun v hv e ht => ⟨fun q => absurd q (by decide), fun _ => ⟨ok_O hr.1 (by decide), m_there hI.2.1.1 (fun w hw e2 ht2 => absurd ⟨v, w, hv, hw, e, e2, ht, ht2⟩ hn) (fun _ => ⟨fun _ => k, fun q => absurd rfl q⟩)⟩⟩) (fun _ => ⟨fun _ => k, fun q => absurd rfl q⟩)⟩
  unfold wX8_front
  rw [rt1_0 hr]
  refine ⟨⟨ok_O hr.1 (by decide), by decide⟩, ok_O hr.1 (by decide), w_hasW hr.1 (by decide) h.1.1.2.1 hwf (fun v hv e ht => ⟨fun q => absurd q (by decide), fun _ => ?_⟩) (fun q => ⟨fun _ => hK _ S hr (fun K2 h2 => no h (fun ⟨v, w, hv, hw, e, e2, ht, _⟩ => ?_) (h2 S ⟨β, h⟩)), fun q => absurd rfl q⟩)⟩
  · rw [rt1_0 hr]
    refine ⟨⟨ok_O hr.1 (by decide), by decide⟩, ok_O hr.1 (by decide), w_hasW hr.1 (by decide) h.1.1.2.1 hwf (fun w hw e2 ht2 => ⟨fun q => absurd q (by decide), fun _ => ?_⟩) (fun q => ⟨fun _ => hK _ S hr (fun K2 h2 => no h (fun ⟨v2, w, hv, hw, _, e2, _, ht⟩ => ?_) (h2 S ⟨β, h⟩)), fun q => absurd rfl q⟩)⟩
    · -- both are there
      have yes : ∀ {S1 : St} {K2 : Int32 → St → Prop}, INV S1 β → (∃ n1 : Nat, wX9_front_24 K2 n1 108 (nI v) (nI w) z 0 0 S1) → wX9_front S1 108 x y z K2 := fun {S1 K2} hI k => by
        have hr := hI.1.1.1
        rw [e, e2]
        refine ⟨ok_O hr.1 (by decide), m_there hI.2.1.1 (fun v2 hv2 ev _ => ⟨fun q => absurd q (by decide), fun _ => ⟨ok_O hr.1 (by decide), m_there hI.2.1.1 (fun w2 hw2 ew _ => ⟨fun q => absurd q (by decide), fun _ => k⟩) (fun q => ?_)⟩⟩) (fun q => ?_)⟩
        · have := q w hw rfl; rw [ht2] at this; cases this
        · have := q v hv rfl; rw [ht] at this; cases this
      have ha : ∀ d, d < nch β → aw β v d = rwv β (nch β) (chl β) v d + wc β v (chl β (am (fun x => wc β v (chl β x)) (nch β))) := aw_rwv
      have hb : ∀ d, d < nch β → aw β w d = rwv β (nch β) (chl β) w d + wc β w (chl β (am (fun x => wc β w (chl β x)) (nch β))) := aw_rwv
      have hbd : ∀ c, c < nch β → rwv β (nch β) (chl β) w c ≤ 12000 := fun c _ => rwv_le hwf _ _ hw c
      have fc : fb_ct (FR (aw β v) (aw β w) (nch β)) (nch β) = fb_ct (FR (rwv β (nch β) (chl β) v) (rwv β (nch β) (chl β) w) (nch β)) (nch β) := fb_ct_cong (fun c hc => FR_shift ha hb hc)
      have hcm := fb_ct_le (FR (rwv β (nch β) (chl β) v) (rwv β (nch β) (chl β) w) (nch β)) (nch β)
      refine ⟨fun c3 => ?_, fun c3 => ?_⟩
      · rw [rt1_7 hr, e, e2]
        refine ⟨⟨ok_O hr.1 (by decide), by decide⟩, ok_O hr.1 (by decide), w_look h.1 hv hw (fun S1 hE h1 hp => ?_)⟩
        have hI1 := h.q hE h1 (fun k hk => by unfold P95 at hk; omega)
        have hr := h1.1.1
        rw [rt1_7 hr]
        refine ⟨fun c4 => ⟨⟨ok_O hr.1 (by decide), by decide⟩, ok_O hr.1 (by decide), w_pairs h1 hp ?_⟩, fun c4 => ?_⟩
        · refine hK _ S1 hr (fun K2 h2 => yes hI1 (m_front hI1.2.1 hv hw (fun _ S2 hE2 => ?_) (fun i e S2 ei hi he hf hrk hE2 => ?_) (fun S2 hne _ _ => absurd c4 hne)))
          · rw [fc]
            exact h2 S2 ⟨β, hI1.m hE2 (fun k hk => by omega)⟩
          · rw [c4] at ei
            exact absurd ei.symm (neg1_ne (by omega))
        · -- a place
          have hz : ∃ i, i < 2147483648 ∧ z = nI i := by
            rcases pk_ix z (n := 2147483647) (by decide) with q | q | ⟨i, hi, q⟩
            · exfalso
              have z0 : (0 : Int32).toInt = 0 := by decide
              have z1 : (-1 : Int32).toInt = -1 := by decide
              rw [fa_le] at c3
              rw [fa_lt] at q
              rw [fa_eq] at c4
              omega
            · refine ⟨2147483647, by decide, ?_⟩
              have := fb_rng z
              rw [fa_le] at q
              rw [fa_eq]
              have h5 : (nI 2147483647).toInt = 2147483647 := by decide
              omega
            · exact ⟨i, by omega, q⟩
          obtain ⟨i, hi, ei⟩ := hz
          rw [ei]
          refine ⟨⟨ok_O hr.1 (by decide), by decide⟩, ok_O hr.1 (by decide), w_pair h1 hp hi ?_⟩
          obtain ⟨sp1, sp2⟩ := sq_spec (a := rwv β (nch β) (chl β) v) hbd i
          refine hK _ S1 hr (fun K2 h2 => ?_)
          refine yes hI1 (m_front hI1.2.1 hv hw (fun q => absurd q c4) (fun j f S2 ej hj hf hff hrk hE2 => ?_) (fun S2 _ hno hE2 => ?_))
          · rw [ei, peq (by omega) (by omega)] at ej
            subst ej
            have hJ := h2 S2 ⟨β, hI1.m hE2 (fun k hk => by omega)⟩
            cases hs : sq (rwv β (nch β) (chl β) v) (rwv β (nch β) (chl β) w) (nch β) i with
            | none => have := sp1 hs; omega
            | some c =>
              obtain ⟨q1, q2, q3⟩ := sp2 c hs
              rw [FR_shift ha hb hf] at hff
              rw [rkf_shift ha hb hf] at hrk
              have ec : c = f := rkm_one (Nat.le_refl _) q1 hf q2 hff (q3.trans hrk.symm)
              rw [hs, ec] at hJ
              exact hJ
          · have hJ := h2 S2 ⟨β, hI1.m hE2 (fun k hk => by omega)⟩
            cases hs : sq (rwv β (nch β) (chl β) v) (rwv β (nch β) (chl β) w) (nch β) i with
            | none => rw [hs] at hJ; exact hJ
            | some c =>
              have := sq_lt hbd hs
              exact absurd ei (hno i (by omega))
      · -- below -1
        have z1 : (-1 : Int32).toInt = -1 := by decide
        rw [fa_le] at c3
        refine hK _ S hr (fun K2 h2 => yes h (m_front h.2.1 hv hw (fun q => ?_) (fun i f S2 ei hi _ _ _ _ => ?_) (fun S2 _ _ hE2 => h2 S2 ⟨β, h.m hE2 (fun k hk => by omega)⟩)))
        · rw [q] at c3; omega
        · rw [ei, nI_toInt (n31 (by omega))] at c3; omega
    · have := q w hw e2; rw [ht] at this; cases this
  · have := q v hv e; rw [ht] at this; cases this
theorem rwv_zero {β : Nat → Nat → Nat} {v : Nat} (h : 0 < nch β) : ∃ c, c < nch β ∧ rwv β (nch β) (chl β) v c = 0 := ⟨am (fun x => wc β v (chl β x)) (nch β), am_lt _ _ h, by unfold rwv; omega⟩
theorem s_lots {S : St} {β : Nat → Nat → Nat} {x y z : Int32} {K : Int64 → St → Prop} (h : INV S β) (hK : ∀ r S1, RT S1 → (∀ K2 : Int64 → St → Prop, (∀ S2, J S2 → K2 r S2) → wX9_lots S1 108 x y z K2) → K r S1) : wX8_lots S 1 x y z K := by
  have hr := h.1.1.1
  have hN := h.N.2
  have hwf := h.1.1.2.2.1
  have mod : ∀ {S1 : St} {K2 : Int64 → St → Prop}, INV S1 β → (¬ (∃ v w q, v < 8 ∧ w < 8 ∧ q < 2 ∧ x = nI v ∧ y = nI w ∧ z = nI q) → K2 (-1) S1) → (∀ v w q, v < 8 → w < 8 → q < 2 → x = nI v → y = nI w → z = nI q → (¬ ((β 0 3).testBit v = true ∧ (β 0 3).testBit w = true) → K2 (-2) S1) ∧ (((β 0 3).testBit v = true ∧ (β 0 3).testBit w = true) → (nch β = 0 → K2 (-6) S1) ∧ (0 < nch β → ∀ U V S2, Ex P121 S1 S2 → LV (rwv β (nch β) (chl β) v) (rwv β (nch β) (chl β) w) (nch β) U V → (z = 0 → K2 (lN U) S2) ∧ (¬ z = 0 → K2 (lN V) S2)))) → wX9_lots S1 108 x y z K2 := fun {S1 K2} hI k0 k1 => by
    have hr := hI.1.1.1
    refine m_in (N := 8) (by decide) rfl (fun v hv e => ⟨fun q => absurd q (by decide), fun _ => m_in (N := 8) (by decide) rfl (fun w hw e2 => ⟨fun q => absurd q (by decide), fun _ => m_in (N := 2) (by decide) rfl (fun q hq e3 => ⟨fun q => absurd q (by decide), fun _ => ?_⟩) (fun n => ⟨fun _ => k0 (fun ⟨_, _, q, _, _, hq, _, _, e⟩ => n q hq e), fun q => absurd rfl q⟩)⟩) (fun n => ⟨fun _ => k0 (fun ⟨_, w, _, _, hw, _, _, e, _⟩ => n w hw e), fun q => absurd rfl q⟩)⟩) (fun n => ⟨fun _ => k0 (fun ⟨v, _, _, hv, _, _, e, _, _⟩ => n v hv e), fun q => absurd rfl q⟩)
    obtain ⟨k2, k3⟩ := k1 v w q hv hw hq e e2 e3
    rw [e, e2, rt108_9 hr, pcl (by omega), pcl (by omega), isw hI.2.1.1 hv, isw hI.2.1.1 hw, hI.2.1.2.2.1, N0 hN]
    refine ⟨⟨ok_O hr.1 (by decide), by decide⟩, ok_A (N := 8) hr.1 (by decide) (by omega) (by decide), fun n => k2 (fun g => by rw [n] at g; exact absurd g.1 (by decide)), fun n => ⟨ok_A (N := 8) hr.1 (by decide) (by omega) (by decide), fun n2 => k2 (fun g => by rw [n2] at g; exact absurd g.2 (by decide)), fun n2 => ?_⟩⟩
    obtain ⟨k6, kk⟩ := k3 ⟨tb_eq n, tb_eq n2⟩
    refine ⟨k6, fun n0 => ?_⟩
    have kk := kk (by omega)
    rw [rt108_12 hr]
    have av := am_lt (fun x => wc β v (chl β x)) (nch β) (by omega)
    have awm := am_lt (fun x => wc β w (chl β x)) (nch β) (by omega)
    have cv := hI.2.1.c av
    have cw := hI.2.1.c awm
    refine ⟨by decide, m_firstIn hI.2.1 hv (by omega) ⟨ok_A (N := 501) hr.1 (by decide) (by omega) (by decide), ok_O hr.1 (by decide), ?_⟩⟩
    rw [pcl (by omega), cv.1]
    refine m_sumIn hI.2.1.1 hv cv.2.1 ⟨⟨ok_O hr.1 (by decide), by rw [rt108_12 hr]; decide⟩, m_firstIn hI.2.1 hw (by omega) ?_⟩
    rw [rt108_12 hr, pcl (by omega), cw.1]
    refine ⟨ok_A (N := 501) hr.1 (by decide) (by omega) (by decide), ok_O hr.1 (by decide), m_sumIn hI.2.1.1 hw cw.2.1 ⟨ok_O hr.1 (by decide), fun S2 e2 => ?_⟩⟩
    have hE2 : Ex P121 S1 S2 := by rw [e2]; exact Ex.rf
    have hI2 : INV S2 β := hI.m hE2 (fun k hk => by unfold P121 at hk; omega)
    exact m_lotsB hI2.2.1 hv hw (by omega) (fun U V S3 hE3 lv => kk U V S3 (hE2.tr hE3) lv) (by rw [e2, pL_sL])
  refine w_within (m := 8) (by decide) (fun v hv e => ⟨fun q => absurd q (by decide), fun _ => w_within (m := 8) (by decide) (fun w hw e2 => ⟨fun q => absurd q (by decide), fun _ => w_within (m := 2) (by decide) (fun q hq e3 => ⟨fun q => absurd q (by decide), fun _ => ?_⟩) (fun n => ⟨fun _ => hK _ S hr (fun K2 h2 => mod h (fun _ => h2 S ⟨β, h⟩) (fun v w q _ _ hq _ _ e => absurd e (n q hq))), fun q => absurd rfl q⟩)⟩) (fun n => ⟨fun _ => hK _ S hr (fun K2 h2 => mod h (fun _ => h2 S ⟨β, h⟩) (fun v w q _ hw _ _ e _ => absurd e (n w hw))), fun q => absurd rfl q⟩)⟩) (fun n => ⟨fun _ => hK _ S hr (fun K2 h2 => mod h (fun _ => h2 S ⟨β, h⟩) (fun v w q hv _ _ e _ _ => absurd e (n v hv))), fun q => absurd rfl q⟩)
  have one : ∀ v2 w2, v2 < 8 → w2 < 8 → x = nI v2 → y = nI w2 → v2 = v ∧ w2 = w := fun v2 w2 hv2 hw2 ev ew => by
    rw [e, peq (by omega) (by omega)] at ev
    rw [e2, peq (by omega) (by omega)] at ew
    exact ⟨ev.symm, ew.symm⟩
  have nope : ¬ ((β 0 3).testBit v = true ∧ (β 0 3).testBit w = true) → K (-2) S := fun n => hK _ S hr (fun K2 h2 => mod h (fun g => absurd ⟨v, w, q, hv, hw, hq, e, e2, e3⟩ g) (fun v2 w2 q2 hv2 hw2 _ ev ew _ => by
    obtain ⟨rfl, rfl⟩ := one v2 w2 hv2 hw2 ev ew
    exact ⟨fun _ => h2 S ⟨β, h⟩, fun g => absurd g n⟩))
  rw [rt1_0 hr]
  refine ⟨⟨ok_O hr.1 (by decide), by decide⟩, ok_O hr.1 (by decide), w_hasW hr.1 (by decide) h.1.1.2.1 hwf (fun v2 hv2 ev ht => ⟨fun q => absurd q (by decide), fun _ => ?_⟩) (fun n => ⟨fun _ => nope (fun g => ?_), fun q => absurd rfl q⟩)⟩
  · rw [e, peq (by omega) (by omega)] at ev
    subst ev
    rw [rt1_0 hr]
    refine ⟨⟨ok_O hr.1 (by decide), by decide⟩, ok_O hr.1 (by decide), w_hasW hr.1 (by decide) h.1.1.2.1 hwf (fun w2 hw2 ew ht2 => ⟨fun q => absurd q (by decide), fun _ => ?_⟩) (fun n => ⟨fun _ => nope (fun g => ?_), fun q => absurd rfl q⟩)⟩
    · rw [e2, peq (by omega) (by omega)] at ew
      subst ew
      rw [rt1_1 hr, rt1_7 hr, h.N.1, N0 hN]
      refine ⟨⟨ok_O hr.1 (by decide), by decide⟩, ok_O hr.1 (by decide), fun c => ?_, fun c => ⟨by decide, ok_O hr.1 (by decide), ?_⟩⟩
      · refine hK _ S hr (fun K2 h2 => mod h (fun g => absurd ⟨v, w, q, hv, hw, hq, e, e2, e3⟩ g) (fun v2 w2 q2 hv2 hw2 _ ev ew _ => ?_))
        obtain ⟨rfl, rfl⟩ := one v2 w2 hv2 hw2 ev ew
        exact ⟨fun g => absurd ⟨ht, ht2⟩ g, fun _ => ⟨fun _ => h2 S ⟨β, h⟩, fun g => absurd g (by omega)⟩⟩
      · rw [e, e2]
        refine w_look h.1 hv hw (fun S1 hE h1 hp => ?_)
        have hI1 := h.q hE h1 (fun k hk => by unfold P95 at hk; omega)
        have hr := h1.1.1
        rw [rt1_7 hr]
        refine ⟨⟨ok_O hr.1 (by decide), by decide⟩, ok_O hr.1 (by decide), w_draw h1 hp (by omega) (rwv_zero (by omega)) (rwv_zero (by omega)) (fun S2 U V hE2 l5 l6 lv => ?_)⟩
        have hI2 : INV S2 β := hI1.m hE2 (fun k hk => absurd hk id)
        have hr2 := hI2.1.1.1
        rw [rt1_7 hr2, l5, l6]
        have fin : ∀ r : Int64, (∀ U2 V2, LV (rwv β (nch β) (chl β) v) (rwv β (nch β) (chl β) w) (nch β) U2 V2 → (z = 0 → lN U2 = r) ∧ (¬ z = 0 → lN V2 = r)) → K r S2 := fun r hrr => by
          refine hK r S2 hr2 (fun K2 h2 => ?_)
          refine mod hI2 (fun g => absurd ⟨v, w, q, hv, hw, hq, e, e2, e3⟩ g) (fun v2 w2 q2 hv2 hw2 _ ev ew _ => ?_)
          obtain ⟨rfl, rfl⟩ := one v2 w2 hv2 hw2 ev ew
          refine ⟨fun g => absurd ⟨ht, ht2⟩ g, fun _ => ⟨fun g => absurd g c, fun _ U2 V2 S3 hE3 lv2 => ?_⟩⟩
          have hJ := h2 S3 ⟨β, hI2.m hE3 (fun k hk => by unfold P121 at hk; omega)⟩
          obtain ⟨r1, r2⟩ := hrr U2 V2 lv2
          exact ⟨fun g => by rw [r1 g]; exact hJ, fun g => by rw [r2 g]; exact hJ⟩
        refine ⟨fun z0 => ⟨⟨ok_O hr2.1 (by decide), by decide⟩, ok_O hr2.1 (by decide), fin _ (fun U2 V2 lv2 => ?_)⟩, fun z0 => ⟨⟨ok_O hr2.1 (by decide), by decide⟩, ok_O hr2.1 (by decide), fin _ (fun U2 V2 lv2 => ?_)⟩⟩
        · exact ⟨fun _ => by rw [(LV_one lv2 lv).1], fun g => absurd z0 g⟩
        · exact ⟨fun g => absurd g z0, fun _ => by rw [(LV_one lv2 lv).2]⟩
    · have := n w hw e2; rw [g.2] at this; cases this
  · have := n v hv e; rw [g.1] at this; cases this
