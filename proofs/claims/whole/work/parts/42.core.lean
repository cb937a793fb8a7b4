-- what the class holds: the bench at cell c is β
def CB (S : St) (c : Nat) (β : Nat → Nat → Nat) : Prop := (∀ j, j < 4 → sI S c j = nI (β 0 j)) ∧ (∀ f, f < 5 → ∀ i, i < 12 → sI S (c + 1 + f) i = nI (β (1 + f) i)) ∧ ∀ w, w < 8 → ∀ i, i < 12 → sI S (c + 7 + w) i = nI (β (6 + w) i)
/-- the numbers that a bench may hold -/
def WF (β : Nat → Nat → Nat) : Prop := (β 0 0 ≤ 12 ∧ β 0 1 < 4 ∧ β 0 2 ≤ 12 ∧ β 0 3 < 256) ∧ (∀ i, i < 12 → β 1 i ≤ β 2 i ∧ β 2 i ≤ 1000) ∧ (∀ i, i < 12 → β 3 i < 6 ∧ β 4 i < 6) ∧ (∀ i, i < 12 → β 5 i ≤ 1000) ∧ (∀ w, w < 8 → ∀ i, i < 12 → β (6 + w) i ≤ 1000) ∧ ((β 0 1 = 1 → 1 ≤ β 0 2 ∧ β 0 2 ≤ 5) ∧ (β 0 1 = 2 → 1 ≤ β 0 2 ∧ β 0 2 ≤ 6) ∧ (β 0 1 = 3 → β 0 2 ≤ 6)) ∧ ∀ f, 3 ≤ f → f < 14 → ∀ i, β 0 0 ≤ i → i < 12 → β f i = 0
def Co (S : St) (β : Nat → Nat → Nat) (N : Nat) (ch : Nat → Nat) : Prop :=
  RT S ∧ CB S 2 β ∧ WF β ∧ sI S 17 0 = nI N ∧ N ≤ 500 ∧ ((sR S 17 1 = 18 ∧ sR S 17 2 = 19) ∨ (sR S 17 1 = 19 ∧ sR S 17 2 = 18)) ∧ ∀ c, c < N → sI S (sR S 17 1) c = nI (ch c) ∧ ch c < 2 ^ β 0 0
theorem CB.ex {S S1 : St} {c : Nat} {β : Nat → Nat → Nat} {P : Nat → Prop} (h : CB S c β) (he : Ex P S S1) (hp : ∀ k, P k → k < c ∨ c + 14 < k) : CB S1 c β := by
  refine ⟨fun j hj => ?_, fun f hf i hi => ?_, fun w hw i hi => ?_⟩
  · rw [he.i (fun z => by have := hp _ z; omega)]; exact h.1 j hj
  · rw [he.i (fun z => by have := hp _ z; omega)]; exact h.2.1 f hf i hi
  · rw [he.i (fun z => by have := hp _ z; omega)]; exact h.2.2 w hw i hi
theorem Co.ex {S S1 : St} {β : Nat → Nat → Nat} {N : Nat} {ch : Nat → Nat} {P : Nat → Prop} (h : Co S β N ch) (he : Ex P S S1) (hp : ∀ k, P k → 20 ≤ k ∨ k = 1) : Co S1 β N ch := by
  obtain ⟨h1, h2, h3, h4, h5, h6, h7⟩ := h
  refine ⟨he.rt h1, h2.ex he (fun k hk => by have := hp k hk; omega), h3, ?_, h5, ?_, fun c hc => ?_⟩
  · rw [he.i (fun z => by have := hp _ z; omega)]; exact h4
  · rw [he.r, he.r]; exact h6
  · rw [he.r, he.i (fun z => by have := hp _ z; omega)]; exact h7 c hc
theorem Co.n12 {S : St} {β : Nat → Nat → Nat} {N : Nat} {ch : Nat → Nat} (h : Co S β N ch) : β 0 0 ≤ 12 := h.2.2.1.1.1
theorem Co.z {S : St} {β : Nat → Nat → Nat} {N : Nat} {ch : Nat → Nat} (h : Co S β N ch) : 1 ≤ sR S 17 1 ∧ sR S 17 1 ≤ 124 ∧ kc (sR S 17 1) = 10 ∧ ln (sR S 17 1) = 500 := by
  rcases h.2.2.2.2.2.1 with ⟨h, -⟩ | ⟨h, -⟩ <;> rw [h] <;> decide
theorem Co.z0 {S : St} {β : Nat → Nat → Nat} {N : Nat} {ch : Nat → Nat} (h : Co S β N ch) : sR S 17 1 ≠ 0 := by
  rcases h.2.2.2.2.2.1 with ⟨h, -⟩ | ⟨h, -⟩ <;> rw [h] <;> decide
theorem Co.z19 {S : St} {β : Nat → Nat → Nat} {N : Nat} {ch : Nat → Nat} (h : Co S β N ch) : sR S 17 1 = 18 ∨ sR S 17 1 = 19 := by
  rcases h.2.2.2.2.2.1 with ⟨h, -⟩ | ⟨h, -⟩ <;> rw [h] <;> decide
theorem Co.c12 {S : St} {β : Nat → Nat → Nat} {N : Nat} {ch : Nat → Nat} (h : Co S β N ch) {c : Nat} (hc : c < N) : ch c < 4096 := by
  have h1 := (h.2.2.2.2.2.2 c hc).2
  have h2 : 2 ^ β 0 0 ≤ 2 ^ 12 := Nat.pow_le_pow_right (by decide) h.n12
  exact Nat.lt_of_lt_of_le h1 h2
theorem WF.lo {β : Nat → Nat → Nat} (h : WF β) {i : Nat} (hi : i < 12) : β 1 i ≤ 1000 := Nat.le_trans (h.2.1 i hi).1 (h.2.1 i hi).2
/-- the tables' first places stay 0 -/
def ZS (S : St) : Prop := ∀ o, SO o → sI S (o + 1) 0 = 0 ∧ sI S (o + 2) 0 = 0
theorem SumT.z {S : St} {o : Nat} {f : Nat → Nat} (h : SumT S o f) : sI S (o + 1) 0 = 0 ∧ sI S (o + 2) 0 = 0 := by
  have z : ∀ g : Nat → Nat, sm g 0 6 = 0 := fun g => by simp [sm]
  have h1 := h.1 0 (by decide)
  have h2 := h.2 0 (by decide)
  rw [z] at h1 h2
  exact ⟨h1, h2⟩
theorem SO.ne {o q : Nat} (h : SO o) (g : SO q) (hn : o ≠ q) : o + 1 ≠ q + 1 ∧ o + 1 ≠ q + 2 ∧ o + 2 ≠ q + 1 ∧ o + 2 ≠ q + 2 := by
  rcases h with h | h | h | h | h | h <;> rcases g with g | g | g | g | g | g <;> omega
theorem ZS.fill {S S1 : St} {o : Nat} {f : Nat → Nat} (h : ZS S) (ho : SO o) (he : Ex (fun k => k = o + 1 ∨ k = o + 2) S S1) (hT : SumT S1 o f) : ZS S1 := by
  intro q hq
  by_cases e : q = o
  · subst e; exact hT.z
  · obtain ⟨a, b, c, d⟩ := hq.ne ho e
    rw [he.i (by omega), he.i (by omega)]
    exact h q hq
theorem SO.far {o : Nat} (h : SO o) : (o + 1 = 79 ∧ o + 2 = 80) ∨ (o + 1 = 82 ∧ o + 2 = 83) ∨ (o + 1 = 89 ∧ o + 2 = 90) ∨ (o + 1 = 95 ∧ o + 2 = 96) ∨ (o + 1 = 101 ∧ o + 2 = 102) ∨ (o + 1 = 104 ∧ o + 2 = 105) := by
  rcases h with h | h | h | h | h | h <;> omega
theorem ZS.ex {S S1 : St} {P : Nat → Prop} (h : ZS S) (he : Ex P S S1) (hp : ∀ k, P k → ¬ (k = 79 ∨ k = 80 ∨ k = 82 ∨ k = 83 ∨ k = 89 ∨ k = 90 ∨ k = 95 ∨ k = 96 ∨ k = 101 ∨ k = 102 ∨ k = 104 ∨ k = 105)) : ZS S1 := by
  intro o ho
  have hf := ho.far
  rw [he.i (fun z => hp _ z (by omega)), he.i (fun z => hp _ z (by omega))]
  exact h o ho
-- firstLeast
theorem l_first {S : St} {x0 N M : Nat} {f : Nat → Nat} {K : Int32 → St → Prop} (h1 : S.1 = 124) (hx : 1 ≤ x0 ∧ x0 ≤ 124 ∧ kc x0 = 10 ∧ ln x0 = M) (hM : M < 2147483648) (hN : N ≤ M) (hf : ∀ i, i < N → sI S x0 i = nI (f i) ∧ f i < 2147483648) (hK : K (nI (am f N)) S) :
    ∀ (n i : Nat), 0 < i → i ≤ N → N - i < n → wX8_firstLeast_4 K n x0 (nI N) (nI (am f i)) (nI i) S
  | 0, i, _, _, h => absurd h (by omega)
  | n + 1, i, hi0, hi, hn => by
    have ha := am_lt f i hi0
    have ih := l_first h1 hx hM hN hf hK n
    rw [wX8_firstLeast_4]
    refine ⟨fun c => ?_, fun c => ?_⟩
    · rw [ple (by omega) (by omega)] at c
      rw [show i = N by omega]
      exact hK
    · rw [ple (by omega) (by omega)] at c
      refine ⟨fun e => absurd e (neg1_ne (by omega)), fun _ => ⟨ok_A h1 hx (by omega) hM, ok_A h1 hx (by omega) hM, ?_, ?_⟩⟩
      · rw [pcl (by omega), pcl (by omega), (hf _ (by omega)).1, (hf i (by omega)).1, ple (hf _ (by omega)).2 (hf i (by omega)).2]
        intro c2
        unfold wX8_firstLeast_25
        intro x ex
        subst ex
        rw [nI_1]
        have e : am f (i + 1) = am f i := by
          show (if i = 0 then 0 else if f i < f (am f i) then i else am f i) = _
          rw [if_neg (by omega), if_neg (by omega)]
        have := ih (i + 1) (by omega) (by omega) (by omega)
        rw [e] at this
        exact this
      · rw [pcl (by omega), pcl (by omega), (hf _ (by omega)).1, (hf i (by omega)).1, ple (hf _ (by omega)).2 (hf i (by omega)).2]
        intro c2
        unfold wX8_firstLeast_23 wX8_firstLeast_25
        intro x ex
        subst ex
        rw [nI_1]
        have e : am f (i + 1) = i := by
          show (if i = 0 then 0 else if f i < f (am f i) then i else am f i) = _
          rw [if_neg (by omega), if_pos (by omega)]
        have := ih (i + 1) (by omega) (by omega) (by omega)
        rw [e] at this
        exact this
theorem w_first {S : St} {x0 N M : Nat} {f : Nat → Nat} {K : Int32 → St → Prop} (h1 : S.1 = 124) (hx : 1 ≤ x0 ∧ x0 ≤ 124 ∧ kc x0 = 10 ∧ ln x0 = M) (hM : M < 2147483648) (hN : N ≤ M) (hf : ∀ i, i < N → sI S x0 i = nI (f i) ∧ f i < 2147483648) (hK : K (if N = 0 then -1 else nI (am f N)) S) : wX8_firstLeast S x0 (nI N) K := by
  refine ⟨N + 2, ?_⟩
  rw [wX8_firstLeast_4]
  refine ⟨fun c => ?_, fun c => ⟨fun _ => ?_, fun z => absurd rfl z⟩⟩
  · rw [show (0 : Int32) = nI 0 from rfl, ple (by omega) (by omega)] at c
    rw [if_pos (by omega)] at hK
    exact hK
  · rw [show (0 : Int32) = nI 0 from rfl, ple (by omega) (by omega)] at c
    rw [if_neg (by omega)] at hK
    unfold wX8_firstLeast_23 wX8_firstLeast_25
    intro x ex
    rw [show (0 : Int32) = nI 0 from rfl, nI_1] at ex
    subst ex
    exact l_first h1 hx hM hN hf hK (N + 1) 1 (by omega) (by omega) (by omega)
-- bits of a small number
def popc (s : Nat) : Nat := sm (fun _ => 1) s 12
def bcE (x0 : Int32) : Int32 :=
  let a := x0 - (((x0.toUInt32 >>> ((1 : Int32).toUInt32 &&& Int32.toUInt32 31)).toInt32) &&& 1431655765)
  let b := (a &&& 858993459) + (((a.toUInt32 >>> ((2 : Int32).toUInt32 &&& Int32.toUInt32 31)).toInt32) &&& 858993459)
  let c := (b + ((b.toUInt32 >>> ((4 : Int32).toUInt32 &&& Int32.toUInt32 31)).toInt32)) &&& 252645135
  let d := c + ((c.toUInt32 >>> ((8 : Int32).toUInt32 &&& Int32.toUInt32 31)).toInt32)
  let e := d + ((d.toUInt32 >>> ((16 : Int32).toUInt32 &&& Int32.toUInt32 31)).toInt32)
  e &&& 63
set_option maxRecDepth 100000 in
theorem bc_all : (List.range 4096).all (fun s => bcE (nI s) == nI (popc s)) = true := by decide +kernel
theorem w_bc {S : St} {s : Nat} {K : Int32 → St → Prop} (hs : s < 4096) (hK : K (nI (popc s)) S) : wJ6_bitCount_0f7a4 S (nI s) K := by
  have h := List.all_eq_true.mp bc_all s (List.mem_range.mpr hs)
  have h := eq_of_beq h
  unfold wJ6_bitCount_0f7a4
  intro a ea b eb c ec d ed e ee
  rw [← h] at hK
  unfold bcE at hK
  rw [ee, ed, ec, eb, ea]
  exact hK
-- small questions
theorem w_has {S : St} {β : Nat → Nat → Nat} {N : Nat} {ch : Nat → Nat} {x : Int32} {K : Int32 → St → Prop} (h : Co S β N ch) (h1 : ∀ c, c < N → x = nI c → K 1 S) (h0 : (∀ c, c < N → x ≠ nI c) → K 0 S) : wX3_has S 17 x K := by
  refine ⟨ok_O h.1.1 (by decide), ?_⟩
  rw [h.2.2.2.1]
  exact w_within (by have := h.2.2.2.2.1; omega) (fun c hc e => ⟨rfl, h1 c hc e⟩) (fun z => ⟨rfl, h0 z⟩)
theorem w_hasW {S : St} {c : Nat} {β : Nat → Nat → Nat} {x : Int32} {K : Int32 → St → Prop} (h1 : S.1 = 124) (hc : 1 ≤ c ∧ c ≤ 124 ∧ kc c = 0) (hb : CB S c β) (hw : WF β) (k1 : ∀ w, w < 8 → x = nI w → (β 0 3).testBit w = true → K 1 S) (k0 : (∀ w, w < 8 → x = nI w → (β 0 3).testBit w = false) → K 0 S) : wX0_hasWorld S c x K := by
  have h3 := hw.1.2.2.2
  refine w_within (m := 8) (by decide) (fun w hw e => ⟨fun z => absurd z (by decide), fun _ => ⟨ok_O h1 hc, ?_, ?_⟩⟩) (fun z => ⟨fun _ => k0 (fun w hw e => absurd e (z w hw)), fun z => absurd rfl z⟩)
  · rw [e, hb.1 3 (by decide), pbit0 (by omega) (by omega)]
    intro hf
    refine k0 (fun w2 hw2 e2 => ?_)
    rw [e, peq (by omega) (by omega)] at e2
    rw [← e2]; exact hf
  · rw [e, hb.1 3 (by decide), pbit0 (by omega) (by omega)]
    intro hf
    exact k1 w hw e (by cases hq : (β 0 3).testBit w with | true => rfl | false => exact absurd hq hf)
theorem w_beyond {S : St} {β : Nat → Nat → Nat} {N : Nat} {ch : Nat → Nat} {x : Int32} {K : Int32 → St → Prop} (h : Co S β N ch) (k0 : ∀ u, u < 2 ^ β 0 0 → x = nI u → K 0 S) (k1 : (∀ u, u < 2 ^ β 0 0 → x ≠ nI u) → K 1 S) : wX8_isBeyondThings S 1 x K := by
  have hr := h.1
  have hn := h.n12
  have hp : 2 ^ β 0 0 ≤ 2 ^ 12 := Nat.pow_le_pow_right (by decide) hn
  unfold wX8_isBeyondThings
  rw [rt1_0 hr, h.2.1.1 0 (by decide), psh (by omega)]
  refine ⟨⟨ok_O hr.1 (by decide), by decide⟩, ok_O hr.1 (by decide), w_within (by omega) (fun u hu e => ⟨fun z => absurd z (by decide), fun _ => k0 u hu e⟩) (fun z => ⟨fun _ => k1 z, fun z => absurd rfl z⟩)⟩
theorem w_thing {S : St} {β : Nat → Nat → Nat} {N : Nat} {ch : Nat → Nat} {x : Int32} {K : Int32 → St → Prop} (h : Co S β N ch) (k1 : ∀ t, t < β 0 0 → x = nI t → K 1 S) (k0 : (∀ t, t < β 0 0 → x ≠ nI t) → K 0 S) : wX8_isThing S 1 x K := by
  have hr := h.1
  have hn := h.n12
  unfold wX8_isThing
  rw [rt1_0 hr, h.2.1.1 0 (by decide)]
  exact ⟨⟨ok_O hr.1 (by decide), by decide⟩, ok_O hr.1 (by decide), w_within (by omega) (fun t ht e => ⟨rfl, k1 t ht e⟩) (fun z => ⟨rfl, k0 z⟩)⟩
