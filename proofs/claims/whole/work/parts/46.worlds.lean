theorem ilt {a b x y : Nat} (ha : a < 2147483648) (hb : b < 2147483648) : (if nI a < nI b then nI x else nI y) = nI (if a < b then x else y) := by
  by_cases h : a < b
  · rw [if_pos h, if_pos (by rw [plt ha hb]; exact h)]
  · rw [if_neg h, if_neg (by rw [plt ha hb]; exact h)]
def wc (β : Nat → Nat → Nat) (w s : Nat) : Nat := sm (β (6 + w)) s 12
theorem wc_le {β : Nat → Nat → Nat} (h : WF β) {w : Nat} (hw : w < 8) (s : Nat) : wc β w s ≤ 12000 := sm_le (f := β (6 + w)) (M := 1000) (n := 12) (fun t ht => h.2.2.2.2.1 w hw t ht)
theorem rt8w : ∀ w, w < 8 → rt 8 w = 9 + w ∧ kc (9 + w) = 10 ∧ ln (9 + w) = 12 := by decide
theorem r8w {S : St} (hr : RT S) {w : Nat} (hw : w < 8) : sR S 8 w = 9 + w := by
  have h := (rt8w w hw).1
  rw [← h]
  exact hr.2 8 w (by omega)
theorem c9w {w : Nat} (hw : w < 8) : 1 ≤ 9 + w ∧ 9 + w ≤ 124 ∧ kc (9 + w) = 10 ∧ ln (9 + w) = 12 := ⟨by omega, by omega, (rt8w w hw).2.1, (rt8w w hw).2.2⟩
theorem CS.fill {S S1 : St} {β : Nat → Nat → Nat} {N o : Nat} {ch f : Nat → Nat} (h : CS S β N ch) (ho : SO o) (h88 : 88 ≤ o) (he : Ex (fun k => k = o + 1 ∨ k = o + 2) S S1) (hT : SumT S1 o f) : CS S1 β N ch :=
  ⟨h.1.ex he (fun k hk => by omega), h.2.1.ex he (fun k hk => by omega), h.2.2.fill ho he hT⟩
theorem l_there {S : St} {β : Nat → Nat → Nat} {N w : Nat} {ch : Nat → Nat} {K : Int32 → St → Prop} (h : CS S β N ch) (hT : SumT S 88 (β (6 + w))) (hK : ∀ S1, Ex (fun k => k = 91) S S1 → (∀ c, c < N → sI S1 91 c = nI (wc β w (ch c))) → wX2_cheapestThere_57 K 87 S1) :
    ∀ (n i : Nat) (S1 : St), i ≤ N → N - i < n → Ex (fun k => k = 91) S S1 → (∀ c, c < i → sI S1 91 c = nI (wc β w (ch c))) → wX2_cheapestThere_18 K n 87 (nI i) S1
  | 0, i, S1, _, h, _, _ => absurd h (by omega)
  | n + 1, i, S1, hi, hn, hE, hI => by
    have h1 := h.1.ex hE (fun k hk => by omega)
    have hr := h1.1
    have hN := h1.2.2.2.2.1
    rw [wX2_cheapestThere_18, rt87_1 hr, h1.2.2.2.1]
    refine ⟨⟨ok_O hr.1 (by decide), by decide⟩, ok_O hr.1 (by decide), fun c => ?_, fun c => ?_⟩
    · rw [ple (by omega) (by omega)] at c
      exact hK S1 hE (fun q hq => hI q (by omega))
    · rw [ple (by omega) (by omega)] at c
      rw [rt87_3 hr, rt87_2 hr, pcl (by omega), (h1.2.2.2.2.2.2 i (by omega)).1]
      refine ⟨by decide, by decide, h1.z0, ok_A hr.1 h1.z (by omega) (by decide), ok_O hr.1 (by decide), ?_⟩
      refine w_total hr so88 (hT.ex hE (by decide) (by decide)) (h1.c12 (by omega)) ?_
      refine ⟨ok_A (N := 500) hr.1 (by decide) (by omega) (by decide), ?_⟩
      intro S2 e2 x ex
      subst ex
      rw [nI_1]
      refine l_there h hT hK n (i + 1) S2 (by omega) (by omega) (by rw [e2]; exact hE.pI rfl) (fun q hq => ?_)
      by_cases e : q = i
      · subst e
        rw [e2, sI_s]
        rfl
      · rw [e2, sI_n e]
        exact hI q (by omega)
def P88 (k : Nat) : Prop := k = 89 ∨ k = 90 ∨ k = 91
theorem w_there {S : St} {β : Nat → Nat → Nat} {N w : Nat} {ch : Nat → Nat} {K : Int32 → St → Prop} (h : CS S β N ch) (hw : w < 8) (hK : ∀ S1, Ex P88 S S1 → CS S1 β N ch → (∀ c, c < N → sI S1 91 c = nI (wc β w (ch c))) → K (if N = 0 then -1 else nI (am (fun c => wc β w (ch c)) N)) S1) : wX2_cheapestThere S 87 (nI w) K := by
  have hr := h.1.1
  unfold wX2_cheapestThere
  rw [rt87_2 hr, rt87_0 hr, rt2_9 hr, pcl (by omega), r8w hr hw]
  refine ⟨⟨ok_O hr.1 (by decide), by decide⟩, by decide, ⟨ok_O hr.1 (by decide), by decide⟩, ⟨ok_A (N := 8) hr.1 (by decide) hw (by decide), by omega⟩, ok_O hr.1 (by decide), ?_⟩
  refine w_fill (f := β (6 + w)) hr so88 (c9w hw) (by omega) (fun q hq => ?_) (h.2.2 88 so88) (fun S1 hE hT => ?_)
  · have := h.1.2.1.2.2 w hw q hq
    rw [show 2 + 7 + w = 9 + w by omega] at this
    exact this
  · have h1 := h.fill so88 (by decide) hE hT
    refine ⟨N + 1, l_there h1 hT (fun S2 hE2 hI => ?_) (N + 1) 0 S1 (by omega) (by omega) Ex.rf (fun q hq => absurd hq (by omega))⟩
    have h2 := h1.ex hE2 (fun k hk => by omega)
    have hr2 := h2.1.1
    unfold wX2_cheapestThere_57
    rw [rt87_3 hr2, rt87_1 hr2, h2.1.2.2.2.1]
    refine ⟨⟨ok_O hr2.1 (by decide), by decide⟩, by decide, ok_O hr2.1 (by decide), ?_⟩
    exact w_first (M := 500) hr2.1 (by decide) (by decide) h2.1.2.2.2.2.1 (fun c hc => ⟨hI c hc, by have := wc_le h2.1.2.2.1 hw (ch c); omega⟩) (hK S2 ((hE.mo (fun k hk => by unfold P88; omega)).tr (hE2.mo (fun k hk => by unfold P88; omega))) h2 hI)
def ruW (β : Nat → Nat → Nat) (N : Nat) (ch : Nat → Nat) (w c : Nat) : Nat := wc β w (ch c) - wc β w (ch (am (fun x => wc β w (ch x)) N))
def mxW (β : Nat → Nat → Nat) (N : Nat) (ch : Nat → Nat) (c : Nat) : Nat → Nat
  | 0 => 0
  | w + 1 => if (β 0 3).testBit w then (if mxW β N ch c w < ruW β N ch w c then ruW β N ch w c else mxW β N ch c w) else mxW β N ch c w
theorem ruW_le {β : Nat → Nat → Nat} (h : WF β) (N : Nat) (ch : Nat → Nat) {w : Nat} (hw : w < 8) (c : Nat) : ruW β N ch w c ≤ 12000 := by
  have := wc_le h hw (ch c)
  unfold ruW
  omega
theorem mxW_le {β : Nat → Nat → Nat} (h : WF β) (N : Nat) (ch : Nat → Nat) (c : Nat) : ∀ w, w ≤ 8 → mxW β N ch c w ≤ 12000
  | 0, _ => Nat.zero_le _
  | w + 1, hw => by
    have h1 := mxW_le h N ch c w (by omega)
    have h2 := ruW_le h N ch (w := w) (by omega) c
    unfold mxW
    split
    · split <;> omega
    · exact h1
theorem l_rueT {S : St} {β : Nat → Nat → Nat} {N w : Nat} {ch : Nat → Nat} {K : St → Prop} (h : CS S β N ch) (hw : w < 8) (hrow : ∀ c, c < N → sI S 91 c = nI (wc β w (ch c))) (h0 : ∀ c, c < N → sI S 92 c = nI (mxW β N ch c w)) (hp : 0 < N) (ht : (β 0 3).testBit w = true) (hK : ∀ S1, Ex (fun k => k = 92) S S1 → (∀ c, c < N → sI S1 92 c = nI (mxW β N ch c (w + 1))) → K S1) :
    ∀ (n i : Nat) (S1 : St), i ≤ N → N - i < n → Ex (fun k => k = 92) S S1 → (∀ c, c < i → sI S1 92 c = nI (mxW β N ch c (w + 1))) → (∀ c, i ≤ c → c < N → sI S1 92 c = nI (mxW β N ch c w)) → wX2_rueThere_8 K n 87 (nI (am (fun x => wc β w (ch x)) N)) (nI i) S1
  | 0, i, S1, _, h, _, _, _ => absurd h (by omega)
  | n + 1, i, S1, hi, hn, hE, hI, hJ => by
    have h1 := h.1.ex hE (fun k hk => by omega)
    have hr := h1.1
    have hN := h1.2.2.2.2.1
    have ha := am_lt (fun x => wc β w (ch x)) N hp
    rw [wX2_rueThere_8]
    refine ⟨fun z => absurd z (neg1_ne (by omega)), fun _ => ?_⟩
    rw [rt87_1 hr, h1.2.2.2.1]
    refine ⟨⟨ok_O hr.1 (by decide), by decide⟩, ok_O hr.1 (by decide), fun c => ?_, fun c => ?_⟩
    · rw [ple (by omega) (by omega)] at c
      exact hK S1 hE (fun q hq => hI q (by omega))
    · rw [ple (by omega) (by omega)] at c
      rw [rt87_4 hr, rt87_3 hr, pcl (by omega), pcl (by omega)]
      have r1 : sI S1 91 i = nI (wc β w (ch i)) := by rw [hE.i (by decide)]; exact hrow i (by omega)
      have r2 : sI S1 91 (am (fun x => wc β w (ch x)) N) = nI (wc β w (ch (am (fun x => wc β w (ch x)) N))) := by rw [hE.i (by decide)]; exact hrow _ ha
      have hle : wc β w (ch (am (fun x => wc β w (ch x)) N)) ≤ wc β w (ch i) := am_le (fun x => wc β w (ch x)) N i (by omega)
      have b1 := mxW_le h.1.2.2.1 N ch i w (by omega)
      have b2 := ruW_le h.1.2.2.1 N ch hw i
      rw [r1, r2, pk_sub hle, hJ i (by omega) (by omega)]
      refine ⟨by decide, ok_A (N := 500) hr.1 (by decide) (by omega) (by decide), by decide, ok_A (N := 500) hr.1 (by decide) (by omega) (by decide), ok_A (N := 500) hr.1 (by decide) (by omega) (by decide), ?_⟩
      intro S2 e2 x ex
      subst ex
      rw [nI_1]
      refine l_rueT h hw hrow h0 hp ht hK n (i + 1) S2 (by omega) (by omega) (by rw [e2]; exact hE.pI rfl) (fun q hq => ?_) (fun q hq1 hq2 => ?_)
      · by_cases e : q = i
        · subst e
          rw [e2, sI_s]
          show (if nI _ < nI (ruW β N ch w q) then nI (ruW β N ch w q) else _) = nI (if (β 0 3).testBit w then (if mxW β N ch q w < ruW β N ch w q then ruW β N ch w q else mxW β N ch q w) else mxW β N ch q w)
          rw [if_pos ht]
          exact ilt (by omega) (by omega)
        · rw [e2, sI_n e]
          exact hI q (by omega)
      · rw [e2, sI_n (by omega)]
        exact hJ q (by omega) hq2
theorem w_rueT {S : St} {β : Nat → Nat → Nat} {N w : Nat} {ch : Nat → Nat} {K : St → Prop} (h : CS S β N ch) (hw : w < 8) (h0 : ∀ c, c < N → sI S 92 c = nI (mxW β N ch c w)) (ht : (β 0 3).testBit w = true) (hK : ∀ S1, Ex (fun k => P88 k ∨ k = 92) S S1 → CS S1 β N ch → (∀ c, c < N → sI S1 92 c = nI (mxW β N ch c (w + 1))) → K S1) : wX2_rueThere S 87 (nI w) K := by
  refine ⟨ok_O h.1.1.1 (by decide), w_there h hw (fun S1 hE h1 hrow => ?_)⟩
  by_cases e : N = 0
  · rw [if_pos e]
    refine ⟨1, ?_⟩
    rw [wX2_rueThere_8]
    exact ⟨fun _ => hK S1 (hE.mo (fun k hk => Or.inl hk)) h1 (fun c hc => absurd hc (by omega)), fun z => absurd rfl z⟩
  · rw [if_neg e]
    have h01 : ∀ c, c < N → sI S1 92 c = nI (mxW β N ch c w) := fun c hc => by rw [hE.i (by unfold P88; decide)]; exact h0 c hc
    refine ⟨N + 1, l_rueT h1 hw hrow h01 (by omega) ht (fun S2 hE2 hI => ?_) (N + 1) 0 S1 (by omega) (by omega) Ex.rf (fun q hq => absurd hq (by omega)) (fun q _ hq => h01 q hq)⟩
    exact hK S2 ((hE.mo (fun k hk => Or.inl hk)).tr (hE2.mo (fun k hk => Or.inr hk))) (h1.ex hE2 (fun k hk => by omega)) hI
theorem l_zero {S : St} {x0 M : Nat} {K : St → Prop} (h1 : S.1 = 124) (hx : 1 ≤ x0 ∧ x0 ≤ 124 ∧ kc x0 = 10 ∧ ln x0 = M) (hM : M < 2147483648) (hK : ∀ S1, Ex (fun k => k = x0) S S1 → (∀ c, c < M → sI S1 x0 c = 0) → K S1) :
    ∀ (n i : Nat) (S1 : St), i ≤ M → M - i < n → Ex (fun k => k = x0) S S1 → (∀ c, c < i → sI S1 x0 c = 0) → wJ7_fill_53178_5 K n x0 0 (nI i) (nI M) S1
  | 0, i, S1, _, h, _, _ => absurd h (by omega)
  | n + 1, i, S1, hi, hn, hE, hI => by
    rw [wJ7_fill_53178_5]
    refine ⟨fun c => ?_, fun c => ?_⟩
    · rw [ple (by omega) (by omega)] at c
      exact hK S1 hE (fun q hq => hI q (by omega))
    · rw [ple (by omega) (by omega)] at c
      refine ⟨ok_A (hE.1.trans h1) hx (by omega) hM, ?_⟩
      intro S2 e2 x ex
      subst ex
      rw [pcl (by omega)] at e2
      rw [nI_1]
      refine l_zero h1 hx hM hK n (i + 1) S2 (by omega) (by omega) (by rw [e2]; exact hE.pI rfl) (fun q hq => ?_)
      by_cases e : q = i
      · subst e; rw [e2, sI_s]
      · rw [e2, sI_n e]; exact hI q (by omega)
theorem w_zero {S : St} {x0 M : Nat} {K : St → Prop} (h1 : S.1 = 124) (hx : 1 ≤ x0 ∧ x0 ≤ 124 ∧ kc x0 = 10 ∧ ln x0 = M) (hM : M < 2147483648) (hK : ∀ S1, Ex (fun k => k = x0) S S1 → (∀ c, c < M → sI S1 x0 c = 0) → K S1) : wJ7_fill_53178 S x0 0 K := by
  refine ⟨ok_O h1 ⟨hx.1, hx.2.1, hx.2.2.1⟩, ?_⟩
  intro x ex
  rw [hx.2.2.2] at ex
  subst ex
  exact ⟨M + 1, l_zero h1 hx hM hK (M + 1) 0 S (by omega) (by omega) Ex.rf (fun q hq => absurd hq (by omega))⟩
def P92 (k : Nat) : Prop := P88 k ∨ k = 92
theorem l_ruA {S : St} {β : Nat → Nat → Nat} {N : Nat} {ch : Nat → Nat} {K : St → Prop} (hK : ∀ S1, Ex P92 S S1 → CS S1 β N ch → (∀ c, c < N → sI S1 92 c = nI (mxW β N ch c 8)) → K S1) :
    ∀ (n w : Nat) (S1 : St), w ≤ 8 → 8 - w < n → Ex P92 S S1 → CS S1 β N ch → (∀ c, c < N → sI S1 92 c = nI (mxW β N ch c w)) → wX2_rueAll_10 K n 87 (nI w) S1
  | 0, w, S1, _, h, _, _, _ => absurd h (by omega)
  | n + 1, w, S1, hw, hn, hE, h1, hI => by
    have hr := h1.1.1
    rw [wX2_rueAll_10]
    refine ⟨fun c => ?_, fun c => ?_⟩
    · rw [show (8 : Int32) = nI 8 from rfl, ple (by decide) (by omega)] at c
      have e : w = 8 := by omega
      subst e
      exact hK S1 hE h1 hI
    · rw [show (8 : Int32) = nI 8 from rfl, ple (by decide) (by omega)] at c
      rw [rt87_0 hr]
      refine ⟨⟨ok_O hr.1 (by decide), by decide⟩, ok_O hr.1 (by decide), ?_⟩
      refine w_hasW hr.1 (by decide) h1.1.2.1 h1.1.2.2.1 (fun w2 hw2 e ht => ?_) (fun hf => ?_)
      · rw [peq (by omega) (by omega)] at e
        subst e
        refine ⟨fun z => absurd z (by decide), fun _ => ⟨ok_O hr.1 (by decide), ?_⟩⟩
        refine w_rueT h1 (by omega) hI ht (fun S2 hE2 h2 hI2 => ?_)
        intro x ex
        subst ex
        rw [nI_1]
        exact l_ruA hK n (w + 1) S2 (by omega) (by omega) (hE.tr hE2) h2 hI2
      · have hf := hf w (by omega) rfl
        refine ⟨fun _ => ?_, fun z => absurd rfl z⟩
        intro x ex
        subst ex
        rw [nI_1]
        refine l_ruA hK n (w + 1) S1 (by omega) (by omega) hE h1 (fun c hc => ?_)
        show _ = nI (if (β 0 3).testBit w then _ else _)
        rw [if_neg (by rw [hf]; decide)]
        exact hI c hc
theorem w_ruA {S : St} {β : Nat → Nat → Nat} {N : Nat} {ch : Nat → Nat} {K : St → Prop} (h : CS S β N ch) (hK : ∀ S1, Ex P92 S S1 → CS S1 β N ch → (∀ c, c < N → sI S1 92 c = nI (mxW β N ch c 8)) → K S1) : wX2_rueAll S 87 K := by
  have hr := h.1.1
  unfold wX2_rueAll
  rw [rt87_4 hr]
  refine ⟨⟨ok_O hr.1 (by decide), by decide⟩, w_zero (M := 500) hr.1 (by decide) (by decide) (fun S1 hE hz => ?_)⟩
  exact ⟨9, l_ruA hK 9 0 S1 (by omega) (by omega) (hE.mo (fun k hk => Or.inr hk)) (h.ex hE (fun k hk => by omega)) (fun c hc => hz c (by have := h.1.2.2.2.2.1; omega))⟩
theorem w_rueOf {S : St} {β : Nat → Nat → Nat} {N c : Nat} {ch : Nat → Nat} {K : Int32 → St → Prop} (h : CS S β N ch) (hc : c < N) (hK : ∀ S1, Ex P92 S S1 → CS S1 β N ch → K (nI (mxW β N ch c 8)) S1) : wX2_greatestRue S 87 (nI c) K := by
  refine ⟨ok_O h.1.1.1 (by decide), w_ruA h (fun S1 hE h1 hI => ?_)⟩
  have hr := h1.1.1
  have hN := h1.1.2.2.2.2.1
  rw [rt87_4 hr, pcl (by omega), hI c hc]
  exact ⟨⟨ok_O hr.1 (by decide), by decide⟩, ok_A (N := 500) hr.1 (by decide) (by omega) (by decide), hK S1 hE h1⟩
theorem w_bestOf {S : St} {β : Nat → Nat → Nat} {N : Nat} {ch : Nat → Nat} {K : Int32 → St → Prop} (h : CS S β N ch) (hK : ∀ S1, Ex P92 S S1 → CS S1 β N ch → K (if N = 0 then -1 else nI (am (fun c => mxW β N ch c 8) N)) S1) : wX2_leastRued S 87 K := by
  refine ⟨ok_O h.1.1.1 (by decide), w_ruA h (fun S1 hE h1 hI => ?_)⟩
  have hr := h1.1.1
  rw [rt87_4 hr, rt87_1 hr, h1.1.2.2.2.1]
  refine ⟨⟨ok_O hr.1 (by decide), by decide⟩, by decide, ok_O hr.1 (by decide), ?_⟩
  exact w_first (M := 500) hr.1 (by decide) (by decide) h1.1.2.2.2.2.1 (fun c hc => ⟨hI c hc, by have := mxW_le h1.1.2.2.1 N ch c 8 (by decide); omega⟩) (hK S1 hE h1)
-- TWO STEPS, one set
def laW (β : Nat → Nat → Nat) (N : Nat) (ch : Nat → Nat) (u w : Nat) : Nat := mn (fun c => wc β w (sdf (ch c) u)) 1000000 N
def mxL (β : Nat → Nat → Nat) (N : Nat) (ch : Nat → Nat) (u : Nat) : Nat → Nat
  | 0 => 0
  | w + 1 => if (β 0 3).testBit w then (if mxL β N ch u w < laW β N ch u w then laW β N ch u w else mxL β N ch u w) else mxL β N ch u w
def twv (β : Nat → Nat → Nat) (N : Nat) (ch : Nat → Nat) (u : Nat) : Nat := sm (β 5) u 12 + mxL β N ch u 8
theorem laW_le (β : Nat → Nat → Nat) (N : Nat) (ch : Nat → Nat) (u w : Nat) : laW β N ch u w ≤ 1000000 := (mn_le _ _ N).1
theorem mxL_le (β : Nat → Nat → Nat) (N : Nat) (ch : Nat → Nat) (u : Nat) : ∀ w, mxL β N ch u w ≤ 1000000
  | 0 => Nat.zero_le _
  | w + 1 => by
    have h1 := mxL_le β N ch u w
    have h2 := laW_le β N ch u w
    unfold mxL
    split
    · split <;> omega
    · exact h1
theorem l_later {S : St} {β : Nat → Nat → Nat} {N w u : Nat} {ch : Nat → Nat} {K : Int32 → St → Prop} (h : CS S β N ch) (hT : SumT S 100 (β (6 + w))) (hw : w < 8) (hK : K (nI (laW β N ch u w)) S) :
    ∀ (n i : Nat), i ≤ N → N - i < n → wX6_leastLater_22 K n 99 (nI u) (nI (mn (fun c => wc β w (sdf (ch c) u)) 1000000 i)) (nI i) S
  | 0, i, _, h => absurd h (by omega)
  | n + 1, i, hi, hn => by
    have hr := h.1.1
    have hN := h.1.2.2.2.2.1
    have ih := l_later h hT hw hK n
    rw [wX6_leastLater_22, rt99_1 hr, h.1.2.2.2.1]
    refine ⟨⟨ok_O hr.1 (by decide), by decide⟩, ok_O hr.1 (by decide), fun c => ?_, fun c => ?_⟩
    · rw [ple (by omega) (by omega)] at c
      have e : i = N := by omega
      subst e
      exact hK
    · rw [ple (by omega) (by omega)] at c
      rw [rt99_2 hr, pcl (by omega), (h.1.2.2.2.2.2.2 i (by omega)).1, pdf]
      refine ⟨by decide, h.1.z0, ok_A hr.1 h.1.z (by omega) (by decide), ok_O hr.1 (by decide), ?_⟩
      refine w_total hr so100 hT (sdf_lt (n := 12) (h.1.c12 (by omega))) ?_
      intro x3 e3 x ex
      subst ex
      rw [nI_1]
      have b1 := (mn_le (fun c => wc β w (sdf (ch c) u)) 1000000 i).1
      have b2 := wc_le h.1.2.2.1 hw (sdf (ch i) u)
      have e : x3 = nI (mn (fun c => wc β w (sdf (ch c) u)) 1000000 (i + 1)) := by
        rw [e3]
        show (if nI (wc β w (sdf (ch i) u)) < _ then nI (wc β w (sdf (ch i) u)) else _) = nI (if wc β w (sdf (ch i) u) < _ then _ else _)
        exact ilt (by omega) (by omega)
      rw [e]
      exact ih (i + 1) (by omega) (by omega)
def P101 (k : Nat) : Prop := k = 101 ∨ k = 102 ∨ k = 104 ∨ k = 105
theorem w_later {S : St} {β : Nat → Nat → Nat} {N w u : Nat} {ch : Nat → Nat} {K : Int32 → St → Prop} (h : CS S β N ch) (hw : w < 8) (hK : ∀ S1, Ex P101 S S1 → CS S1 β N ch → K (nI (laW β N ch u w)) S1) : wX6_leastLater S 99 (nI w) (nI u) K := by
  have hr := h.1.1
  unfold wX6_leastLater
  rw [rt99_2 hr, rt99_0 hr, rt2_9 hr, pcl (by omega), r8w hr hw]
  refine ⟨⟨ok_O hr.1 (by decide), by decide⟩, by decide, ⟨ok_O hr.1 (by decide), by decide⟩, ⟨ok_A (N := 8) hr.1 (by decide) hw (by decide), by omega⟩, ok_O hr.1 (by decide), ?_⟩
  refine w_fill (f := β (6 + w)) hr so100 (c9w hw) (by omega) (fun q hq => ?_) (h.2.2 100 so100) (fun S1 hE hT => ?_)
  · have := h.1.2.1.2.2 w hw q hq
    rw [show 2 + 7 + w = 9 + w by omega] at this
    exact this
  · have h1 := h.fill so100 (by decide) hE hT
    exact ⟨N + 1, l_later h1 hT hw (hK S1 (hE.mo (fun k hk => by unfold P101; omega)) h1) (N + 1) 0 (by omega) (by omega)⟩
theorem l_with {S : St} {β : Nat → Nat → Nat} {N u : Nat} {ch : Nat → Nat} {K : Int32 → St → Prop} (hK : ∀ S1, Ex P101 S S1 → CS S1 β N ch → wX6_dearestWith_38 K 99 (nI u) (nI (mxL β N ch u 8)) S1) :
    ∀ (n w : Nat) (S1 : St), w ≤ 8 → 8 - w < n → Ex P101 S S1 → CS S1 β N ch → wX6_dearestWith_4 K n 99 (nI u) (nI (mxL β N ch u w)) (nI w) S1
  | 0, w, S1, _, h, _, _ => absurd h (by omega)
  | n + 1, w, S1, hw, hn, hE, h1 => by
    have hr := h1.1.1
    rw [wX6_dearestWith_4]
    refine ⟨fun c => ?_, fun c => ?_⟩
    · rw [show (8 : Int32) = nI 8 from rfl, ple (by decide) (by omega)] at c
      have e : w = 8 := by omega
      subst e
      exact hK S1 hE h1
    · rw [show (8 : Int32) = nI 8 from rfl, ple (by decide) (by omega)] at c
      rw [rt99_0 hr]
      refine ⟨⟨ok_O hr.1 (by decide), by decide⟩, ok_O hr.1 (by decide), ?_⟩
      refine w_hasW hr.1 (by decide) h1.1.2.1 h1.1.2.2.1 (fun w2 hw2 e ht => ?_) (fun hf => ?_)
      · rw [peq (by omega) (by omega)] at e
        subst e
        refine ⟨fun z => absurd z (by decide), fun _ => ⟨ok_O hr.1 (by decide), ?_⟩⟩
        refine w_later h1 (by omega) (fun S2 hE2 h2 => ?_)
        intro x2 e2 x ex
        subst ex
        rw [nI_1]
        have b1 := mxL_le β N ch u w
        have b2 := laW_le β N ch u w
        have e : x2 = nI (mxL β N ch u (w + 1)) := by
          rw [e2]
          show _ = nI (if (β 0 3).testBit w then _ else _)
          rw [if_pos ht]
          exact ilt (by omega) (by omega)
        rw [e]
        exact l_with hK n (w + 1) S2 (by omega) (by omega) (hE.tr hE2) h2
      · have hf := hf w (by omega) rfl
        refine ⟨fun _ => ?_, fun z => absurd rfl z⟩
        intro x ex
        subst ex
        rw [nI_1]
        have e : mxL β N ch u (w + 1) = mxL β N ch u w := by
          show (if (β 0 3).testBit w then _ else _) = _
          rw [if_neg (by rw [hf]; decide)]
        rw [← e]
        exact l_with hK n (w + 1) S1 (by omega) (by omega) hE h1
theorem w_with {S : St} {β : Nat → Nat → Nat} {N u : Nat} {ch : Nat → Nat} {K : Int32 → St → Prop} (h : CS S β N ch) (hu : u < 4096) (hK : ∀ S1, Ex P101 S S1 → CS S1 β N ch → K (nI (twv β N ch u)) S1) : wX6_dearestWith S 99 (nI u) K := by
  refine ⟨9, l_with (fun S1 hE h1 => ?_) 9 0 S (by omega) (by omega) Ex.rf h⟩
  have hr := h1.1.1
  unfold wX6_dearestWith_38
  rw [rt99_3 hr, rt99_0 hr, rt2_8 hr]
  refine ⟨⟨ok_O hr.1 (by decide), by decide⟩, by decide, ⟨ok_O hr.1 (by decide), by decide⟩, ok_O hr.1 (by decide), ?_⟩
  refine w_fill (f := β 5) hr so103 (by decide) (by decide) (fun q hq => h1.1.2.1.2.1 4 (by decide) q hq) (h1.2.2 103 so103) (fun S2 hE2 hT => ?_)
  have h2 := h1.fill so103 (by decide) hE2 hT
  have hr2 := h2.1.1
  rw [rt99_3 hr2]
  refine ⟨⟨ok_O hr2.1 (by decide), by decide⟩, ok_O hr2.1 (by decide), w_total hr2 so103 hT hu ?_⟩
  rw [nI_add]
  exact hK S2 (hE.tr (hE2.mo (fun k hk => by unfold P101; omega))) h2
