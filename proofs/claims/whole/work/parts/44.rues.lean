def mn (f : Nat → Nat) (d : Nat) : Nat → Nat
  | 0 => d
  | n + 1 => if f n < mn f d n then f n else mn f d n
theorem mn_le (f : Nat → Nat) (d : Nat) : ∀ n, mn f d n ≤ d ∧ ∀ j, j < n → mn f d n ≤ f j
  | 0 => ⟨Nat.le_refl _, fun j h => absurd h (by omega)⟩
  | n + 1 => by
    obtain ⟨h1, h2⟩ := mn_le f d n
    unfold mn
    by_cases c : f n < mn f d n
    · rw [if_pos c]
      refine ⟨by omega, fun j hj => ?_⟩
      by_cases e : j = n
      · subst e; exact Nat.le_refl _
      · have := h2 j (by omega); omega
    · rw [if_neg c]
      refine ⟨h1, fun j hj => ?_⟩
      by_cases e : j = n
      · subst e; omega
      · exact h2 j (by omega)
theorem mn_is (f : Nat → Nat) (d : Nat) : ∀ n, mn f d n = d ∨ ∃ j, j < n ∧ mn f d n = f j
  | 0 => Or.inl rfl
  | n + 1 => by
    unfold mn
    by_cases c : f n < mn f d n
    · rw [if_pos c]; exact Or.inr ⟨n, by omega, rfl⟩
    · rw [if_neg c]
      rcases mn_is f d n with h | ⟨j, h1, h2⟩
      · exact Or.inl h
      · exact Or.inr ⟨j, by omega, h2⟩
theorem mn_am {f : Nat → Nat} {d n c : Nat} (hc : c < n) (hd : f c = d) : mn f d n = f (am f n) := by
  have h1 := mn_le f d n
  have h2 := am_le f n
  have h3 := h1.2 (am f n) (am_lt f n (by omega))
  rcases mn_is f d n with h | ⟨j, hj, h⟩
  · have := h2 c hc; omega
  · have := h2 j hj; omega
theorem and_self' (s : Nat) : s &&& s = s := Nat.and_self s
theorem l_rue {S : St} {β : Nat → Nat → Nat} {N c d : Nat} {ch : Nat → Nat} {K : Int32 → St → Prop} (h : Co S β N ch) (hs : SU S β N ch) (hd : d ≤ 24000) (hK : K (nI d - nI (mn (fun x => cst β (ch x) (ch c)) d N)) S) :
    ∀ (n i : Nat), i ≤ N → N - i < n → wX1_rueInWorst_32 K n 76 (nI (ch c)) (nI d) (nI (mn (fun x => cst β (ch x) (ch c)) d i)) (nI i) S
  | 0, i, _, h => absurd h (by omega)
  | n + 1, i, hi, hn => by
    have hr := h.1
    have hN := h.2.2.2.2.1
    have hm := (mn_le (fun x => cst β (ch x) (ch c)) d i).1
    have ih := l_rue h hs hd hK n
    rw [wX1_rueInWorst_32, rt76_1 hr, h.2.2.2.1]
    refine ⟨⟨ok_O hr.1 (by decide), by decide⟩, ok_O hr.1 (by decide), fun c1 => ?_, fun c1 => ?_⟩
    · rw [ple (by omega) (by omega)] at c1
      have e : i = N := by omega
      subst e
      exact hK
    · rw [ple (by omega) (by omega)] at c1
      have hl := lowc_le h.2.2.1 (ch i)
      have hcs := cst_le h.2.2.1 (ch i) (ch c)
      rw [rt76_5 hr, rt76_4 hr, pcl (by omega), (h.2.2.2.2.2.2 i (by omega)).1, pan, hs.2.2.2 i (by omega)]
      refine ⟨by decide, ok_A (N := 500) hr.1 (by decide) (by omega) (by decide), fun c2 => ?_, fun c2 => ?_⟩
      · rw [ple (by omega) (by omega)] at c2
        intro x ex
        subst ex
        rw [nI_1]
        have e : mn (fun x => cst β (ch x) (ch c)) d (i + 1) = mn (fun x => cst β (ch x) (ch c)) d i := by
          show (if cst β (ch i) (ch c) < _ then _ else _) = _
          have hge : lowc β (ch i) ≤ cst β (ch i) (ch c) := Nat.le_add_right _ _
          rw [if_neg (by omega)]
        rw [← e]
        exact ih (i + 1) (by omega) (by omega)
      · rw [ple (by omega) (by omega)] at c2
        refine ⟨by decide, h.z0, ok_A hr.1 h.z (by omega) (by decide), ok_O hr.1 (by decide), ?_⟩
        refine w_totg h hs.2.1 (Nat.lt_of_le_of_lt Nat.and_le_left (h.cn (by omega))) ?_
        intro x4 ex4 x ex
        subst ex
        rw [nI_1]
        have e : x4 = nI (mn (fun x => cst β (ch x) (ch c)) d (i + 1)) := by
          rw [ex4, nI_add]
          show (if nI (cst β (ch i) (ch c)) < _ then nI (cst β (ch i) (ch c)) else _) = nI (if cst β (ch i) (ch c) < _ then _ else _)
          by_cases c3 : cst β (ch i) (ch c) < mn (fun x => cst β (ch x) (ch c)) d i
          · rw [if_pos c3, if_pos (by rw [plt (by omega) (by omega)]; exact c3)]
          · rw [if_neg c3, if_neg (by rw [plt (by omega) (by omega)]; exact c3)]
        rw [e]
        exact ih (i + 1) (by omega) (by omega)
theorem w_rue {S : St} {β : Nat → Nat → Nat} {N c : Nat} {ch : Nat → Nat} {K : Int32 → St → Prop} (h : Co S β N ch) (hs : SU S β N ch) (hc : c < N) (hK : K (nI (ruv β N ch c)) S) : wX1_rueInWorst S 76 (nI c) K := by
  have hr := h.1
  have hN := h.2.2.2.2.1
  unfold wX1_rueInWorst
  rw [rt76_1 hr, rt76_5 hr, rt76_4 hr, pcl (by omega), (h.2.2.2.2.2.2 c hc).1, hs.2.2.2 c hc]
  refine ⟨⟨ok_O hr.1 (by decide), by decide⟩, ⟨ok_O hr.1 (by decide), h.z0⟩, ok_A hr.1 h.z (by omega) (by decide), ?_⟩
  intro x2 e2
  subst e2
  refine ⟨by decide, ok_A (N := 500) hr.1 (by decide) (by omega) (by decide), by decide, ok_O hr.1 (by decide), ?_⟩
  refine w_totg h hs.2.1 (h.cn hc) ?_
  intro x3 e3
  have e4 : x3 = nI (cst β (ch c) (ch c)) := by rw [e3, nI_add]; unfold cst; rw [and_self']; rfl
  subst e4
  have hd := cst_le h.2.2.1 (ch c) (ch c)
  refine ⟨N + 1, l_rue h hs hd ?_ (N + 1) 0 (by omega) (by omega)⟩
  rw [pk_sub (mn_le _ _ N).1, mn_am (f := fun x => cst β (ch x) (ch c)) hc rfl]
  exact hK
theorem ruv_le {β : Nat → Nat → Nat} (h : WF β) (N : Nat) (ch : Nat → Nat) (c : Nat) : ruv β N ch c ≤ 24000 := by
  have := cst_le h (ch c) (ch c)
  unfold ruv
  omega
theorem w_greatestRue {S : St} {β : Nat → Nat → Nat} {N c : Nat} {ch : Nat → Nat} {K : Int32 → St → Prop} (h : CS S β N ch) (hc : c < N) (hK : ∀ S1, Ex P76 S S1 → CS S1 β N ch → K (nI (ruv β N ch c)) S1) : wX1_greatestRue S 76 (nI c) K :=
  ⟨ok_O h.1.1.1 (by decide), w_sumUp h (fun S1 hE h1 hs _ => ⟨ok_O h1.1.1.1 (by decide), w_rue h1.1 hs hc (hK S1 hE h1)⟩)⟩
theorem l_rueAll {S : St} {β : Nat → Nat → Nat} {N : Nat} {ch : Nat → Nat} {K : St → Prop} (h : CS S β N ch) (hs : SU S β N ch) (hK : ∀ S1, Ex (fun k => k = 85) S S1 → RU S1 β N ch → wX1_rueAll_42 K 76 S1) :
    ∀ (n i : Nat) (S1 : St), i ≤ N → N - i < n → Ex (fun k => k = 85) S S1 → (∀ c, c < i → sI S1 85 c = nI (ruv β N ch c)) → wX1_rueAll_14 K n 76 (nI i) S1
  | 0, i, S1, _, h, _, _ => absurd h (by omega)
  | n + 1, i, S1, hi, hn, hE, hI => by
    have h1 := h.1.ex hE (fun k hk => by omega)
    have hs1 := hs.ex hE (fun k hk => by omega)
    have hr := h1.1
    have hN := h1.2.2.2.2.1
    rw [wX1_rueAll_14, rt76_1 hr, h1.2.2.2.1]
    refine ⟨⟨ok_O hr.1 (by decide), by decide⟩, ok_O hr.1 (by decide), fun c => ?_, fun c => ?_⟩
    · rw [ple (by omega) (by omega)] at c
      exact hK S1 hE (fun q hq => hI q (by omega))
    · rw [ple (by omega) (by omega)] at c
      rw [rt76_6 hr]
      refine ⟨by decide, w_rue h1 hs1 (by omega) ⟨ok_A (N := 500) hr.1 (by decide) (by omega) (by decide), ?_⟩⟩
      intro S2 e2 x ex
      subst ex
      rw [nI_1]
      rw [pcl (by omega)] at e2
      refine l_rueAll h hs hK n (i + 1) S2 (by omega) (by omega) (by rw [e2]; exact hE.pI rfl) (fun q hq => ?_)
      by_cases e : q = i
      · subst e
        rw [e2, sI_s]
      · rw [e2, sI_n e]
        exact hI q (by omega)
theorem w_rueAll {S : St} {β : Nat → Nat → Nat} {N : Nat} {ch : Nat → Nat} {K : St → Prop} (h : CS S β N ch) (hK : ∀ S1, Ex P76 S S1 → CS S1 β N ch → RU S1 β N ch → K S1) : wX1_rueAll S 76 K := by
  refine ⟨ok_O h.1.1.1 (by decide), fun c => ?_, fun c => ?_⟩
  · refine w_sumUp h (fun S1 hE h1 hs hj => ?_)
    refine ⟨N + 1, l_rueAll h1 hs (fun S2 hE2 hR => ?_) (N + 1) 0 S1 (by omega) (by omega) Ex.rf (fun q hq => absurd hq (by omega))⟩
    have h2 := h1.1.ex hE2 (fun k hk => by omega)
    refine ⟨ok_O h2.1.1 (by decide), fun S3 e3 => ?_⟩
    have hE3 : Ex (fun k => k = 76) S2 S3 := by rw [e3]; exact Ex.rf.pI rfl
    have hj3 : ∀ j, j ≠ 9 → sI S3 76 j = sI S1 76 j := fun j hj => by rw [e3, sI_n hj, hE2.i (by decide)]
    have hR3 : RU S3 β N ch := hR.ex hE3 (by decide)
    refine hK S3 ((hE.tr (hE2.mo (fun k hk => by unfold P76; omega))).tr (hE3.mo (fun k hk => by unfold P76; omega))) ⟨h2.ex hE3 (fun k hk => by omega), ⟨?_, Or.inr ⟨by rw [e3, sI_s], hR3⟩, ?_⟩, (h1.2.2.ex hE2 (fun k hk => by omega)).ex hE3 (fun k hk => by omega)⟩ hR3
    · rw [hj3 8 (by decide)]
      rcases h1.2.1.1 with b | ⟨b, b2⟩
      · exact Or.inl b
      · exact Or.inr ⟨b, (b2.ex hE2 (fun k hk => by omega)).ex hE3 (fun k hk => by omega)⟩
    · unfold SRT
      rw [hj3 10 (by decide), hj3 11 (by decide), hj3 12 (by decide), hj3 13 (by decide)]
      exact h1.2.1.2.2
  · rcases h.2.1.2.1 with b | ⟨b, b2⟩
    · exact absurd b c
    · exact hK S Ex.rf h b2
theorem w_leastRued {S : St} {β : Nat → Nat → Nat} {N : Nat} {ch : Nat → Nat} {K : Int32 → St → Prop} (h : CS S β N ch) (hK : ∀ S1, Ex P76 S S1 → CS S1 β N ch → RU S1 β N ch → K (if N = 0 then -1 else nI (am (ruv β N ch) N)) S1) : wX1_leastRued S 76 K := by
  refine ⟨ok_O h.1.1.1 (by decide), w_rueAll h (fun S1 hE h1 hR => ?_)⟩
  have hr := h1.1.1
  rw [rt76_6 hr, rt76_1 hr, h1.1.2.2.2.1]
  refine ⟨⟨ok_O hr.1 (by decide), by decide⟩, by decide, ok_O hr.1 (by decide), ?_⟩
  exact w_first (M := 500) hr.1 (by decide) (by decide) h1.1.2.2.2.2.1 (fun c hc => ⟨hR c hc, by have := ruv_le h1.1.2.2.1 N ch c; omega⟩) (hK S1 hE h1 hR)
theorem l_many {S : St} {β : Nat → Nat → Nat} {N a : Nat} {ch : Nat → Nat} {K : Int32 → St → Prop} (h : CS S β N ch) (hR : RU S β N ch) (ha : a < N) (hK : K (nI (fb_ct (fun c => ruv β N ch c == ruv β N ch a) N)) S) :
    ∀ (n i : Nat), i ≤ N → N - i < n → wX1_howManyLeastRued_9 K n 76 (nI a) (nI (fb_ct (fun c => ruv β N ch c == ruv β N ch a) i)) (nI i) S
  | 0, i, _, h => absurd h (by omega)
  | n + 1, i, hi, hn => by
    have hr := h.1.1
    have hN := h.1.2.2.2.2.1
    have ih := l_many h hR ha hK n
    rw [wX1_howManyLeastRued_9]
    refine ⟨fun e => absurd e (neg1_ne (by omega)), fun _ => ?_⟩
    rw [rt76_1 hr, h.1.2.2.2.1]
    refine ⟨⟨ok_O hr.1 (by decide), by decide⟩, ok_O hr.1 (by decide), fun c => ?_, fun c => ?_⟩
    · rw [ple (by omega) (by omega)] at c
      have e : i = N := by omega
      subst e
      exact hK
    · rw [ple (by omega) (by omega)] at c
      have b1 := ruv_le h.1.2.2.1 N ch i
      have b2 := ruv_le h.1.2.2.1 N ch a
      rw [rt76_6 hr, pcl (by omega), pcl (by omega), hR i (by omega), hR a ha, peq (by omega) (by omega)]
      refine ⟨by decide, ok_A (N := 500) hr.1 (by decide) (by omega) (by decide), ok_A (N := 500) hr.1 (by decide) (by omega) (by decide), fun e => ?_, fun e => ?_⟩
      · intro x2 e2 x ex
        subst ex
        rw [nI_1] at e2 ⊢
        subst e2
        have e3 : fb_ct (fun c => ruv β N ch c == ruv β N ch a) (i + 1) = fb_ct (fun c => ruv β N ch c == ruv β N ch a) i + 1 := by
          rw [fb_ct_succ, if_pos (by simp [e])]
        rw [← e3]
        exact ih (i + 1) (by omega) (by omega)
      · intro x ex
        subst ex
        rw [nI_1]
        have e3 : fb_ct (fun c => ruv β N ch c == ruv β N ch a) (i + 1) = fb_ct (fun c => ruv β N ch c == ruv β N ch a) i := by
          rw [fb_ct_succ, if_neg (by simp [e]), Nat.add_zero]
        rw [← e3]
        exact ih (i + 1) (by omega) (by omega)
theorem w_many {S : St} {β : Nat → Nat → Nat} {N : Nat} {ch : Nat → Nat} {K : Int32 → St → Prop} (h : CS S β N ch) (hK : ∀ S1, Ex P76 S S1 → CS S1 β N ch → K (nI (if N = 0 then 0 else fb_ct (fun c => ruv β N ch c == ruv β N ch (am (ruv β N ch) N)) N)) S1) : wX1_howManyLeastRued S 76 K := by
  refine ⟨ok_O h.1.1.1 (by decide), w_leastRued h (fun S1 hE h1 hR => ?_)⟩
  have hk := hK S1 hE h1
  by_cases e : N = 0
  · rw [if_pos e] at hk ⊢
    refine ⟨1, ?_⟩
    rw [wX1_howManyLeastRued_9]
    exact ⟨fun _ => hk, fun z => absurd rfl z⟩
  · rw [if_neg e] at hk ⊢
    exact ⟨N + 1, l_many h1 hR (am_lt _ N (by omega)) hk (N + 1) 0 (by omega) (by omega)⟩
-- the widest gaps
def oI (o : Option Nat) : Int32 := match o with
  | none => -1
  | some t => nI t
def wdo (β : Nat → Nat → Nat) (s : Nat) : Nat → Option Nat
  | 0 => none
  | i + 1 => if s.testBit i then (match wdo β s i with
    | none => some i
    | some w => if gp β i ≤ gp β w then some w else some i) else wdo β s i
theorem wdo_in {β : Nat → Nat → Nat} {s : Nat} : ∀ {i w : Nat}, wdo β s i = some w → w < i ∧ s.testBit w = true
  | 0, w, h => by cases h
  | i + 1, w, h => by
    unfold wdo at h
    by_cases hb : s.testBit i = true
    · rw [if_pos hb] at h
      cases hw : wdo β s i with
      | none => rw [hw] at h; cases h; exact ⟨by omega, hb⟩
      | some v =>
        rw [hw] at h
        have ih := wdo_in hw
        dsimp only at h
        by_cases hg : gp β i ≤ gp β v
        · rw [if_pos hg] at h; cases h; exact ⟨by omega, ih.2⟩
        · rw [if_neg hg] at h; cases h; exact ⟨by omega, hb⟩
    · rw [if_neg hb] at h
      have ih := wdo_in h
      exact ⟨by omega, ih.2⟩
theorem wdo_no {β : Nat → Nat → Nat} {s : Nat} : ∀ {i : Nat}, wdo β s i = none → ∀ t, t < i → s.testBit t = false
  | 0, _, t, ht => absurd ht (by omega)
  | i + 1, h, t, ht => by
    unfold wdo at h
    by_cases hb : s.testBit i = true
    · rw [if_pos hb] at h
      cases hw : wdo β s i with
      | none => rw [hw] at h; cases h
      | some v => rw [hw] at h; dsimp only at h; by_cases hg : gp β i ≤ gp β v <;> simp [hg] at h
    · rw [if_neg hb] at h
      by_cases e : t = i
      · subst e; cases hq : s.testBit t with | true => exact absurd hq hb | false => rfl
      · exact wdo_no h t (by omega)
theorem l_wid {S : St} {β : Nat → Nat → Nat} {N s : Nat} {ch : Nat → Nat} {K : Int32 → St → Prop} (h : Co S β N ch) (hg : ∀ t, t < β 0 0 → sI S 77 t = nI (gp β t)) (hs : s < 4096) (hK : K (oI (wdo β s (β 0 0))) S) :
    ∀ (n i : Nat), i ≤ β 0 0 → β 0 0 - i < n → wX1_widestOf_4 K n 76 (nI s) (oI (wdo β s i)) (nI i) S
  | 0, i, _, h => absurd h (by omega)
  | n + 1, i, hi, hn => by
    have hr := h.1
    have h12 := h.n12
    have ih := l_wid h hg hs hK n
    rw [wX1_widestOf_4, rt76_0 hr, h.2.1.1 0 (by decide)]
    refine ⟨⟨ok_O hr.1 (by decide), by decide⟩, ok_O hr.1 (by decide), fun c => ?_, fun c => ?_⟩
    · rw [ple (by omega) (by omega)] at c
      have e : i = β 0 0 := by omega
      rw [e]
      exact hK
    · rw [ple (by omega) (by omega)] at c
      rw [pbit0 (by omega) (by omega)]
      refine ⟨fun hb => ?_, fun hb => ?_⟩
      · intro x ex
        subst ex
        rw [nI_1]
        have e : wdo β s (i + 1) = wdo β s i := by
          show (if s.testBit i then _ else _) = _
          rw [if_neg (by rw [hb]; decide)]
        rw [← e]
        exact ih (i + 1) (by omega) (by omega)
      · have hb : s.testBit i = true := by cases hq : s.testBit i with | true => rfl | false => exact absurd hq hb
        cases hw : wdo β s i with
        | none =>
          have e : wdo β s (i + 1) = some i := by
            show (if s.testBit i then _ else _) = _
            rw [if_pos hb, hw]
          refine ⟨fun _ => ?_, fun z => absurd rfl z⟩
          intro x ex
          subst ex
          rw [nI_1]
          have := ih (i + 1) (by omega) (by omega)
          rw [e] at this
          exact this
        | some v =>
          have hv := (wdo_in hw).1
          refine ⟨fun z => absurd z (neg1_ne (by omega)), fun _ => ?_⟩
          show sR S 76 2 ≠ 0 ∧ okA S 10 (sR S 76 2) (nI i) ∧ okA S 10 (sR S 76 2) (nI v) ∧ ((sI S (sR S 76 2) (nI i).toNatClampNeg ≤ sI S (sR S 76 2) (nI v).toNatClampNeg → _) ∧ (¬ sI S (sR S 76 2) (nI i).toNatClampNeg ≤ sI S (sR S 76 2) (nI v).toNatClampNeg → _))
          have g1 := h.2.2.1.2.1 i (by omega)
          have g2 := h.2.2.1.2.1 v (by omega)
          rw [rt76_2 hr, pcl (by omega), pcl (by omega), hg i (by omega), hg v (by omega), ple (by unfold gp; omega) (by unfold gp; omega)]
          refine ⟨by decide, ok_A (N := 12) hr.1 (by decide) (by omega) (by decide), ok_A (N := 12) hr.1 (by decide) (by omega) (by decide), fun c2 => ?_, fun c2 => ?_⟩
          · have e : wdo β s (i + 1) = some v := by
              show (if s.testBit i then _ else _) = _
              rw [if_pos hb, hw]
              dsimp only
              rw [if_pos c2]
            intro x ex
            subst ex
            rw [nI_1]
            have := ih (i + 1) (by omega) (by omega)
            rw [e] at this
            exact this
          · have e : wdo β s (i + 1) = some i := by
              show (if s.testBit i then _ else _) = _
              rw [if_pos hb, hw]
              dsimp only
              rw [if_neg c2]
            intro x ex
            subst ex
            rw [nI_1]
            have := ih (i + 1) (by omega) (by omega)
            rw [e] at this
            exact this
theorem w_wid {S : St} {β : Nat → Nat → Nat} {N s : Nat} {ch : Nat → Nat} {K : Int32 → St → Prop} (h : Co S β N ch) (hg : ∀ t, t < β 0 0 → sI S 77 t = nI (gp β t)) (hs : s < 4096) (hK : K (oI (wdo β s (β 0 0))) S) : wX1_widestOf S 76 (nI s) K :=
  ⟨β 0 0 + 1, l_wid h hg hs hK (β 0 0 + 1) 0 (by omega) (by omega)⟩
/-- the sum of the k widest gaps of a set -/
def wg (β : Nat → Nat → Nat) : Nat → Nat → Nat
  | 0, _ => 0
  | r + 1, l => match wdo β l (β 0 0) with
    | none => 0
    | some w => gp β w + wg β r (sdf l (2 ^ w))
theorem wg_le {β : Nat → Nat → Nat} (h : WF β) : ∀ r l, wg β r l ≤ r * 1000
  | 0, l => by simp [wg]
  | r + 1, l => by
    unfold wg
    cases hw : wdo β l (β 0 0) with
    | none => exact Nat.zero_le _
    | some w =>
      have := wg_le h r (sdf l (2 ^ w))
      have h1 := (wdo_in hw).1
      have h2 := h.1.1
      have h3 := h.2.1 w (by omega)
      show gp β w + _ ≤ _
      unfold gp
      omega
theorem l_gaps {S : St} {β : Nat → Nat → Nat} {N k : Nat} {ch : Nat → Nat} {K : Int32 → St → Prop} (h : Co S β N ch) (hg : ∀ t, t < β 0 0 → sI S 77 t = nI (gp β t)) (hk : k ≤ 12) :
    ∀ (n i sum l : Nat), i ≤ k → k - i < n → l < 4096 → sum ≤ i * 1000 → K (nI (sum + wg β (k - i) l)) S → wX1_widestGaps_8 K n 76 (nI k) (nI sum) (nI l) (nI i) S
  | 0, i, _, _, _, h, _, _, _ => absurd h (by omega)
  | n + 1, i, sum, l, hi, hn, hl, hsu, hK => by
    have hr := h.1
    have h12 := h.n12
    rw [wX1_widestGaps_8]
    refine ⟨fun c => ?_, fun c => ⟨fun c2 => ?_, fun c2 => ⟨ok_O hr.1 (by decide), w_wid h hg hl ?_⟩⟩⟩
    · rw [ple (by omega) (by omega)] at c
      rw [show k - i = 0 by omega] at hK
      exact hK
    · rw [ple (by omega) (by omega)] at c
      rw [show (0 : Int32) = nI 0 from rfl, peq (by omega) (by omega)] at c2
      subst c2
      rw [show k - i = (k - i - 1) + 1 by omega] at hK
      have e : wdo β 0 (β 0 0) = none := by
        cases hw : wdo β 0 (β 0 0) with
        | none => rfl
        | some w => have := (wdo_in hw).2; simp at this
      have e2 : wg β (k - i - 1 + 1) 0 = 0 := by unfold wg; rw [e]
      rw [e2] at hK
      exact hK
    · rw [ple (by omega) (by omega)] at c
      rw [show k - i = (k - i - 1) + 1 by omega] at hK
      cases hw : wdo β l (β 0 0) with
      | none =>
        have e2 : wg β (k - i - 1 + 1) l = 0 := by unfold wg; rw [hw]
        rw [e2] at hK
        exact ⟨fun _ => hK, fun z => absurd rfl z⟩
      | some w =>
        have hwi := wdo_in hw
        have e2 : wg β (k - i - 1 + 1) l = gp β w + wg β (k - i - 1) (sdf l (2 ^ w)) := by
          show (match wdo β l (β 0 0) with
            | none => 0
            | some w => gp β w + wg β (k - i - 1) (sdf l (2 ^ w))) = _
          rw [hw]
        refine ⟨fun z => absurd z (neg1_ne (by omega)), fun _ => ?_⟩
        show (okO S 1 76 ∧ sR S 76 2 ≠ 0) ∧ okA S 10 (sR S 76 2) (nI w) ∧ ∀ x3 : Int32, x3 = nI sum + sI S (sR S 76 2) (nI w).toNatClampNeg → ∀ x4 : Int32, x4 = nI l &&& ((1 <<< (nI w &&& 31)) ^^^ (-1)) → ∀ x5 : Int32, x5 = nI i + 1 → wX1_widestGaps_8 K n 76 (nI k) x3 x4 x5 S
        rw [rt76_2 hr, pcl (by omega), hg w (by omega), psh (by omega), pdf, nI_add, nI_1]
        refine ⟨⟨ok_O hr.1 (by decide), by decide⟩, ok_A (N := 12) hr.1 (by decide) (by omega) (by decide), ?_⟩
        intro x3 e3 x4 e4 x5 e5
        subst e3 e4 e5
        have hgw := h.2.2.1.2.1 w (by omega)
        refine l_gaps h hg hk n (i + 1) (sum + gp β w) (sdf l (2 ^ w)) (by omega) (by omega) (sdf_lt (n := 12) hl) (by unfold gp; omega) ?_
        rw [show k - (i + 1) = k - i - 1 by omega, Nat.add_assoc, ← e2]
        exact hK
theorem w_gaps {S : St} {β : Nat → Nat → Nat} {N k s : Nat} {ch : Nat → Nat} {K : Int32 → St → Prop} (h : Co S β N ch) (hg : ∀ t, t < β 0 0 → sI S 77 t = nI (gp β t)) (hk : k ≤ 12) (hs : s < 4096) (hK : K (nI (wg β k s)) S) : wX1_widestGaps S 76 (nI s) (nI k) K :=
  ⟨k + 1, l_gaps h hg hk (k + 1) 0 0 s (by omega) (by omega) hs (by omega) (by rw [Nat.zero_add, Nat.sub_zero]; exact hK)⟩
def dea (β : Nat → Nat → Nat) (k s : Nat) : Nat := lowc β s + wg β k s
theorem w_dearest {S : St} {β : Nat → Nat → Nat} {N c k : Nat} {ch : Nat → Nat} {K : Int32 → St → Prop} (h : CS S β N ch) (hc : c < N) (hk : k ≤ 12) (hK : ∀ S1, Ex P76 S S1 → CS S1 β N ch → K (nI (dea β k (ch c))) S1) : wX1_dearestCost S 76 (nI c) (nI k) K := by
  refine ⟨ok_O h.1.1.1 (by decide), w_sumUp h (fun S1 hE h1 hs _ => ?_)⟩
  have hr := h1.1.1
  have hN := h1.1.2.2.2.2.1
  rw [rt76_5 hr, rt76_1 hr, pcl (by omega), (h1.1.2.2.2.2.2.2 c hc).1, hs.2.2.2 c hc]
  refine ⟨⟨ok_O hr.1 (by decide), by decide⟩, ok_A (N := 500) hr.1 (by decide) (by omega) (by decide), by decide, ⟨ok_O hr.1 (by decide), h1.1.z0⟩, ok_A hr.1 h1.1.z (by omega) (by decide), ?_⟩
  refine w_gaps h1.1 hs.2.2.1 hk (h1.1.c12 hc) ?_
  rw [nI_add]
  exact hK S1 hE h1
theorem l_few {S : St} {β : Nat → Nat → Nat} {N k : Nat} {ch : Nat → Nat} {K : Int32 → St → Prop} (h : CS S β N ch) (hs : SU S β N ch) (hk : k ≤ 12) (hK : ∀ S1, Ex (fun k => k = 86) S S1 → (∀ c, c < N → sI S1 86 c = nI (dea β k (ch c))) → wX1_leastDear_50 K 76 S1) :
    ∀ (n i : Nat) (S1 : St), i ≤ N → N - i < n → Ex (fun k => k = 86) S S1 → (∀ c, c < i → sI S1 86 c = nI (dea β k (ch c))) → wX1_leastDear_6 K n 76 (nI k) (nI i) S1
  | 0, i, S1, _, h, _, _ => absurd h (by omega)
  | n + 1, i, S1, hi, hn, hE, hI => by
    have h1 := h.1.ex hE (fun k hk => by omega)
    have hs1 := hs.ex hE (fun k hk => by omega)
    have hr := h1.1
    have hN := h1.2.2.2.2.1
    rw [wX1_leastDear_6, rt76_1 hr, h1.2.2.2.1]
    refine ⟨⟨ok_O hr.1 (by decide), by decide⟩, ok_O hr.1 (by decide), fun c => ?_, fun c => ?_⟩
    · rw [ple (by omega) (by omega)] at c
      exact hK S1 hE (fun q hq => hI q (by omega))
    · rw [ple (by omega) (by omega)] at c
      rw [rt76_7 hr, rt76_5 hr, pcl (by omega), (h1.2.2.2.2.2.2 i (by omega)).1, hs1.2.2.2 i (by omega)]
      refine ⟨by decide, by decide, ok_A (N := 500) hr.1 (by decide) (by omega) (by decide), h1.z0, ok_A hr.1 h1.z (by omega) (by decide), ?_⟩
      refine w_gaps h1 hs1.2.2.1 hk (h1.c12 (by omega)) ?_
      refine ⟨ok_A (N := 500) hr.1 (by decide) (by omega) (by decide), ?_⟩
      intro S2 e2 x ex
      subst ex
      rw [nI_1]
      refine l_few h hs hk hK n (i + 1) S2 (by omega) (by omega) (by rw [e2]; exact hE.pI rfl) (fun q hq => ?_)
      by_cases e : q = i
      · subst e
        rw [e2, sI_s, nI_add]
        rfl
      · rw [e2, sI_n e]
        exact hI q (by omega)
theorem w_few {S : St} {β : Nat → Nat → Nat} {N k : Nat} {ch : Nat → Nat} {K : Int32 → St → Prop} (h : CS S β N ch) (hk : k ≤ 12) (hK : ∀ S1, Ex P76 S S1 → CS S1 β N ch → K (if N = 0 then -1 else nI (am (fun c => dea β k (ch c)) N)) S1) : wX1_leastDear S 76 (nI k) K := by
  refine ⟨ok_O h.1.1.1 (by decide), w_sumUp h (fun S1 hE h1 hs _ => ?_)⟩
  refine ⟨N + 1, l_few h1 hs hk (fun S2 hE2 hI => ?_) (N + 1) 0 S1 (by omega) (by omega) Ex.rf (fun q hq => absurd hq (by omega))⟩
  have h2 := h1.ex hE2 (fun k hk => by omega)
  have hr := h2.1.1
  unfold wX1_leastDear_50
  rw [rt76_7 hr, rt76_1 hr, h2.1.2.2.2.1]
  refine ⟨⟨ok_O hr.1 (by decide), by decide⟩, by decide, ok_O hr.1 (by decide), ?_⟩
  exact w_first (M := 500) hr.1 (by decide) (by decide) h2.1.2.2.2.2.1 (fun c hc => ⟨hI c hc, by have := lowc_le h2.1.2.2.1 (ch c); have := wg_le h2.1.2.2.1 k (ch c); unfold dea; omega⟩) (hK S2 (hE.tr (hE2.mo (fun k hk => by unfold P76; omega))) h2)
