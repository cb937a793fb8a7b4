def gp (β : Nat → Nat → Nat) (t : Nat) : Nat := β 2 t - β 1 t
def lowc (β : Nat → Nat → Nat) (s : Nat) : Nat := sm (β 1) s 12
def gps (β : Nat → Nat → Nat) (s : Nat) : Nat := sm (gp β) s 12
/-- the cost of a set where u is high -/
def cst (β : Nat → Nat → Nat) (s u : Nat) : Nat := lowc β s + gps β (s &&& u)
def ruv (β : Nat → Nat → Nat) (N : Nat) (ch : Nat → Nat) (c : Nat) : Nat := cst β (ch c) (ch c) - cst β (ch (am (fun x => cst β (ch x) (ch c)) N)) (ch c)
def P76 (k : Nat) : Prop := 76 ≤ k ∧ k ≤ 86
def SU (S : St) (β : Nat → Nat → Nat) (N : Nat) (ch : Nat → Nat) : Prop := True ∧ (∃ g, SumT S 81 g ∧ ∀ t, t < β 0 0 → g t = gp β t) ∧ (∀ t, t < β 0 0 → sI S 77 t = nI (gp β t)) ∧ ∀ c, c < N → sI S 84 c = nI (lowc β (ch c))
def RU (S : St) (β : Nat → Nat → Nat) (N : Nat) (ch : Nat → Nat) : Prop := ∀ c, c < N → sI S 85 c = nI (ruv β N ch c)
-- what is in every best choice, and the like, as the class works it out
def orf (g : Nat → Nat) : Nat → Nat
  | 0 => 0
  | n + 1 => orf g n ||| g n
/-- the cost of ch x where ch c is low and all else high -/
def agn (β : Nat → Nat → Nat) (ch : Nat → Nat) (c x : Nat) : Nat := lowc β (ch x) + gps β (sdf (ch x) (ch c))
def inA (β : Nat → Nat → Nat) (ch : Nat → Nat) (c : Nat) (m : Nat) : Nat := orf (fun x => if agn β ch c x = lowc β (ch c) then ch x else 0) m
def btn (β : Nat → Nat → Nat) (ch : Nat → Nat) (c : Nat) (m : Nat) : Nat := orf (fun x => if agn β ch c x < lowc β (ch c) then 1 else 0) m
def alw (β : Nat → Nat → Nat) (N : Nat) (ch : Nat → Nat) : Nat → Nat
  | 0 => 2 ^ β 0 0 - 1
  | i + 1 => if btn β ch i N = 0 then alw β N ch i &&& ch i else alw β N ch i
def sur (β : Nat → Nat → Nat) (N : Nat) (ch : Nat → Nat) : Nat → Nat
  | 0 => 2 ^ β 0 0 - 1
  | i + 1 => if btn β ch i N = 0 then sur β N ch i &&& (ch i ||| inA β ch i N) else sur β N ch i
def mayb (β : Nat → Nat → Nat) (N : Nat) (ch : Nat → Nat) : Nat → Nat
  | 0 => 0
  | i + 1 => if btn β ch i N = 0 then mayb β N ch i ||| ch i else mayb β N ch i
def SRT (S : St) (β : Nat → Nat → Nat) (N : Nat) (ch : Nat → Nat) : Prop := sI S 76 11 = nI (alw β N ch N) ∧ sI S 76 12 = nI (sur β N ch N) ∧ sI S 76 13 = nI (mayb β N ch N)
def BE (S : St) (β : Nat → Nat → Nat) (N : Nat) (ch : Nat → Nat) : Prop := (sI S 76 8 = 0 ∨ (sI S 76 8 = 1 ∧ SU S β N ch)) ∧ (sI S 76 9 = 0 ∨ (sI S 76 9 = 1 ∧ RU S β N ch)) ∧ (sI S 76 10 = 0 ∨ (sI S 76 10 = 1 ∧ SRT S β N ch))
def CS (S : St) (β : Nat → Nat → Nat) (N : Nat) (ch : Nat → Nat) : Prop := Co S β N ch ∧ BE S β N ch ∧ ZS S
theorem SumT.ex {S S1 : St} {o : Nat} {f : Nat → Nat} {P : Nat → Prop} (h : SumT S o f) (he : Ex P S S1) (h1 : ¬ P (o + 1)) (h2 : ¬ P (o + 2)) : SumT S1 o f := ⟨fun m hm => by rw [he.i h1]; exact h.1 m hm, fun m hm => by rw [he.i h2]; exact h.2 m hm⟩
theorem SU.ex {S S1 : St} {β : Nat → Nat → Nat} {N : Nat} {ch : Nat → Nat} {P : Nat → Prop} (h : SU S β N ch) (he : Ex P S S1) (hp : ∀ k, P k → k < 77 ∨ 84 < k) : SU S1 β N ch := ⟨trivial, h.2.1.imp (fun g hg => ⟨hg.1.ex he (fun z => by have := hp _ z; omega) (fun z => by have := hp _ z; omega), hg.2⟩), fun t ht => by rw [he.i (fun z => by have := hp _ z; omega)]; exact h.2.2.1 t ht, fun c hc => by rw [he.i (fun z => by have := hp _ z; omega)]; exact h.2.2.2 c hc⟩
theorem RU.ex {S S1 : St} {β : Nat → Nat → Nat} {N : Nat} {ch : Nat → Nat} {P : Nat → Prop} (h : RU S β N ch) (he : Ex P S S1) (hp : ¬ P 85) : RU S1 β N ch := fun c hc => by rw [he.i hp]; exact h c hc
theorem BE.ex {S S1 : St} {β : Nat → Nat → Nat} {N : Nat} {ch : Nat → Nat} {P : Nat → Prop} (h : BE S β N ch) (he : Ex P S S1) (hp : ∀ k, P k → k < 76 ∨ 85 < k) : BE S1 β N ch := by
  have i76 : ∀ j, sI S1 76 j = sI S 76 j := fun j => he.i (fun z => by have := hp _ z; omega) j
  unfold BE SRT
  rw [i76, i76, i76, i76, i76, i76]
  obtain ⟨a, b, c⟩ := h
  refine ⟨?_, ?_, c⟩
  · rcases a with a | ⟨a, a2⟩
    · exact Or.inl a
    · exact Or.inr ⟨a, a2.ex he (fun k hk => by have := hp k hk; omega)⟩
  · rcases b with b | ⟨b, b2⟩
    · exact Or.inl b
    · exact Or.inr ⟨b, b2.ex he (fun z => by have := hp _ z; omega)⟩
theorem CS.ex {S S1 : St} {β : Nat → Nat → Nat} {N : Nat} {ch : Nat → Nat} {P : Nat → Prop} (h : CS S β N ch) (he : Ex P S S1) (hp : ∀ k, P k → k = 1 ∨ (20 ≤ k ∧ k < 76) ∨ k = 86 ∨ k = 91 ∨ k = 92 ∨ k = 97 ∨ k = 98 ∨ 106 ≤ k) : CS S1 β N ch :=
  ⟨h.1.ex he (fun k hk => by have := hp k hk; omega), h.2.1.ex he (fun k hk => by have := hp k hk; omega), h.2.2.ex he (fun k hk => by have := hp k hk; omega)⟩
theorem lowc_le {β : Nat → Nat → Nat} (h : WF β) (s : Nat) : lowc β s ≤ 12000 := sm_le (fun t ht => h.lo ht)
theorem gps_le {β : Nat → Nat → Nat} (h : WF β) (s : Nat) : gps β s ≤ 12000 := sm_le (f := gp β) (M := 1000) (n := 12) (fun t ht => by have := h.2.1 t ht; unfold gp; omega)
theorem cst_le {β : Nat → Nat → Nat} (h : WF β) (s u : Nat) : cst β s u ≤ 24000 := by
  have := lowc_le h s
  have := gps_le h (s &&& u)
  unfold cst
  omega
theorem so78 : SO 78 := by unfold SO; omega
theorem so81 : SO 81 := by unfold SO; omega
theorem so88 : SO 88 := by unfold SO; omega
theorem so94 : SO 94 := by unfold SO; omega
theorem so100 : SO 100 := by unfold SO; omega
theorem so103 : SO 103 := by unfold SO; omega
theorem tb_in {s n t : Nat} (hs : s < 2 ^ n) (h : s.testBit t = true) : t < n := by
  by_cases c : t < n
  · exact c
  · have h2 : 2 ^ n ≤ 2 ^ t := Nat.pow_le_pow_right (by decide) (by omega)
    rw [Nat.testBit_lt_two_pow (Nat.lt_of_lt_of_le hs h2)] at h
    cases h
theorem w_totg {S : St} {β : Nat → Nat → Nat} {N s : Nat} {ch : Nat → Nat} {K : Int32 → St → Prop} (h : Co S β N ch) (hg : ∃ g, SumT S 81 g ∧ ∀ t, t < β 0 0 → g t = gp β t) (hs : s < 2 ^ β 0 0) (hK : K (nI (sm (gp β) s 12)) S) : wX5_total S 81 (nI s) K := by
  obtain ⟨g, hT, hg⟩ := hg
  have e : sm g s 12 = sm (gp β) s 12 := sm_cong (fun t _ => ⟨rfl, fun z => hg t (tb_in hs z)⟩)
  rw [← e] at hK
  exact w_total h.1 so81 hT (Nat.lt_of_lt_of_le hs (Nat.pow_le_pow_right (by decide) h.n12)) hK
theorem Co.cn {S : St} {β : Nat → Nat → Nat} {N : Nat} {ch : Nat → Nat} (h : Co S β N ch) {c : Nat} (hc : c < N) : ch c < 2 ^ β 0 0 := (h.2.2.2.2.2.2 c hc).2
-- sumUp
theorem l_su10 {S : St} {β : Nat → Nat → Nat} {N : Nat} {ch : Nat → Nat} {K : St → Prop} (h : Co S β N ch) (hK : ∀ S1, Ex (fun k => k = 77) S S1 → (∀ q, q < 12 → sI S1 77 q = nI (gp β q)) → wX1_sumUp_47 K 76 S1) :
    ∀ (n t : Nat) (S1 : St), t ≤ 12 → 12 - t < n → Ex (fun k => k = 77) S S1 → (∀ q, q < t → sI S1 77 q = nI (gp β q)) → wX1_sumUp_10 K n 76 (nI t) S1
  | 0, t, S1, _, h, _, _ => absurd h (by omega)
  | n + 1, t, S1, ht, hn, hE, hI => by
    have h1 := h.ex hE (fun k hk => by omega)
    have hr := h1.1
    rw [wX1_sumUp_10]
    refine ⟨fun c => ?_, fun c => ?_⟩
    · rw [show (12 : Int32) = nI 12 from rfl, ple (by decide) (by omega)] at c
      exact hK S1 hE (fun q hq => hI q (by omega))
    · rw [show (12 : Int32) = nI 12 from rfl, ple (by decide) (by omega)] at c
      rw [rt76_2 hr, rt76_0 hr, rt2_5 hr, rt2_4 hr, pcl (by omega)]
      refine ⟨⟨ok_O hr.1 (by decide), by decide⟩, by decide, ⟨ok_O hr.1 (by decide), by decide⟩, ok_A (N := 12) hr.1 (by decide) (by omega) (by decide), by decide, ok_A (N := 12) hr.1 (by decide) (by omega) (by decide), ok_A (N := 12) hr.1 (by decide) (by omega) (by decide), ?_⟩
      intro S2 e2 x ex
      subst ex
      rw [nI_1]
      refine l_su10 h hK n (t + 1) S2 (by omega) (by omega) (by rw [e2]; exact hE.pI rfl) (fun q hq => ?_)
      by_cases e : q = t
      · subst e
        have a1 := h1.2.1.2.1 1 (by decide) q (by omega)
        have a2 := h1.2.1.2.1 0 (by decide) q (by omega)
        rw [e2, sI_s, show (4 : Nat) = 2 + 1 + 1 from rfl, a1, show (3 : Nat) = 2 + 1 + 0 from rfl, a2]
        exact pk_sub (h.2.2.1.2.1 q (by omega)).1
      · rw [e2, sI_n e]
        exact hI q (by omega)
theorem l_su74 {S : St} {β : Nat → Nat → Nat} {N : Nat} {ch : Nat → Nat} {K : St → Prop} (h : Co S β N ch) (hT : SumT S 78 (β 1)) (hK : ∀ S1, Ex (fun k => k = 84) S S1 → (∀ c, c < N → sI S1 84 c = nI (lowc β (ch c))) → wX1_sumUp_113 K 76 S1) :
    ∀ (n i : Nat) (S1 : St), i ≤ N → N - i < n → Ex (fun k => k = 84) S S1 → (∀ c, c < i → sI S1 84 c = nI (lowc β (ch c))) → wX1_sumUp_74 K n 76 (nI i) S1
  | 0, i, S1, _, h, _, _ => absurd h (by omega)
  | n + 1, i, S1, hi, hn, hE, hI => by
    have h1 := h.ex hE (fun k hk => by omega)
    have hr := h1.1
    have hN := h.2.2.2.2.1
    rw [wX1_sumUp_74, rt76_1 hr, h1.2.2.2.1]
    refine ⟨⟨ok_O hr.1 (by decide), by decide⟩, ok_O hr.1 (by decide), fun c => ?_, fun c => ?_⟩
    · rw [ple (by omega) (by omega)] at c
      exact hK S1 hE (fun q hq => hI q (by omega))
    · rw [ple (by omega) (by omega)] at c
      rw [rt76_5 hr, rt76_3 hr, pcl (by omega), (h1.2.2.2.2.2.2 i (by omega)).1]
      refine ⟨by decide, by decide, h1.z0, ok_A hr.1 h1.z (by omega) (by decide), ok_O hr.1 (by decide), ?_⟩
      refine w_total hr so78 (hT.ex hE (by decide) (by decide)) (h1.c12 (by omega)) ?_
      refine ⟨ok_A (N := 500) hr.1 (by decide) (by omega) (by decide), ?_⟩
      intro S2 e2 x ex
      subst ex
      rw [nI_1]
      refine l_su74 h hT hK n (i + 1) S2 (by omega) (by omega) (by rw [e2]; exact hE.pI rfl) (fun q hq => ?_)
      by_cases e : q = i
      · subst e
        rw [e2, sI_s]
        rfl
      · rw [e2, sI_n e]
        exact hI q (by omega)
theorem w_sumUp {S : St} {β : Nat → Nat → Nat} {N : Nat} {ch : Nat → Nat} {K : St → Prop} (h : CS S β N ch) (hK : ∀ S1, Ex P76 S S1 → CS S1 β N ch → SU S1 β N ch → (∀ j, j ≠ 8 → sI S1 76 j = sI S 76 j) → K S1) : wX1_sumUp S 76 K := by
  obtain ⟨hc, hb, hz⟩ := id h
  have hr := hc.1
  refine ⟨ok_O hr.1 (by decide), fun c => ?_, fun c => ?_⟩
  · refine ⟨13, ?_⟩
    refine l_su10 hc (fun S1 hE1 hG => ?_) 13 0 S (by omega) (by omega) Ex.rf (fun q hq => absurd hq (by omega))
    have h1 := hc.ex hE1 (fun k hk => by omega)
    have hr1 := h1.1
    have hz1 : ZS S1 := hz.ex hE1 (fun k hk => by omega)
    unfold wX1_sumUp_47
    rw [rt76_3 hr1, rt76_0 hr1, rt2_4 hr1]
    refine ⟨⟨ok_O hr1.1 (by decide), by decide⟩, by decide, ⟨ok_O hr1.1 (by decide), by decide⟩, ok_O hr1.1 (by decide), ?_⟩
    refine w_fill (f := β 1) hr1 so78 (by decide) (by decide) (fun q hq => h1.2.1.2.1 0 (by decide) q hq) (hz1 78 so78) (fun S2 hE2 hT2 => ?_)
    have h2 := h1.ex hE2 (fun k hk => by omega)
    have hr2 := h2.1
    have hz2 := hz1.fill so78 hE2 hT2
    rw [rt76_4 hr2, rt76_2 hr2]
    refine ⟨⟨ok_O hr2.1 (by decide), by decide⟩, by decide, ok_O hr2.1 (by decide), ?_⟩
    refine w_fill (f := gp β) hr2 so81 (by decide) (by decide) (fun q hq => by rw [hE2.i (by decide)]; exact hG q hq) (hz2 81 so81) (fun S3 hE3 hT3 => ?_)
    have h3 := h2.ex hE3 (fun k hk => by omega)
    have hz3 := hz2.fill so81 hE3 hT3
    have hT2' := hT2.ex hE3 (by decide) (by decide)
    refine ⟨N + 1, l_su74 h3 hT2' (fun S4 hE4 hL => ?_) (N + 1) 0 S3 (by omega) (by omega) Ex.rf (fun q hq => absurd hq (by omega))⟩
    have h4 := h3.ex hE4 (fun k hk => by omega)
    have hr4 := h4.1
    refine ⟨ok_O hr4.1 (by decide), fun S5 e5 => ?_⟩
    have hE5 : Ex (fun k => k = 76) S4 S5 := by rw [e5]; exact Ex.rf.pI rfl
    have hEE : Ex P76 S S5 := by
      refine ((((hE1.mo ?_).tr (hE2.mo ?_)).tr (hE3.mo ?_)).tr (hE4.mo ?_)).tr (hE5.mo ?_) <;> intro k hk <;> unfold P76 <;> omega
    have hj : ∀ j, j ≠ 8 → sI S5 76 j = sI S 76 j := fun j hj => by
      rw [e5, sI_n hj, hE4.i (by decide), hE3.i (by decide), hE2.i (by decide), hE1.i (by decide)]
    have h5 := h4.ex hE5 (fun k hk => by omega)
    have hS5 : SU S5 β N ch := by
      refine ⟨trivial, ⟨gp β, (hT3.ex hE4 (by decide) (by decide)).ex hE5 (by decide) (by decide), fun _ _ => rfl⟩, fun t ht => ?_, fun c hc => ?_⟩
      · rw [hE5.i (by decide), hE4.i (by decide), hE3.i (by decide), hE2.i (by decide)]
        exact hG t (by have := hc.n12; omega)
      · rw [hE5.i (by decide)]
        exact hL c hc
    refine hK S5 hEE ⟨h5, ?_, (hz3.ex hE4 (fun k hk => by omega)).ex hE5 (fun k hk => by omega)⟩ hS5 hj
    have h85 : ∀ c, sI S5 85 c = sI S 85 c := fun c => by rw [hE5.i (by decide), hE4.i (by decide), hE3.i (by decide), hE2.i (by decide), hE1.i (by decide)]
    refine ⟨Or.inr ⟨by rw [e5, sI_s], hS5⟩, ?_, ?_⟩
    · rw [hj 9 (by decide)]
      rcases hb.2.1 with b | ⟨b, b2⟩
      · exact Or.inl b
      · exact Or.inr ⟨b, fun c hc => by rw [h85]; exact b2 c hc⟩
    · unfold SRT
      rw [hj 10 (by decide), hj 11 (by decide), hj 12 (by decide), hj 13 (by decide)]
      exact hb.2.2
  · rcases hb.1 with b | ⟨b, b2⟩
    · exact absurd b c
    · exact hK S Ex.rf h b2 (fun _ _ => rfl)
theorem w_costAt {S : St} {β : Nat → Nat → Nat} {N c u : Nat} {ch : Nat → Nat} {K : Int32 → St → Prop} (h : CS S β N ch) (hc : c < N) (hK : ∀ S1, Ex P76 S S1 → CS S1 β N ch → K (nI (cst β (ch c) u)) S1) : wX1_costAt S 76 (nI c) (nI u) K := by
  refine ⟨ok_O h.1.1.1 (by decide), w_sumUp h (fun S1 hE h1 hs _ => ?_)⟩
  have hr := h1.1.1
  have hN := h1.1.2.2.2.2.1
  rw [rt76_5 hr, rt76_4 hr, rt76_1 hr, pcl (by omega), (h1.1.2.2.2.2.2.2 c hc).1, pan, hs.2.2.2 c hc]
  refine ⟨⟨ok_O hr.1 (by decide), by decide⟩, ok_A (N := 500) hr.1 (by decide) (by omega) (by decide), by decide, by decide, ⟨ok_O hr.1 (by decide), h1.1.z0⟩, ok_A hr.1 h1.1.z (by omega) (by decide), ok_O hr.1 (by decide), ?_⟩
  refine w_totg h1.1 hs.2.1 (Nat.lt_of_le_of_lt Nat.and_le_left (h1.1.cn hc)) ?_
  rw [nI_add]
  exact hK S1 hE h1
theorem l_cheap {S : St} {β : Nat → Nat → Nat} {N u : Nat} {ch : Nat → Nat} {K : Int32 → St → Prop} (h : CS S β N ch) (hs : SU S β N ch) (hK : ∀ S1, Ex (fun k => k = 86) S S1 → (∀ c, c < N → sI S1 86 c = nI (cst β (ch c) u)) → wX1_cheapestAt_54 K 76 S1) :
    ∀ (n i : Nat) (S1 : St), i ≤ N → N - i < n → Ex (fun k => k = 86) S S1 → (∀ c, c < i → sI S1 86 c = nI (cst β (ch c) u)) → wX1_cheapestAt_6 K n 76 (nI u) (nI i) S1
  | 0, i, S1, _, h, _, _ => absurd h (by omega)
  | n + 1, i, S1, hi, hn, hE, hI => by
    have h1 := h.1.ex hE (fun k hk => by omega)
    have hs1 := hs.ex hE (fun k hk => by omega)
    have hr := h1.1
    have hN := h1.2.2.2.2.1
    rw [wX1_cheapestAt_6, rt76_1 hr, h1.2.2.2.1]
    refine ⟨⟨ok_O hr.1 (by decide), by decide⟩, ok_O hr.1 (by decide), fun c => ?_, fun c => ?_⟩
    · rw [ple (by omega) (by omega)] at c
      exact hK S1 hE (fun q hq => hI q (by omega))
    · rw [ple (by omega) (by omega)] at c
      rw [rt76_7 hr, rt76_5 hr, rt76_4 hr, pcl (by omega), (h1.2.2.2.2.2.2 i (by omega)).1, pan, hs1.2.2.2 i (by omega)]
      refine ⟨by decide, by decide, ok_A (N := 500) hr.1 (by decide) (by omega) (by decide), by decide, h1.z0, ok_A hr.1 h1.z (by omega) (by decide), ok_O hr.1 (by decide), ?_⟩
      refine w_totg h1 hs1.2.1 (Nat.lt_of_le_of_lt Nat.and_le_left (h1.cn (by omega))) ?_
      refine ⟨ok_A (N := 500) hr.1 (by decide) (by omega) (by decide), ?_⟩
      intro S2 e2 x ex
      subst ex
      rw [nI_1]
      refine l_cheap h hs hK n (i + 1) S2 (by omega) (by omega) (by rw [e2]; exact hE.pI rfl) (fun q hq => ?_)
      by_cases e : q = i
      · subst e
        rw [e2, sI_s, nI_add]
        rfl
      · rw [e2, sI_n e]
        exact hI q (by omega)
theorem w_cheapestAt {S : St} {β : Nat → Nat → Nat} {N u : Nat} {ch : Nat → Nat} {K : Int32 → St → Prop} (h : CS S β N ch) (hK : ∀ S1, Ex P76 S S1 → CS S1 β N ch → K (if N = 0 then -1 else nI (am (fun c => cst β (ch c) u) N)) S1) : wX1_cheapestAt S 76 (nI u) K := by
  refine ⟨ok_O h.1.1.1 (by decide), w_sumUp h (fun S1 hE h1 hs _ => ?_)⟩
  refine ⟨N + 1, l_cheap h1 hs (fun S2 hE2 hI => ?_) (N + 1) 0 S1 (by omega) (by omega) Ex.rf (fun q hq => absurd hq (by omega))⟩
  have h2 := h1.ex hE2 (fun k hk => by omega)
  have hr := h2.1.1
  unfold wX1_cheapestAt_54
  rw [rt76_7 hr, rt76_1 hr, h2.1.2.2.2.1]
  refine ⟨⟨ok_O hr.1 (by decide), by decide⟩, by decide, ok_O hr.1 (by decide), ?_⟩
  exact w_first (M := 500) hr.1 (by decide) (by decide) h2.1.2.2.2.2.1 (fun c hc => ⟨hI c hc, by have := cst_le h2.1.2.2.1 (ch c) u; omega⟩) (hK S2 (hE.tr (hE2.mo (fun k hk => by unfold P76; omega))) h2)
def mid (β : Nat → Nat → Nat) (s : Nat) : Nat := 2 * lowc β s + gps β s
theorem l_mid {S : St} {β : Nat → Nat → Nat} {N : Nat} {ch : Nat → Nat} {K : Int32 → St → Prop} (h : CS S β N ch) (hs : SU S β N ch) (hK : ∀ S1, Ex (fun k => k = 86) S S1 → (∀ c, c < N → sI S1 86 c = nI (mid β (ch c))) → wX1_cheapestAtMiddles_54 K 76 S1) :
    ∀ (n i : Nat) (S1 : St), i ≤ N → N - i < n → Ex (fun k => k = 86) S S1 → (∀ c, c < i → sI S1 86 c = nI (mid β (ch c))) → wX1_cheapestAtMiddles_6 K n 76 (nI i) S1
  | 0, i, S1, _, h, _, _ => absurd h (by omega)
  | n + 1, i, S1, hi, hn, hE, hI => by
    have h1 := h.1.ex hE (fun k hk => by omega)
    have hs1 := hs.ex hE (fun k hk => by omega)
    have hr := h1.1
    have hN := h1.2.2.2.2.1
    rw [wX1_cheapestAtMiddles_6, rt76_1 hr, h1.2.2.2.1]
    refine ⟨⟨ok_O hr.1 (by decide), by decide⟩, ok_O hr.1 (by decide), fun c => ?_, fun c => ?_⟩
    · rw [ple (by omega) (by omega)] at c
      exact hK S1 hE (fun q hq => hI q (by omega))
    · rw [ple (by omega) (by omega)] at c
      rw [rt76_7 hr, rt76_5 hr, rt76_4 hr, pcl (by omega), (h1.2.2.2.2.2.2 i (by omega)).1, hs1.2.2.2 i (by omega)]
      refine ⟨by decide, by decide, ok_A (N := 500) hr.1 (by decide) (by omega) (by decide), by decide, h1.z0, ok_A hr.1 h1.z (by omega) (by decide), ok_O hr.1 (by decide), ?_⟩
      refine w_totg h1 hs1.2.1 (h1.cn (by omega)) ?_
      refine ⟨ok_A (N := 500) hr.1 (by decide) (by omega) (by decide), ?_⟩
      intro S2 e2 x ex
      subst ex
      rw [nI_1]
      refine l_mid h hs hK n (i + 1) S2 (by omega) (by omega) (by rw [e2]; exact hE.pI rfl) (fun q hq => ?_)
      by_cases e : q = i
      · subst e
        rw [e2, sI_s, show (2 : Int32) = nI 2 from rfl, pk_mul, nI_add]
        rfl
      · rw [e2, sI_n e]
        exact hI q (by omega)
theorem w_middles {S : St} {β : Nat → Nat → Nat} {N : Nat} {ch : Nat → Nat} {K : Int32 → St → Prop} (h : CS S β N ch) (hK : ∀ S1, Ex P76 S S1 → CS S1 β N ch → K (if N = 0 then -1 else nI (am (fun c => mid β (ch c)) N)) S1) : wX1_cheapestAtMiddles S 76 K := by
  refine ⟨ok_O h.1.1.1 (by decide), w_sumUp h (fun S1 hE h1 hs _ => ?_)⟩
  refine ⟨N + 1, l_mid h1 hs (fun S2 hE2 hI => ?_) (N + 1) 0 S1 (by omega) (by omega) Ex.rf (fun q hq => absurd hq (by omega))⟩
  have h2 := h1.ex hE2 (fun k hk => by omega)
  have hr := h2.1.1
  unfold wX1_cheapestAtMiddles_54
  rw [rt76_7 hr, rt76_1 hr, h2.1.2.2.2.1]
  refine ⟨⟨ok_O hr.1 (by decide), by decide⟩, by decide, ok_O hr.1 (by decide), ?_⟩
  exact w_first (M := 500) hr.1 (by decide) (by decide) h2.1.2.2.2.2.1 (fun c hc => ⟨hI c hc, by have := lowc_le h2.1.2.2.1 (ch c); have := gps_le h2.1.2.2.1 (ch c); unfold mid; omega⟩) (hK S2 (hE.tr (hE2.mo (fun k hk => by unfold P76; omega))) h2)
