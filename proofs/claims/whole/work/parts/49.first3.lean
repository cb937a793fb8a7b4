theorem mn_cong {f g : Nat → Nat} {d : Nat} : ∀ {n}, (∀ j, j < n → f j = g j) → mn f d n = mn g d n
  | 0, _ => rfl
  | n + 1, h => by
    have h1 := mn_cong (n := n) (d := d) (fun j hj => h j (by omega))
    unfold mn
    rw [h1, h n (by omega)]
theorem sm_hi (f : Nat → Nat) {s n : Nat} (h : s < 2 ^ n) : ∀ d, sm f s (n + d) = sm f s n
  | 0 => rfl
  | d + 1 => by
    have ih := sm_hi f h d
    show sm f s (n + d) + (if s.testBit (n + d) then f (n + d) else 0) = _
    have hp : 2 ^ n ≤ 2 ^ (n + d) := Nat.pow_le_pow_right (by decide) (by omega)
    rw [ih, Nat.testBit_lt_two_pow (show s < 2 ^ (n + d) by omega)]
    rfl
theorem sm_12 (f : Nat → Nat) {s n : Nat} (h : s < 2 ^ n) (hn : n ≤ 12) : sm f s n = sm f s 12 := by
  have := sm_hi f h (12 - n)
  rw [show n + (12 - n) = 12 by omega] at this
  exact this.symm
def P6 (k : Nat) : Prop := k = 106
theorem LSt_0 (f : Nat → Nat) (ch : Nat → Nat) (i m : Nat) : LSt f (i + 1) ch 0 m = if m = ch i then 0 else LSt f i ch 0 m := by
  show (if gL f ch 0 m i < mn (gL f ch 0 m) 1000000 i then gL f ch 0 m i else mn (gL f ch 0 m) 1000000 i) = _
  have h := (mn_le (gL f ch 0 m) 1000000 i).1
  by_cases e : m = ch i
  · rw [if_pos e]
    have : gL f ch 0 m i = 0 := by unfold gL; rw [if_pos (by rw [e])]; rfl
    rw [this]
    split <;> omega
  · rw [if_neg e]
    have : gL f ch 0 m i = 1000000 := by unfold gL; rw [if_neg (by simp only [Nat.pow_zero, Nat.div_one]; omega)]
    rw [this, if_neg (by omega)]
    rfl
theorem l_sp57 {S : St} {β : Nat → Nat → Nat} {N : Nat} {ch : Nat → Nat} {x1 : Nat} {f : Nat → Nat} {K : St → Prop} (h : Co S β N ch) (hx : 1 ≤ x1 ∧ x1 ≤ 124 ∧ kc x1 = 10 ∧ ln x1 = 12) (hx6 : x1 ≠ 106) (hf : ∀ q, q < 12 → sI S x1 q = nI (f q) ∧ f q ≤ 1000) (hK : ∀ S1, Ex (fun k => k = 106) S S1 → (∀ m, m < 2 ^ β 0 0 → sI S1 106 m = nI (LSt f N ch (β 0 0) m)) → K S1) :
    ∀ (n t : Nat) (S1 : St), t ≤ β 0 0 → β 0 0 - t < n → Ex (fun k => k = 106) S S1 → (∀ m, m < 2 ^ β 0 0 → sI S1 106 m = nI (LSt f N ch t m)) → wX6_spreadLeast_57 K n 99 x1 (nI (2 ^ β 0 0)) (nI t) S1
  | 0, t, S1, _, h, _, _ => absurd h (by omega)
  | n + 1, t, S1, ht, hn, hE, hI => by
    have h1 := h.ex hE (fun k hk => by omega)
    have hr := h1.1
    have h12 := h1.n12
    rw [wX6_spreadLeast_57, rt99_0 hr, h1.2.1.1 0 (by decide), ple (by omega) (by omega)]
    refine ⟨⟨ok_O hr.1 (by decide), by decide⟩, ok_O hr.1 (by decide), fun c => ?_, fun c => ?_⟩
    · have e : t = β 0 0 := by omega
      rw [e] at hI
      exact hK S1 hE hI
    · have hft := hf t (by omega)
      rw [pcl (by omega), hE.i hx6, hft.1]
      refine ⟨ok_A hr.1 hx (by omega) (by decide), w_settle hr (by omega) h12 hft.2 hI (fun S2 hE2 hI2 => ?_)⟩
      intro x ex
      rw [ex, nI_1]
      exact l_sp57 h hx hx6 hf hK n (t + 1) S2 (by omega) (by omega) (hE.tr hE2) hI2
theorem l_sp23 {S : St} {β : Nat → Nat → Nat} {N : Nat} {ch : Nat → Nat} {x1 : Nat} {f : Nat → Nat} {K : St → Prop} (h : Co S β N ch) (hK : ∀ S1, Ex (fun k => k = 106) S S1 → (∀ m, m < 2 ^ β 0 0 → sI S1 106 m = nI (LSt f N ch 0 m)) → wX6_spreadLeast_55 K 99 x1 (nI (2 ^ β 0 0)) S1) :
    ∀ (n i : Nat) (S1 : St), i ≤ N → N - i < n → Ex (fun k => k = 106) S S1 → (∀ m, m < 2 ^ β 0 0 → sI S1 106 m = nI (LSt f i ch 0 m)) → wX6_spreadLeast_23 K n 99 x1 (nI (2 ^ β 0 0)) (nI i) S1
  | 0, t, S1, _, h, _, _ => absurd h (by omega)
  | n + 1, i, S1, ht, hn, hE, hI => by
    have h1 := h.ex hE (fun k hk => by omega)
    have hr := h1.1
    have h12 := h1.n12
    have hN := h1.2.2.2.2.1
    rw [wX6_spreadLeast_23, rt99_1 hr, h1.2.2.2.1, ple (by omega) (by omega)]
    refine ⟨⟨ok_O hr.1 (by decide), by decide⟩, ok_O hr.1 (by decide), fun c => ?_, fun c => ?_⟩
    · have e : i = N := by omega
      subst e
      exact hK S1 hE hI
    · have hc := h1.2.2.2.2.2.2 i (by omega)
      have hc2 := h1.c12 (c := i) (by omega)
      rw [rt99_4 hr, pcl (by omega), hc.1, pcl (by omega)]
      refine ⟨by decide, h1.z0, ok_A hr.1 h1.z (by omega) (by decide), ok_A (N := 4096) hr.1 (by decide) (by omega) (by decide), fun S2 e2 x ex => ?_⟩
      rw [ex, nI_1]
      refine l_sp23 h hK n (i + 1) S2 (by omega) (by omega) (by rw [e2]; exact hE.pI rfl) (fun m hm => ?_)
      rw [LSt_0]
      by_cases e : m = ch i
      · rw [if_pos e, e2, e, sI_s]; rfl
      · rw [if_neg e, e2, sI_n e]; exact hI m hm
theorem l_sp2 {S : St} {β : Nat → Nat → Nat} {N : Nat} {ch : Nat → Nat} {x1 : Nat} {K : St → Prop} (h : Co S β N ch) (hK : ∀ S1, Ex (fun k => k = 106) S S1 → (∀ m, m < 2 ^ β 0 0 → sI S1 106 m = nI 1000000) → wX6_spreadLeast_21 K 99 x1 (nI (2 ^ β 0 0)) S1) :
    ∀ (n i : Nat) (S1 : St), i ≤ 2 ^ β 0 0 → 2 ^ β 0 0 - i < n → Ex (fun k => k = 106) S S1 → (∀ m, m < i → sI S1 106 m = nI 1000000) → wX6_spreadLeast_2 K n 99 x1 (nI (2 ^ β 0 0)) (nI i) S1
  | 0, t, S1, _, h, _, _ => absurd h (by omega)
  | n + 1, i, S1, ht, hn, hE, hI => by
    have h1 := h.ex hE (fun k hk => by omega)
    have hr := h1.1
    have h12 : 2 ^ β 0 0 ≤ 2 ^ 12 := Nat.pow_le_pow_right (by decide) h1.n12
    rw [wX6_spreadLeast_2, ple (by omega) (by omega)]
    refine ⟨fun c => ?_, fun c => ?_⟩
    · exact hK S1 hE (fun m hm => hI m (by omega))
    · rw [rt99_4 hr, pcl (by omega)]
      refine ⟨⟨ok_O hr.1 (by decide), by decide⟩, ok_A (N := 4096) hr.1 (by decide) (by omega) (by decide), fun S2 e2 x ex => ?_⟩
      rw [ex, nI_1]
      refine l_sp2 h hK n (i + 1) S2 (by omega) (by omega) (by rw [e2]; exact hE.pI rfl) (fun m hm => ?_)
      by_cases e : m = i
      · rw [e2, e, sI_s]; rfl
      · rw [e2, sI_n e]; exact hI m (by omega)
theorem w_spread {S : St} {β : Nat → Nat → Nat} {N : Nat} {ch : Nat → Nat} {x1 : Nat} {f : Nat → Nat} {K : St → Prop} (h : Co S β N ch) (hx : 1 ≤ x1 ∧ x1 ≤ 124 ∧ kc x1 = 10 ∧ ln x1 = 12) (hx6 : x1 ≠ 106) (hf : ∀ q, q < 12 → sI S x1 q = nI (f q) ∧ f q ≤ 1000) (hK : ∀ S1, Ex (fun k => k = 106) S S1 → (∀ m, m < 2 ^ β 0 0 → sI S1 106 m = nI (mn (fun c => sm f (sdf (ch c) m) 12) 1000000 N)) → K S1) : wX6_spreadLeast S 99 x1 (nI (2 ^ β 0 0)) K := by
  refine ⟨2 ^ β 0 0 + 1, l_sp2 h (fun S1 hE1 hI1 => ?_) _ 0 S (Nat.zero_le _) (Nat.lt_succ_self _) Ex.rf (fun m hm => absurd hm (by omega))⟩
  have h1 := h.ex hE1 (fun k hk => by omega)
  refine ⟨N + 1, l_sp23 (f := f) h1 (fun S2 hE2 hI2 => ?_) _ 0 S1 (Nat.zero_le _) (Nat.lt_succ_self _) Ex.rf hI1⟩
  have h2 := h1.ex hE2 (fun k hk => by omega)
  have h12 := h2.n12
  refine ⟨β 0 0 + 1, l_sp57 h2 hx hx6 (fun q hq => ?_) (fun S3 hE3 hI3 => hK S3 ((hE1.tr hE2).tr hE3) (fun m hm => ?_)) _ 0 S2 (Nat.zero_le _) (Nat.lt_succ_self _) Ex.rf hI2⟩
  · rw [(hE1.tr hE2).i hx6]; exact hf q hq
  · rw [hI3 m hm]
    congr 1
    refine mn_cong (fun j hj => ?_)
    have hj2 := (h2.2.2.2.2.2.2 j hj).2
    unfold gL
    rw [Nat.div_eq_of_lt hj2, Nat.div_eq_of_lt hm, if_pos rfl]
    exact sm_12 f (sdf_lt hj2) h12
def P07 (k : Nat) : Prop := (101 ≤ k ∧ k ≤ 107) ∧ k ≠ 103
theorem CS.c4 {S : St} {β : Nat → Nat → Nat} {N : Nat} {ch : Nat → Nat} (h : CS S β N ch) {c : Nat} (hc : c < N) : ch c < 4096 := h.1.c12 hc
theorem l_ld65 {S : St} {β : Nat → Nat → Nat} {N : Nat} {ch : Nat → Nat} {w : Nat} {K : Int32 → St → Prop} {B : Nat → Int32 → Int32 → St → Prop} (h : CS S β N ch) (hw : w < 8) (ht : (β 0 3).testBit w = true) (hl : ∀ m, m < 2 ^ β 0 0 → sI S 106 m = nI (laW β N ch m w)) (hd : ∀ m, m < 2 ^ β 0 0 → sI S 107 m = nI (mxL β N ch m w))
    (hB : ∀ S1, Ex (fun k => k = 107) S S1 → (∀ m, m < 2 ^ β 0 0 → sI S1 107 m = nI (mxL β N ch m (w + 1))) → B 99 (nI (2 ^ β 0 0)) (nI (w + 1)) S1) :
    ∀ (n i : Nat) (S1 : St), i ≤ 2 ^ β 0 0 → 2 ^ β 0 0 - i < n → Ex (fun k => k = 107) S S1 → (∀ m, m < 2 ^ β 0 0 → sI S1 107 m = nI (mxL β N ch m (if m < i then w + 1 else w))) → wX6_leastDearSet_65 K B n 99 (nI (2 ^ β 0 0)) (nI w) (nI i) S1
  | 0, i, S1, _, h, _, _ => absurd h (by omega)
  | n + 1, i, S1, hi, hn, hE, hI => by
    have h1 := h.ex hE (fun k hk => by omega)
    have hr := h1.1.1
    have h12 : 2 ^ β 0 0 ≤ 2 ^ 12 := Nat.pow_le_pow_right (by decide) h1.1.n12
    rw [wX6_leastDearSet_65, ple (by omega) (by omega)]
    refine ⟨fun c => ?_, fun c => ?_⟩
    · intro x ex
      rw [ex, nI_1]
      refine hB S1 hE (fun m hm => ?_)
      rw [hI m hm, if_pos (by omega)]
    · have b1 := mxL_le β N ch i w
      have b2 := laW_le β N ch i w
      have q1 := hI i (by omega)
      rw [if_neg (Nat.lt_irrefl _)] at q1
      rw [rt99_4 hr, rt99_5 hr, pcl (by omega), q1, hE.i (show ¬ 106 = 107 from by decide), hl i (by omega), ilt (by omega) (by omega)]
      refine ⟨⟨ok_O hr.1 (by decide), by decide⟩, ok_A (N := 4096) hr.1 (by decide) (by omega) (by decide), by decide, ok_A (N := 4096) hr.1 (by decide) (by omega) (by decide), fun S2 e2 x ex => ?_⟩
      rw [ex, nI_1]
      refine l_ld65 h hw ht hl hd hB n (i + 1) S2 (by omega) (by omega) (by rw [e2]; exact hE.pI rfl) (fun m hm => ?_)
      by_cases e : m = i
      · subst e
        rw [e2, sI_s, if_pos (show m < m + 1 by omega)]
        show _ = nI (if (β 0 3).testBit w then _ else _)
        rw [if_pos ht]
      · rw [e2, sI_n e, hI m hm]
        by_cases e2 : m < i
        · rw [if_pos e2, if_pos (by omega)]
        · rw [if_neg e2, if_neg (by omega)]
theorem l_ld32 {S : St} {β : Nat → Nat → Nat} {N : Nat} {ch : Nat → Nat} {K : Int32 → St → Prop} (hK : ∀ S1, Ex P07 S S1 → CS S1 β N ch → (∀ m, m < 2 ^ β 0 0 → sI S1 107 m = nI (mxL β N ch m 8)) → wX6_leastDearSet_103 K 99 (nI (2 ^ β 0 0)) S1) :
    ∀ (n w : Nat) (S1 : St), w ≤ 8 → 8 - w < n → Ex P07 S S1 → CS S1 β N ch → (∀ m, m < 2 ^ β 0 0 → sI S1 107 m = nI (mxL β N ch m w)) → wX6_leastDearSet_32 K n 99 (nI (2 ^ β 0 0)) (nI w) S1
  | 0, w, S1, _, h, _, _, _ => absurd h (by omega)
  | n + 1, w, S1, hw, hn, hE, h1, hI => by
    have hr := h1.1.1
    rw [wX6_leastDearSet_32, show (8 : Int32) = nI 8 from rfl, ple (by omega) (by omega)]
    refine ⟨fun c => ?_, fun c => ?_⟩
    · have e : w = 8 := by omega
      subst e
      exact hK S1 hE h1 hI
    · rw [rt99_0 hr]
      refine ⟨⟨ok_O hr.1 (by decide), by decide⟩, ok_O hr.1 (by decide), ?_⟩
      refine w_hasW hr.1 (by decide) h1.1.2.1 h1.1.2.2.1 (fun w2 hw2 e ht => ?_) (fun hf => ?_)
      · rw [peq (by omega) (by omega)] at e
        subst e
        refine ⟨fun z => absurd z (by decide), fun _ => ?_⟩
        rw [rt99_0 hr, rt2_9 hr, pcl (by omega), r8w hr hw2]
        refine ⟨⟨ok_O hr.1 (by decide), by decide⟩, ⟨ok_O hr.1 (by decide), by decide⟩, ⟨ok_A (N := 8) hr.1 (by decide) hw2 (by decide), by omega⟩, ?_⟩
        refine w_spread (f := β (6 + w)) h1.1 (c9w hw2) (by omega) (fun q hq => ⟨?_, h1.1.2.2.1.2.2.2.2.1 w hw2 q hq⟩) (fun S2 hE2 hI2 => ?_)
        · have := h1.1.2.1.2.2 w hw2 q hq
          rw [show 2 + 7 + w = 9 + w by omega] at this
          exact this
        · have h2 := h1.ex hE2 (fun k hk => by omega)
          have hd2 : ∀ m, m < 2 ^ β 0 0 → sI S2 107 m = nI (mxL β N ch m w) := fun m hm => by rw [hE2.i (by decide)]; exact hI m hm
          refine ⟨2 ^ β 0 0 + 1, l_ld65 h2 hw2 ht hI2 hd2 (fun S3 hE3 hI3 => ?_) _ 0 S2 (Nat.zero_le _) (Nat.lt_succ_self _) Ex.rf (fun m hm => by rw [if_neg (by omega)]; exact hd2 m hm)⟩
          exact l_ld32 hK n (w + 1) S3 (by omega) (by omega) (hE.tr ((hE2.mo (fun k hk => by unfold P07; omega)).tr (hE3.mo (fun k hk => by unfold P07; omega)))) (h2.ex hE3 (fun k hk => by omega)) hI3
      · have hf := hf w (by omega) rfl
        refine ⟨fun _ => ?_, fun z => absurd rfl z⟩
        intro x ex
        rw [ex, nI_1]
        refine l_ld32 hK n (w + 1) S1 (by omega) (by omega) hE h1 (fun m hm => ?_)
        rw [hI m hm]
        show _ = nI (if (β 0 3).testBit w then _ else _)
        rw [if_neg (by rw [hf]; decide)]
theorem l_ld119 {S : St} {β : Nat → Nat → Nat} {N : Nat} {ch : Nat → Nat} {K : Int32 → St → Prop} (h : CS S β N ch) (hT : SumT S 103 (β 5)) (hK : ∀ S1, Ex (fun k => k = 107) S S1 → (∀ m, m < 2 ^ β 0 0 → sI S1 107 m = nI (twv β N ch m)) → wX6_leastDearSet_147 K 99 (nI (2 ^ β 0 0)) S1) :
    ∀ (n i : Nat) (S1 : St), i ≤ 2 ^ β 0 0 → 2 ^ β 0 0 - i < n → Ex (fun k => k = 107) S S1 → (∀ m, m < 2 ^ β 0 0 → sI S1 107 m = nI (if m < i then twv β N ch m else mxL β N ch m 8)) → wX6_leastDearSet_119 K n 99 (nI (2 ^ β 0 0)) (nI i) S1
  | 0, i, S1, _, h, _, _ => absurd h (by omega)
  | n + 1, i, S1, hi, hn, hE, hI => by
    have h1 := h.ex hE (fun k hk => by omega)
    have hr := h1.1.1
    have h12 : 2 ^ β 0 0 ≤ 2 ^ 12 := Nat.pow_le_pow_right (by decide) h1.1.n12
    rw [wX6_leastDearSet_119, ple (by omega) (by omega)]
    refine ⟨fun c => ?_, fun c => ?_⟩
    · refine hK S1 hE (fun m hm => ?_)
      rw [hI m hm, if_pos (by omega)]
    · have q1 := hI i (by omega)
      rw [if_neg (Nat.lt_irrefl _)] at q1
      rw [rt99_3 hr, rt99_5 hr, pcl (by omega), q1]
      refine ⟨⟨ok_O hr.1 (by decide), by decide⟩, ok_A (N := 4096) hr.1 (by decide) (by omega) (by decide), by decide, ok_O hr.1 (by decide), ?_⟩
      refine w_total hr so103 (hT.ex hE (by decide) (by decide)) (by omega) ?_
      refine ⟨ok_A (N := 4096) hr.1 (by decide) (by omega) (by decide), fun S2 e2 x ex => ?_⟩
      rw [ex, nI_1]
      refine l_ld119 h hT hK n (i + 1) S2 (by omega) (by omega) (by rw [e2]; exact hE.pI rfl) (fun m hm => ?_)
      by_cases e : m = i
      · subst e
        rw [e2, sI_s, if_pos (by omega), nI_add, Nat.add_comm]
        rfl
      · rw [e2, sI_n e, hI m hm]
        by_cases e2 : m < i
        · rw [if_pos e2, if_pos (by omega)]
        · rw [if_neg e2, if_neg (by omega)]
theorem l_ld12 {S : St} {β : Nat → Nat → Nat} {N : Nat} {ch : Nat → Nat} {K : Int32 → St → Prop} (h : CS S β N ch) (hK : ∀ S1, Ex (fun k => k = 107) S S1 → (∀ m, m < 2 ^ β 0 0 → sI S1 107 m = nI 0) → wX6_leastDearSet_30 K 99 (nI (2 ^ β 0 0)) S1) :
    ∀ (n i : Nat) (S1 : St), i ≤ 2 ^ β 0 0 → 2 ^ β 0 0 - i < n → Ex (fun k => k = 107) S S1 → (∀ m, m < i → sI S1 107 m = nI 0) → wX6_leastDearSet_12 K n 99 (nI (2 ^ β 0 0)) (nI i) S1
  | 0, t, S1, _, h, _, _ => absurd h (by omega)
  | n + 1, i, S1, ht, hn, hE, hI => by
    have h1 := h.ex hE (fun k hk => by omega)
    have hr := h1.1.1
    have h12 : 2 ^ β 0 0 ≤ 2 ^ 12 := Nat.pow_le_pow_right (by decide) h1.1.n12
    rw [wX6_leastDearSet_12, ple (by omega) (by omega)]
    refine ⟨fun c => ?_, fun c => ?_⟩
    · exact hK S1 hE (fun m hm => hI m (by omega))
    · rw [rt99_5 hr, pcl (by omega)]
      refine ⟨⟨ok_O hr.1 (by decide), by decide⟩, ok_A (N := 4096) hr.1 (by decide) (by omega) (by decide), fun S2 e2 x ex => ?_⟩
      rw [ex, nI_1]
      refine l_ld12 h hK n (i + 1) S2 (by omega) (by omega) (by rw [e2]; exact hE.pI rfl) (fun m hm => ?_)
      by_cases e : m = i
      · rw [e2, e, sI_s]; rfl
      · rw [e2, sI_n e]; exact hI m (by omega)
theorem twv_le {S : St} {β : Nat → Nat → Nat} {N : Nat} {ch : Nat → Nat} (h : Co S β N ch) (u : Nat) : twv β N ch u ≤ 1012000 := by
  have h1 : sm (β 5) u 12 ≤ 12 * 1000 := sm_le (fun t ht => h.2.2.1.2.2.2.1 t ht)
  have h2 := mxL_le β N ch u 8
  unfold twv
  omega
theorem w_least {S : St} {β : Nat → Nat → Nat} {N : Nat} {ch : Nat → Nat} {K : Int32 → St → Prop} (h : CS S β N ch) (hK : ∀ S1, Ex P07 S S1 → CS S1 β N ch → K (nI (am (twv β N ch) (2 ^ β 0 0))) S1) : wX6_leastDearSet S 99 K := by
  have hr := h.1.1
  have h12 := h.1.n12
  have hp : 2 ^ β 0 0 ≤ 2 ^ 12 := Nat.pow_le_pow_right (by decide) h12
  unfold wX6_leastDearSet
  rw [rt99_0 hr, h.1.2.1.1 0 (by decide), psh (by omega)]
  refine ⟨⟨ok_O hr.1 (by decide), by decide⟩, ok_O hr.1 (by decide), fun x ex => ?_⟩
  rw [ex]
  refine ⟨2 ^ β 0 0 + 1, l_ld12 h (fun S1 hE1 hI1 => ?_) _ 0 S (Nat.zero_le _) (Nat.lt_succ_self _) Ex.rf (fun m hm => absurd hm (by omega))⟩
  have h1 := h.ex hE1 (fun k hk => by omega)
  refine ⟨9, l_ld32 (S := S) (fun S2 hE2 h2 hI2 => ?_) 9 0 S1 (by omega) (by omega) (hE1.mo (fun k hk => by unfold P07; omega)) h1 hI1⟩
  have hr2 := h2.1.1
  unfold wX6_leastDearSet_103
  rw [rt99_3 hr2, rt99_0 hr2, rt2_8 hr2]
  refine ⟨⟨ok_O hr2.1 (by decide), by decide⟩, by decide, ⟨ok_O hr2.1 (by decide), by decide⟩, ok_O hr2.1 (by decide), ?_⟩
  refine w_fill (f := β 5) hr2 so103 (by decide) (by decide) (fun q hq => h2.1.2.1.2.1 4 (by decide) q hq) (h2.2.2 103 so103) (fun S3 hE3 hT => ?_)
  have h3 := h2.fill so103 (by decide) hE3 hT
  refine ⟨2 ^ β 0 0 + 1, l_ld119 h3 hT (fun S4 hE4 hI4 => ?_) _ 0 S3 (Nat.zero_le _) (Nat.lt_succ_self _) Ex.rf (fun m hm => by rw [if_neg (by omega), hE3.i (by decide)]; exact hI2 m hm)⟩
  have h4 := h3.ex hE4 (fun k hk => by omega)
  have hr4 := h4.1.1
  unfold wX6_leastDearSet_147
  rw [rt99_5 hr4]
  refine ⟨⟨ok_O hr4.1 (by decide), by decide⟩, ?_⟩
  refine w_first (M := 4096) hr4.1 (by decide) (by decide) (by omega) (fun m hm => ⟨hI4 m hm, by have := twv_le h4.1 m; omega⟩) ?_
  rw [if_neg (by have := Nat.two_pow_pos (β 0 0); omega)]
  exact hK S4 (hE2.tr ((hE3.mo (fun k hk => by unfold P07; omega)).tr (hE4.mo (fun k hk => by unfold P07; omega)))) h4
