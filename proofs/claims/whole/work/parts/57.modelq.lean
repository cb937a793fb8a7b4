theorem IM.c {S : St} {β : Nat → Nat → Nat} (h : IM S β) {c : Nat} (hc : c < nch β) : sI S 116 c = nI (chl β c) ∧ chl β c < 2 ^ β 0 0 ∧ chl β c < 4096 := by
  have h1 := (chl_spec hc).1
  have h2 : 2 ^ β 0 0 ≤ 2 ^ 12 := Nat.pow_le_pow_right (by decide) h.1.2.1.1.1
  exact ⟨h.2.2.2 c hc, h1, by omega⟩
theorem m_num {S : St} {β : Nat → Nat → Nat} {x : Int32} {K : Int32 → St → Prop} (h : IM S β) (h1 : ∀ c, c < nch β → x = nI c → K 1 S) (h0 : (∀ c, c < nch β → x ≠ nI c) → K 0 S) : wX9_isChoiceNumber S 108 x K := by
  have hr := h.1.1
  have hN := h.2.1
  refine ⟨ok_O hr.1 (by decide), ?_⟩
  rw [h.2.2.1]
  exact m_in (by omega) (nI1_toInt (by omega)) (fun c hc e => ⟨rfl, h1 c hc e⟩) (fun z => ⟨rfl, h0 z⟩)
theorem m_thing {S : St} {β : Nat → Nat → Nat} {x : Int32} {K : Int32 → St → Prop} (h : IB S β) (h1 : ∀ t, t < β 0 0 → x = nI t → K 1 S) (h0 : (∀ t, t < β 0 0 → x ≠ nI t) → K 0 S) : wX9_isThing S 108 x K := by
  have hr := h.1
  have h12 := h.2.1.1.1
  refine ⟨ok_O hr.1 (by decide), ?_⟩
  rw [h.2.2.1]
  exact m_in (by omega) (nI1_toInt (by omega)) (fun c hc e => ⟨rfl, h1 c hc e⟩) (fun z => ⟨rfl, h0 z⟩)
theorem m_isSet {S : St} {β : Nat → Nat → Nat} {x : Int32} {K : Int32 → St → Prop} (h : IB S β) (h1 : ∀ u, u < 2 ^ β 0 0 → x = nI u → K 1 S) (h0 : (∀ u, u < 2 ^ β 0 0 → x ≠ nI u) → K 0 S) : wX9_isSet S 108 x K := by
  have hr := h.1
  have h12 := h.2.1.1.1
  have hp : 2 ^ β 0 0 ≤ 2 ^ 12 := Nat.pow_le_pow_right (by decide) h12
  unfold wX9_isSet
  rw [h.2.2.1, psh (by omega)]
  have hq := w_within (S := S) (x := x) (m := 2 ^ β 0 0) (K := K) (by omega) h1 h0
  unfold wX8_isWithin at hq
  exact ⟨hq.1, fun z => ⟨ok_O hr.1 (by decide), (hq.2 z).1, (hq.2 z).2⟩⟩
theorem m_there {S : St} {β : Nat → Nat → Nat} {x : Int32} {K : Int32 → St → Prop} (h : IB S β) (h1 : ∀ w, w < 8 → x = nI w → (β 0 3).testBit w = true → K 1 S) (h0 : (∀ w, w < 8 → x = nI w → (β 0 3).testBit w = false) → K 0 S) : wX9_isThere S 108 x K := by
  have hr := h.1
  refine m_in (N := 8) (by decide) rfl (fun w hw e => ⟨fun z => absurd z (by decide), fun _ => ?_⟩) (fun z => ⟨fun _ => h0 (fun w hw e => absurd e (z w hw)), fun z => absurd rfl z⟩)
  rw [e, rt108_9 hr, pcl (by omega), h.2.2.2.2.2.2.1 w hw]
  refine ⟨⟨ok_O hr.1 (by decide), by decide⟩, ok_A (N := 8) hr.1 (by decide) (by omega) (by decide), fun c => h0 (fun w2 hw2 e2 => ?_), fun c => h1 w hw e ?_⟩
  · rw [e, peq (by omega) (by omega)] at e2
    rw [← e2]
    cases hq : (β 0 3).testBit w with
    | false => rfl
    | true => rw [hq] at c; exact absurd c (by decide)
  · cases hq : (β 0 3).testBit w with
    | false => rw [hq] at c; exact absurd rfl c
    | true => rfl
theorem l_worlds {S : St} {β : Nat → Nat → Nat} {K : Int32 → St → Prop} (h : IB S β) (hK : K (nI (popc (β 0 3))) S) : ∀ (n w : Nat), w ≤ 8 → 8 - w < n → wX9_worlds_4 K n 108 (nI (sm (fun _ => 1) (β 0 3) w)) (nI w) S
  | 0, w, _, h => absurd h (by omega)
  | n + 1, w, hw, hn => by
    have hr := h.1
    have ih := l_worlds h hK n
    have e : sm (fun _ => 1) (β 0 3) (w + 1) = sm (fun _ => 1) (β 0 3) w + if (β 0 3).testBit w then 1 else 0 := rfl
    rw [wX9_worlds_4, show (8 : Int32) = nI 8 from rfl, ple (by omega) (by omega)]
    refine ⟨fun c => ?_, fun c => ?_⟩
    · rw [show w = 8 by omega, sm_12 (fun _ => 1) (n := 8) (show β 0 3 < 2 ^ 8 from h.2.1.1.2.2.2) (by decide)]
      exact hK
    · rw [rt108_9 hr, pcl (by omega), h.2.2.2.2.2.2.1 w (by omega)]
      have i2 := ih (w + 1) (by omega) (by omega)
      rw [e] at i2
      refine ⟨⟨ok_O hr.1 (by decide), by decide⟩, ok_A (N := 8) hr.1 (by decide) (by omega) (by decide), fun z => ?_, fun z => ?_⟩
      · have hb : (β 0 3).testBit w = false := by
          cases hq : (β 0 3).testBit w with
          | false => rfl
          | true => rw [hq] at z; exact absurd z (by decide)
        rw [if_neg (by rw [hb]; decide)] at i2
        intro x e1 y e2
        rw [e1, e2, nI_1, show (0 : Int32) = nI 0 from rfl, nI_add]
        exact i2
      · have hb : (β 0 3).testBit w = true := by
          cases hq : (β 0 3).testBit w with
          | false => rw [hq] at z; exact absurd rfl z
          | true => rfl
        rw [if_pos hb] at i2
        intro x e1 y e2
        rw [e1, e2, nI_1, nI_1]
        exact i2
theorem m_worlds {S : St} {β : Nat → Nat → Nat} {K : Int32 → St → Prop} (h : IB S β) (hK : K (nI (popc (β 0 3))) S) : wX9_worlds S 108 K := ⟨9, l_worlds h hK 9 0 (by omega) (by omega)⟩
theorem pop0 {β : Nat → Nat → Nat} (h : WF β) : (popc (β 0 3) = 0) = (β 0 3 = 0) := by
  apply propext
  constructor
  · intro e
    apply Nat.eq_of_testBit_eq
    intro w
    rw [Nat.zero_testBit]
    cases hq : (β 0 3).testBit w with
    | false => rfl
    | true =>
      exfalso
      have h8 : w < 12 := by
        rcases Nat.lt_or_ge w 12 with z | z
        · exact z
        · have : 2 ^ 12 ≤ 2 ^ w := Nat.pow_le_pow_right (by decide) z
          have := h.1.2.2.2
          rw [Nat.testBit_lt_two_pow (by omega)] at hq
          cases hq
      have := sm_ge (f := fun _ => 1) h8 hq
      change 1 ≤ popc (β 0 3) at this
      omega
  · intro e; rw [e]; rfl
-- sums
theorem cst_sm {β : Nat → Nat → Nat} (h : WF β) (s u : Nat) : cst β s u = sm (fun t => if u.testBit t then β 2 t else β 1 t) s 12 := by
  have e : gps β (s &&& u) = sm (fun t => if u.testBit t then gp β t else 0) s 12 := by
    unfold gps
    have key : ∀ n, sm (gp β) (s &&& u) n = sm (fun t => if u.testBit t then gp β t else 0) s n := fun n => by
      induction n with
      | zero => rfl
      | succ n ih =>
        show sm (gp β) (s &&& u) n + _ = sm (fun t => if u.testBit t then gp β t else 0) s n + (if s.testBit n then (if u.testBit n then gp β n else 0) else 0)
        rw [ih, Nat.testBit_and]
        cases s.testBit n <;> cases u.testBit n <;> rfl
    exact key 12
  unfold cst lowc
  rw [e, ← sm_add]
  refine sm_cong (fun t ht => ⟨rfl, fun _ => ?_⟩)
  have := h.2.1 t ht
  unfold gp
  split <;> omega
theorem lm_sum {S : St} {β : Nat → Nat → Nat} {s u : Nat} {K : Int32 → St → Prop} (h : IB S β) (hs : s < 4096) (hu : u < 4096) (hK : K (nI (sm (fun t => if u.testBit t then β 2 t else β 1 t) s (β 0 0))) S) : ∀ (n t : Nat), t ≤ β 0 0 → β 0 0 - t < n → wX9_sum_5 K n 108 (nI s) (nI u) (nI (sm (fun t => if u.testBit t then β 2 t else β 1 t) s t)) (nI t) S
  | 0, t, _, h => absurd h (by omega)
  | n + 1, t, ht, hn => by
    have hr := h.1
    have h12 := h.2.1.1.1
    have ih := lm_sum h hs hu hK n
    have e : sm (fun t => if u.testBit t then β 2 t else β 1 t) s (t + 1) = sm (fun t => if u.testBit t then β 2 t else β 1 t) s t + if s.testBit t then (if u.testBit t then β 2 t else β 1 t) else 0 := rfl
    rw [wX9_sum_5, h.2.2.1, ple (by omega) (by omega)]
    refine ⟨ok_O hr.1 (by decide), fun c => ?_, fun c => m_has (by omega) (by omega) (fun z => ⟨fun w => absurd w (by decide), fun _ => m_has (by omega) (by omega) (fun z2 => ⟨fun w => absurd w (by decide), fun _ => ?_⟩) (fun z2 => ⟨fun _ => ?_, fun w => absurd rfl w⟩)⟩) (fun z => ⟨fun _ x ex => ?_, fun w => absurd rfl w⟩)⟩
    · rw [show t = β 0 0 by omega]; exact hK
    · have a2 : sI S 110 t = nI (β 2 t) := h.2.2.2.2.2.1 1 (by decide) t (by omega)
      have i2 := ih (t + 1) (by omega) (by omega)
      rw [e, if_pos z, if_pos z2] at i2
      rw [rt108_5 hr, pcl (by omega), a2]
      refine ⟨⟨ok_O hr.1 (by decide), by decide⟩, ok_A (N := 12) hr.1 (by decide) (by omega) (by decide), fun x ex y ey => ?_⟩
      rw [ey, ex, nI_1, nI_add]
      exact i2
    · have a1 : sI S 109 t = nI (β 1 t) := h.2.2.2.2.2.1 0 (by decide) t (by omega)
      have i2 := ih (t + 1) (by omega) (by omega)
      rw [e, if_pos z, if_neg (by rw [z2]; decide)] at i2
      rw [rt108_4 hr, pcl (by omega), a1]
      refine ⟨⟨ok_O hr.1 (by decide), by decide⟩, ok_A (N := 12) hr.1 (by decide) (by omega) (by decide), fun x ex y ey => ?_⟩
      rw [ey, ex, nI_1, nI_add]
      exact i2
    · have i2 := ih (t + 1) (by omega) (by omega)
      rw [e, if_neg (by rw [z]; decide)] at i2
      rw [ex, nI_1]
      exact i2
theorem m_sum {S : St} {β : Nat → Nat → Nat} {s u : Nat} {K : Int32 → St → Prop} (h : IB S β) (hs : s < 2 ^ β 0 0) (hu : u < 4096) (hK : K (nI (cst β s u)) S) : wX9_sum S 108 (nI s) (nI u) K := by
  have h12 := h.2.1.1.1
  have hs2 : s < 4096 := Nat.lt_of_lt_of_le hs (Nat.pow_le_pow_right (n := 2) (by decide) h12)
  refine ⟨β 0 0 + 1, lm_sum h hs2 hu ?_ _ 0 (by omega) (by omega)⟩
  rw [sm_12 _ hs h12, ← cst_sm h.2.1]
  exact hK
theorem am_succ (f : Nat → Nat) {i : Nat} (h : 0 < i) : am f (i + 1) = if f i < f (am f i) then i else am f i := by
  show (if i = 0 then 0 else _) = _
  rw [if_neg (by omega)]
theorem am_0 (f : Nat → Nat) : am f 1 = 0 := rfl
theorem lm_first {S : St} {β : Nat → Nat → Nat} {u : Nat} {K : Int32 → St → Prop} (h : IM S β) (hu : u < 4096) (hK : K (nI (am (fun c => cst β (chl β c) u) (nch β))) S) :
    ∀ (n i : Nat), 0 < i → i ≤ nch β → nch β - i < n → wX9_firstCheapest_4 K n 108 (nI u) (nI (am (fun c => cst β (chl β c) u) i)) (nI i) S
  | 0, i, _, _, h => absurd h (by omega)
  | n + 1, i, hi0, hi, hn => by
    have hr := h.1.1
    have hN := h.2.1
    have ih := lm_first h hu hK n
    have ha := am_lt (fun c => cst β (chl β c) u) i hi0
    have b1 := cst_le h.1.2.1 (chl β i) u
    have b2 := cst_le h.1.2.1 (chl β (am (fun c => cst β (chl β c) u) i)) u
    rw [wX9_firstCheapest_4, h.2.2.1, ple (by omega) (by omega)]
    refine ⟨ok_O hr.1 (by decide), fun c => ?_, fun c => ⟨fun z => absurd z (neg1_ne (by omega)), fun _ => ?_⟩⟩
    · rw [show i = nch β by omega]; exact hK
    · have ci := h.c (c := i) (by omega)
      have ca := h.c (c := am (fun c => cst β (chl β c) u) i) (by omega)
      have i2 := ih (i + 1) (by omega) (by omega) (by omega)
      rw [am_succ _ hi0] at i2
      rw [rt108_12 hr, pcl (by omega), ci.1]
      refine ⟨by decide, ok_A (N := 501) hr.1 (by decide) (by omega) (by decide), m_sum h.1 ci.2.1 hu ?_⟩
      rw [rt108_12 hr, pcl (by omega), ca.1]
      refine ⟨⟨ok_O hr.1 (by decide), by decide⟩, ok_A (N := 501) hr.1 (by decide) (by omega) (by decide), m_sum h.1 ca.2.1 hu ?_⟩
      rw [ple (by omega) (by omega)]
      refine ⟨fun z x ex => ?_, fun z x ex => ?_⟩
      · rw [if_neg (by omega)] at i2; rw [ex, nI_1]; exact i2
      · rw [if_pos (by omega)] at i2; rw [ex, nI_1]; exact i2
theorem m_firstCh {S : St} {β : Nat → Nat → Nat} {u : Nat} {K : Int32 → St → Prop} (h : IM S β) (hu : u < 4096) (h0 : 0 < nch β) (hK : K (nI (am (fun c => cst β (chl β c) u) (nch β))) S) : wX9_firstCheapest S 108 (nI u) K := by
  have hr := h.1.1
  have hN := h.2.1
  refine ⟨nch β + 2, ?_⟩
  rw [wX9_firstCheapest_4, h.2.2.1, show (0 : Int32) = nI 0 from rfl, ple (by omega) (by omega)]
  refine ⟨ok_O hr.1 (by decide), fun c => absurd c (by omega), fun _ => ⟨fun _ x ex => ?_, fun z => absurd rfl z⟩⟩
  rw [ex, nI_1]
  exact lm_first h hu hK _ 1 (by omega) (by omega) (by omega)
theorem m_rueAt {S : St} {β : Nat → Nat → Nat} {c : Nat} {K : Int32 → St → Prop} (h : IM S β) (hc : c < nch β) (hK : K (nI (ruv β (nch β) (chl β) c)) S) : wX9_rueAt S 108 (nI c) K := by
  have hr := h.1.1
  have hN := h.2.1
  have cc := h.c hc
  have h12 := h.1.2.1.1.1
  unfold wX9_rueAt
  rw [rt108_12 hr, pcl (by omega), cc.1]
  refine ⟨⟨ok_O hr.1 (by decide), by decide⟩, ok_A (N := 501) hr.1 (by decide) (by omega) (by decide), m_sum h.1 cc.2.1 cc.2.2 ?_⟩
  rw [rt108_12 hr, cc.1]
  refine ⟨⟨ok_O hr.1 (by decide), by decide⟩, ok_A (N := 501) hr.1 (by decide) (by omega) (by decide), m_firstCh h cc.2.2 (by omega) ?_⟩
  have ha := am_lt (fun x => cst β (chl β x) (chl β c)) (nch β) (by omega)
  have ca := h.c ha
  rw [rt108_12 hr, cc.1, pcl (by omega), ca.1]
  refine ⟨ok_A (N := 501) hr.1 (by decide) (by omega) (by decide), ⟨ok_O hr.1 (by decide), by decide⟩, ok_A (N := 501) hr.1 (by decide) (by omega) (by decide), m_sum h.1 ca.2.1 cc.2.2 ?_⟩
  rw [pk_sub (am_le (fun x => cst β (chl β x) (chl β c)) (nch β) c hc)]
  exact hK
theorem lm_best {S : St} {β : Nat → Nat → Nat} {K : Int32 → St → Prop} (h : IM S β) (hK : K (nI (am (ruv β (nch β) (chl β)) (nch β))) S) :
    ∀ (n i : Nat), 0 < i → i ≤ nch β → nch β - i < n → wX9_best_20 K n 108 (nI (am (ruv β (nch β) (chl β)) i)) (nI (ruv β (nch β) (chl β) (am (ruv β (nch β) (chl β)) i))) (nI i) S
  | 0, i, _, _, h => absurd h (by omega)
  | n + 1, i, hi0, hi, hn => by
    have hr := h.1.1
    have hN := h.2.1
    have ih := lm_best h hK n
    have b1 := ruv_le h.1.2.1 (nch β) (chl β) i
    have b2 := ruv_le h.1.2.1 (nch β) (chl β) (am (ruv β (nch β) (chl β)) i)
    rw [wX9_best_20, h.2.2.1, ple (by omega) (by omega)]
    refine ⟨ok_O hr.1 (by decide), fun c => ?_, fun c => m_rueAt h (by omega) ?_⟩
    · rw [show i = nch β by omega]; exact hK
    · have i2 := ih (i + 1) (by omega) (by omega) (by omega)
      rw [am_succ _ hi0] at i2
      rw [plt (by omega) (by omega)]
      refine ⟨fun z x ex => ?_, fun z x ex => ?_⟩
      · rw [if_pos z] at i2; rw [ex, nI_1]; exact i2
      · rw [if_neg z] at i2; rw [ex, nI_1]; exact i2
theorem m_best {S : St} {β : Nat → Nat → Nat} {K : Int32 → St → Prop} (h : IM S β) (hK : K (if nch β = 0 then -6 else nI (am (ruv β (nch β) (chl β)) (nch β))) S) : wX9_best S 108 K := by
  have hr := h.1.1
  have hN := h.2.1
  unfold wX9_best
  rw [h.2.2.1, show (0 : Int32) = nI 0 from rfl, peq (by omega) (by omega)]
  refine ⟨ok_O hr.1 (by decide), fun c => ?_, fun c => ?_⟩
  · rw [if_pos c] at hK; exact hK
  · rw [if_neg c] at hK
    exact m_rueAt h (by omega) ⟨nch β + 1, lm_best h hK _ 1 (by omega) (by omega) (by omega)⟩
theorem lm_many {S : St} {β : Nat → Nat → Nat} {a : Nat} {K : Int32 → St → Prop} (h : IM S β) (hK : K (nI (fb_ct (fun c => ruv β (nch β) (chl β) c == ruv β (nch β) (chl β) a) (nch β))) S) :
    ∀ (n i : Nat), i ≤ nch β → nch β - i < n → wX9_many_22 K n 108 (nI (ruv β (nch β) (chl β) a)) (nI (fb_ct (fun c => ruv β (nch β) (chl β) c == ruv β (nch β) (chl β) a) i)) (nI i) S
  | 0, i, _, h => absurd h (by omega)
  | n + 1, i, hi, hn => by
    have hr := h.1.1
    have hN := h.2.1
    have ih := lm_many h hK n
    have b1 := ruv_le h.1.2.1 (nch β) (chl β) i
    have b2 := ruv_le h.1.2.1 (nch β) (chl β) a
    rw [wX9_many_22, h.2.2.1, ple (by omega) (by omega)]
    refine ⟨ok_O hr.1 (by decide), fun c => ?_, fun c => m_rueAt h (by omega) ?_⟩
    · rw [show i = nch β by omega]; exact hK
    · have i2 := ih (i + 1) (by omega) (by omega)
      rw [fb_ct_succ] at i2
      rw [peq (by omega) (by omega)]
      refine ⟨fun z x ex y ey => ?_, fun z x ex y ey => ?_⟩
      · rw [if_pos (by rw [beq_iff_eq]; exact z)] at i2; rw [ey, ex, nI_1, nI_1]; exact i2
      · rw [if_neg (by rw [beq_iff_eq]; exact z)] at i2; rw [ey, ex, nI_1, show (0 : Int32) = nI 0 from rfl, nI_add]; exact i2
theorem m_many {S : St} {β : Nat → Nat → Nat} {K : Int32 → St → Prop} (h : IM S β) (hK : K (nI (if nch β = 0 then 0 else fb_ct (fun c => ruv β (nch β) (chl β) c == ruv β (nch β) (chl β) (am (ruv β (nch β) (chl β)) (nch β))) (nch β))) S) : wX9_many S 108 K := by
  have hr := h.1.1
  have hN := h.2.1
  unfold wX9_many
  rw [h.2.2.1, show (0 : Int32) = nI 0 from rfl, peq (by omega) (by omega)]
  refine ⟨ok_O hr.1 (by decide), fun c => ?_, fun c => m_best h ?_⟩
  · rw [if_pos c] at hK; exact hK
  · rw [if_neg c] at hK ⊢
    exact ⟨ok_O hr.1 (by decide), m_rueAt h (am_lt _ _ (by omega)) ⟨nch β + 1, lm_many h hK _ 0 (by omega) (by omega)⟩⟩
theorem all_lt {β : Nat → Nat → Nat} (h : WF β) : 2 ^ β 0 0 - 1 < 4096 := by
  have : 2 ^ β 0 0 ≤ 2 ^ 12 := Nat.pow_le_pow_right (by decide) h.1.1
  omega
theorem m_doubled {S : St} {β : Nat → Nat → Nat} {c : Nat} {K : Int32 → St → Prop} (h : IM S β) (hc : c < nch β) (hK : K (nI (cst β (chl β c) 0 + cst β (chl β c) (2 ^ β 0 0 - 1))) S) : wX9_doubled S 108 (nI c) K := by
  have hr := h.1.1
  have hN := h.2.1
  have cc := h.c hc
  have h12 := h.1.2.1.1.1
  unfold wX9_doubled
  rw [rt108_12 hr, pcl (by omega), cc.1]
  refine ⟨⟨ok_O hr.1 (by decide), by decide⟩, ok_A (N := 501) hr.1 (by decide) (by omega) (by decide), m_sum (u := 0) h.1 cc.2.1 (by omega) ?_⟩
  rw [rt108_12 hr, cc.1, h.1.2.2.1, psh (by omega), pm1]
  refine ⟨⟨ok_O hr.1 (by decide), by decide⟩, ok_A (N := 501) hr.1 (by decide) (by omega) (by decide), m_sum h.1 cc.2.1 (all_lt h.1.2.1) ?_⟩
  rw [nI_add]
  exact hK
theorem lm_mid {S : St} {β : Nat → Nat → Nat} {K : Int32 → St → Prop} (h : IM S β) (hK : K (nI (am (fun c => cst β (chl β c) 0 + cst β (chl β c) (2 ^ β 0 0 - 1)) (nch β))) S) :
    ∀ (n i : Nat), 0 < i → i ≤ nch β → nch β - i < n → wX9_middle_14 K n 108 (nI (am (fun c => cst β (chl β c) 0 + cst β (chl β c) (2 ^ β 0 0 - 1)) i)) (nI i) S
  | 0, i, _, _, h => absurd h (by omega)
  | n + 1, i, hi0, hi, hn => by
    have hr := h.1.1
    have hN := h.2.1
    have ih := lm_mid h hK n
    have ha := am_lt (fun c => cst β (chl β c) 0 + cst β (chl β c) (2 ^ β 0 0 - 1)) i hi0
    have b1 := cst_le h.1.2.1 (chl β i) 0
    have b2 := cst_le h.1.2.1 (chl β i) (2 ^ β 0 0 - 1)
    have b3 := cst_le h.1.2.1 (chl β (am (fun c => cst β (chl β c) 0 + cst β (chl β c) (2 ^ β 0 0 - 1)) i)) 0
    have b4 := cst_le h.1.2.1 (chl β (am (fun c => cst β (chl β c) 0 + cst β (chl β c) (2 ^ β 0 0 - 1)) i)) (2 ^ β 0 0 - 1)
    rw [wX9_middle_14, h.2.2.1, ple (by omega) (by omega)]
    refine ⟨ok_O hr.1 (by decide), fun c => ?_, fun c => m_doubled h (by omega) ⟨ok_O hr.1 (by decide), m_doubled h (by omega) ?_⟩⟩
    · rw [show i = nch β by omega]; exact hK
    · have i2 := ih (i + 1) (by omega) (by omega) (by omega)
      rw [am_succ _ hi0] at i2
      rw [ple (by omega) (by omega)]
      refine ⟨fun z x ex => ?_, fun z x ex => ?_⟩
      · rw [if_neg (by omega)] at i2; rw [ex, nI_1]; exact i2
      · rw [if_pos (by omega)] at i2; rw [ex, nI_1]; exact i2
theorem m_middle {S : St} {β : Nat → Nat → Nat} {K : Int32 → St → Prop} (h : IM S β) (hK : K (if nch β = 0 then -6 else nI (am (fun c => cst β (chl β c) 0 + cst β (chl β c) (2 ^ β 0 0 - 1)) (nch β))) S) : wX9_middle S 108 K := by
  have hr := h.1.1
  have hN := h.2.1
  unfold wX9_middle
  rw [h.2.2.1, show (0 : Int32) = nI 0 from rfl, peq (by omega) (by omega)]
  refine ⟨ok_O hr.1 (by decide), fun c => ?_, fun c => ?_⟩
  · rw [if_pos c] at hK; exact hK
  · rw [if_neg c] at hK
    exact ⟨nch β + 1, lm_mid h hK _ 1 (by omega) (by omega) (by omega)⟩
