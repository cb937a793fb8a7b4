-- dearest
def um (β : Nat → Nat → Nat) (s : Nat) : Nat → Nat
  | 0 => 0
  | i + 1 => match wdo β (sdf s (um β s i)) (β 0 0) with
    | none => um β s i
    | some w => um β s i ||| 2 ^ w
theorem um_lt {β : Nat → Nat → Nat} (h : WF β) (s : Nat) : ∀ i, um β s i < 4096
  | 0 => by show (0 : Nat) < 4096; omega
  | i + 1 => by
    have ih := um_lt h s i
    unfold um
    cases hw : wdo β (sdf s (um β s i)) (β 0 0) with
    | none => exact ih
    | some w =>
      have := (wdo_in hw).1
      have h12 := h.1.1
      exact Nat.or_lt_two_pow (n := 12) ih (Nat.pow_lt_pow_right (by decide) (by omega))
theorem um_gps {β : Nat → Nat → Nat} (h : WF β) {s w u : Nat} (hw : w < 12) (hs : s.testBit w = true) (hu : u.testBit w = false) : gps β (s &&& (u ||| 2 ^ w)) = gps β (s &&& u) + gp β w := by
  unfold gps
  have hb : (s &&& (u ||| 2 ^ w)).testBit w = true := by rw [Nat.testBit_and, or1_bit, hs]; simp
  have := sm_del (f := gp β) (n := 12) hw hb
  rw [← this]
  congr 1
  refine sm_cong (fun t ht => ?_)
  rw [sd_bit, Nat.testBit_and, or1_bit, Nat.testBit_and]
  by_cases e : w = t
  · subst e
    rw [hu, decide_eq_true rfl]
    simp
  · rw [decide_eq_false e]
    simp
theorem um_wg {β : Nat → Nat → Nat} (h : WF β) (s : Nat) : ∀ k i, gps β (s &&& um β s i) + wg β k (sdf s (um β s i)) = gps β (s &&& um β s (i + k))
  | 0, i => by
    show gps β (s &&& um β s i) + 0 = _
    rfl
  | k + 1, i => by
    have ih := um_wg h s k (i + 1)
    rw [show i + 1 + k = i + (k + 1) by omega] at ih
    have e1 : um β s (i + 1) = match wdo β (sdf s (um β s i)) (β 0 0) with
      | none => um β s i
      | some w => um β s i ||| 2 ^ w := rfl
    have e2 : wg β (k + 1) (sdf s (um β s i)) = match wdo β (sdf s (um β s i)) (β 0 0) with
      | none => 0
      | some w => gp β w + wg β k (sdf (sdf s (um β s i)) (2 ^ w)) := rfl
    cases hw : wdo β (sdf s (um β s i)) (β 0 0) with
    | none =>
      rw [hw] at e1 e2
      dsimp only at e1 e2
      rw [e1] at ih
      rw [e2, ← ih]
      have : wg β k (sdf s (um β s i)) = 0 := by
        cases k with
        | zero => rfl
        | succ k =>
          show (match wdo β (sdf s (um β s i)) (β 0 0) with
            | none => 0
            | some w => gp β w + wg β k (sdf (sdf s (um β s i)) (2 ^ w))) = 0
          rw [hw]
      rw [this]
    | some w =>
      rw [hw] at e1 e2
      dsimp only at e1 e2
      have hin := wdo_in hw
      have h12 := h.1.1
      have hb := hin.2
      rw [sdf_bit, Bool.and_eq_true, Bool.not_eq_true'] at hb
      have es : sdf (sdf s (um β s i)) (2 ^ w) = sdf s (um β s i ||| 2 ^ w) := by
        apply Nat.eq_of_testBit_eq
        intro t
        rw [sdf_bit, sdf_bit, sdf_bit, Nat.testBit_or]
        cases s.testBit t <;> cases (um β s i).testBit t <;> cases (2 ^ w).testBit t <;> rfl
      rw [e1, um_gps h (by omega) hb.1 hb.2] at ih
      rw [e2, es, ← ih]
      exact (Nat.add_assoc _ _ _).symm
theorem um_dea {β : Nat → Nat → Nat} (h : WF β) (k s : Nat) : cst β s (um β s k) = dea β k s := by
  have := um_wg h s k 0
  have e0 : um β s 0 = 0 := rfl
  have e1 : sdf s 0 = s := by
    apply Nat.eq_of_testBit_eq
    intro i
    rw [sdf_bit, Nat.zero_testBit]
    simp
  rw [e0, Nat.and_zero, e1, Nat.zero_add] at this
  have e2 : gps β 0 = 0 := sm_zero_of (fun t _ h => by rw [Nat.zero_testBit] at h; cases h)
  unfold cst dea
  omega
theorem lm_d17 {S : St} {β : Nat → Nat → Nat} {c k u i : Nat} {K : Int32 → St → Prop} {B : Nat → Int32 → Int32 → Int32 → Int32 → St → Prop} (h : IM S β) (hc : c < nch β) (hk : k ≤ 12) (hu : u < 4096) (hB : ∀ u2, u2 = (match wdo β (sdf (chl β c) u) (β 0 0) with
      | none => u
      | some w => u ||| 2 ^ w) → B 108 (nI c) (nI k) (nI u2) (nI (i + 1)) S) :
    ∀ (n t : Nat), t ≤ β 0 0 → β 0 0 - t < n → wX9_dearestAt_17 K B n 108 (nI c) (nI k) (nI u) (nI i) (oI (wdo β (sdf (chl β c) u) t)) (nI t) S
  | 0, t, _, h => absurd h (by omega)
  | n + 1, t, ht, hn => by
    have hr := h.1.1
    have hN := h.2.1
    have h12 := h.1.2.1.1.1
    have cc := h.c hc
    have ih := lm_d17 (K := K) h hc hk hu hB n
    have e : wdo β (sdf (chl β c) u) (t + 1) = if (sdf (chl β c) u).testBit t then (match wdo β (sdf (chl β c) u) t with
      | none => some t
      | some w => if gp β t ≤ gp β w then some w else some t) else wdo β (sdf (chl β c) u) t := rfl
    rw [wX9_dearestAt_17, h.1.2.2.1, ple (by omega) (by omega)]
    refine ⟨ok_O hr.1 (by decide), fun c1 => ?_, fun c1 => ?_⟩
    · have et : t = β 0 0 := by omega
      rw [et]
      unfold wX9_dearestAt_101 wX9_dearestAt_114
      cases hw : wdo β (sdf (chl β c) u) (β 0 0) with
      | none =>
        refine ⟨fun _ x ex => ?_, fun w => absurd rfl w⟩
        rw [ex, nI_1]
        exact hB u (by rw [hw])
      | some w =>
        have := (wdo_in hw).1
        refine ⟨fun z => absurd z (neg1_ne (by omega)), fun _ x3 e3 x ex => ?_⟩
        have e3 : x3 = nI u ||| (1 <<< (nI w &&& 31)) := e3
        rw [psh (by omega), por] at e3
        rw [ex, nI_1, e3]
        exact hB _ (by rw [hw])
    · rw [rt108_12 hr, pcl (by omega), cc.1]
      have i2 := ih (t + 1) (by omega) (by omega)
      rw [e, sdf_bit] at i2
      refine ⟨by decide, ok_A (N := 501) hr.1 (by decide) (by omega) (by decide), m_has (by omega) (by omega) (fun z => ⟨fun w => absurd w (by decide), fun _ => m_has (by omega) (by omega) (fun z2 => ⟨fun w => absurd w (by decide), fun _ x ex => ?_⟩) (fun z2 => ⟨fun _ => ?_, fun w => absurd rfl w⟩)⟩) (fun z => ⟨fun _ x ex => ?_, fun w => absurd rfl w⟩)⟩
      · rw [z, z2, if_neg (by decide)] at i2
        rw [ex, nI_1]; exact i2
      · rw [z, z2, if_pos (by decide)] at i2
        cases hw : wdo β (sdf (chl β c) u) t with
        | none =>
          rw [hw] at i2
          refine ⟨fun _ x ex => ?_, fun w => absurd rfl w⟩
          rw [ex, nI_1]; exact i2
        | some w =>
          rw [hw] at i2
          dsimp only at i2
          have hwi := (wdo_in hw).1
          have a1 : ∀ t, t < 12 → sI S 109 t = nI (β 1 t) := fun t ht => h.1.2.2.2.2.2.1 0 (by decide) t ht
          have a2 : ∀ t, t < 12 → sI S 110 t = nI (β 2 t) := fun t ht => h.1.2.2.2.2.2.1 1 (by decide) t ht
          have g1 := h.1.2.1.2.1 t (by omega)
          have g2 := h.1.2.1.2.1 w (by omega)
          refine ⟨fun z => absurd z (neg1_ne (by omega)), fun _ => ?_⟩
          show (okO S 9 108 ∧ sR S 108 5 ≠ 0) ∧ okA S 10 (sR S 108 5) (nI t) ∧ sR S 108 4 ≠ 0 ∧ okA S 10 (sR S 108 4) (nI t) ∧ okA S 10 (sR S 108 5) (nI w) ∧ okA S 10 (sR S 108 4) (nI w) ∧ ((((sI S (sR S 108 5) (nI t).toNatClampNeg) - (sI S (sR S 108 4) (nI t).toNatClampNeg)) ≤ ((sI S (sR S 108 5) (nI w).toNatClampNeg) - (sI S (sR S 108 4) (nI w).toNatClampNeg)) → _) ∧ (¬ ((sI S (sR S 108 5) (nI t).toNatClampNeg) - (sI S (sR S 108 4) (nI t).toNatClampNeg)) ≤ ((sI S (sR S 108 5) (nI w).toNatClampNeg) - (sI S (sR S 108 4) (nI w).toNatClampNeg)) → _))
          rw [rt108_5 hr, rt108_4 hr, pcl (by omega), pcl (by omega), a1 t (by omega), a2 t (by omega), a1 w (by omega), a2 w (by omega), pk_sub g1.1, pk_sub g2.1, ple (by omega) (by omega)]
          refine ⟨⟨ok_O hr.1 (by decide), by decide⟩, ok_A (N := 12) hr.1 (by decide) (by omega) (by decide), by decide, ok_A (N := 12) hr.1 (by decide) (by omega) (by decide), ok_A (N := 12) hr.1 (by decide) (by omega) (by decide), ok_A (N := 12) hr.1 (by decide) (by omega) (by decide), fun z3 x ex => ?_, fun z3 x ex => ?_⟩
          · rw [if_pos (by unfold gp; exact z3)] at i2
            rw [ex, nI_1]; exact i2
          · rw [if_neg (by unfold gp; exact z3)] at i2
            rw [ex, nI_1]; exact i2
      · rw [z, if_neg (by simp)] at i2
        rw [ex, nI_1]; exact i2
theorem lm_d5 {S : St} {β : Nat → Nat → Nat} {c k : Nat} {K : Int32 → St → Prop} (h : IM S β) (hc : c < nch β) (hk : k ≤ 12) (hK : K (nI (dea β k (chl β c))) S) :
    ∀ (n i : Nat), i ≤ k → k - i < n → wX9_dearestAt_5 K n 108 (nI c) (nI k) (nI (um β (chl β c) i)) (nI i) S
  | 0, i, _, h => absurd h (by omega)
  | n + 1, i, hi, hn => by
    have hr := h.1.1
    have hN := h.2.1
    have cc := h.c hc
    have ih := lm_d5 h hc hk hK n
    rw [wX9_dearestAt_5, ple (by omega) (by omega)]
    refine ⟨fun c1 => ?_, fun c1 => ⟨β 0 0 + 1, lm_d17 h hc hk (um_lt h.1.2.1 _ i) (fun u2 e2 => ?_) _ 0 (by omega) (by omega)⟩⟩
    · unfold wX9_dearestAt_120
      rw [rt108_12 hr, pcl (by omega), cc.1, show i = k by omega]
      refine ⟨⟨ok_O hr.1 (by decide), by decide⟩, ok_A (N := 501) hr.1 (by decide) (by omega) (by decide), m_sum h.1 cc.2.1 (um_lt h.1.2.1 _ k) ?_⟩
      rw [um_dea h.1.2.1]
      exact hK
    · rw [e2]
      exact ih (i + 1) (by omega) (by omega)
theorem m_dearestAt {S : St} {β : Nat → Nat → Nat} {c k : Nat} {K : Int32 → St → Prop} (h : IM S β) (hc : c < nch β) (hk : k ≤ 12) (hK : K (nI (dea β k (chl β c))) S) : wX9_dearestAt S 108 (nI c) (nI k) K :=
  ⟨k + 1, lm_d5 h hc hk hK _ 0 (by omega) (by omega)⟩
theorem dea_le {β : Nat → Nat → Nat} (h : WF β) {k : Nat} (hk : k ≤ 12) (s : Nat) : dea β k s ≤ 24000 := by
  have := lowc_le h s
  have := wg_le h k s
  unfold dea
  omega
theorem lm_few {S : St} {β : Nat → Nat → Nat} {k : Nat} {K : Int32 → St → Prop} (h : IM S β) (hk : k ≤ 12) (hK : K (nI (am (fun c => dea β k (chl β c)) (nch β))) S) :
    ∀ (n i : Nat), 0 < i → i ≤ nch β → nch β - i < n → wX9_few_26 K n 108 (nI k) (nI (am (fun c => dea β k (chl β c)) i)) (nI i) S
  | 0, i, _, _, h => absurd h (by omega)
  | n + 1, i, hi0, hi, hn => by
    have hr := h.1.1
    have hN := h.2.1
    have ih := lm_few h hk hK n
    have ha := am_lt (fun c => dea β k (chl β c)) i hi0
    have b1 := dea_le h.1.2.1 hk (chl β i)
    have b2 := dea_le h.1.2.1 hk (chl β (am (fun c => dea β k (chl β c)) i))
    rw [wX9_few_26, h.2.2.1, ple (by omega) (by omega)]
    refine ⟨ok_O hr.1 (by decide), fun c => ?_, fun c => m_dearestAt h (by omega) hk ⟨ok_O hr.1 (by decide), m_dearestAt h (by omega) hk ?_⟩⟩
    · rw [show i = nch β by omega]; exact hK
    · have i2 := ih (i + 1) (by omega) (by omega) (by omega)
      rw [am_succ _ hi0] at i2
      rw [ple (by omega) (by omega)]
      refine ⟨fun z x ex => ?_, fun z x ex => ?_⟩
      · rw [if_neg (by omega)] at i2; rw [ex, nI_1]; exact i2
      · rw [if_pos (by omega)] at i2; rw [ex, nI_1]; exact i2
-- worlds
theorem lm_sumIn {S : St} {β : Nat → Nat → Nat} {w s : Nat} {K : Int32 → St → Prop} (h : IB S β) (hw : w < 8) (hs : s < 4096) (hK : K (nI (sm (β (6 + w)) s (β 0 0))) S) : ∀ (n t : Nat), t ≤ β 0 0 → β 0 0 - t < n → wX9_sumIn_5 K n 108 (nI w) (nI s) (nI (sm (β (6 + w)) s t)) (nI t) S
  | 0, t, _, h => absurd h (by omega)
  | n + 1, t, ht, hn => by
    have hr := h.1
    have h12 := h.2.1.1.1
    have ih := lm_sumIn h hw hs hK n
    have e : sm (β (6 + w)) s (t + 1) = sm (β (6 + w)) s t + if s.testBit t then β (6 + w) t else 0 := rfl
    rw [wX9_sumIn_5, h.2.2.1, ple (by omega) (by omega)]
    refine ⟨ok_O hr.1 (by decide), fun c => ?_, fun c => m_has (by omega) (by omega) (fun z => ⟨fun w => absurd w (by decide), fun _ => ?_⟩) (fun z => ⟨fun _ x ex y ey => ?_, fun w => absurd rfl w⟩)⟩
    · rw [show t = β 0 0 by omega]; exact hK
    · have i2 := ih (t + 1) (by omega) (by omega)
      rw [e, if_pos z] at i2
      rw [rt108_10 hr, show (12 : Int32) = nI 12 from rfl, pk_mul, nI_add, pcl (by omega), h.2.2.2.2.2.2.2 w hw t (by omega)]
      refine ⟨⟨ok_O hr.1 (by decide), by decide⟩, ok_A (N := 96) hr.1 (by decide) (by omega) (by decide), fun x ex y ey => ?_⟩
      rw [ey, ex, nI_1, nI_add]; exact i2
    · have i2 := ih (t + 1) (by omega) (by omega)
      rw [e, if_neg (by rw [z]; decide)] at i2
      rw [ey, ex, nI_1, show (0 : Int32) = nI 0 from rfl, nI_add]; exact i2
theorem m_sumIn {S : St} {β : Nat → Nat → Nat} {w s : Nat} {K : Int32 → St → Prop} (h : IB S β) (hw : w < 8) (hs : s < 2 ^ β 0 0) (hK : K (nI (wc β w s)) S) : wX9_sumIn S 108 (nI w) (nI s) K := by
  have h12 := h.2.1.1.1
  have hs2 : s < 4096 := Nat.lt_of_lt_of_le hs (Nat.pow_le_pow_right (n := 2) (by decide) h12)
  refine ⟨β 0 0 + 1, lm_sumIn h hw hs2 ?_ _ 0 (by omega) (by omega)⟩
  rw [sm_12 _ hs h12]
  exact hK
theorem lm_firstIn {S : St} {β : Nat → Nat → Nat} {w : Nat} {K : Int32 → St → Prop} (h : IM S β) (hw : w < 8) (hK : K (nI (am (fun c => wc β w (chl β c)) (nch β))) S) :
    ∀ (n i : Nat), 0 < i → i ≤ nch β → nch β - i < n → wX9_firstIn_4 K n 108 (nI w) (nI (am (fun c => wc β w (chl β c)) i)) (nI i) S
  | 0, i, _, _, h => absurd h (by omega)
  | n + 1, i, hi0, hi, hn => by
    have hr := h.1.1
    have hN := h.2.1
    have ih := lm_firstIn h hw hK n
    have ha := am_lt (fun c => wc β w (chl β c)) i hi0
    have b1 := wc_le h.1.2.1 hw (chl β i)
    have b2 := wc_le h.1.2.1 hw (chl β (am (fun c => wc β w (chl β c)) i))
    rw [wX9_firstIn_4, h.2.2.1, ple (by omega) (by omega)]
    refine ⟨ok_O hr.1 (by decide), fun c => ?_, fun c => ?_⟩
    · rw [show i = nch β by omega]; exact hK
    · have ci := h.c (c := i) (by omega)
      have ca := h.c (c := am (fun c => wc β w (chl β c)) i) (by omega)
      have i2 := ih (i + 1) (by omega) (by omega) (by omega)
      rw [am_succ _ hi0] at i2
      rw [rt108_12 hr, pcl (by omega), ci.1]
      refine ⟨by decide, ok_A (N := 501) hr.1 (by decide) (by omega) (by decide), m_sumIn h.1 hw ci.2.1 ?_⟩
      rw [rt108_12 hr, pcl (by omega), ca.1]
      refine ⟨⟨ok_O hr.1 (by decide), by decide⟩, ok_A (N := 501) hr.1 (by decide) (by omega) (by decide), m_sumIn h.1 hw ca.2.1 ?_⟩
      rw [ple (by omega) (by omega)]
      refine ⟨fun z x ex => ?_, fun z x ex => ?_⟩
      · rw [if_neg (by omega)] at i2; rw [ex, nI_1]; exact i2
      · rw [if_pos (by omega)] at i2; rw [ex, nI_1]; exact i2
theorem m_firstIn {S : St} {β : Nat → Nat → Nat} {w : Nat} {K : Int32 → St → Prop} (h : IM S β) (hw : w < 8) (h0 : 0 < nch β) (hK : K (nI (am (fun c => wc β w (chl β c)) (nch β))) S) : wX9_firstIn S 108 (nI w) K :=
  ⟨nch β + 1, lm_firstIn h hw hK _ 1 (by omega) (by omega) (by omega)⟩
theorem m_rueIn {S : St} {β : Nat → Nat → Nat} {w c : Nat} {K : Int32 → St → Prop} (h : IM S β) (hw : w < 8) (hc : c < nch β) (hK : K (nI (ruW β (nch β) (chl β) w c)) S) : wX9_rueIn S 108 (nI w) (nI c) K := by
  have hr := h.1.1
  have hN := h.2.1
  have cc := h.c hc
  unfold wX9_rueIn
  rw [rt108_12 hr, pcl (by omega), cc.1]
  refine ⟨⟨ok_O hr.1 (by decide), by decide⟩, ok_A (N := 501) hr.1 (by decide) (by omega) (by decide), m_sumIn h.1 hw cc.2.1 ?_⟩
  rw [rt108_12 hr]
  refine ⟨⟨ok_O hr.1 (by decide), by decide⟩, m_firstIn h hw (by omega) ?_⟩
  have ha := am_lt (fun x => wc β w (chl β x)) (nch β) (by omega)
  have ca := h.c ha
  rw [pcl (by omega), ca.1]
  refine ⟨ok_A (N := 501) hr.1 (by decide) (by omega) (by decide), ok_O hr.1 (by decide), m_sumIn h.1 hw ca.2.1 ?_⟩
  rw [pk_sub (am_le (fun x => wc β w (chl β x)) (nch β) c hc)]
  exact hK
theorem isw {S : St} {β : Nat → Nat → Nat} (h : IB S β) {w : Nat} (hw : w < 8) : (sI S 114 w = 0) = ((β 0 3).testBit w = false) := by
  rw [h.2.2.2.2.2.2.1 w hw]
  cases (β 0 3).testBit w <;> simp
theorem lm_rueOf {S : St} {β : Nat → Nat → Nat} {c : Nat} {K : Int32 → St → Prop} (h : IM S β) (hc : c < nch β) (hK : K (nI (mxW β (nch β) (chl β) c 8)) S) : ∀ (n w : Nat), w ≤ 8 → 8 - w < n → wX9_rueOf_21 K n 108 (nI c) (nI (mxW β (nch β) (chl β) c w)) (nI w) S
  | 0, w, _, h => absurd h (by omega)
  | n + 1, w, hw, hn => by
    have hr := h.1.1
    have ih := lm_rueOf h hc hK n
    rw [wX9_rueOf_21, show (8 : Int32) = nI 8 from rfl, ple (by omega) (by omega)]
    refine ⟨fun c1 => ?_, fun c1 => ?_⟩
    · rw [show w = 8 by omega]; exact hK
    · have hw8 : w < 8 := by omega
      have b1 := mxW_le h.1.2.1 (nch β) (chl β) c w (by omega)
      have b2 := ruW_le h.1.2.1 (nch β) (chl β) hw8 c
      have e : mxW β (nch β) (chl β) c (w + 1) = if (β 0 3).testBit w then (if mxW β (nch β) (chl β) c w < ruW β (nch β) (chl β) w c then ruW β (nch β) (chl β) w c else mxW β (nch β) (chl β) c w) else mxW β (nch β) (chl β) c w := rfl
      have i2 := ih (w + 1) (by omega) (by omega)
      rw [e] at i2
      rw [rt108_9 hr, pcl (by omega), isw h.1 hw8]
      refine ⟨⟨ok_O hr.1 (by decide), by decide⟩, ok_A (N := 8) hr.1 (by decide) (by omega) (by decide), fun z x ex => ?_, fun z => m_rueIn h hw8 hc ?_⟩
      · rw [if_neg (by rw [z]; decide)] at i2; rw [ex, nI_1]; exact i2
      · rw [if_pos (tb_eq z)] at i2
        rw [ple (by omega) (by omega)]
        refine ⟨fun z2 x ex => ?_, fun z2 => ⟨ok_O hr.1 (by decide), m_rueIn h hw8 hc (fun x ex => ?_)⟩⟩
        · rw [if_neg (by omega)] at i2; rw [ex, nI_1]; exact i2
        · rw [if_pos (by omega)] at i2; rw [ex, nI_1]; exact i2
theorem m_rueOf {S : St} {β : Nat → Nat → Nat} {x : Int32} {K : Int32 → St → Prop} (h : IM S β) (h1 : ∀ c, c < nch β → x = nI c → β 0 3 ≠ 0 → K (nI (mxW β (nch β) (chl β) c 8)) S) (h0 : ((∀ c, c < nch β → x ≠ nI c) ∨ β 0 3 = 0) → K (-1) S) : wX9_rueOf S 108 x K := by
  have hr := h.1.1
  have pl := popc_le (β 0 3)
  refine ⟨ok_O hr.1 (by decide), m_num h (fun c hc e => ⟨fun z => absurd z (by decide), fun _ => ⟨ok_O hr.1 (by decide), m_worlds h.1 ?_⟩⟩) (fun z => ⟨fun _ => h0 (Or.inl z), fun z => absurd rfl z⟩)⟩
  rw [show (0 : Int32) = nI 0 from rfl, peq (by omega) (by omega), pop0 h.1.2.1]
  refine ⟨fun z => h0 (Or.inr z), fun z => ?_⟩
  rw [e]
  exact ⟨9, lm_rueOf h hc (h1 c hc e z) 9 0 (by omega) (by omega)⟩
theorem lm_bestOf {S : St} {β : Nat → Nat → Nat} {K : Int32 → St → Prop} (h : IM S β) (hz : β 0 3 ≠ 0) (hK : K (nI (am (fun c => mxW β (nch β) (chl β) c 8) (nch β))) S) :
    ∀ (n i : Nat), 0 < i → i ≤ nch β → nch β - i < n → wX9_bestOf_30 K n 108 (nI (am (fun c => mxW β (nch β) (chl β) c 8) i)) (nI (mxW β (nch β) (chl β) (am (fun c => mxW β (nch β) (chl β) c 8) i) 8)) (nI i) S
  | 0, i, _, _, h => absurd h (by omega)
  | n + 1, i, hi0, hi, hn => by
    have hr := h.1.1
    have hN := h.2.1
    have ih := lm_bestOf h hz hK n
    have b1 := mxW_le h.1.2.1 (nch β) (chl β) i 8 (by omega)
    have b2 := mxW_le h.1.2.1 (nch β) (chl β) (am (fun c => mxW β (nch β) (chl β) c 8) i) 8 (by omega)
    rw [wX9_bestOf_30, h.2.2.1, ple (by omega) (by omega)]
    refine ⟨ok_O hr.1 (by decide), fun c => ?_, fun c => m_rueOf h (fun c2 hc2 e2 _ => ?_) (fun z => ?_)⟩
    · rw [show i = nch β by omega]; exact hK
    · rw [peq (by omega) (by omega)] at e2
      subst e2
      have i2 := ih (i + 1) (by omega) (by omega) (by omega)
      rw [am_succ _ hi0] at i2
      rw [plt (by omega) (by omega)]
      refine ⟨fun z x ex => ?_, fun z x ex => ?_⟩
      · rw [if_pos z] at i2; rw [ex, nI_1]; exact i2
      · rw [if_neg z] at i2; rw [ex, nI_1]; exact i2
    · rcases z with z | z
      · exact absurd rfl (z i (by omega))
      · exact absurd z hz
theorem m_bestOf {S : St} {β : Nat → Nat → Nat} {K : Int32 → St → Prop} (h : IM S β) (hK : K (if β 0 3 = 0 then -2 else if nch β = 0 then -6 else nI (am (fun c => mxW β (nch β) (chl β) c 8) (nch β))) S) : wX9_bestOf S 108 K := by
  have hr := h.1.1
  have hN := h.2.1
  have pl := popc_le (β 0 3)
  refine ⟨ok_O hr.1 (by decide), m_worlds h.1 ?_⟩
  rw [show (0 : Int32) = nI 0 from rfl, peq (by omega) (by omega), pop0 h.1.2.1]
  refine ⟨fun z => ?_, fun z => ⟨ok_O hr.1 (by decide), ?_⟩⟩
  · rw [if_pos z] at hK; exact hK
  · rw [if_neg z] at hK
    rw [h.2.2.1, peq (by omega) (by omega)]
    refine ⟨fun c => ?_, fun c => ?_⟩
    · rw [if_pos c] at hK; exact hK
    · rw [if_neg c] at hK
      refine m_rueOf (x := nI 0) h (fun c2 hc2 e2 _ => ?_) (fun q => ?_)
      · rw [peq (by omega) (by omega)] at e2
        subst e2
        exact ⟨nch β + 1, lm_bestOf h z hK _ 1 (by omega) (by omega) (by omega)⟩
      · rcases q with q | q
        · exact absurd rfl (q 0 (by omega))
        · exact absurd q z
-- two steps
def tm (β : Nat → Nat → Nat) (u : Nat) : Nat → Nat
  | 0 => 0
  | w + 1 => if (β 0 3).testBit w then (if sm (β 5) u 12 + laW β (nch β) (chl β) u w ≤ tm β u w then tm β u w else sm (β 5) u 12 + laW β (nch β) (chl β) u w) else tm β u w
theorem tm_le {β : Nat → Nat → Nat} (h : WF β) (u : Nat) : ∀ w, tm β u w ≤ 1012000
  | 0 => Nat.zero_le _
  | w + 1 => by
    have ih := tm_le h u w
    have h1 : sm (β 5) u 12 ≤ 12 * 1000 := sm_le (fun t ht => h.2.2.2.1 t ht)
    have h2 := laW_le β (nch β) (chl β) u w
    unfold tm
    split
    · split <;> omega
    · exact ih
theorem tm_mx {β : Nat → Nat → Nat} (u : Nat) : ∀ w, (tm β u w = 0 ∧ mxL β (nch β) (chl β) u w = 0 ∧ ∀ v, v < w → (β 0 3).testBit v = false) ∨ tm β u w = sm (β 5) u 12 + mxL β (nch β) (chl β) u w
  | 0 => Or.inl ⟨rfl, rfl, fun v hv => absurd hv (by omega)⟩
  | w + 1 => by
    have ih := tm_mx (β := β) u w
    have e : mxL β (nch β) (chl β) u (w + 1) = if (β 0 3).testBit w then (if mxL β (nch β) (chl β) u w < laW β (nch β) (chl β) u w then laW β (nch β) (chl β) u w else mxL β (nch β) (chl β) u w) else mxL β (nch β) (chl β) u w := rfl
    rw [e]
    unfold tm
    by_cases hb : (β 0 3).testBit w = true
    · rw [if_pos hb, if_pos hb]
      right
      rcases ih with ⟨a, b, _⟩ | a
      · rw [a, b]
        split <;> split <;> omega
      · rw [a]
        split <;> split <;> omega
    · rw [if_neg hb, if_neg hb]
      rcases ih with ⟨a, b, c⟩ | a
      · refine Or.inl ⟨a, b, fun v hv => ?_⟩
        by_cases z : v = w
        · rw [z]; exact tb_ne hb
        · exact c v (by omega)
      · exact Or.inr a
theorem tm_twv {β : Nat → Nat → Nat} (h : WF β) (hz : β 0 3 ≠ 0) (u : Nat) : tm β u 8 = twv β (nch β) (chl β) u := by
  rcases tm_mx (β := β) u 8 with ⟨_, _, c⟩ | a
  · exfalso
    apply hz
    apply Nat.eq_of_testBit_eq
    intro w
    rw [Nat.zero_testBit]
    by_cases hw : w < 8
    · exact c w hw
    · have : 2 ^ 8 ≤ 2 ^ w := Nat.pow_le_pow_right (by decide) (by omega)
      have := h.1.2.2.2
      exact Nat.testBit_lt_two_pow (by omega)
  · exact a
theorem lm_t71 {S : St} {β : Nat → Nat → Nat} {u w now tw : Nat} {K : Int32 → St → Prop} {B : Nat → Int32 → Int32 → Int32 → Int32 → St → Prop} (h : IM S β) (hw : w < 8) (hu : u < 2 ^ β 0 0) (hK : wX9_twoOf_121 K B 108 (nI u) (nI now) (nI tw) (nI w) (nI (laW β (nch β) (chl β) u w)) S) :
    ∀ (n i : Nat), i ≤ nch β → nch β - i < n → wX9_twoOf_71 K B n 108 (nI u) (nI now) (nI tw) (nI w) (nI (mn (fun c => wc β w (sdf (chl β c) u)) 1000000 i)) (nI i) S
  | 0, i, _, h => absurd h (by omega)
  | n + 1, i, hi, hn => by
    have hr := h.1.1
    have hN := h.2.1
    have ih := lm_t71 (K := K) h hw hu hK n
    have b1 := (mn_le (fun c => wc β w (sdf (chl β c) u)) 1000000 i).1
    have b2 := wc_le h.1.2.1 hw (sdf (chl β i) u)
    have e : mn (fun c => wc β w (sdf (chl β c) u)) 1000000 (i + 1) = if wc β w (sdf (chl β i) u) < mn (fun c => wc β w (sdf (chl β c) u)) 1000000 i then wc β w (sdf (chl β i) u) else mn (fun c => wc β w (sdf (chl β c) u)) 1000000 i := rfl
    rw [wX9_twoOf_71, h.2.2.1, ple (by omega) (by omega)]
    refine ⟨ok_O hr.1 (by decide), fun c => ?_, fun c => ?_⟩
    · rw [show i = nch β by omega]; exact hK
    · have ci := h.c (c := i) (by omega)
      have i2 := ih (i + 1) (by omega) (by omega)
      rw [e] at i2
      rw [rt108_12 hr, pcl (by omega), ci.1, pdf]
      refine ⟨by decide, ok_A (N := 501) hr.1 (by decide) (by omega) (by decide), m_sumIn h.1 hw (sdf_lt ci.2.1) ?_⟩
      rw [ple (by omega) (by omega)]
      refine ⟨fun z x ex => ?_, fun z x ex => ?_⟩
      · rw [if_neg (by omega)] at i2; rw [ex, nI_1]; exact i2
      · rw [if_pos (by omega)] at i2; rw [ex, nI_1]; exact i2
theorem lm_t44 {S : St} {β : Nat → Nat → Nat} {u : Nat} {K : Int32 → St → Prop} (h : IM S β) (hu : u < 2 ^ β 0 0) (hK : K (nI (tm β u 8)) S) :
    ∀ (n w : Nat), w ≤ 8 → 8 - w < n → wX9_twoOf_44 K n 108 (nI u) (nI (sm (β 5) u 12)) (nI (tm β u w)) (nI w) S
  | 0, w, _, h => absurd h (by omega)
  | n + 1, w, hw, hn => by
    have hr := h.1.1
    have ih := lm_t44 h hu hK n
    have b0 : sm (β 5) u 12 ≤ 12 * 1000 := sm_le (fun t ht => h.1.2.1.2.2.2.1 t ht)
    have b1 := laW_le β (nch β) (chl β) u w
    have b2 := tm_le h.1.2.1 u w
    have e : tm β u (w + 1) = if (β 0 3).testBit w then (if sm (β 5) u 12 + laW β (nch β) (chl β) u w ≤ tm β u w then tm β u w else sm (β 5) u 12 + laW β (nch β) (chl β) u w) else tm β u w := rfl
    rw [wX9_twoOf_44, show (8 : Int32) = nI 8 from rfl, ple (by omega) (by omega)]
    refine ⟨fun c => ?_, fun c => ?_⟩
    · rw [show w = 8 by omega]; exact hK
    · have hw8 : w < 8 := by omega
      have i2 := ih (w + 1) (by omega) (by omega)
      rw [e] at i2
      rw [rt108_9 hr, pcl (by omega), isw h.1 hw8]
      refine ⟨⟨ok_O hr.1 (by decide), by decide⟩, ok_A (N := 8) hr.1 (by decide) (by omega) (by decide), fun z x ex => ?_, fun z => ⟨nch β + 1, lm_t71 h hw8 hu ?_ _ 0 (by omega) (by omega)⟩⟩
      · rw [if_neg (by rw [z]; decide)] at i2; rw [ex, nI_1]; exact i2
      · rw [if_pos (tb_eq z)] at i2
        unfold wX9_twoOf_121
        rw [nI_add, ple (by omega) (by omega)]
        refine ⟨fun z2 x ex => ?_, fun z2 x ex => ?_⟩
        · rw [if_pos z2] at i2; rw [ex, nI_1]; exact i2
        · rw [if_neg z2] at i2; rw [ex, nI_1]; exact i2
theorem lm_t4 {S : St} {β : Nat → Nat → Nat} {u : Nat} {K : Int32 → St → Prop} (h : IM S β) (hu : u < 2 ^ β 0 0) (hK : K (nI (tm β u 8)) S) :
    ∀ (n t : Nat), t ≤ β 0 0 → β 0 0 - t < n → wX9_twoOf_4 K n 108 (nI u) (nI (sm (β 5) u t)) (nI t) S
  | 0, t, _, h => absurd h (by omega)
  | n + 1, t, ht, hn => by
    have hr := h.1.1
    have h12 := h.1.2.1.1.1
    have hu2 : u < 4096 := Nat.lt_of_lt_of_le hu (Nat.pow_le_pow_right (n := 2) (by decide) h12)
    have ih := lm_t4 h hu hK n
    have e : sm (β 5) u (t + 1) = sm (β 5) u t + if u.testBit t then β 5 t else 0 := rfl
    rw [wX9_twoOf_4, h.1.2.2.1, ple (by omega) (by omega)]
    refine ⟨ok_O hr.1 (by decide), fun c => ?_, fun c => m_has (by omega) (by omega) (fun z => ⟨fun w => absurd w (by decide), fun _ => ?_⟩) (fun z => ⟨fun _ x ex y ey => ?_, fun w => absurd rfl w⟩)⟩
    · rw [show t = β 0 0 by omega, sm_12 _ hu h12]
      exact ⟨9, lm_t44 h hu hK 9 0 (by omega) (by omega)⟩
    · have a5 : sI S 113 t = nI (β 5 t) := h.1.2.2.2.2.2.1 4 (by decide) t (by omega)
      have i2 := ih (t + 1) (by omega) (by omega)
      rw [e, if_pos z] at i2
      rw [rt108_8 hr, pcl (by omega), a5]
      refine ⟨⟨ok_O hr.1 (by decide), by decide⟩, ok_A (N := 12) hr.1 (by decide) (by omega) (by decide), fun x ex y ey => ?_⟩
      rw [ey, ex, nI_1, nI_add]; exact i2
    · have i2 := ih (t + 1) (by omega) (by omega)
      rw [e, if_neg (by rw [z]; decide)] at i2
      rw [ey, ex, nI_1, show (0 : Int32) = nI 0 from rfl, nI_add]; exact i2
theorem m_twoOf {S : St} {β : Nat → Nat → Nat} {u : Nat} {K : Int32 → St → Prop} (h : IM S β) (hu : u < 2 ^ β 0 0) (hz : β 0 3 ≠ 0) (hK : K (nI (twv β (nch β) (chl β) u)) S) : wX9_twoOf S 108 (nI u) K :=
  ⟨β 0 0 + 1, lm_t4 h hu (by rw [tm_twv h.1.2.1 hz]; exact hK) _ 0 (by omega) (by omega)⟩
theorem twv_le2 {β : Nat → Nat → Nat} (h : WF β) (u : Nat) : twv β (nch β) (chl β) u ≤ 1012000 := by
  have h1 : sm (β 5) u 12 ≤ 12 * 1000 := sm_le (fun t ht => h.2.2.2.1 t ht)
  have h2 := mxL_le β (nch β) (chl β) u 8
  unfold twv
  omega
theorem lm_first2 {S : St} {β : Nat → Nat → Nat} {K : Int32 → St → Prop} (h : IM S β) (hz : β 0 3 ≠ 0) (hK : K (nI (am (twv β (nch β) (chl β)) (2 ^ β 0 0))) S) :
    ∀ (n i : Nat), 0 < i → i ≤ 2 ^ β 0 0 → 2 ^ β 0 0 - i < n → wX9_first_30 K n 108 (nI (am (twv β (nch β) (chl β)) i)) (nI (twv β (nch β) (chl β) (am (twv β (nch β) (chl β)) i))) (nI i) S
  | 0, i, _, _, h => absurd h (by omega)
  | n + 1, i, hi0, hi, hn => by
    have hr := h.1.1
    have h12 := h.1.2.1.1.1
    have hp : 2 ^ β 0 0 ≤ 2 ^ 12 := Nat.pow_le_pow_right (by decide) h12
    have ih := lm_first2 h hz hK n
    have b1 := twv_le2 h.1.2.1 i
    have b2 := twv_le2 h.1.2.1 (am (twv β (nch β) (chl β)) i)
    rw [wX9_first_30, h.1.2.2.1, psh (by omega), ple (by omega) (by omega)]
    refine ⟨ok_O hr.1 (by decide), fun c => ?_, fun c => m_twoOf h (by omega) hz ?_⟩
    · rw [show i = 2 ^ β 0 0 by omega]; exact hK
    · have i2 := ih (i + 1) (by omega) (by omega) (by omega)
      rw [am_succ _ hi0] at i2
      rw [plt (by omega) (by omega)]
      refine ⟨fun z x ex => ?_, fun z x ex => ?_⟩
      · rw [if_pos z] at i2; rw [ex, nI_1]; exact i2
      · rw [if_neg z] at i2; rw [ex, nI_1]; exact i2
theorem m_first {S : St} {β : Nat → Nat → Nat} {K : Int32 → St → Prop} (h : IM S β) (hK : K (if β 0 3 = 0 then -2 else if nch β = 0 then -6 else nI (am (twv β (nch β) (chl β)) (2 ^ β 0 0))) S) : wX9_first S 108 K := by
  have hr := h.1.1
  have hN := h.2.1
  have pl := popc_le (β 0 3)
  have hpos := Nat.two_pow_pos (β 0 0)
  refine ⟨ok_O hr.1 (by decide), m_worlds h.1 ?_⟩
  rw [show (0 : Int32) = nI 0 from rfl, peq (by omega) (by omega), pop0 h.1.2.1]
  refine ⟨fun z => ?_, fun z => ⟨ok_O hr.1 (by decide), ?_⟩⟩
  · rw [if_pos z] at hK; exact hK
  · rw [if_neg z] at hK
    rw [h.2.2.1, peq (by omega) (by omega)]
    refine ⟨fun c => ?_, fun c => ?_⟩
    · rw [if_pos c] at hK; exact hK
    · rw [if_neg c] at hK
      exact m_twoOf h hpos z ⟨2 ^ β 0 0 + 1, lm_first2 h z hK _ 1 (by omega) hpos (by omega)⟩
