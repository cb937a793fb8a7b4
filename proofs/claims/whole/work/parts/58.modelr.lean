-- hold
def wmn (β : Nat → Nat → Nat) (c t : Nat) (b : Bool) : Nat := mn (fun x => if (chl β x).testBit t = b then agn β (chl β) c x else 1000000) 1000000 (nch β)
theorem cst_up {β : Nat → Nat → Nat} {x c : Nat} (hx : chl β x < 2 ^ β 0 0) : cst β (chl β x) (sdf (2 ^ β 0 0 - 1) (chl β c)) = agn β (chl β) c x := by
  unfold cst agn
  have : chl β x &&& sdf (2 ^ β 0 0 - 1) (chl β c) = sdf (chl β x) (chl β c) := by
    apply Nat.eq_of_testBit_eq
    intro i
    rw [Nat.testBit_and, sdf_bit, sdf_bit, mask_bit]
    by_cases hi : i < β 0 0
    · rw [decide_eq_true hi]; simp
    · have : 2 ^ β 0 0 ≤ 2 ^ i := Nat.pow_le_pow_right (by decide) (by omega)
      rw [Nat.testBit_lt_two_pow (show chl β x < 2 ^ i by omega)]
      rfl
  rw [this]
theorem agn_le {β : Nat → Nat → Nat} (h : WF β) (ch : Nat → Nat) (c x : Nat) : agn β ch c x ≤ 24000 := by
  have := lowc_le h (ch x)
  have := gps_le h (sdf (ch x) (ch c))
  unfold agn
  omega
theorem agn_self (β : Nat → Nat → Nat) (ch : Nat → Nat) (c : Nat) : agn β ch c c = lowc β (ch c) := by
  unfold agn
  have : sdf (ch c) (ch c) = 0 := by
    apply Nat.eq_of_testBit_eq
    intro i
    rw [sdf_bit, Nat.zero_testBit]
    cases (ch c).testBit i <;> rfl
  rw [this]
  have : gps β 0 = 0 := sm_zero_of (fun t _ h => by rw [Nat.zero_testBit] at h; cases h)
  omega
def bI : Bool → Int32
  | true => 1
  | false => 0
theorem lm_least {S : St} {β : Nat → Nat → Nat} {c t : Nat} {b : Bool} {K : Int32 → St → Prop} (h : IM S β) (ht : t < 12) (hc : c < nch β) (hK : K (nI (wmn β c t b)) S) :
    ∀ (n i : Nat), i ≤ nch β → nch β - i < n → wX9_least_7 K n 108 (nI t) (bI b) (nI (sdf (2 ^ β 0 0 - 1) (chl β c))) (nI (mn (fun x => if (chl β x).testBit t = b then agn β (chl β) c x else 1000000) 1000000 i)) (nI i) S
  | 0, i, _, h => absurd h (by omega)
  | n + 1, i, hi, hn => by
    have hr := h.1.1
    have hN := h.2.1
    have ih := lm_least h ht hc hK n
    have bm := (mn_le (fun x => if (chl β x).testBit t = b then agn β (chl β) c x else 1000000) 1000000 i).1
    have ba := agn_le h.1.2.1 (chl β) c i
    have hul : sdf (2 ^ β 0 0 - 1) (chl β c) < 4096 := sdf_lt (n := 12) (all_lt h.1.2.1)
    have e : mn (fun x => if (chl β x).testBit t = b then agn β (chl β) c x else 1000000) 1000000 (i + 1) = if (if (chl β i).testBit t = b then agn β (chl β) c i else 1000000) < mn (fun x => if (chl β x).testBit t = b then agn β (chl β) c x else 1000000) 1000000 i then (if (chl β i).testBit t = b then agn β (chl β) c i else 1000000) else mn (fun x => if (chl β x).testBit t = b then agn β (chl β) c x else 1000000) 1000000 i := rfl
    rw [wX9_least_7, h.2.2.1, ple (by omega) (by omega)]
    refine ⟨ok_O hr.1 (by decide), fun c => ?_, fun c1 => ?_⟩
    · rw [show i = nch β by omega]; exact hK
    · have ci := h.c (c := i) (by omega)
      have i2 := ih (i + 1) (by omega) (by omega)
      rw [e] at i2
      rw [rt108_12 hr, pcl (by omega), ci.1]
      have yes : (chl β i).testBit t = b → (okO S 9 108 ∧ sR S 108 12 ≠ 0) ∧ okA S 10 (sR S 108 12) (nI i) ∧ wX9_sum S 108 (sI S (sR S 108 12) i) (nI (sdf (2 ^ β 0 0 - 1) (chl β c))) (fun r_12 S_11 => ((nI (mn (fun x => if (chl β x).testBit t = b then agn β (chl β) c x else 1000000) 1000000 i) ≤ r_12 → wX9_least_62 K (wX9_least_7 K n) 108 (nI t) (bI b) (nI (sdf (2 ^ β 0 0 - 1) (chl β c))) (nI (mn (fun x => if (chl β x).testBit t = b then agn β (chl β) c x else 1000000) 1000000 i)) (nI i) S_11) ∧ (¬ nI (mn (fun x => if (chl β x).testBit t = b then agn β (chl β) c x else 1000000) 1000000 i) ≤ r_12 → (okO S_11 9 108 ∧ sR S_11 108 12 ≠ 0) ∧ okA S_11 10 (sR S_11 108 12) (nI i) ∧ wX9_sum S_11 108 (sI S_11 (sR S_11 108 12) i) (nI (sdf (2 ^ β 0 0 - 1) (chl β c))) (fun r_17 S_16 => wX9_least_62 K (wX9_least_7 K n) 108 (nI t) (bI b) (nI (sdf (2 ^ β 0 0 - 1) (chl β c))) r_17 (nI i) S_16)))) := by
        intro z
        rw [if_pos z] at i2
        rw [rt108_12 hr, ci.1]
        refine ⟨⟨ok_O hr.1 (by decide), by decide⟩, ok_A (N := 501) hr.1 (by decide) (by omega) (by decide), m_sum h.1 ci.2.1 hul ?_⟩
        rw [cst_up ci.2.1, ple (by omega) (by omega), rt108_12 hr, ci.1]
        refine ⟨fun z2 x ex => ?_, fun z2 => ⟨⟨ok_O hr.1 (by decide), by decide⟩, ok_A (N := 501) hr.1 (by decide) (by omega) (by decide), m_sum h.1 ci.2.1 hul (fun x ex => ?_)⟩⟩
        · rw [if_neg (by omega)] at i2; rw [ex, nI_1]; exact i2
        · rw [if_pos (by omega)] at i2; rw [ex, nI_1, cst_up ci.2.1]; exact i2
      have no : ¬ (chl β i).testBit t = b → wX9_least_62 K (wX9_least_7 K n) 108 (nI t) (bI b) (nI (sdf (2 ^ β 0 0 - 1) (chl β c))) (nI (mn (fun x => if (chl β x).testBit t = b then agn β (chl β) c x else 1000000) 1000000 i)) (nI i) S := fun z x ex => by
        rw [if_neg z, if_neg (by omega)] at i2
        rw [ex, nI_1]
        exact i2
      refine ⟨by decide, ok_A (N := 501) hr.1 (by decide) (by omega) (by decide), m_has (by omega) (by omega) (fun z => ?_) (fun z => ?_)⟩
      · cases b with
        | true => exact ⟨fun _ => yes z, fun w => absurd rfl w⟩
        | false => exact ⟨fun w => absurd w (by decide), fun _ => no (by rw [z]; decide)⟩
      · cases b with
        | true => exact ⟨fun w => absurd w (by decide), fun _ => no (by rw [z]; decide)⟩
        | false => exact ⟨fun _ => yes z, fun w => absurd rfl w⟩
def hA (β : Nat → Nat → Nat) (t i : Nat) : Prop := ∀ c, c < i → (chl β c).testBit t = false → (wmn β c t true < lowc β (chl β c) ∨ wmn β c t false < lowc β (chl β c))
def hS (β : Nat → Nat → Nat) (t i : Nat) : Prop := ∀ c, c < i → (chl β c).testBit t = false → wmn β c t true ≤ lowc β (chl β c)
def hM (β : Nat → Nat → Nat) (t i : Nat) : Prop := ∃ c, c < i ∧ (chl β c).testBit t = true ∧ lowc β (chl β c) ≤ wmn β c t false ∧ lowc β (chl β c) ≤ wmn β c t true
def B1 (x : Int32) (P : Prop) : Prop := (x = 1 ∧ P) ∨ (x = 0 ∧ ¬ P)
theorem lm_hold {S : St} {β : Nat → Nat → Nat} {t : Nat} {K : Int32 → St → Prop} (h : IM S β) (ht : t < β 0 0) (hK : ∀ x3 x4 x5, B1 x3 (hA β t (nch β)) → B1 x4 (hS β t (nch β)) → B1 x5 (hM β t (nch β)) → wX9_hold_201 K x3 x4 x5 S) :
    ∀ (n i : Nat) (x3 x4 x5 : Int32), i ≤ nch β → nch β - i < n → B1 x3 (hA β t i) → B1 x4 (hS β t i) → B1 x5 (hM β t i) → wX9_hold_52 K n 108 (nI t) (nI (2 ^ β 0 0 - 1)) x3 x4 x5 (nI i) S
  | 0, i, _, _, _, _, h, _, _, _ => absurd h (by omega)
  | n + 1, i, x3, x4, x5, hi, hn, b3, b4, b5 => by
    have hr := h.1.1
    have hN := h.2.1
    have h12 := h.1.2.1.1.1
    have ih := lm_hold h ht hK n
    rw [wX9_hold_52, h.2.2.1, ple (by omega) (by omega)]
    refine ⟨ok_O hr.1 (by decide), fun c => ?_, fun c1 => ?_⟩
    · rw [show i = nch β by omega] at b3 b4 b5; exact hK x3 x4 x5 b3 b4 b5
    · have ci := h.c (c := i) (by omega)
      have hul : sdf (2 ^ β 0 0 - 1) (chl β i) < 4096 := sdf_lt (n := 12) (all_lt h.1.2.1)
      have bw := (mn_le (fun x => if (chl β x).testBit t = true then agn β (chl β) i x else 1000000) 1000000 (nch β)).1
      have bo := (mn_le (fun x => if (chl β x).testBit t = false then agn β (chl β) i x else 1000000) 1000000 (nch β)).1
      have bw : wmn β i t true ≤ 1000000 := bw
      have bo : wmn β i t false ≤ 1000000 := bo
      have bl := lowc_le h.1.2.1 (chl β i)
      rw [rt108_12 hr, pcl (by omega), ci.1, pdf]
      refine ⟨by decide, ok_A (N := 501) hr.1 (by decide) (by omega) (by decide), fun x7 e7 => ?_⟩
      subst e7
      refine m_sum h.1 ci.2.1 hul ⟨ok_O hr.1 (by decide), ?_⟩
      refine ⟨nch β + 1, lm_least (b := true) h (by omega) (by omega) ⟨ok_O hr.1 (by decide), ?_⟩ _ 0 (by omega) (by omega)⟩
      refine ⟨nch β + 1, lm_least (b := false) h (by omega) (by omega) ?_ _ 0 (by omega) (by omega)⟩
      rw [rt108_12 hr, ci.1, cst_up ci.2.1, agn_self]
      have st : ∀ y3 y4 y5, B1 y3 (hA β t (i + 1)) → B1 y4 (hS β t (i + 1)) → B1 y5 (hM β t (i + 1)) → wX9_hold_195 K (wX9_hold_52 K n) 108 (nI t) (nI (2 ^ β 0 0 - 1)) y3 y4 y5 (nI i) S := fun y3 y4 y5 g3 g4 g5 x ex => by
        rw [ex, nI_1]
        exact ih (i + 1) y3 y4 y5 (by omega) (by omega) g3 g4 g5
      refine ⟨⟨ok_O hr.1 (by decide), by decide⟩, ok_A (N := 501) hr.1 (by decide) (by omega) (by decide), m_has (by omega) (by omega) (fun z => ⟨fun w => absurd w (by decide), fun _ => ?_⟩) (fun z => ⟨fun _ => ?_, fun w => absurd rfl w⟩)⟩
      · have g3 : B1 x3 (hA β t (i + 1)) := by
          have : hA β t (i + 1) ↔ hA β t i := ⟨fun q c hc => q c (by omega), fun q c hc hf => by
            by_cases e : c = i
            · rw [e, z] at hf; cases hf
            · exact q c (by omega) hf⟩
          unfold B1; rw [this]; exact b3
        have g4 : B1 x4 (hS β t (i + 1)) := by
          have : hS β t (i + 1) ↔ hS β t i := ⟨fun q c hc => q c (by omega), fun q c hc hf => by
            by_cases e : c = i
            · rw [e, z] at hf; cases hf
            · exact q c (by omega) hf⟩
          unfold B1; rw [this]; exact b4
        have y1 : hM β t i ∨ (lowc β (chl β i) ≤ wmn β i t false ∧ lowc β (chl β i) ≤ wmn β i t true) → wX9_hold_142 K (wX9_hold_52 K n) 108 (nI t) (nI (2 ^ β 0 0 - 1)) x3 x4 (nI i) S := fun q => by
          refine st x3 x4 1 g3 g4 (Or.inl ⟨rfl, ?_⟩)
          rcases q with ⟨c, q1, q2⟩ | q
          · exact ⟨c, by omega, q2⟩
          · exact ⟨i, by omega, z, q⟩
        have y0 : ¬ hM β t i → ¬ (lowc β (chl β i) ≤ wmn β i t false ∧ lowc β (chl β i) ≤ wmn β i t true) → wX9_hold_146 K (wX9_hold_52 K n) 108 (nI t) (nI (2 ^ β 0 0 - 1)) x3 x4 (nI i) S := fun q q2 => by
          refine st x3 x4 0 g3 g4 (Or.inr ⟨rfl, ?_⟩)
          rintro ⟨c, w1, w2, w3⟩
          by_cases e : c = i
          · rw [e] at w3; exact q2 w3
          · exact q ⟨c, by omega, w2, w3⟩
        rw [plt (by omega) (by omega), plt (by omega) (by omega)]
        rcases b5 with ⟨e5, q5⟩ | ⟨e5, q5⟩
        · exact ⟨fun w => absurd (e5.symm.trans w) (by decide), fun _ => y1 (Or.inl q5)⟩
        · exact ⟨fun _ => ⟨fun w => y0 q5 (fun q => by omega), fun w => ⟨fun w2 => y0 q5 (fun q => by omega), fun w2 => y1 (Or.inr (by omega))⟩⟩, fun w => absurd e5 w⟩
      · have g5 : B1 x5 (hM β t (i + 1)) := by
          have : hM β t (i + 1) ↔ hM β t i := by
            constructor
            · rintro ⟨c, w1, w2, w3⟩
              by_cases e : c = i
              · rw [e, z] at w2; cases w2
              · exact ⟨c, by omega, w2, w3⟩
            · rintro ⟨c, w1, w2⟩
              exact ⟨c, by omega, w2⟩
          unfold B1; rw [this]; exact b5
        have a1 : ∀ y4, B1 y4 (hS β t (i + 1)) → wX9_hold_169 K (wX9_hold_52 K n) 108 (nI t) (nI (2 ^ β 0 0 - 1)) x3 x5 (nI i) (nI (lowc β (chl β i))) (nI (wmn β i t true)) (nI (wmn β i t false)) y4 S := fun y4 g4 => by
          have aiff : hA β t (i + 1) ↔ (hA β t i ∧ (wmn β i t true < lowc β (chl β i) ∨ wmn β i t false < lowc β (chl β i))) := by
            constructor
            · exact fun q => ⟨fun c hc => q c (by omega), q i (by omega) z⟩
            · rintro ⟨q1, q2⟩ c hc hf
              by_cases e : c = i
              · rw [e]; exact q2
              · exact q1 c (by omega) hf
          have s1 : hA β t (i + 1) → wX9_hold_189 K (wX9_hold_52 K n) 108 (nI t) (nI (2 ^ β 0 0 - 1)) y4 x5 (nI i) S := fun q => st 1 y4 x5 (Or.inl ⟨rfl, q⟩) g4 g5
          have s0 : ¬ hA β t (i + 1) → wX9_hold_193 K (wX9_hold_52 K n) 108 (nI t) (nI (2 ^ β 0 0 - 1)) y4 x5 (nI i) S := fun q => st 0 y4 x5 (Or.inr ⟨rfl, q⟩) g4 g5
          unfold wX9_hold_169
          rw [plt (by omega) (by omega), ple (by omega) (by omega)]
          rcases b3 with ⟨e3, q3⟩ | ⟨e3, q3⟩
          · exact ⟨fun w => absurd (e3.symm.trans w) (by decide), fun _ => ⟨fun w => s1 (aiff.mpr ⟨q3, Or.inl w⟩), fun w => ⟨fun w2 => s0 (fun q => by have := (aiff.mp q).2; omega), fun w2 => s1 (aiff.mpr ⟨q3, Or.inr (by omega)⟩)⟩⟩⟩
          · exact ⟨fun _ => s0 (fun q => q3 (aiff.mp q).1), fun w => absurd e3 w⟩
        have siff : hS β t (i + 1) ↔ (hS β t i ∧ wmn β i t true ≤ lowc β (chl β i)) := by
          constructor
          · exact fun q => ⟨fun c hc => q c (by omega), q i (by omega) z⟩
          · rintro ⟨q1, q2⟩ c hc hf
            by_cases e : c = i
            · rw [e]; exact q2
            · exact q1 c (by omega) hf
        rw [plt (by omega) (by omega)]
        rcases b4 with ⟨e4, q4⟩ | ⟨e4, q4⟩
        · exact ⟨fun w => absurd (e4.symm.trans w) (by decide), fun _ => ⟨fun w => a1 0 (Or.inr ⟨rfl, fun q => by have := (siff.mp q).2; omega⟩), fun w => a1 1 (Or.inl ⟨rfl, siff.mpr ⟨q4, by omega⟩⟩)⟩⟩
        · exact ⟨fun _ => a1 0 (Or.inr ⟨rfl, fun q => q4 (siff.mp q).1⟩), fun w => absurd e4 w⟩
-- the class's words say the same
theorem alw_bit {β : Nat → Nat → Nat} {t : Nat} (ht : t < β 0 0) (ch : Nat → Nat) (N : Nat) : ∀ i, (alw β N ch i).testBit t = true ↔ ∀ c, c < i → (∀ x, x < N → ¬ agn β ch c x < lowc β (ch c)) → (ch c).testBit t = true
  | 0 => by
    show (2 ^ β 0 0 - 1).testBit t = true ↔ _
    rw [mask_bit, decide_eq_true_eq]
    exact ⟨fun _ c hc => absurd hc (by omega), fun _ => ht⟩
  | i + 1 => by
    show (if btn β ch i N = 0 then alw β N ch i &&& ch i else alw β N ch i).testBit t = true ↔ _
    have ih := alw_bit ht ch N i
    by_cases z : btn β ch i N = 0
    · rw [if_pos z, Nat.testBit_and, Bool.and_eq_true, ih]
      constructor
      · rintro ⟨a, b⟩ c hc hn
        by_cases e : c = i
        · rw [e]; exact b
        · exact a c (by omega) hn
      · exact fun q => ⟨fun c hc => q c (by omega), q i (by omega) ((btn_0 β ch i N).mp z)⟩
    · rw [if_neg z, ih]
      constructor
      · intro a c hc hn
        by_cases e : c = i
        · rw [e] at hn; exact absurd ((btn_0 β ch i N).mpr hn) z
        · exact a c (by omega) hn
      · exact fun q c hc => q c (by omega)
theorem sur_bit {β : Nat → Nat → Nat} {t : Nat} (ht : t < β 0 0) (ch : Nat → Nat) (N : Nat) : ∀ i, (sur β N ch i).testBit t = true ↔ ∀ c, c < i → (∀ x, x < N → ¬ agn β ch c x < lowc β (ch c)) → ((ch c).testBit t = true ∨ ∃ x, x < N ∧ agn β ch c x = lowc β (ch c) ∧ (ch x).testBit t = true)
  | 0 => by
    show (2 ^ β 0 0 - 1).testBit t = true ↔ _
    rw [mask_bit, decide_eq_true_eq]
    exact ⟨fun _ c hc => absurd hc (by omega), fun _ => ht⟩
  | i + 1 => by
    show (if btn β ch i N = 0 then sur β N ch i &&& (ch i ||| inA β ch i N) else sur β N ch i).testBit t = true ↔ _
    have ih := sur_bit ht ch N i
    by_cases z : btn β ch i N = 0
    · rw [if_pos z, Nat.testBit_and, Nat.testBit_or, Bool.and_eq_true, Bool.or_eq_true, ih]
      unfold inA
      rw [orf_bit]
      have hx : (∃ x, x < N ∧ (if agn β ch i x = lowc β (ch i) then ch x else 0).testBit t = true) ↔ ∃ x, x < N ∧ agn β ch i x = lowc β (ch i) ∧ (ch x).testBit t = true := by
        constructor
        · rintro ⟨x, h1, h2⟩
          by_cases z : agn β ch i x = lowc β (ch i)
          · rw [if_pos z] at h2; exact ⟨x, h1, z, h2⟩
          · rw [if_neg z, Nat.zero_testBit] at h2; cases h2
        · rintro ⟨x, h1, h2, h3⟩
          exact ⟨x, h1, by rw [if_pos h2]; exact h3⟩
      rw [hx]
      constructor
      · rintro ⟨a, b⟩ c hc hn
        by_cases e : c = i
        · rw [e]; exact b
        · exact a c (by omega) hn
      · exact fun q => ⟨fun c hc => q c (by omega), q i (by omega) ((btn_0 β ch i N).mp z)⟩
    · rw [if_neg z, ih]
      constructor
      · intro a c hc hn
        by_cases e : c = i
        · rw [e] at hn; exact absurd ((btn_0 β ch i N).mpr hn) z
        · exact a c (by omega) hn
      · exact fun q c hc => q c (by omega)
theorem may_bit {β : Nat → Nat → Nat} {t : Nat} (ch : Nat → Nat) (N : Nat) : ∀ i, (mayb β N ch i).testBit t = true ↔ ∃ c, c < i ∧ (ch c).testBit t = true ∧ ∀ x, x < N → ¬ agn β ch c x < lowc β (ch c)
  | 0 => by
    show (0 : Nat).testBit t = true ↔ _
    rw [Nat.zero_testBit]
    exact ⟨fun h => (by cases h), fun ⟨c, h, _⟩ => absurd h (by omega)⟩
  | i + 1 => by
    show (if btn β ch i N = 0 then mayb β N ch i ||| ch i else mayb β N ch i).testBit t = true ↔ _
    have ih := may_bit (β := β) (t := t) ch N i
    have e : (∃ c, c < i + 1 ∧ (ch c).testBit t = true ∧ ∀ x, x < N → ¬ agn β ch c x < lowc β (ch c)) ↔ ((∃ c, c < i ∧ (ch c).testBit t = true ∧ ∀ x, x < N → ¬ agn β ch c x < lowc β (ch c)) ∨ ((ch i).testBit t = true ∧ ∀ x, x < N → ¬ agn β ch i x < lowc β (ch i))) := by
      constructor
      · rintro ⟨c, h1, h2⟩
        by_cases z : c = i
        · rw [z] at h2; exact Or.inr h2
        · exact Or.inl ⟨c, by omega, h2⟩
      · rintro (⟨c, h1, h2⟩ | h2)
        · exact ⟨c, by omega, h2⟩
        · exact ⟨i, by omega, h2⟩
    rw [e, ← ih]
    by_cases z : btn β ch i N = 0
    · rw [if_pos z, Nat.testBit_or, Bool.or_eq_true]
      have := (btn_0 β ch i N).mp z
      constructor
      · rintro (w | w)
        · exact Or.inl w
        · exact Or.inr ⟨w, this⟩
      · rintro (w | w)
        · exact Or.inl w
        · exact Or.inr w.1
    · rw [if_neg z]
      constructor
      · exact Or.inl
      · rintro (w | w)
        · exact w
        · exact absurd ((btn_0 β ch i N).mpr w.2) z
theorem agn_tri (β : Nat → Nat → Nat) (ch : Nat → Nat) (c x y : Nat) : agn β ch c y + lowc β (ch x) ≤ agn β ch c x + agn β ch x y := by
  have key : ∀ n, sm (gp β) (sdf (ch y) (ch c)) n ≤ sm (gp β) (sdf (ch x) (ch c)) n + sm (gp β) (sdf (ch y) (ch x)) n := fun n => by
    induction n with
    | zero => exact Nat.le_refl _
    | succ n ih =>
      show sm (gp β) (sdf (ch y) (ch c)) n + _ ≤ (sm (gp β) (sdf (ch x) (ch c)) n + _) + (sm (gp β) (sdf (ch y) (ch x)) n + _)
      rw [sdf_bit, sdf_bit, sdf_bit]
      cases (ch y).testBit n <;> cases (ch c).testBit n <;> cases (ch x).testBit n <;> simp <;> omega
  have := key 12
  unfold agn gps
  omega
theorem wmn_lt {β : Nat → Nat → Nat} {c t v : Nat} {b : Bool} (hv : v ≤ 1000000) : wmn β c t b < v ↔ ∃ x, x < nch β ∧ (chl β x).testBit t = b ∧ agn β (chl β) c x < v := by
  unfold wmn
  constructor
  · intro h
    rcases mn_is (fun x => if (chl β x).testBit t = b then agn β (chl β) c x else 1000000) 1000000 (nch β) with z | ⟨j, hj, z⟩
    · omega
    · rw [z] at h
      by_cases w : (chl β j).testBit t = b
      · rw [if_pos w] at h; exact ⟨j, hj, w, h⟩
      · rw [if_neg w] at h; omega
  · rintro ⟨x, h1, h2, h3⟩
    have := (mn_le (fun x => if (chl β x).testBit t = b then agn β (chl β) c x else 1000000) 1000000 (nch β)).2 x h1
    rw [if_pos h2] at this
    omega
theorem cheap_at {β : Nat → Nat → Nat} {ch : Nat → Nat} {N c : Nat} (hc : c < N) (hn : ¬ ∀ x, x < N → ¬ agn β ch c x < lowc β (ch c)) : ∃ x, x < N ∧ agn β ch c x < lowc β (ch c) ∧ (∀ y, y < N → agn β ch c x ≤ agn β ch c y) ∧ ∀ y, y < N → ¬ agn β ch x y < lowc β (ch x) := by
  have ha := am_lt (fun x => agn β ch c x) N (by omega)
  have hle := am_le (fun x => agn β ch c x) N
  generalize am (fun x => agn β ch c x) N = x at ha hle
  have hlt : agn β ch c x < lowc β (ch c) := by
    apply Classical.byContradiction
    intro z
    refine hn (fun y hy w => ?_)
    have := hle y hy
    omega
  refine ⟨x, ha, hlt, hle, fun y hy w => ?_⟩
  have := agn_tri β ch c x y
  have := hle y hy
  omega
theorem hold_A {β : Nat → Nat → Nat} (hw : WF β) {t : Nat} (ht : t < β 0 0) : hA β t (nch β) ↔ (alw β (nch β) (chl β) (nch β)).testBit t = true := by
  rw [alw_bit ht]
  constructor
  · intro h c hc hn
    have bl := lowc_le hw (chl β c)
    cases hq : (chl β c).testBit t with
    | true => rfl
    | false =>
      exfalso
      rcases h c hc hq with w | w
      · obtain ⟨y, y1, y2, y3⟩ := (wmn_lt (by omega)).mp w
        exact hn y y1 y3
      · obtain ⟨y, y1, y2, y3⟩ := (wmn_lt (by omega)).mp w
        exact hn y y1 y3
  · intro h c hc hf
    have bl := lowc_le hw (chl β c)
    obtain ⟨x, hx, hlt, hle, hn⟩ := cheap_at hc (fun z => by have := h c hc z; rw [hf] at this; cases this)
    exact Or.inl ((wmn_lt (by omega)).mpr ⟨x, hx, h x hx hn, hlt⟩)
theorem hold_S {β : Nat → Nat → Nat} (hw : WF β) {t : Nat} (ht : t < β 0 0) : hS β t (nch β) ↔ (sur β (nch β) (chl β) (nch β)).testBit t = true := by
  rw [sur_bit ht]
  constructor
  · intro h c hc hn
    by_cases z : (chl β c).testBit t = true
    · exact Or.inl z
    · right
      have bl := lowc_le hw (chl β c)
      have := h c hc (tb_ne z)
      obtain ⟨x, x1, x2, x3⟩ := (wmn_lt (v := lowc β (chl β c) + 1) (by omega)).mp (by omega : wmn β c t true < lowc β (chl β c) + 1)
      have := hn x x1
      exact ⟨x, x1, by omega, x2⟩
  · intro h c hc hf
    have bl := lowc_le hw (chl β c)
    have fin : ∀ x, x < nch β → (chl β x).testBit t = true → agn β (chl β) c x ≤ lowc β (chl β c) → wmn β c t true ≤ lowc β (chl β c) := fun x x1 x3 x2 => by
      have := (wmn_lt (β := β) (c := c) (t := t) (b := true) (v := lowc β (chl β c) + 1) (by omega)).mpr ⟨x, x1, x3, by omega⟩
      omega
    by_cases hn : ∀ x, x < nch β → ¬ agn β (chl β) c x < lowc β (chl β c)
    · rcases h c hc hn with z | ⟨x, x1, x2, x3⟩
      · rw [hf] at z; cases z
      · exact fin x x1 x3 (by omega)
    · obtain ⟨x, hx, hlt, hle, hn⟩ := cheap_at hc hn
      rcases h x hx hn with z | ⟨y, y1, y2, y3⟩
      · exact fin x hx z (by omega)
      · have := agn_tri β (chl β) c x y
        exact fin y y1 y3 (by omega)
theorem hold_M {β : Nat → Nat → Nat} (hw : WF β) {t : Nat} : hM β t (nch β) ↔ (mayb β (nch β) (chl β) (nch β)).testBit t = true := by
  rw [may_bit]
  constructor
  · rintro ⟨c, c1, c2, c3, c4⟩
    have bl := lowc_le hw (chl β c)
    refine ⟨c, c1, c2, fun x hx hlt => ?_⟩
    cases hq : (chl β x).testBit t with
    | true =>
      have := (wmn_lt (β := β) (c := c) (t := t) (b := true) (v := lowc β (chl β c)) (by omega)).mpr ⟨x, hx, hq, hlt⟩
      omega
    | false =>
      have := (wmn_lt (β := β) (c := c) (t := t) (b := false) (v := lowc β (chl β c)) (by omega)).mpr ⟨x, hx, hq, hlt⟩
      omega
  · rintro ⟨c, c1, c2, c3⟩
    have bl := lowc_le hw (chl β c)
    refine ⟨c, c1, c2, ?_, ?_⟩
    · apply Classical.byContradiction
      intro z
      obtain ⟨x, x1, x2, x3⟩ := (wmn_lt (v := lowc β (chl β c)) (by omega)).mp (by omega : wmn β c t false < lowc β (chl β c))
      exact c3 x x1 x3
    · apply Classical.byContradiction
      intro z
      obtain ⟨x, x1, x2, x3⟩ := (wmn_lt (v := lowc β (chl β c)) (by omega)).mp (by omega : wmn β c t true < lowc β (chl β c))
      exact c3 x x1 x3
theorem m_hold {S : St} {β : Nat → Nat → Nat} {x : Int32} {K : Int32 → St → Prop} (h : IM S β) (h1 : ∀ t, t < β 0 0 → x = nI t → K (nI (hld β (nch β) (chl β) t)) S) (h0 : (∀ t, t < β 0 0 → x ≠ nI t) → K (-1) S) : wX9_hold S 108 x K := by
  have hr := h.1.1
  have hN := h.2.1
  have h12 := h.1.2.1.1.1
  have hw := h.1.2.1
  refine ⟨ok_O hr.1 (by decide), m_thing h.1 (fun t ht e => ⟨fun z => absurd z (by decide), fun _ => ⟨ok_O hr.1 (by decide), ?_⟩⟩) (fun z => ⟨fun _ => h0 z, fun z => absurd rfl z⟩)⟩
  have hk := h1 t ht e
  subst e
  rw [h.1.2.2.1, psh (by omega), pm1, h.2.2.1, show (0 : Int32) = nI 0 from rfl, ple (by omega) (by omega)]
  intro x2 e2
  subst e2
  have go : ∀ y : Int32, B1 y (0 < nch β) → wX9_hold_31 K 108 (nI t) (nI (2 ^ β 0 0 - 1)) y S := fun y hy => by
    unfold wX9_hold_31
    rw [h.2.2.1, show (0 : Int32) = nI 0 from rfl, ple (by omega) (by omega)]
    have fin : ∀ x3 x4 x5, B1 x3 (hA β t (nch β) ∧ 0 < nch β) → B1 x4 (hS β t (nch β) ∧ 0 < nch β) → B1 x5 (hM β t (nch β)) → wX9_hold_201 K x3 x4 x5 S := by
      intro x3 x4 x5 g3 g4 g5
      unfold hld at hk
      unfold wX9_hold_201
      by_cases z0 : nch β = 0
      · rw [if_pos z0] at hk
        have e3 : x3 = 0 := by rcases g3 with ⟨_, q⟩ | ⟨q, _⟩; · omega
                               · exact q
        have e4 : x4 = 0 := by rcases g4 with ⟨_, q⟩ | ⟨q, _⟩; · omega
                               · exact q
        have e5 : x5 = 0 := by rcases g5 with ⟨_, c, q, _⟩ | ⟨q, _⟩; · omega
                               · exact q
        rw [e3, e4, e5]
        exact ⟨fun _ => ⟨fun _ => ⟨fun _ => hk, fun w => absurd rfl w⟩, fun w => absurd rfl w⟩, fun w => absurd rfl w⟩
      · rw [if_neg z0] at hk
        have qA := hold_A hw ht
        have qS := hold_S hw ht
        have qM := hold_M hw (t := t)
        rcases g3 with ⟨e3, q3⟩ | ⟨e3, q3⟩
        · rw [if_pos (qA.mp q3.1)] at hk
          rw [e3]
          exact ⟨fun w => absurd w (by decide), fun _ => hk⟩
        · rw [if_neg (fun w => q3 ⟨qA.mpr w, by omega⟩)] at hk
          refine ⟨fun _ => ?_, fun w => absurd e3 w⟩
          rcases g4 with ⟨e4, q4⟩ | ⟨e4, q4⟩
          · rw [if_pos (qS.mp q4.1)] at hk
            rw [e4]
            exact ⟨fun w => absurd w (by decide), fun _ => hk⟩
          · rw [if_neg (fun w => q4 ⟨qS.mpr w, by omega⟩)] at hk
            refine ⟨fun _ => ?_, fun w => absurd e4 w⟩
            rcases g5 with ⟨e5, q5⟩ | ⟨e5, q5⟩
            · rw [if_pos (qM.mp q5)] at hk
              rw [e5]
              exact ⟨fun w => absurd w (by decide), fun _ => hk⟩
            · rw [if_neg (fun w => q5 (qM.mpr w))] at hk
              exact ⟨fun _ => hk, fun w => absurd e5 w⟩
    have run : ∀ y2 : Int32, B1 y2 (0 < nch β) → wX9_hold_44 K 108 (nI t) (nI (2 ^ β 0 0 - 1)) y y2 S := fun y2 hy2 => by
      by_cases z0 : nch β = 0
      · refine ⟨1, ?_⟩
        rw [wX9_hold_52, h.2.2.1, show (0 : Int32) = nI 0 from rfl, ple (by omega) (by omega)]
        refine ⟨ok_O hr.1 (by decide), fun _ => fin _ _ _ ?_ ?_ (Or.inr ⟨rfl, fun ⟨c, q, _⟩ => by omega⟩), fun w => absurd w (by omega)⟩
        · rcases hy with ⟨_, q⟩ | ⟨q, _⟩
          · omega
          · exact Or.inr ⟨q, fun w => by omega⟩
        · rcases hy2 with ⟨_, q⟩ | ⟨q, _⟩
          · omega
          · exact Or.inr ⟨q, fun w => by omega⟩
      · refine ⟨nch β + 1, lm_hold h ht (fun x3 x4 x5 g3 g4 g5 => fin x3 x4 x5 ?_ ?_ g5) _ 0 y y2 0 (by omega) (by omega) ?_ ?_ (Or.inr ⟨rfl, fun ⟨c, q, _⟩ => by omega⟩)⟩
        · unfold B1; rw [and_iff_left (show 0 < nch β by omega)]; exact g3
        · unfold B1; rw [and_iff_left (show 0 < nch β by omega)]; exact g4
        · rcases hy with ⟨q, _⟩ | ⟨_, q⟩
          · exact Or.inl ⟨q, fun c hc => absurd hc (by omega)⟩
          · omega
        · rcases hy2 with ⟨q, _⟩ | ⟨_, q⟩
          · exact Or.inl ⟨q, fun c hc => absurd hc (by omega)⟩
          · omega
    exact ⟨ok_O hr.1 (by decide), fun c => run 0 (Or.inr ⟨rfl, by omega⟩), fun c => run 1 (Or.inl ⟨rfl, by omega⟩)⟩
  exact ⟨fun c => go 0 (Or.inr ⟨rfl, by omega⟩), fun c => go 1 (Or.inl ⟨rfl, by omega⟩)⟩
