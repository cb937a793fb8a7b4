theorem orf_bit (g : Nat → Nat) (t : Nat) : ∀ n, (orf g n).testBit t = true ↔ ∃ x, x < n ∧ (g x).testBit t = true
  | 0 => by simp [orf]
  | n + 1 => by
    unfold orf
    rw [Nat.testBit_or, Bool.or_eq_true, orf_bit g t n]
    constructor
    · rintro (⟨x, h1, h2⟩ | h)
      · exact ⟨x, by omega, h2⟩
      · exact ⟨n, by omega, h⟩
    · rintro ⟨x, h1, h2⟩
      by_cases e : x = n
      · subst e; exact Or.inr h2
      · exact Or.inl ⟨x, by omega, h2⟩
theorem orf_lt {g : Nat → Nat} {m : Nat} : ∀ {n : Nat}, (∀ x, x < n → g x < 2 ^ m) → orf g n < 2 ^ m
  | 0, _ => Nat.two_pow_pos m
  | n + 1, h => Nat.or_lt_two_pow (orf_lt (fun x hx => h x (by omega))) (h n (by omega))
theorem agn_ge (β : Nat → Nat → Nat) (ch : Nat → Nat) (c x : Nat) : lowc β (ch x) ≤ agn β ch c x := Nat.le_add_right _ _
theorem btn_lt (β : Nat → Nat → Nat) (ch : Nat → Nat) (c m : Nat) : btn β ch c m < 2 ^ 1 := orf_lt (fun x _ => by split <;> decide)
theorem btn_0 (β : Nat → Nat → Nat) (ch : Nat → Nat) (c N : Nat) : btn β ch c N = 0 ↔ ∀ x, x < N → ¬ agn β ch c x < lowc β (ch c) := by
  have hlt := btn_lt β ch c N
  have h01 : btn β ch c N = 0 ↔ (btn β ch c N).testBit 0 = false := by
    have : btn β ch c N = 0 ∨ btn β ch c N = 1 := by omega
    rcases this with z | z <;> rw [z] <;> simp
  rw [h01]
  constructor
  · intro h x hx hlt2
    have : (btn β ch c N).testBit 0 = true := (orf_bit _ 0 N).mpr ⟨x, hx, by rw [if_pos hlt2]; rfl⟩
    rw [h] at this; cases this
  · intro h
    cases hq : (btn β ch c N).testBit 0 with
    | false => rfl
    | true =>
      obtain ⟨x, h1, h2⟩ := (orf_bit _ 0 N).mp hq
      rw [if_neg (h x h1), Nat.zero_testBit] at h2
      cases h2
theorem l_fair {S : St} {β : Nat → Nat → Nat} {N c : Nat} {ch : Nat → Nat} {K : St → Prop} (h : Co S β N ch) (hs : SU S β N ch) (hc : c < N) (hK : btn β ch c N = 0 → wX1_sortByFairestWorldOf_116 K 76 (nI (ch c)) (nI (ch c ||| inA β ch c N)) S) (hB : btn β ch c N ≠ 0 → K S) :
    ∀ (n i : Nat), i ≤ N → N - i < n → (∀ x, x < i → ¬ agn β ch c x < lowc β (ch c)) → wX1_sortByFairestWorldOf_15 K n 76 (nI c) (nI (ch c)) (nI (ch c ||| inA β ch c i)) (nI i) S
  | 0, i, _, h, _ => absurd h (by omega)
  | n + 1, i, hi, hn, hq => by
    have hr := h.1
    have hN := h.2.2.2.2.1
    have ih := l_fair h hs hc hK hB n
    have hlc := lowc_le h.2.2.1 (ch c)
    rw [wX1_sortByFairestWorldOf_15, rt76_1 hr, h.2.2.2.1]
    refine ⟨⟨ok_O hr.1 (by decide), by decide⟩, ok_O hr.1 (by decide), fun c1 => ?_, fun c1 => ?_⟩
    · rw [ple (by omega) (by omega)] at c1
      have e : i = N := by omega
      subst e
      exact hK ((btn_0 β ch c i).mpr hq)
    · rw [ple (by omega) (by omega)] at c1
      have hl := lowc_le h.2.2.1 (ch i)
      have hgl := gps_le h.2.2.1 (sdf (ch i) (ch c))
      have hge := agn_ge β ch c i
      have hag : agn β ch c i = lowc β (ch i) + gps β (sdf (ch i) (ch c)) := rfl
      have eA : inA β ch c (i + 1) = inA β ch c i ||| (if agn β ch c i = lowc β (ch c) then ch i else 0) := rfl
      have hq1 : ¬ agn β ch c i < lowc β (ch c) → ∀ x, x < i + 1 → ¬ agn β ch c x < lowc β (ch c) := fun z x hx => by
        by_cases e : x = i
        · rw [e]; exact z
        · exact hq x (by omega)
      have go : ∀ (x3 : Int32), ¬ agn β ch c i < lowc β (ch c) → x3 = nI (ch c ||| inA β ch c (i + 1)) → wX1_sortByFairestWorldOf_110 K (wX1_sortByFairestWorldOf_15 K n) 76 (nI c) (nI (ch c)) x3 (nI i) S := by
        intro x3 z h3 x ex
        subst h3 ex
        rw [nI_1]
        exact ih (i + 1) (by omega) (by omega) (hq1 z)
      rw [rt76_5 hr, rt76_4 hr, pcl (a := i) (by omega), pcl (a := c) (by omega), (h.2.2.2.2.2.2 i (by omega)).1, hs.2.2.2 i (by omega), hs.2.2.2 c hc]
      refine ⟨h.z0, ok_A hr.1 h.z (by omega) (by decide), ?_⟩
      intro x5 e5
      subst e5
      refine ⟨by decide, ok_A (N := 500) hr.1 (by decide) (by omega) (by decide), ok_A (N := 500) hr.1 (by decide) (by omega) (by decide), fun c2 => ?_, fun c2 => ?_⟩
      · rw [plt (by omega) (by omega)] at c2
        refine go _ (by omega) ?_
        rw [eA, if_neg (by omega), Nat.or_zero]
      · rw [plt (by omega) (by omega)] at c2
        refine ⟨by decide, ok_O hr.1 (by decide), ?_⟩
        rw [pdf]
        refine w_totg h hs.2.1 (sdf_lt (n := β 0 0) (h.cn (by omega))) ?_
        intro x6 e6
        have e6 : x6 = nI (agn β ch c i) := by rw [e6, nI_add]; rfl
        subst e6
        rw [rt76_5 hr, hs.2.2.2 c hc, ple (by omega) (by omega), peq (by omega) (by omega)]
        refine ⟨⟨ok_O hr.1 (by decide), by decide⟩, ok_A (N := 500) hr.1 (by decide) (by omega) (by decide), fun c3 => ⟨fun c4 => ?_, fun c4 => ?_⟩, fun c3 => ?_⟩
        · intro x3 e3
          refine go x3 (by omega) ?_
          rw [e3, por, eA, if_pos c4, Nat.or_assoc]
        · intro x3 e3
          refine go x3 (by omega) ?_
          rw [e3, show (0 : Int32) = nI 0 from rfl, por, eA, if_neg c4, Nat.or_zero, Nat.or_zero]
        · exact hB (fun z => c3 (by have := (btn_0 β ch c N).mp z i (by omega); omega))
theorem w_fair {S : St} {β : Nat → Nat → Nat} {N c : Nat} {ch : Nat → Nat} {K : St → Prop} (h : Co S β N ch) (hs : SU S β N ch) (hc : c < N) (ha : sI S 76 11 = nI (alw β N ch c)) (hu : sI S 76 12 = nI (sur β N ch c)) (hm : sI S 76 13 = nI (mayb β N ch c))
    (hK : ∀ S1, Ex (fun k => k = 76) S S1 → (∀ j, j < 11 → sI S1 76 j = sI S 76 j) → sI S1 76 11 = nI (alw β N ch (c + 1)) → sI S1 76 12 = nI (sur β N ch (c + 1)) → sI S1 76 13 = nI (mayb β N ch (c + 1)) → K S1) : wX1_sortByFairestWorldOf S 76 (nI c) K := by
  have hr := h.1
  have hN := h.2.2.2.2.1
  have ea : alw β N ch (c + 1) = if btn β ch c N = 0 then alw β N ch c &&& ch c else alw β N ch c := rfl
  have eu : sur β N ch (c + 1) = if btn β ch c N = 0 then sur β N ch c &&& (ch c ||| inA β ch c N) else sur β N ch c := rfl
  have em : mayb β N ch (c + 1) = if btn β ch c N = 0 then mayb β N ch c ||| ch c else mayb β N ch c := rfl
  unfold wX1_sortByFairestWorldOf
  rw [rt76_1 hr, pcl (by omega), (h.2.2.2.2.2.2 c hc).1]
  refine ⟨⟨ok_O hr.1 (by decide), by decide⟩, ⟨ok_O hr.1 (by decide), h.z0⟩, ok_A hr.1 h.z (by omega) (by decide), ?_⟩
  intro x2 e2
  subst e2
  have e0 : ch c ||| inA β ch c 0 = ch c := Nat.or_zero _
  have start := l_fair (K := K) h hs hc (fun z => ?_) (fun z => ?_) (N + 1) 0 (by omega) (by omega) (fun x hx => absurd hx (by omega))
  · rw [e0] at start
    exact ⟨N + 1, start⟩
  · rw [if_pos z] at ea eu em
    refine ⟨ok_O hr.1 (by decide), fun S1 e1 => ?_⟩
    have hr1 : RT S1 := by rw [e1]; exact hr
    refine ⟨ok_O hr1.1 (by decide), fun S2 e2 => ?_⟩
    have hr2 : RT S2 := by rw [e2]; exact hr1
    refine ⟨ok_O hr2.1 (by decide), fun S3 e3 => ?_⟩
    refine hK S3 ?_ ?_ ?_ ?_ ?_
    · rw [e3, e2, e1]; exact Ex.pI (P := fun k => k = 76) (Ex.pI (P := fun k => k = 76) (Ex.pI (P := fun k => k = 76) Ex.rf rfl) rfl) rfl
    · exact fun j hj => by rw [e3, sI_n (by omega), e2, sI_n (by omega), e1, sI_n (by omega)]
    · rw [e3, sI_n (by decide), e2, sI_n (by decide), e1, sI_s, ha, pan, ea]
    · rw [e3, sI_n (by decide), e2, sI_s, e1, sI_n (by decide), hu, pan, eu]
    · rw [e3, sI_s, e2, sI_n (by decide), e1, sI_n (by decide), hm, por, em]
  · rw [if_neg z] at ea eu em
    exact hK S Ex.rf (fun j _ => rfl) (by rw [ha, ea]) (by rw [hu, eu]) (by rw [hm, em])
theorem l_sort {S : St} {β : Nat → Nat → Nat} {N : Nat} {ch : Nat → Nat} {K : St → Prop} (h : Co S β N ch) (hs : SU S β N ch) (hK : ∀ S1, Ex (fun k => k = 76) S S1 → (∀ j, j < 11 → sI S1 76 j = sI S 76 j) → SRT S1 β N ch → wX1_sortThings_64 K 76 S1) :
    ∀ (n i : Nat) (S1 : St), i ≤ N → N - i < n → Ex (fun k => k = 76) S S1 → (∀ j, j < 11 → sI S1 76 j = sI S 76 j) → sI S1 76 11 = nI (alw β N ch i) → sI S1 76 12 = nI (sur β N ch i) → sI S1 76 13 = nI (mayb β N ch i) → wX1_sortThings_42 K n 76 (nI i) S1
  | 0, i, S1, _, h, _, _, _, _, _ => absurd h (by omega)
  | n + 1, i, S1, hi, hn, hE, hj, a1, a2, a3 => by
    have h1 := h.ex hE (fun k hk => by omega)
    have hs1 := hs.ex hE (fun k hk => by omega)
    have hr := h1.1
    have hN := h1.2.2.2.2.1
    rw [wX1_sortThings_42, rt76_1 hr, h1.2.2.2.1]
    refine ⟨⟨ok_O hr.1 (by decide), by decide⟩, ok_O hr.1 (by decide), fun c => ?_, fun c => ?_⟩
    · rw [ple (by omega) (by omega)] at c
      have e : i = N := by omega
      subst e
      exact hK S1 hE hj ⟨a1, a2, a3⟩
    · rw [ple (by omega) (by omega)] at c
      refine w_fair h1 hs1 (by omega) a1 a2 a3 (fun S2 hE2 hj2 b1 b2 b3 => ?_)
      intro x ex
      subst ex
      rw [nI_1]
      exact l_sort h hs hK n (i + 1) S2 (by omega) (by omega) (hE.tr hE2) (fun j hj3 => by rw [hj2 j hj3]; exact hj j hj3) b1 b2 b3
theorem w_sort {S : St} {β : Nat → Nat → Nat} {N : Nat} {ch : Nat → Nat} {K : St → Prop} (h : CS S β N ch) (hK : ∀ S1, Ex P76 S S1 → CS S1 β N ch → SRT S1 β N ch → K S1) : wX1_sortThings S 76 K := by
  refine ⟨ok_O h.1.1.1 (by decide), fun c => ?_, fun c => ?_⟩
  · refine w_sumUp h (fun S1 hE h1 hs hj => ?_)
    have hr := h1.1.1
    have h12 := h1.1.n12
    rw [rt76_0 hr, h1.1.2.1.1 0 (by decide), psh (by omega), pm1]
    refine ⟨⟨ok_O hr.1 (by decide), by decide⟩, ok_O hr.1 (by decide), fun S2 e2 => ?_⟩
    have hr2 : RT S2 := by rw [e2]; exact hr
    refine ⟨ok_O hr2.1 (by decide), fun S3 e3 => ?_⟩
    have hr3 : RT S3 := by rw [e3]; exact hr2
    refine ⟨ok_O hr3.1 (by decide), fun S4 e4 => ?_⟩
    have hE4 : Ex (fun k => k = 76) S1 S4 := by rw [e4, e3, e2]; exact Ex.pI (P := fun k => k = 76) (Ex.pI (P := fun k => k = 76) (Ex.pI (P := fun k => k = 76) Ex.rf rfl) rfl) rfl
    have hj4 : ∀ j, j < 11 → sI S4 76 j = sI S1 76 j := fun j hj => by rw [e4, sI_n (by omega), e3, sI_n (by omega), e2, sI_n (by omega)]
    have b1 : sI S4 76 11 = nI (alw β N ch 0) := by rw [e4, sI_n (by decide), e3, sI_n (by decide), e2, sI_s]; rfl
    have b2 : sI S4 76 12 = nI (sur β N ch 0) := by rw [e4, sI_n (by decide), e3, sI_s, e2, sI_s]; rfl
    have b3 : sI S4 76 13 = nI (mayb β N ch 0) := by rw [e4, sI_s]; rfl
    refine ⟨N + 1, l_sort h1.1 hs (fun S5 hE5 hj5 hS => ?_) (N + 1) 0 S4 (by omega) (by omega) hE4 hj4 b1 b2 b3⟩
    have h5 := h1.1.ex hE5 (fun k hk => by omega)
    refine ⟨ok_O h5.1.1 (by decide), fun S6 e6 => ?_⟩
    have hE6 : Ex (fun k => k = 76) S1 S6 := by rw [e6]; exact hE5.pI rfl
    have hj6 : ∀ j, j < 10 → sI S6 76 j = sI S1 76 j := fun j hj => by rw [e6, sI_n (by omega)]; exact hj5 j (by omega)
    have hS6 : SRT S6 β N ch := by
      unfold SRT
      rw [e6, sI_n (by decide), sI_n (by decide), sI_n (by decide)]
      exact hS
    refine hK S6 (hE.tr (hE6.mo (fun k hk => by unfold P76; omega))) ⟨h1.1.ex hE6 (fun k hk => by omega), ⟨?_, ?_, Or.inr ⟨by rw [e6, sI_s], hS6⟩⟩, h1.2.2.ex hE6 (fun k hk => by omega)⟩ hS6
    · rw [hj6 8 (by decide)]
      rcases h1.2.1.1 with b | ⟨b, b2⟩
      · exact Or.inl b
      · exact Or.inr ⟨b, b2.ex hE6 (fun k hk => by omega)⟩
    · rw [hj6 9 (by decide)]
      rcases h1.2.1.2.1 with b | ⟨b, b2⟩
      · exact Or.inl b
      · exact Or.inr ⟨b, b2.ex hE6 (by decide)⟩
  · rcases h.2.1.2.2 with b | ⟨b, b2⟩
    · exact absurd b c
    · exact hK S Ex.rf h b2
def hld (β : Nat → Nat → Nat) (N : Nat) (ch : Nat → Nat) (t : Nat) : Nat := if N = 0 then 0 else if (alw β N ch N).testBit t then 3 else if (sur β N ch N).testBit t then 2 else if (mayb β N ch N).testBit t then 1 else 0
theorem w_hold {S : St} {β : Nat → Nat → Nat} {N t : Nat} {ch : Nat → Nat} {K : Int32 → St → Prop} (h : CS S β N ch) (ht : t < β 0 0) (hK : ∀ S1, Ex P76 S S1 → CS S1 β N ch → K (nI (hld β N ch t)) S1) : wX1_howSure S 76 (nI t) K := by
  have hr := h.1.1
  have hN := h.1.2.2.2.2.1
  have h12 := h.1.n12
  unfold wX1_howSure
  rw [rt76_1 hr, h.1.2.2.2.1, show (0 : Int32) = nI 0 from rfl, peq (by omega) (by omega)]
  refine ⟨⟨ok_O hr.1 (by decide), by decide⟩, ok_O hr.1 (by decide), fun c => ?_, fun c => ?_⟩
  · have := hK S Ex.rf h
    unfold hld at this
    rw [if_pos c] at this
    exact this
  · refine w_sort h (fun S1 hE h1 hS => ?_)
    intro x2 e2
    rw [psh (by omega)] at e2
    subst e2
    have hk := hK S1 hE h1
    unfold hld at hk
    rw [if_neg c] at hk
    have hb : ∀ m, (nI m &&& nI (2 ^ t) = nI 0) = (m.testBit t = false) := fun m => propext (fa_bit (by omega))
    refine ⟨ok_O h1.1.1.1 (by decide), ?_⟩
    rw [hS.1, hS.2.1, hS.2.2, hb, hb, hb]
    refine ⟨fun c1 => ⟨fun c2 => ⟨fun c3 => ?_, fun c3 => ?_⟩, fun c2 => ?_⟩, fun c1 => ?_⟩
    · rw [if_neg (by rw [c1]; decide), if_neg (by rw [c2]; decide), if_neg (by rw [c3]; decide)] at hk
      exact hk
    · rw [if_neg (by rw [c1]; decide), if_neg (by rw [c2]; decide), if_pos (by simpa using c3)] at hk
      exact hk
    · rw [if_neg (by rw [c1]; decide), if_pos (by simpa using c2)] at hk
      exact hk
    · rw [if_pos (by simpa using c1)] at hk
      exact hk
