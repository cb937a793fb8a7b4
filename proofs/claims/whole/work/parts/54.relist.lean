def nch (β : Nat → Nat → Nat) : Nat := fb_ct (alC β) (2 ^ β 0 0)
def chl (β : Nat → Nat → Nat) (c : Nat) : Nat := fa_first (fun s => alC β s && (fb_ct (alC β) s == c)) (2 ^ β 0 0)
theorem chl_spec {β : Nat → Nat → Nat} {c : Nat} (hc : c < nch β) : chl β c < 2 ^ β 0 0 ∧ alC β (chl β c) = true ∧ fb_ct (alC β) (chl β c) = c := by
  obtain ⟨i, h1, h2, h3⟩ := fb_ct_kth hc
  have hlt : chl β c < 2 ^ β 0 0 := by
    have hle := fa_first_le (fun s => alC β s && (fb_ct (alC β) s == c)) (2 ^ β 0 0)
    rcases Nat.lt_or_eq_of_le hle with z | z
    · exact z
    · exfalso
      have := fa_first_no (fun s => alC β s && (fb_ct (alC β) s == c)) (2 ^ β 0 0) i (by omega)
      rw [h2, h3] at this
      simp at this
  have hy := fa_first_yes (fun s => alC β s && (fb_ct (alC β) s == c)) (2 ^ β 0 0) hlt
  rw [Bool.and_eq_true, beq_iff_eq] at hy
  exact ⟨hlt, hy.1, hy.2⟩
theorem chl_at {β : Nat → Nat → Nat} {s : Nat} (hs : s < 2 ^ β 0 0) (ha : alC β s = true) : fb_ct (alC β) s < nch β ∧ chl β (fb_ct (alC β) s) = s := by
  have hlt : fb_ct (alC β) s < nch β := by
    have := fb_ct_mono (alC β) (show s + 1 ≤ 2 ^ β 0 0 from hs)
    rw [fb_ct_succ, if_pos ha] at this
    unfold nch
    omega
  obtain ⟨h1, h2, h3⟩ := chl_spec hlt
  exact ⟨hlt, fb_ct_kth_one h2 ha h3⟩
def CR (S : St) : Prop := (sR S 17 1 = 18 ∧ sR S 17 2 = 19) ∨ (sR S 17 1 = 19 ∧ sR S 17 2 = 18)
/-- the memory but for some cells -/
def Fr (P : Nat → Prop) (S S1 : St) : Prop := RT S1 ∧ ∀ k, ¬ P k → S1.2.1 k = S.2.1 k
theorem Fr.i {P : Nat → Prop} {S S1 : St} (h : Fr P S S1) {k : Nat} (hk : ¬ P k) (j : Nat) : sI S1 k j = sI S k j := congrFun (h.2 k hk) j
theorem Fr.of {P : Nat → Prop} {S S1 : St} (h : Ex P S S1) (hr : RT S) : Fr P S S1 := ⟨h.rt hr, h.2.2⟩
theorem Fr.tr {P : Nat → Prop} {S S1 S2 : St} (h : Fr P S S1) (g : Fr P S1 S2) : Fr P S S2 := ⟨g.1, fun k hk => (g.2 k hk).trans (h.2 k hk)⟩
theorem Fr.mo {P Q : Nat → Prop} {S S1 : St} (h : Fr P S S1) (hm : ∀ k, P k → Q k) : Fr Q S S1 := ⟨h.1, fun k hk => h.2 k (fun z => hk (hm k z))⟩
theorem CB.fr {S S1 : St} {c : Nat} {β : Nat → Nat → Nat} {P : Nat → Prop} (h : CB S c β) (he : Fr P S S1) (hp : ∀ k, P k → k < c ∨ c + 14 < k) : CB S1 c β := by
  refine ⟨fun j hj => ?_, fun f hf i hi => ?_, fun w hw i hi => ?_⟩
  · rw [he.i (fun z => by have := hp _ z; omega)]; exact h.1 j hj
  · rw [he.i (fun z => by have := hp _ z; omega)]; exact h.2.1 f hf i hi
  · rw [he.i (fun z => by have := hp _ z; omega)]; exact h.2.2 w hw i hi
theorem BB.ex {S S1 : St} {β : Nat → Nat → Nat} {P : Nat → Prop} (h : BB S β) (he : Ex P S S1) (hp : ∀ k, P k → k < 2 ∨ 16 < k) : BB S1 β := ⟨he.rt h.1, h.2.1.ex he hp, h.2.2⟩
def P17 (k : Nat) : Prop := k = 17 ∨ k = 18 ∨ k = 19
theorem l_relist {S : St} {β : Nat → Nat → Nat} {K : Int32 → St → Prop} (h : BB S β) (hc : CR S)
    (k1 : nch β ≤ 500 → ∀ S1, Ex (fun k => k = sR S 17 2) S S1 → (∀ s, s < 2 ^ β 0 0 → alC β s = true → sI S1 (sR S 17 2) (fb_ct (alC β) s) = nI s) → wX3_relist_53 K 17 (nI (nch β)) S1)
    (k0 : 500 < nch β → ∀ S1, Ex (fun k => k = sR S 17 2) S S1 → K 0 S1) :
    ∀ (n s : Nat) (S1 : St), s ≤ 2 ^ β 0 0 → 2 ^ β 0 0 - s < n → fb_ct (alC β) s ≤ 500 → Ex (fun k => k = sR S 17 2) S S1 → (∀ q, q < s → alC β q = true → sI S1 (sR S 17 2) (fb_ct (alC β) q) = nI q) → wX3_relist_12 K n 17 2 (nI (fb_ct (alC β) s)) (nI (2 ^ β 0 0)) (nI s) S1
  | 0, s, S1, _, hn, _, _, _ => absurd hn (by omega)
  | n + 1, s, S1, hs, hn, h5, hE, hI => by
    have hz : sR S 17 2 = 18 ∨ sR S 17 2 = 19 := by rcases hc with c | c <;> omega
    have hb1 := h.ex hE (fun k hk => by omega)
    have hr := hb1.1
    have h12 : 2 ^ β 0 0 ≤ 2 ^ 12 := Nat.pow_le_pow_right (by decide) h.2.2.1.1
    have ih := l_relist h hc k1 k0 n
    rw [wX3_relist_12, ple (by omega) (by omega)]
    refine ⟨fun c => ?_, fun c => ?_⟩
    · have e : s = 2 ^ β 0 0 := by omega
      rw [e] at h5 hI ⊢
      exact k1 h5 S1 hE hI
    · refine ⟨ok_O hr.1 (by decide), w_allows hb1 (by omega) (fun ha => ?_) (fun ha => ?_)⟩
      · refine ⟨fun z => absurd z (by decide), fun _ => ?_⟩
        have hlt := (chl_at (β := β) (s := s) (by omega) ha).1
        have es : fb_ct (alC β) (s + 1) = fb_ct (alC β) s + 1 := by rw [fb_ct_succ, if_pos ha]
        rw [show (500 : Int32) = nI 500 from rfl, peq (by omega) (by omega)]
        refine ⟨fun e => k0 (by omega) S1 hE, fun e => ?_⟩
        rw [hE.r, pcl (by omega)]
        refine ⟨⟨ok_O hr.1 (by decide), by omega⟩, ?_, fun S2 e2 x2 ex2 x ex => ?_⟩
        · rcases hz with e | e <;> rw [e]
          · exact ok_A (N := 500) hr.1 (by decide) (by omega) (by decide)
          · exact ok_A (N := 500) hr.1 (by decide) (by omega) (by decide)
        · rw [ex2, ex, nI_1, nI_1, ← es]
          refine ih (s + 1) S2 (by omega) (by omega) (by rw [es]; omega) (by rw [e2]; exact hE.pI rfl) (fun q hq haq => ?_)
          by_cases e3 : q = s
          · rw [e2, e3, sI_s]
          · have : fb_ct (alC β) q ≠ fb_ct (alC β) s := fun z => e3 (fb_ct_kth_one haq ha z)
            rw [e2, sI_n this]
            exact hI q (by omega) haq
      · refine ⟨fun _ x ex => ?_, fun z => absurd rfl z⟩
        have es : fb_ct (alC β) (s + 1) = fb_ct (alC β) s := by rw [fb_ct_succ, if_neg (by rw [ha]; decide), Nat.add_zero]
        rw [ex, nI_1, ← es]
        refine ih (s + 1) S1 (by omega) (by omega) (by rw [es]; exact h5) hE (fun q hq haq => ?_)
        by_cases e3 : q = s
        · rw [e3, ha] at haq; cases haq
        · exact hI q (by omega) haq
theorem w_relist {S : St} {β : Nat → Nat → Nat} {K : Int32 → St → Prop} (h : BB S β) (hc : CR S)
    (k1 : nch β ≤ 500 → ∀ S1, Fr P17 S S1 → CR S1 → sI S1 17 0 = nI (nch β) → (∀ c, c < nch β → sI S1 (sR S1 17 1) c = nI (chl β c)) → K 1 S1)
    (k0 : 500 < nch β → ∀ S1, Ex (fun k => k = sR S 17 2) S S1 → K 0 S1) : wX3_relist S 17 2 K := by
  have hr := h.1
  have h12 := h.2.2.1.1
  have hz : sR S 17 2 = 18 ∨ sR S 17 2 = 19 := by rcases hc with c | c <;> omega
  unfold wX3_relist
  rw [h.2.1.1 0 (by decide), psh (by omega)]
  refine ⟨ok_O hr.1 (by decide), fun x ex => ?_⟩
  rw [ex]
  refine ⟨2 ^ β 0 0 + 1, l_relist h hc (fun hle S1 hE hI => ?_) k0 _ 0 S (Nat.zero_le _) (Nat.lt_succ_self _) (Nat.zero_le _) Ex.rf (fun q hq => absurd hq (by omega))⟩
  have hr1 := hE.rt hr
  have e1 : sR S1 17 1 = sR S 17 1 := hE.r 17 1
  have e2 : sR S1 17 2 = sR S 17 2 := hE.r 17 2
  unfold wX3_relist_53
  have ne1 : sR S 17 1 ≠ 0 := by rcases hc with c | c <;> omega
  rw [e1, e2]
  refine ⟨⟨ok_O hr1.1 (by decide), ne1⟩, by omega, by omega, fun S2 f2 => ?_⟩
  have hr2 : S2.1 = 124 := by rw [f2]; exact hr1.1
  refine ⟨ok_O hr2 (by decide), ne1, fun S3 f3 => ?_⟩
  have hr3 : S3.1 = 124 := by rw [f3]; exact hr2
  refine ⟨ok_O hr3 (by decide), fun S4 f4 => ?_⟩
  have q : ∀ a b, sR S4 a b = if a = 17 ∧ b = 2 then sR S 17 1 else if a = 17 ∧ b = 1 then sR S 17 2 else sR S1 a b := fun a b => by
    rw [f4]
    show sR S3 a b = _
    rw [f3, sR_pR, f2, sR_pR]
  have hr4 : RT S4 := by
    refine ⟨by rw [f4]; exact hr3, fun a b hab => ?_⟩
    rw [q, if_neg (fun z => hab (by rw [z.1, z.2]; rfl)), if_neg (fun z => hab (by rw [z.1, z.2]; rfl))]
    exact hr1.2 a b hab
  have i4 : ∀ k, k ≠ 17 → S4.2.1 k = S1.2.1 k := fun k hk => by
    rw [f4]
    show va_up S3.2.1 17 _ k = _
    rw [up_n hk, f3, f2]
    rfl
  refine k1 hle S4 ⟨hr4, fun k hk => ?_⟩ ?_ (by rw [f4, sI_s]) (fun c hcc => ?_)
  · rw [i4 k (fun z => hk (by unfold P17; omega))]
    exact hE.2.2 k (fun z => hk (by unfold P17; omega))
  · unfold CR
    rw [q, q]
    simp only [true_and, if_true]
    rw [if_neg (by decide)]
    rcases hc with c | c <;> omega
  · obtain ⟨c1, c2, c3⟩ := chl_spec hcc
    rw [q]
    rw [if_neg (by decide), if_pos ⟨rfl, rfl⟩]
    have : sI S4 (sR S 17 2) c = sI S1 (sR S 17 2) c := congrFun (i4 _ (by omega)) c
    rw [this]
    have := hI _ c1 c2
    rw [c3] at this
    exact this
theorem w_acc {S : St} {x : Int32} {K : Int32 → St → Prop} (hr : RT S) (hK : ∀ S1, Ex (fun k => k = 1 ∨ k = 76) S S1 → sI S1 1 9 = 0 → sI S1 76 8 = 0 ∧ sI S1 76 9 = 0 ∧ sI S1 76 10 = 0 → K x S1) : wX8_accepted S 1 x K := by
  refine ⟨ok_O hr.1 (by decide), fun S1 e1 => ?_⟩
  have hr1 : RT S1 := by rw [e1]; exact hr
  rw [rt1_5 hr1]
  refine ⟨⟨ok_O hr1.1 (by decide), by decide⟩, ok_O hr1.1 (by decide), ok_O hr1.1 (by decide), fun S2 e2 => ?_⟩
  have hr2 : RT S2 := by rw [e2]; exact hr1
  refine ⟨ok_O hr2.1 (by decide), fun S3 e3 => ?_⟩
  have hr3 : RT S3 := by rw [e3]; exact hr2
  refine ⟨ok_O hr3.1 (by decide), fun S4 e4 => ?_⟩
  refine hK S4 ?_ ?_ ⟨?_, ?_, ?_⟩
  · rw [e4, e3, e2, e1]
    exact Ex.pI (P := fun k => k = 1 ∨ k = 76) (Ex.pI (P := fun k => k = 1 ∨ k = 76) (Ex.pI (P := fun k => k = 1 ∨ k = 76) (Ex.pI (P := fun k => k = 1 ∨ k = 76) Ex.rf (Or.inl rfl)) (Or.inr rfl)) (Or.inr rfl)) (Or.inr rfl)
  · rw [e4, sI_o (by decide), e3, sI_o (by decide), e2, sI_o (by decide), e1, sI_s]
  · rw [e4, sI_n (by decide), e3, sI_n (by decide), e2, sI_s]
  · rw [e4, sI_n (by decide), e3, sI_s]
  · rw [e4, sI_s]
theorem w_ref {S : St} {x : Int32} {K : Int32 → St → Prop} (hr : RT S) (hK : ∀ S1, Ex (fun k => k = 1) S S1 → sI S1 1 9 = x → K x S1) : wX8_refused S 1 x K := by
  refine ⟨ok_O hr.1 (by decide), fun S1 e1 => hK S1 ?_ ?_⟩
  · rw [e1]; exact Ex.pI (P := fun k => k = 1) Ex.rf rfl
  · rw [e1, sI_s]
