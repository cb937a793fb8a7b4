-- the front
def aw (β : Nat → Nat → Nat) (v c : Nat) : Nat := wc β v (chl β c)
theorem lm_isF {S : St} {β : Nat → Nat → Nat} {v w c : Nat} {K : Int32 → St → Prop} (h : IM S β) (hv : v < 8) (hw : w < 8) (hc : c < nch β) (h1 : FR (aw β v) (aw β w) (nch β) c = true → K 1 S) (h0 : FR (aw β v) (aw β w) (nch β) c = false → K 0 S) :
    ∀ (n d : Nat), d ≤ nch β → nch β - d < n → (∀ x, x < d → ¬ ((aw β v x ≤ aw β v c ∧ aw β w x ≤ aw β w c ∧ (aw β v x < aw β v c ∨ aw β w x < aw β w c)) ∨ (x < c ∧ aw β v x = aw β v c ∧ aw β w x = aw β w c))) → wX9_isFront_29 K n 108 (nI v) (nI w) (nI c) (nI (aw β v c)) (nI (aw β w c)) (nI d) S
  | 0, d, _, h, _ => absurd h (by omega)
  | n + 1, d, hd, hn, hI => by
    have hr := h.1.1
    have hN := h.2.1
    have ih := lm_isF h hv hw hc h1 h0 n
    have b1 : aw β v c ≤ 12000 := wc_le h.1.2.1 hv _
    have b2 : aw β w c ≤ 12000 := wc_le h.1.2.1 hw _
    have b3 : aw β v d ≤ 12000 := wc_le h.1.2.1 hv _
    have b4 : aw β w d ≤ 12000 := wc_le h.1.2.1 hw _
    rw [wX9_isFront_29, h.2.2.1, ple (by omega) (by omega)]
    refine ⟨ok_O hr.1 (by decide), fun c1 => h1 (FR_iff.mpr (fun x hx => hI x (by omega))), fun c1 => ?_⟩
    have cd := h.c (c := d) (by omega)
    rw [rt108_12 hr, pcl (by omega), cd.1]
    refine ⟨by decide, ok_A (N := 501) hr.1 (by decide) (by omega) (by decide), m_sumIn h.1 hv cd.2.1 ?_⟩
    rw [rt108_12 hr, cd.1]
    refine ⟨⟨ok_O hr.1 (by decide), by decide⟩, ok_A (N := 501) hr.1 (by decide) (by omega) (by decide), m_sumIn h.1 hw cd.2.1 ?_⟩
    have bad : ((aw β v d ≤ aw β v c ∧ aw β w d ≤ aw β w c ∧ (aw β v d < aw β v c ∨ aw β w d < aw β w c)) ∨ (d < c ∧ aw β v d = aw β v c ∧ aw β w d = aw β w c)) → K 0 S := fun q => by
      refine h0 ?_
      cases hq : FR (aw β v) (aw β w) (nch β) c with
      | false => rfl
      | true => exact absurd q (FR_iff.mp hq d (by omega))
    have good : ¬ ((aw β v d ≤ aw β v c ∧ aw β w d ≤ aw β w c ∧ (aw β v d < aw β v c ∨ aw β w d < aw β w c)) ∨ (d < c ∧ aw β v d = aw β v c ∧ aw β w d = aw β w c)) → wX9_isFront_118 K (wX9_isFront_29 K n) 108 (nI v) (nI w) (nI c) (nI (aw β v c)) (nI (aw β w c)) (nI d) S := fun q x ex => by
      rw [ex, nI_1]
      refine ih (d + 1) (by omega) (by omega) (fun x hx => ?_)
      by_cases e : x = d
      · rw [e]; exact q
      · exact hI x (by omega)
    have mid : ¬ (aw β v d ≤ aw β v c ∧ aw β w d ≤ aw β w c ∧ (aw β v d < aw β v c ∨ aw β w d < aw β w c)) → wX9_isFront_96 K (wX9_isFront_29 K n) 108 (nI v) (nI w) (nI c) (nI (aw β v c)) (nI (aw β w c)) (nI d) (nI (aw β v d)) (nI (aw β w d)) S := fun q => by
      unfold wX9_isFront_96
      rw [ple (by omega) (by omega), peq (by omega) (by omega), peq (by omega) (by omega)]
      exact ⟨fun z => good (by omega), fun z => ⟨fun z2 => ⟨fun z3 => bad (by omega), fun z3 => good (by omega)⟩, fun z2 => good (by omega)⟩⟩
    show ((nI (aw β v c) < nI (aw β v d) → _) ∧ (¬ nI (aw β v c) < nI (aw β v d) → ((nI (aw β w c) < nI (aw β w d) → _) ∧ (¬ nI (aw β w c) < nI (aw β w d) → ((nI (aw β v d) < nI (aw β v c) → _) ∧ (¬ nI (aw β v d) < nI (aw β v c) → ((nI (aw β w c) ≤ nI (aw β w d) → _) ∧ (¬ nI (aw β w c) ≤ nI (aw β w d) → _))))))))
    rw [plt (by omega) (by omega), plt (by omega) (by omega), plt (by omega) (by omega), ple (by omega) (by omega)]
    exact ⟨fun z => mid (by omega), fun z => ⟨fun z2 => mid (by omega), fun z2 => ⟨fun z3 => bad (by omega), fun z3 => ⟨fun z4 => mid (by omega), fun z4 => bad (by omega)⟩⟩⟩⟩
theorem m_isF {S : St} {β : Nat → Nat → Nat} {v w c : Nat} {K : Int32 → St → Prop} (h : IM S β) (hv : v < 8) (hw : w < 8) (hc : c < nch β) (h1 : FR (aw β v) (aw β w) (nch β) c = true → K 1 S) (h0 : FR (aw β v) (aw β w) (nch β) c = false → K 0 S) : wX9_isFront S 108 (nI v) (nI w) (nI c) K := by
  have hr := h.1.1
  have hN := h.2.1
  have cc := h.c hc
  unfold wX9_isFront
  rw [rt108_12 hr, pcl (by omega), cc.1]
  refine ⟨⟨ok_O hr.1 (by decide), by decide⟩, ok_A (N := 501) hr.1 (by decide) (by omega) (by decide), m_sumIn h.1 hv cc.2.1 ?_⟩
  rw [rt108_12 hr, cc.1]
  refine ⟨⟨ok_O hr.1 (by decide), by decide⟩, ok_A (N := 501) hr.1 (by decide) (by omega) (by decide), m_sumIn h.1 hw cc.2.1 ?_⟩
  exact ⟨nch β + 1, lm_isF h hv hw hc h1 h0 _ 0 (by omega) (by omega) (fun x hx => absurd hx (by omega))⟩
def rkm (a b : Nat → Nat) (N m e : Nat) : Nat := fb_ct (fun d => FR a b N d && decide (a d < a e)) m
theorem rkm_lt {a b : Nat → Nat} {N m e f : Nat} (he : e < m) (hf : FR a b N e = true) (hlt : a e < a f) : rkm a b N m e + 1 ≤ rkm a b N m f := by
  refine ct_drop he (fun k _ hk => ?_) ?_ ?_
  · rw [Bool.and_eq_true, decide_eq_true_eq] at hk ⊢
    exact ⟨hk.1, by omega⟩
  · rw [hf, Bool.true_and, decide_eq_true_eq]; exact hlt
  · rw [decide_eq_false (Nat.lt_irrefl _), Bool.and_false]
theorem rkm_in {a b : Nat → Nat} {N m e : Nat} (he : e < m) (hf : FR a b N e = true) : rkm a b N m e < fb_ct (FR a b N) m := by
  have : rkm a b N m e + 1 ≤ fb_ct (FR a b N) m := by
    refine ct_drop he (fun k _ hk => ?_) hf ?_
    · rw [Bool.and_eq_true] at hk; exact hk.1
    · rw [decide_eq_false (Nat.lt_irrefl _), Bool.and_false]
  omega
theorem rkm_one {a b : Nat → Nat} {N m e f : Nat} (hm : m ≤ N) (he : e < m) (hf : f < m) (h1 : FR a b N e = true) (h2 : FR a b N f = true) (h : rkm a b N m e = rkm a b N m f) : e = f := by
  refine FR_one (by omega) (by omega) h1 h2 ?_
  rcases Nat.lt_trichotomy (a e) (a f) with z | z | z
  · have := rkm_lt (m := m) he h1 z; omega
  · exact z
  · have := rkm_lt (m := m) hf h2 z; omega
/-- the row's first places hold the front among the first m, by the cost in v -/
def FI (S : St) (a b : Nat → Nat) (N m : Nat) : Prop := ∀ i, i < fb_ct (FR a b N) m → ∃ e, sI S 120 i = nI e ∧ e < m ∧ FR a b N e = true ∧ rkm a b N m e = i
theorem rkm_succ {a b : Nat → Nat} {N m e : Nat} : rkm a b N (m + 1) e = rkm a b N m e + if (FR a b N m && decide (a m < a e)) then 1 else 0 := rfl
theorem FI_no {S : St} {a b : Nat → Nat} {N m : Nat} (h : FI S a b N m) (hf : FR a b N m = false) : FI S a b N (m + 1) := by
  have ec : fb_ct (FR a b N) (m + 1) = fb_ct (FR a b N) m := by rw [fb_ct_succ, hf]; rfl
  intro i hi
  rw [ec] at hi
  obtain ⟨e, h1, h2, h3, h4⟩ := h i hi
  refine ⟨e, h1, by omega, h3, ?_⟩
  rw [rkm_succ, hf, h4]
  rfl
theorem FI_yes {S : St} {a b g : Nat → Nat} {N m p : Nat} (hm : m < N) (hf : FR a b N m = true) (hg : ∀ i, i < fb_ct (FR a b N) m → g i < m ∧ FR a b N (g i) = true ∧ rkm a b N m (g i) = i) (hp : p ≤ fb_ct (FR a b N) m) (hlo : 0 < p → a (g (p - 1)) ≤ a m) (hhi : ∀ i, p ≤ i → i < fb_ct (FR a b N) m → a m < a (g i)) (hS : ∀ i, i ≤ fb_ct (FR a b N) m → sI S 120 i = nI (if i < p then g i else if i = p then m else g (i - 1))) : FI S a b N (m + 1) := by
  have ec : fb_ct (FR a b N) (m + 1) = fb_ct (FR a b N) m + 1 := by rw [fb_ct_succ, hf]; rfl
  have hlow : ∀ i, i < p → a (g i) < a m := fun i hi => by
    have g1 := hg (p - 1) (by omega)
    have gi := hg i (by omega)
    have l1 := hlo (by omega)
    have ne : a (g (p - 1)) ≠ a m := fun z => by
      have := FR_one (by omega) hm g1.2.1 hf z
      omega
    rcases Nat.lt_or_ge (a (g i)) (a m) with z | z
    · exact z
    · exfalso
      have := rkm_lt (m := m) g1.1 g1.2.1 (show a (g (p - 1)) < a (g i) by omega)
      omega
  have all : ∀ d, d < m → FR a b N d = true → ∃ r, r < fb_ct (FR a b N) m ∧ g r = d ∧ rkm a b N m d = r := fun d hd hfd => by
    have hr := rkm_in hd hfd
    obtain ⟨q1, q2, q3⟩ := hg _ hr
    exact ⟨_, hr, rkm_one (by omega) q1 hd q2 hfd q3, rfl⟩
  have rkp : rkm a b N m m = p := by
    rcases Nat.lt_or_eq_of_le hp with z | z
    · have gp := hg p z
      rw [← gp.2.2]
      refine fb_ct_cong (fun d hd => ?_)
      cases hfd : FR a b N d with
      | false => rfl
      | true =>
        rw [Bool.true_and, Bool.true_and]
        refine decide_eq_decide.mpr ⟨fun q => by have := hhi p (Nat.le_refl _) z; omega, fun q => ?_⟩
        obtain ⟨r, r1, r2, r3⟩ := all d hd hfd
        have := rkm_lt (m := m) hd hfd q
        rw [gp.2.2] at this
        rw [← r2]
        exact hlow r (by omega)
    · rw [z]
      refine fb_ct_cong (fun d hd => ?_)
      cases hfd : FR a b N d with
      | false => rfl
      | true =>
        rw [Bool.true_and, decide_eq_true_eq]
        obtain ⟨r, r1, r2, r3⟩ := all d hd hfd
        rw [← r2]
        exact hlow r (by omega)
  intro i hi
  rw [ec] at hi
  rcases Nat.lt_trichotomy i p with z | z | z
  · have gi := hg i (by omega)
    refine ⟨g i, by rw [hS i (by omega), if_pos z], by omega, gi.2.1, ?_⟩
    rw [rkm_succ, gi.2.2, hf, decide_eq_false (by have := hlow i z; omega)]
    rfl
  · refine ⟨m, by rw [hS i (by omega), if_neg (by omega), if_pos z], by omega, hf, ?_⟩
    rw [rkm_succ, rkp, decide_eq_false (Nat.lt_irrefl _), Bool.and_false, z]
    rfl
  · have gi := hg (i - 1) (by omega)
    refine ⟨g (i - 1), by rw [hS i (by omega), if_neg (by omega), if_neg (by omega)], by omega, gi.2.1, ?_⟩
    rw [rkm_succ, gi.2.2, hf, decide_eq_true (hhi (i - 1) (by omega) (by omega))]
    show i - 1 + 1 = i
    omega
theorem lm_f51 {S : St} {β : Nat → Nat → Nat} {v w m : Nat} {x3 : Int32} {g : Nat → Nat} {K : Int32 → St → Prop} {B : Nat → Int32 → Int32 → Int32 → Int32 → Int32 → St → Prop} (h : IM S β) (hv : v < 8) (hm : m < nch β) (hf : FR (aw β v) (aw β w) (nch β) m = true) (hg : ∀ i, i < fb_ct (FR (aw β v) (aw β w) (nch β)) m → g i < m ∧ FR (aw β v) (aw β w) (nch β) (g i) = true ∧ rkm (aw β v) (aw β w) (nch β) m (g i) = i)
    (hB : ∀ S1, Ex (fun k => k = 120) S S1 → FI S1 (aw β v) (aw β w) (nch β) (m + 1) → B 108 (nI v) (nI w) x3 (nI (fb_ct (FR (aw β v) (aw β w) (nch β)) m + 1)) (nI (m + 1)) S1) :
    ∀ (n p : Nat) (S1 : St), p ≤ fb_ct (FR (aw β v) (aw β w) (nch β)) m → p < n → Ex (fun k => k = 120) S S1 → (∀ i, p ≤ i → i < fb_ct (FR (aw β v) (aw β w) (nch β)) m → aw β v m < aw β v (g i)) → (∀ i, i ≤ fb_ct (FR (aw β v) (aw β w) (nch β)) m → i ≠ p → sI S1 120 i = nI (if i < p then g i else g (i - 1))) → wX9_front_51 K B n 108 (nI v) (nI w) x3 (nI (fb_ct (FR (aw β v) (aw β w) (nch β)) m)) (nI m) (nI p) S1
  | 0, p, S1, _, h, _, _, _ => absurd h (by omega)
  | n + 1, p, S1, hp, hn, hE, hhi, hI => by
    have h1 : IM S1 β := h.fr (Fr.of hE h.1.1) (fun k hk => by omega)
    have hr := h1.1.1
    have hN := h.2.1
    have hcm := fb_ct_le (FR (aw β v) (aw β w) (nch β)) m
    have ih := lm_f51 (K := K) (x3 := x3) h hv hm hf hg hB n
    have done : (0 < p → aw β v (g (p - 1)) ≤ aw β v m) → wX9_front_112 K B 108 (nI v) (nI w) x3 (nI (fb_ct (FR (aw β v) (aw β w) (nch β)) m)) (nI m) (nI p) S1 := fun hlo => by
      unfold wX9_front_112
      rw [rt108_16 hr, pcl (by omega)]
      refine ⟨⟨ok_O hr.1 (by decide), by decide⟩, ok_A (N := 500) hr.1 (by decide) (by omega) (by decide), fun S2 e2 x4 e4 x ex => ?_⟩
      rw [ex, e4, nI_1, nI_1]
      refine hB S2 (by rw [e2]; exact hE.pI rfl) (FI_yes hm hf hg hp hlo hhi (fun i hi => ?_))
      by_cases e : i = p
      · rw [e2, e, sI_s, if_neg (Nat.lt_irrefl _), if_pos rfl]
      · rw [e2, sI_n e, hI i hi e]
        by_cases z : i < p
        · rw [if_pos z, if_pos z]
        · rw [if_neg z, if_neg z, if_neg e]
    have z0 : (nI p ≤ 0) = (p ≤ 0) := by rw [show (0 : Int32) = nI 0 from rfl, ple (by omega) (by omega)]
    rw [wX9_front_51, z0]
    refine ⟨fun c => done (fun z => by omega), fun c => ?_⟩
    have gp := hg (p - 1) (by omega)
    have ip := hI (p - 1) (by omega) (by omega)
    rw [if_pos (by omega)] at ip
    have cg := h1.c (c := g (p - 1)) (by omega)
    have cm := h1.c hm
    have em : nI p - 1 = nI (p - 1) := (show nI p - nI 1 = nI (p - 1) from pk_sub (show 1 ≤ p by omega))
    rw [em, rt108_12 hr, rt108_16 hr, pcl (by omega), ip, pcl (by omega), cg.1]
    refine ⟨⟨ok_O hr.1 (by decide), by decide⟩, by decide, ok_A (N := 500) hr.1 (by decide) (by omega) (by decide), ok_A (N := 501) hr.1 (by decide) (by omega) (by decide), m_sumIn h1.1 hv cg.2.1 ?_⟩
    rw [rt108_12 hr, pcl (by omega), cm.1]
    refine ⟨⟨ok_O hr.1 (by decide), by decide⟩, ok_A (N := 501) hr.1 (by decide) (by omega) (by decide), m_sumIn h1.1 hv cm.2.1 ?_⟩
    have b1 : wc β v (chl β (g (p - 1))) ≤ 12000 := wc_le h.1.2.1 hv _
    have b2 : wc β v (chl β m) ≤ 12000 := wc_le h.1.2.1 hv _
    rw [ple (by omega) (by omega), rt108_16 hr, ip]
    refine ⟨fun z => done (fun _ => z), fun z => ⟨⟨ok_O hr.1 (by decide), by decide⟩, ok_A (N := 500) hr.1 (by decide) (by omega) (by decide), ok_A (N := 500) hr.1 (by decide) (by omega) (by decide), fun S2 e2 x ex => ?_⟩⟩
    have ex : x = nI (p - 1) := by rw [ex, ← em, Int32.sub_eq_add_neg]
    rw [ex]
    rw [pcl (by omega)] at e2
    refine ih (p - 1) S2 (by omega) (by omega) (by rw [e2]; exact hE.pI rfl) (fun i hi hi2 => ?_) (fun i hi hne => ?_)
    · by_cases e : i = p - 1
      · rw [e]
        show wc β v (chl β m) < wc β v (chl β (g (p - 1)))
        omega
      · exact hhi i (by omega) hi2
    · by_cases e : i = p
      · rw [e2, e, sI_s, if_neg (by omega)]
      · rw [e2, sI_n e, hI i hi e]
        by_cases z : i < p - 1
        · rw [if_pos (by omega), if_pos z]
        · rw [if_neg (by omega), if_neg z]
theorem lm_f24 {S : St} {β : Nat → Nat → Nat} {v w : Nat} {x3 : Int32} {K : Int32 → St → Prop} (h : IM S β) (hv : v < 8) (hw : w < 8) (hK : ∀ S1, Ex (fun k => k = 120) S S1 → FI S1 (aw β v) (aw β w) (nch β) (nch β) → wX9_front_130 K 108 x3 (nI (fb_ct (FR (aw β v) (aw β w) (nch β)) (nch β))) S1) :
    ∀ (n m : Nat) (S1 : St), m ≤ nch β → nch β - m < n → Ex (fun k => k = 120) S S1 → FI S1 (aw β v) (aw β w) (nch β) m → wX9_front_24 K n 108 (nI v) (nI w) x3 (nI (fb_ct (FR (aw β v) (aw β w) (nch β)) m)) (nI m) S1
  | 0, m, S1, _, h, _, _ => absurd h (by omega)
  | n + 1, m, S1, hm, hn, hE, hI => by
    have h1 : IM S1 β := h.fr (Fr.of hE h.1.1) (fun k hk => by omega)
    have hr := h1.1.1
    have hN := h.2.1
    have ih := lm_f24 (x3 := x3) h hv hw hK n
    rw [wX9_front_24, h1.2.2.1, ple (by omega) (by omega)]
    refine ⟨ok_O hr.1 (by decide), fun c => ?_, fun c => m_isF h1 hv hw (by omega) (fun hf => ⟨fun z => absurd z (by decide), fun _ => ?_⟩) (fun hf => ⟨fun _ x ex => ?_, fun z => absurd rfl z⟩)⟩
    · rw [show m = nch β by omega] at hI ⊢
      exact hK S1 hE hI
    · have : ∃ g : Nat → Nat, ∀ i, i < fb_ct (FR (aw β v) (aw β w) (nch β)) m → sI S1 120 i = nI (g i) ∧ g i < m ∧ FR (aw β v) (aw β w) (nch β) (g i) = true ∧ rkm (aw β v) (aw β w) (nch β) m (g i) = i := by
        refine ⟨fun i => (sI S1 120 i).toNatClampNeg, fun i hi => ?_⟩
        obtain ⟨e, e1, e2, e3, e4⟩ := hI i hi
        dsimp only
        rw [e1, pcl (by omega)]
        exact ⟨rfl, e2, e3, e4⟩
      obtain ⟨g, hg⟩ := this
      have ec : fb_ct (FR (aw β v) (aw β w) (nch β)) (m + 1) = fb_ct (FR (aw β v) (aw β w) (nch β)) m + 1 := by rw [fb_ct_succ, hf]; rfl
      refine ⟨fb_ct (FR (aw β v) (aw β w) (nch β)) m + 1, lm_f51 (g := g) h1 hv (by omega) hf (fun i hi => (hg i hi).2) (fun S2 hE2 hI2 => ?_) _ _ S1 (Nat.le_refl _) (Nat.lt_succ_self _) Ex.rf (fun i h1 h2 => absurd h2 (by omega)) (fun i hi hne => ?_)⟩
      · rw [← ec]
        exact ih (m + 1) S2 (by omega) (by omega) (hE.tr hE2) hI2
      · rw [if_pos (by omega)]
        exact (hg i (by omega)).1
    · have ec : fb_ct (FR (aw β v) (aw β w) (nch β)) (m + 1) = fb_ct (FR (aw β v) (aw β w) (nch β)) m := by rw [fb_ct_succ, hf]; rfl
      rw [ex, nI_1, ← ec]
      exact ih (m + 1) S1 (by omega) (by omega) hE (FI_no hI hf)
theorem m_front {S : St} {β : Nat → Nat → Nat} {v w : Nat} {x3 : Int32} {K : Int32 → St → Prop} (h : IM S β) (hv : v < 8) (hw : w < 8) (kn : x3 = -1 → ∀ S1, Ex (fun k => k = 120) S S1 → K (nI (fb_ct (FR (aw β v) (aw β w) (nch β)) (nch β))) S1)
    (k1 : ∀ i e S1, x3 = nI i → i < fb_ct (FR (aw β v) (aw β w) (nch β)) (nch β) → e < nch β → FR (aw β v) (aw β w) (nch β) e = true → rkf (aw β v) (aw β w) (nch β) e = i → Ex (fun k => k = 120) S S1 → K (nI e) S1)
    (k0 : ∀ S1, x3 ≠ -1 → (∀ i, i < fb_ct (FR (aw β v) (aw β w) (nch β)) (nch β) → x3 ≠ nI i) → Ex (fun k => k = 120) S S1 → K (-1) S1) :
    (∃ n1 : Nat, wX9_front_24 K n1 108 (nI v) (nI w) x3 0 0 S) := by
  have hN := h.2.1
  refine ⟨nch β + 1, lm_f24 h hv hw (fun S1 hE hI => ?_) _ 0 S (by omega) (by omega) Ex.rf (fun i hi => absurd (show i < 0 from hi) (by omega))⟩
  have hr := hE.rt h.1.1
  have hcm := fb_ct_le (FR (aw β v) (aw β w) (nch β)) (nch β)
  refine ⟨fun e => kn e S1 hE, fun e => ?_⟩
  refine m_in (by omega) (nI1_toInt (by omega)) (fun i hi ei => ⟨fun z => absurd z (by decide), fun _ => ?_⟩) (fun z => ⟨fun _ => k0 S1 e z hE, fun z => absurd rfl z⟩)
  obtain ⟨f, f1, f2, f3, f4⟩ := hI i hi
  rw [ei, rt108_16 hr, pcl (by omega), f1]
  exact ⟨⟨ok_O hr.1 (by decide), by decide⟩, ok_A (N := 500) hr.1 (by decide) (by omega) (by decide), k1 i f S1 ei hi f2 f3 f4 hE⟩
theorem FR_shift {a b a2 b2 : Nat → Nat} {N p q c : Nat} (ha : ∀ d, d < N → a2 d = a d + p) (hb : ∀ d, d < N → b2 d = b d + q) (hc : c < N) : FR a2 b2 N c = FR a b N c := by
  unfold FR
  congr 1
  refine fb_ct_cong (fun d hd => decide_eq_decide.mpr ?_)
  rw [ha d hd, hb d hd, ha c hc, hb c hc]
  omega
theorem rkf_shift {a b a2 b2 : Nat → Nat} {N p q c : Nat} (ha : ∀ d, d < N → a2 d = a d + p) (hb : ∀ d, d < N → b2 d = b d + q) (hc : c < N) : rkf a2 b2 N c = rkf a b N c := by
  unfold rkf
  refine fb_ct_cong (fun d hd => ?_)
  rw [FR_shift ha hb hd]
  congr 1
  refine decide_eq_decide.mpr ?_
  rw [ha d hd, ha c hc]
  omega
theorem aw_rwv {β : Nat → Nat → Nat} {v : Nat} : ∀ d, d < nch β → aw β v d = rwv β (nch β) (chl β) v d + wc β v (chl β (am (fun x => wc β v (chl β x)) (nch β))) := fun d hd => by
  have := am_le (fun x => wc β v (chl β x)) (nch β) d hd
  unfold aw rwv
  omega
-- lots
def TI (a b : Nat → Nat) (N U V : Nat) (P : Nat → Nat → Prop) : Prop := (V = 0 ∧ ∀ u d, ¬ P u d) ∨ (0 < V ∧ CA a b N U V ∧ ∀ u d, P u d → U * d ≤ u * V)
def BD (a b : Nat → Nat) (N : Nat) : Prop := ∀ c, c < N → a c ≤ 12000 ∧ b c ≤ 12000
theorem CA_le {a b : Nat → Nat} {N u d : Nat} (hb : BD a b N) (h : CA a b N u d) : u ≤ 288000000 ∧ d ≤ 24000 := by
  rcases h with ⟨c, hc, rfl, rfl⟩ | ⟨c, e, hc, he, _, _, rfl, rfl⟩
  · have := hb c hc
    unfold mxx
    refine ⟨?_, by omega⟩
    split <;> omega
  · have h1 := hb c hc
    have h2 := hb e he
    have t1 : a c * (a e - b e) ≤ 12000 * 12000 := Nat.mul_le_mul h1.1 (by omega)
    have t2 : a e * (b c - a c) ≤ 12000 * 12000 := Nat.mul_le_mul h2.1 (by omega)
    omega
theorem TI_take {a b : Nat → Nat} {N U V u d : Nat} {P P2 : Nat → Nat → Prop} (h : TI a b N U V P) (hc : CA a b N u d) (hd : 0 < d) (hp : ∀ x y, P2 x y → P x y ∨ (x = u ∧ y = d)) (ht : V = 0 ∨ u * V < U * d) : TI a b N u d P2 := by
  refine Or.inr ⟨hd, hc, fun x y hxy => ?_⟩
  rcases hp x y hxy with z | ⟨rfl, rfl⟩
  · rcases h with ⟨_, h0⟩ | ⟨hV, _, hle⟩
    · exact absurd z (h0 x y)
    · rcases ht with w | w
      · omega
      · have t1 := hle x y z
        have t2 : u * V * y ≤ U * d * y := Nat.mul_le_mul_right y (Nat.le_of_lt w)
        have t3 : U * y * d ≤ x * V * d := Nat.mul_le_mul_right d t1
        have e1 : U * d * y = U * y * d := by rw [Nat.mul_assoc, Nat.mul_comm d y, ← Nat.mul_assoc]
        have e2 : x * V * d = x * d * V := by rw [Nat.mul_assoc, Nat.mul_comm V d, ← Nat.mul_assoc]
        have e3 : u * V * y = u * y * V := by rw [Nat.mul_assoc, Nat.mul_comm V y, ← Nat.mul_assoc]
        exact Nat.le_of_mul_le_mul_right (by omega : u * y * V ≤ x * d * V) hV
  · exact Nat.le_refl _
theorem TI_keep {a b : Nat → Nat} {N U V u d : Nat} {P P2 : Nat → Nat → Prop} (h : TI a b N U V P) (hp : ∀ x y, P2 x y → P x y ∨ (x = u ∧ y = d)) (hV : 0 < V) (ht : U * d ≤ u * V) : TI a b N U V P2 := by
  rcases h with ⟨h0, _⟩ | ⟨_, hc, hle⟩
  · omega
  · refine Or.inr ⟨hV, hc, fun x y hxy => ?_⟩
    rcases hp x y hxy with z | ⟨rfl, rfl⟩
    · exact hle x y z
    · exact ht
theorem TI_same {a b : Nat → Nat} {N U V : Nat} {P P2 : Nat → Nat → Prop} (h : TI a b N U V P) (hp : ∀ x y, P2 x y → P x y) : TI a b N U V P2 := by
  rcases h with ⟨h0, h1⟩ | ⟨hV, hc, hle⟩
  · exact Or.inl ⟨h0, fun x y z => h1 x y (hp x y z)⟩
  · exact Or.inr ⟨hV, hc, fun x y z => hle x y (hp x y z)⟩
theorem m_takes {S : St} {a b : Nat → Nat} {N U V u d : Nat} {P P2 : Nat → Nat → Prop} {K : St → Prop} (hr : RT S) (hb : BD a b N) (h17 : 0 < V → sL S 108 17 = lN U) (h18 : sL S 108 18 = lN V) (h : TI a b N U V P) (hc : CA a b N u d) (hd : 0 < d) (hp : ∀ x y, P2 x y → P x y ∨ (x = u ∧ y = d)) (hK : ∀ U2 V2 S1, Ex (fun _ => False) S S1 → (0 < V2 → sL S1 108 17 = lN U2) → sL S1 108 18 = lN V2 → TI a b N U2 V2 P2 → K S1) : wX9_takesLess S 108 (lN u) (lN d) K := by
  have bc := CA_le hb hc
  have take : (V = 0 ∨ u * V < U * d) → wX9_takesLess_26 K 108 (lN u) (lN d) S := fun ht => by
    refine ⟨ok_O hr.1 (by decide), fun S1 e1 => ⟨by rw [e1]; exact ok_O hr.1 (by decide), fun S2 e2 => ?_⟩⟩
    refine hK u d S2 (by rw [e2, e1]; exact Ex.rf) (fun _ => ?_) ?_ (TI_take h hc hd hp ht)
    · rw [e2, pL_sLn (by decide), e1, pL_sL]
    · rw [e2, pL_sL]
  unfold wX9_takesLess
  refine ⟨ok_O hr.1 (by decide), ?_⟩
  have hz : (lg_cmp (sL S 108 18) 0 ≤ 0) = (V ≤ 0) := by
    rw [h18, lg_cmp_le, show (0 : Int64) = lN 0 from rfl]
    have hV : V < 2 ^ 63 := by
      rcases h with ⟨h0, _⟩ | ⟨_, hcc, _⟩
      · omega
      · have := CA_le hb hcc; omega
    rw [pk_lLE hV (by decide)]
  rw [hz]
  refine ⟨fun z => take (Or.inl (by omega)), fun z => ?_⟩
  have hV : 0 < V := by omega
  have bU : U ≤ 288000000 ∧ V ≤ 24000 := by
    rcases h with ⟨h0, _⟩ | ⟨_, hcc, _⟩
    · omega
    · exact CA_le hb hcc
  have m1 : u * V ≤ 288000000 * 24000 := Nat.mul_le_mul bc.1 bU.2
  have m2 : U * d ≤ 288000000 * 24000 := Nat.mul_le_mul bU.1 bc.2
  rw [h18, h17 hV, lN_mul, lN_mul, lg_cmp_lt, pk_lLT (by omega) (by omega)]
  exact ⟨fun w => take (Or.inr w), fun w => hK U V S Ex.rf h17 h18 (TI_keep h hp hV (by omega))⟩
theorem lm_gcd {S : St} {K : Int64 → St → Prop} : ∀ (n x y : Nat), y < n → x < 2 ^ 63 → y < 2 ^ 63 → K (lN (Nat.gcd x y)) S → wX9_gcd_6 K n (lN x) (lN y) S
  | 0, _, _, h, _, _, _ => absurd h (by omega)
  | n + 1, x, y, hn, hx, hy, hK => by
    have z0 : (lg_cmp (lN y) 0 ≤ 0) = (y ≤ 0) := by
      rw [lg_cmp_le, show (0 : Int64) = lN 0 from rfl, pk_lLE hy (by decide)]
    rw [wX9_gcd_6, z0]
    refine ⟨fun z => ?_, fun z => ⟨?_, fun x8 e8 => ?_⟩⟩
    · have e : y = 0 := by omega
      subst e
      rw [Nat.gcd_zero_right] at hK
      exact hK
    · rw [show (0 : Int64) = lN 0 from rfl, pk_lEQ hy (by decide)]; omega
    · rw [pk_lRem hx (by omega) hy] at e8
      subst e8
      have := Nat.mod_lt x (show 0 < y by omega)
      exact lm_gcd n y (x % y) (by omega) hy (by omega) (by rw [← gcd_st]; exact hK)
/-- the rues as the model holds them -/
def QT (S : St) (N : Nat) (a b : Nat → Nat) (m : Nat) : Prop := ∀ c, c < m → sI S 121 c = nI (a c) ∧ sI S 122 c = nI (b c)
def C1 (a b : Nat → Nat) (i u d : Nat) : Prop := ∃ c, c < i ∧ u = mxx (a c) (b c) ∧ d = 1
def C2 (a b : Nat → Nat) (N i j u d : Nat) : Prop := C1 a b N u d ∨ ∃ c e, (c < i ∨ (c = i ∧ e < j)) ∧ c < N ∧ e < N ∧ a c < b c ∧ b e < a e ∧ u = a c * (a e - b e) + a e * (b c - a c) ∧ d = (b c - a c) + (a e - b e)
theorem nI_sg {x y : Nat} (hx : x ≤ 12000) (hy : y ≤ 12000) : (nI x - nI y).toInt64.toInt = (x : Int) - (y : Int) := by
  have h1 := nI_toInt (n31 (show x < 2147483648 by omega))
  have h2 := nI_toInt (n31 (show y < 2147483648 by omega))
  rw [Int32.toInt_toInt64, fb_subI (by rw [h1, h2]; omega) (by rw [h1, h2]; omega), h1, h2]
theorem sg_le {x y : Nat} (hx : x ≤ 12000) (hy : y ≤ 12000) : (lg_cmp ((nI x - nI y).toInt64) 0 ≤ 0) = (x ≤ y) := by
  rw [lg_cmp_le, fa_le64, nI_sg hx hy]
  apply propext
  have : (0 : Int64).toInt = 0 := by decide
  omega
theorem sg_gt {x y : Nat} (hx : x ≤ 12000) (hy : y ≤ 12000) : (0 < lg_cmp ((nI x - nI y).toInt64) 0) = (y < x) := by
  rw [lg_cmp_gt, fa_lt64, nI_sg hx hy]
  apply propext
  have : (0 : Int64).toInt = 0 := by decide
  omega
theorem lm_l223 {S : St} {β : Nat → Nat → Nat} {a b : Nat → Nat} {x3 : Int32} {i : Nat} {K : Int64 → St → Prop} {B : Nat → Int32 → Int32 → St → Prop} (h : IM S β) (hb : BD a b (nch β)) (hq : QT S (nch β) a b (nch β)) (hi : i < nch β) (hB : ∀ U V S1, Ex (fun _ => False) S S1 → (0 < V → sL S1 108 17 = lN U) → sL S1 108 18 = lN V → TI a b (nch β) U V (C2 a b (nch β) (i + 1) 0) → B 108 x3 (nI (i + 1)) S1) :
    ∀ (n j U V : Nat) (S1 : St), j ≤ nch β → nch β - j < n → Ex (fun _ => False) S S1 → (0 < V → sL S1 108 17 = lN U) → sL S1 108 18 = lN V → TI a b (nch β) U V (C2 a b (nch β) i j) → wX9_lots_223 K B n 108 x3 (nI i) (nI j) S1
  | 0, j, U, V, S1, _, h, _, _, _, _ => absurd h (by omega)
  | n + 1, j, U, V, S1, hj, hn, hE, s17, s18, hT => by
    have h1 : IM S1 β := h.fr (Fr.of hE h.1.1) (fun k hk => absurd hk id)
    have hr := h1.1.1
    have hN := h.2.1
    have ih := lm_l223 (K := K) (x3 := x3) h hb hq hi hB n
    rw [wX9_lots_223, h1.2.2.1, ple (by omega) (by omega)]
    refine ⟨ok_O hr.1 (by decide), fun c x ex => ?_, fun c => ?_⟩
    · rw [ex, nI_1]
      refine hB U V S1 hE s17 s18 (TI_same hT (fun x y hxy => ?_))
      rcases hxy with z | ⟨c2, e2, z, r⟩
      · exact Or.inl z
      · refine Or.inr ⟨c2, e2, ?_, r⟩
        have := r.2.1
        omega
    · have qi := hq i hi
      have qj := hq j (by omega)
      have bi := hb i hi
      have bj := hb j (by omega)
      rw [rt108_19 hr, rt108_20 hr, pcl (by omega), pcl (by omega), hE.i id, hE.i id, hE.i id, hE.i id, qi.1, qi.2, qj.1, qj.2]
      have skip : ¬ (a i < b i ∧ b j < a j) → wX9_lots_317 K (wX9_lots_223 K B n) 108 x3 (nI i) (nI j) S1 := fun z x ex => by
        rw [ex, nI_1]
        refine ih (j + 1) U V S1 (by omega) (by omega) hE s17 s18 (TI_same hT (fun x y hxy => ?_))
        rcases hxy with w | ⟨c2, e2, w, r⟩
        · exact Or.inl w
        · refine Or.inr ⟨c2, e2, ?_, r⟩
          by_cases q : c2 = i ∧ e2 = j
          · obtain ⟨q1, q2⟩ := q
            subst q1 q2
            exact absurd ⟨r.2.2.1, r.2.2.2.1⟩ z
          · omega
      refine ⟨by decide, ok_A (N := 500) hr.1 (by decide) (by omega) (by decide), by decide, ok_A (N := 500) hr.1 (by decide) (by omega) (by decide), fun x8 e8 => ⟨ok_A (N := 500) hr.1 (by decide) (by omega) (by decide), ok_A (N := 500) hr.1 (by decide) (by omega) (by decide), fun x10 e10 => ?_⟩⟩
      subst e8 e10
      rw [sg_le bi.2 bi.1, sg_gt bj.1 bj.2]
      refine ⟨fun z => skip (fun w => by omega), fun z => ⟨fun z2 => ?_, fun z2 => skip (fun w => by omega)⟩⟩
      rw [pk_sub (show a i ≤ b i by omega), pk_sub (show b j ≤ a j by omega), nI_l (n31 (by omega)), nI_l (n31 (by omega)), nI_l (n31 (by omega)), nI_l (n31 (by omega)), lN_mul, lN_mul, lN_add, lN_add]
      refine m_takes (P := C2 a b (nch β) i j) (P2 := C2 a b (nch β) i (j + 1)) hr hb s17 s18 hT (Or.inr ⟨i, j, hi, by omega, by omega, by omega, rfl, rfl⟩) (by omega) (fun x y hxy => ?_) (fun U2 V2 S2 hE2 t17 t18 hT2 x ex => ?_)
      · rcases hxy with w | ⟨c2, e2, w, r⟩
        · exact Or.inl (Or.inl w)
        · by_cases q : c2 = i ∧ e2 = j
          · obtain ⟨q1, q2⟩ := q
            subst q1 q2
            exact Or.inr ⟨r.2.2.2.2.1, r.2.2.2.2.2⟩
          · exact Or.inl (Or.inr ⟨c2, e2, by omega, r⟩)
      · rw [ex, nI_1]
        exact ih (j + 1) U2 V2 S2 (by omega) (by omega) (hE.tr hE2) t17 t18 hT2
theorem lm_l211 {S : St} {β : Nat → Nat → Nat} {a b : Nat → Nat} {x3 : Int32} {K : Int64 → St → Prop} (h : IM S β) (hb : BD a b (nch β)) (hq : QT S (nch β) a b (nch β)) (hK : ∀ U V S1, Ex (fun _ => False) S S1 → (0 < V → sL S1 108 17 = lN U) → sL S1 108 18 = lN V → TI a b (nch β) U V (C2 a b (nch β) (nch β) 0) → wX9_lots_329 K 108 x3 S1) :
    ∀ (n i U V : Nat) (S1 : St), i ≤ nch β → nch β - i < n → Ex (fun _ => False) S S1 → (0 < V → sL S1 108 17 = lN U) → sL S1 108 18 = lN V → TI a b (nch β) U V (C2 a b (nch β) i 0) → wX9_lots_211 K n 108 x3 (nI i) S1
  | 0, i, U, V, S1, _, h, _, _, _, _ => absurd h (by omega)
  | n + 1, i, U, V, S1, hi, hn, hE, s17, s18, hT => by
    have h1 : IM S1 β := h.fr (Fr.of hE h.1.1) (fun k hk => absurd hk id)
    have hr := h1.1.1
    have hN := h.2.1
    have ih := lm_l211 (x3 := x3) h hb hq hK n
    rw [wX9_lots_211, h1.2.2.1, ple (by omega) (by omega)]
    refine ⟨ok_O hr.1 (by decide), fun c => ?_, fun c => ?_⟩
    · rw [show i = nch β by omega] at hT
      exact hK U V S1 hE s17 s18 hT
    · have hq1 : QT S1 (nch β) a b (nch β) := fun c hc => by rw [hE.i id, hE.i id]; exact hq c hc
      exact ⟨nch β + 1, lm_l223 h1 hb hq1 (by omega) (fun U2 V2 S2 hE2 t17 t18 hT2 => ih (i + 1) U2 V2 S2 (by omega) (by omega) (hE.tr hE2) t17 t18 hT2) _ 0 U V S1 (by omega) (by omega) Ex.rf s17 s18 hT⟩
theorem m_lots329 {S : St} {a b : Nat → Nat} {N U V : Nat} {x3 : Int32} {K : Int64 → St → Prop} (hr : RT S) (hb : BD a b N) (h0 : 0 < N) (s17 : 0 < V → sL S 108 17 = lN U) (s18 : sL S 108 18 = lN V) (hT : TI a b N U V (C2 a b N N 0)) (hK : ∀ U2 V2, LV a b N U2 V2 → (x3 = 0 → K (lN U2) S) ∧ (¬ x3 = 0 → K (lN V2) S)) : wX9_lots_329 K 108 x3 S := by
  rcases hT with ⟨_, hn⟩ | ⟨hV, hc, hle⟩
  · exact absurd (Or.inl ⟨0, h0, rfl, rfl⟩) (hn (mxx (a 0) (b 0)) 1)
  · have bU := CA_le hb hc
    have hg : 0 < Nat.gcd U V := Nat.gcd_pos_of_pos_right U hV
    have hg2 : Nat.gcd U V ≤ V := Nat.gcd_le_right U hV
    have lv := red_LV (a := a) (b := b) (N := N) hV (fun u d hud => hle u d (by
      rcases hud with z | ⟨c, e, z1, z2, z⟩
      · exact Or.inl z
      · exact Or.inr ⟨c, e, Or.inl z1, z1, z2, z⟩)) ⟨U, V, hc, hV, rfl⟩
    have k := hK _ _ lv
    unfold wX9_lots_329
    rw [s18, s17 hV]
    refine ⟨ok_O hr.1 (by decide), ⟨U + 1, lm_gcd (U + 1) V U (by omega) (by omega) (by omega) ?_⟩⟩
    rw [Nat.gcd_comm V U, s17 hV, s18]
    have ne : ¬ lN (Nat.gcd U V) = 0 := by rw [show (0 : Int64) = lN 0 from rfl, pk_lEQ (by omega) (by decide)]; omega
    rw [pk_lDiv (by omega) hg (by omega), pk_lDiv (by omega) hg (by omega)]
    exact ⟨fun z => ⟨ok_O hr.1 (by decide), ne, k.1 z⟩, fun z => ⟨ok_O hr.1 (by decide), ne, k.2 z⟩⟩
def P121 (k : Nat) : Prop := k = 121 ∨ k = 122
theorem lm_l108 {S : St} {β : Nat → Nat → Nat} {v w : Nat} {x3 : Int32} {K : Int64 → St → Prop} (h : IM S β) (hv : v < 8) (hw : w < 8) (hK : ∀ U V S1, Ex P121 S S1 → QT S1 (nch β) (rwv β (nch β) (chl β) v) (rwv β (nch β) (chl β) w) (nch β) → (0 < V → sL S1 108 17 = lN U) → sL S1 108 18 = lN V → TI (rwv β (nch β) (chl β) v) (rwv β (nch β) (chl β) w) (nch β) U V (C1 (rwv β (nch β) (chl β) v) (rwv β (nch β) (chl β) w) (nch β)) → wX9_lots_208 K 108 x3 S1) :
    ∀ (n i U V : Nat) (S1 : St), i ≤ nch β → nch β - i < n → Ex P121 S S1 → QT S1 (nch β) (rwv β (nch β) (chl β) v) (rwv β (nch β) (chl β) w) i → (0 < V → sL S1 108 17 = lN U) → sL S1 108 18 = lN V → TI (rwv β (nch β) (chl β) v) (rwv β (nch β) (chl β) w) (nch β) U V (C1 (rwv β (nch β) (chl β) v) (rwv β (nch β) (chl β) w) i) → wX9_lots_108 K n 108 (nI v) (nI w) x3 (nI (wc β v (chl β (am (fun x => wc β v (chl β x)) (nch β))))) (nI (wc β w (chl β (am (fun x => wc β w (chl β x)) (nch β))))) (nI i) S1
  | 0, i, U, V, S1, _, h, _, _, _, _, _ => absurd h (by omega)
  | n + 1, i, U, V, S1, hi, hn, hE, hQ, s17, s18, hT => by
    have h1 : IM S1 β := h.fr (Fr.of hE h.1.1) (fun k hk => by unfold P121 at hk; omega)
    have hr := h1.1.1
    have hN := h.2.1
    have ih := lm_l108 (x3 := x3) h hv hw hK n
    have hb : BD (rwv β (nch β) (chl β) v) (rwv β (nch β) (chl β) w) (nch β) := fun c _ => ⟨rwv_le h.1.2.1 _ _ hv c, rwv_le h.1.2.1 _ _ hw c⟩
    rw [wX9_lots_108, h1.2.2.1, ple (by omega) (by omega)]
    refine ⟨ok_O hr.1 (by decide), fun c => ?_, fun c => ?_⟩
    · rw [show i = nch β by omega] at hQ hT
      exact hK U V S1 hE hQ s17 s18 hT
    · have ci := h1.c (c := i) (by omega)
      rw [rt108_12 hr, rt108_19 hr, pcl (by omega), ci.1]
      refine ⟨by decide, by decide, ok_A (N := 501) hr.1 (by decide) (by omega) (by decide), m_sumIn h1.1 hv ci.2.1 ⟨ok_A (N := 500) hr.1 (by decide) (by omega) (by decide), fun S2 e2 => ?_⟩⟩
      rw [pk_sub (am_le (fun x => wc β v (chl β x)) (nch β) i (by omega))] at e2
      have hE2 : Ex P121 S1 S2 := by rw [e2]; exact Ex.pI (P := P121) Ex.rf (Or.inl rfl)
      have h2 : IM S2 β := h1.fr (Fr.of hE2 hr) (fun k hk => by unfold P121 at hk; omega)
      have hr2 := h2.1.1
      have ci2 := h2.c (c := i) (by omega)
      rw [rt108_12 hr2, rt108_20 hr2, ci2.1]
      refine ⟨⟨ok_O hr2.1 (by decide), by decide⟩, by decide, ok_A (N := 501) hr2.1 (by decide) (by omega) (by decide), m_sumIn h2.1 hw ci2.2.1 ⟨ok_A (N := 500) hr2.1 (by decide) (by omega) (by decide), fun S3 e3 => ?_⟩⟩
      rw [pk_sub (am_le (fun x => wc β w (chl β x)) (nch β) i (by omega))] at e3
      have hE3 : Ex P121 S2 S3 := by rw [e3]; exact Ex.pI (P := P121) Ex.rf (Or.inr rfl)
      have hr3 := hE3.rt hr2
      have f1 : sI S3 121 i = nI (rwv β (nch β) (chl β) v i) := by rw [e3, sI_o (by decide), e2, sI_s]; rfl
      have f2 : sI S3 122 i = nI (rwv β (nch β) (chl β) w i) := by rw [e3, sI_s]; rfl
      have t17 : 0 < V → sL S3 108 17 = lN U := fun z => by rw [← s17 z, e3, e2]; rfl
      have t18 : sL S3 108 18 = lN V := by rw [← s18, e3, e2]; rfl
      have bi := hb i (by omega)
      have hQ3 : QT S3 (nch β) (rwv β (nch β) (chl β) v) (rwv β (nch β) (chl β) w) (i + 1) := fun c hc => by
        by_cases e : c = i
        · rw [e]; exact ⟨f1, f2⟩
        · have := hQ c (by omega)
          rw [e3, sI_o (by decide), sI_n e, e2, sI_n e, sI_o (by decide)]
          exact this
      have go : ∀ u, u = mxx (rwv β (nch β) (chl β) v i) (rwv β (nch β) (chl β) w i) → wX9_lots_198 K (wX9_lots_108 K n) 108 (nI v) (nI w) x3 (nI (wc β v (chl β (am (fun x => wc β v (chl β x)) (nch β))))) (nI (wc β w (chl β (am (fun x => wc β w (chl β x)) (nch β))))) (nI i) 108 (lN u) S3 := fun u eu => by
        refine ⟨ok_O hr3.1 (by decide), m_takes (d := 1) (P := C1 (rwv β (nch β) (chl β) v) (rwv β (nch β) (chl β) w) i) (P2 := C1 (rwv β (nch β) (chl β) v) (rwv β (nch β) (chl β) w) (i + 1)) hr3 hb t17 t18 hT (Or.inl ⟨i, by omega, eu, rfl⟩) (by omega) (fun x y hxy => ?_) (fun U2 V2 S4 hE4 q17 q18 hT2 x ex => ?_)⟩
        · obtain ⟨c, c1, c2, c3⟩ := hxy
          by_cases e : c = i
          · subst e; exact Or.inr ⟨by rw [c2, eu], c3⟩
          · exact Or.inl ⟨c, by omega, c2, c3⟩
        · rw [ex, nI_1]
          exact ih (i + 1) U2 V2 S4 (by omega) (by omega) ((hE.tr (hE2.tr hE3)).tr (hE4.mo (fun k hk => absurd hk id))) (fun c hc => by rw [hE4.i id, hE4.i id]; exact hQ3 c hc) q17 q18 hT2
      rw [rt108_19 hr3, rt108_20 hr3, f1, f2, ple (by omega) (by omega), nI_l (n31 (by omega)), nI_l (n31 (by omega))]
      refine ⟨⟨ok_O hr3.1 (by decide), by decide⟩, ok_A (N := 500) hr3.1 (by decide) (by omega) (by decide), by decide, ok_A (N := 500) hr3.1 (by decide) (by omega) (by decide), fun z => go _ ?_, fun z => go _ ?_⟩
      · unfold mxx; rw [if_neg (by omega)]
      · unfold mxx; rw [if_pos (by omega)]
theorem m_lotsB {S : St} {β : Nat → Nat → Nat} {v w : Nat} {x3 : Int32} {K : Int64 → St → Prop} (h : IM S β) (hv : v < 8) (hw : w < 8) (h0 : 0 < nch β) (hK : ∀ U V S1, Ex P121 S S1 → LV (rwv β (nch β) (chl β) v) (rwv β (nch β) (chl β) w) (nch β) U V → (x3 = 0 → K (lN U) S1) ∧ (¬ x3 = 0 → K (lN V) S1)) (hz : sL S 108 18 = 0) :
    (∃ n1 : Nat, wX9_lots_108 K n1 108 (nI v) (nI w) x3 (nI (wc β v (chl β (am (fun x => wc β v (chl β x)) (nch β))))) (nI (wc β w (chl β (am (fun x => wc β w (chl β x)) (nch β))))) 0 S) := by
  have hb : BD (rwv β (nch β) (chl β) v) (rwv β (nch β) (chl β) w) (nch β) := fun c _ => ⟨rwv_le h.1.2.1 _ _ hv c, rwv_le h.1.2.1 _ _ hw c⟩
  refine ⟨nch β + 1, lm_l108 h hv hw (fun U V S1 hE hQ s17 s18 hT => ?_) _ 0 0 0 S (by omega) (by omega) Ex.rf (fun c hc => absurd hc (by omega)) (fun z => absurd z (by omega)) hz (Or.inl ⟨rfl, fun u d ⟨c, hc, _⟩ => absurd hc (by omega)⟩)⟩
  have h1 : IM S1 β := h.fr (Fr.of hE h.1.1) (fun k hk => by unfold P121 at hk; omega)
  refine ⟨nch β + 1, lm_l211 h1 hb hQ (fun U2 V2 S2 hE2 t17 t18 hT2 => ?_) _ 0 U V S1 (by omega) (by omega) Ex.rf s17 s18 (TI_same hT (fun x y hxy => ?_))⟩
  · exact m_lots329 (hE2.rt h1.1.1) hb h0 t17 t18 hT2 (fun U3 V3 lv => hK U3 V3 S2 (hE.tr (hE2.mo (fun k hk => absurd hk id))) lv)
  · rcases hxy with z | ⟨c, e, z, _⟩
    · exact z
    · omega
