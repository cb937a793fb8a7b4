theorem ZS.fr {S S1 : St} {P : Nat → Prop} (h : ZS S) (he : Fr P S S1) (hp : ∀ k, P k → k < 76) : ZS S1 := by
  intro o ho
  have f := ho.far
  rw [he.i (fun z => by have := hp _ z; omega), he.i (fun z => by have := hp _ z; omega)]
  exact h o ho
theorem MD.acc2 {S S2 S3 S4 : St} {β γ : Nat → Nat → Nat} (h : MD S β β) (hE2 : Ex P2 S S2) (hb : BB S2 γ) (hle : nch γ ≤ 500) (hF : Fr P17 S2 S3) (hc : CR S3) (hN : sI S3 17 0 = nI (nch γ)) (hl : ∀ c, c < nch γ → sI S3 (sR S3 17 1) c = nI (chl γ c)) (hE4 : Ex (fun k => k = 1 ∨ k = 76) S3 S4) (fl : sI S4 76 8 = 0 ∧ sI S4 76 9 = 0 ∧ sI S4 76 10 = 0) : MD S4 γ β := by
  obtain ⟨a, b, c, d⟩ := h
  have hf2 := Fr.of hE2 a.1.1
  have hf4 := Fr.of hE4 hF.1
  have hc3 : Co S3 γ (nch γ) (chl γ) := ⟨hF.1, hb.2.1.fr hF (fun k hk => by unfold P17 at hk; omega), hb.2.2, hN, hle, hc, fun c hcc => ⟨hl c hcc, (chl_spec hcc).1⟩⟩
  have hz3 : ZS S3 := (a.2.2.fr hf2 (fun k hk => by unfold P2 at hk; omega)).fr hF (fun k hk => by unfold P17 at hk; omega)
  exact ⟨CS.acc hc3 hz3 hE4 fl, ((b.fr hf2 (fun k hk => by unfold P2 at hk; omega)).fr hF (fun k hk => by unfold P17 at hk; omega)).fr hf4 (fun k hk => by omega), ((c.fr hf2 (fun k hk => by unfold P2 at hk; omega)).fr hF (fun k hk => by unfold P17 at hk; omega)).fr hf4 (fun k hk => by omega), ((d.fr hf2 (fun k hk => by unfold P2 at hk; omega)).fr hF (fun k hk => by unfold P17 at hk; omega)).fr hf4 (fun k hk => by omega)⟩
def PR (S : St) (k : Nat) : Prop := P2 k ∨ k = sR S 17 2
theorem MD.rej {S S5 S6 : St} {β δ : Nat → Nat → Nat} (h : MD S β β) (hE : Ex (PR S) S S5) (hb : CB S5 2 δ) (hw : WF δ) (hs : SameC β δ) (he : SameE β δ) (hE6 : Ex (fun k => k = 1) S5 S6) : MD S6 δ β := by
  obtain ⟨a, b, c, d⟩ := h
  obtain ⟨c1, c2, c3, c4, c5, c6, c7⟩ := id a.1
  have hp : ∀ k, PR S k → k < 20 ∧ k ≠ 1 ∧ k ≠ 17 ∧ k ≠ sR S 17 1 := fun k hk => by unfold PR P2 at hk; omega
  have hr5 := hE.rt c1
  have hf5 := Fr.of hE c1
  have hf6 := Fr.of hE6 hr5
  have hc5 : CS S5 δ (nch δ) (chl δ) := by
    rw [← nch_cg hs, ← chl_cg hs]
    refine ⟨⟨hr5, hb, hw, ?_, c5, ?_, fun i hi => ?_⟩, ?_, a.2.2.fr hf5 (fun k hk => by have := hp k hk; omega)⟩
    · rw [hE.i (fun z => by have := hp _ z; omega)]; exact c4
    · rw [hE.r, hE.r]; exact c6
    · rw [hE.r, hE.i (fun z => (hp _ z).2.2.2 rfl), ← hs.1]; exact c7 i hi
    · exact (a.2.1.ex hE (fun k hk => by have := hp k hk; omega)).cg he (fun c hc => (c7 c hc).2)
  exact ⟨hc5.ex hE6 (fun k hk => by omega), (b.fr hf5 (fun k hk => by have := hp k hk; omega)).fr hf6 (fun k hk => by omega), (c.fr hf5 (fun k hk => by have := hp k hk; omega)).fr hf6 (fun k hk => by omega), (d.fr hf5 (fun k hk => by have := hp k hk; omega)).fr hf6 (fun k hk => by omega)⟩
theorem SameC.rf {β : Nat → Nat → Nat} : SameC β β := ⟨rfl, rfl, rfl, rfl, rfl⟩
theorem SameE.rf {β : Nat → Nat → Nat} : SameE β β := ⟨rfl, fun _ _ => ⟨rfl, rfl⟩⟩
theorem IB.g {S S1 : St} {γ : Nat → Nat → Nat} (h : IB S γ) (hE : Ex (fun k => k = 108 ∨ k = 116) S S1) (hj : ∀ j, j ≠ 11 → sI S1 108 j = sI S 108 j) : IB S1 γ := ⟨hE.rt h.1, h.2.1, h.2.2.fr (Fr.of hE h.1) (fun k hk => by omega) (fun j h1 h2 => hj j (by omega))⟩
theorem m_rej {S S2 : St} {β δ : Nat → Nat → Nat} {x : Int32} {K : Int32 → St → Prop} (h : MD S δ β) (st : sI S 1 9 = x) (hE : Ex P108 S S2) (hib : IB S2 δ) (hle : nch δ ≤ 500) (hx : ¬ 0 ≤ x) (h2 : ∀ S3, J S3 → K x S3) : okO S2 9 108 ∧ wX9_gathers S2 108 (fun _ S3 => okO S3 9 108 ∧ wX9_tells S3 108 x K) := by
  have hr := hib.1
  refine ⟨ok_O hr.1 (by decide), m_gathers hib (fun _ S3 hE3 hj hm => ?_) (fun q => absurd hle (by omega))⟩
  have hE' : Ex P108 S S3 := hE.tr (hE3.mo (fun k hk => by unfold P108; omega))
  have h3 := h.both hE' ⟨hib.g hE3 hj, hle, hm⟩
  have hr3 := h3.2.1.1.1
  exact ⟨ok_O hr3.1 (by decide), m_end (y := x) h3 (by rw [hE'.i (fun z => by unfold P108 at z; omega)]; exact st) (by rw [if_neg hx]) h2⟩
theorem WF.posts {β : Nat → Nat → Nat} {t a b : Nat} (h : WF β) (ht : t < β 0 0) (ha : a < 6) (hb : b < 6) : WF (up (up β 3 t a) 4 t b) := by
  obtain ⟨h1, h2, h3, h4, h5, h6, h7⟩ := h
  have r : ∀ q, q ≠ 3 → q ≠ 4 → up (up β 3 t a) 4 t b q = β q := fun q h1 h2 => by rw [up_r h2, up_r h1]
  refine ⟨by rw [r 0 (by decide) (by decide)]; exact h1, by rw [r 1 (by decide) (by decide), r 2 (by decide) (by decide)]; exact h2, fun i hi => ?_, by rw [r 5 (by decide) (by decide)]; exact h4, fun w hw => by rw [r (6 + w) (by omega) (by omega)]; exact h5 w hw, by rw [r 0 (by decide) (by decide)]; exact h6, fun q q1 q2 i q3 q4 => ?_⟩
  · by_cases z : i = t
    · rw [z, up_s', up_o (by omega), up_s']; exact ⟨ha, hb⟩
    · rw [up_o (by omega), up_o (by omega), up_o (by omega), up_o (by omega)]; exact h3 i hi
  · rw [r 0 (by decide) (by decide)] at q3
    rw [up_o (by omega), up_o (by omega)]; exact h7 q q1 q2 i q3 q4
theorem up2 {β : Nat → Nat → Nat} {f g t a b : Nat} (hfg : f ≠ g) : up (up (up (up β f t a) g t b) f t (β f t)) g t (β g t) = β := by
  refine up_bk (fun p q h => ?_)
  by_cases e : p = f ∧ q = t
  · rw [e.1, e.2]; exact up_s'
  · rw [up_o e, up_o h, up_o e]
theorem s_posts {S : St} {β : Nat → Nat → Nat} {x y z : Int32} {K : Int32 → St → Prop} (h : INV S β) (hK : ∀ r S1, RT S1 → (∀ K2 : Int32 → St → Prop, (∀ S2, J S2 → K2 r S2) → wX9_posts S1 108 x y z K2) → K r S1) : wX8_posts S 1 x y z K := by
  have hr := h.1.1.1
  have h12 := h.1.1.n12
  have hN5 := h.N.2
  refine w_within (m := 6) (by decide) (fun a ha ea => ⟨fun q => absurd q (by decide), fun _ => w_within (m := 6) (by decide) (fun b hb eb => ⟨fun q => absurd q (by decide), fun _ => ⟨ok_O hr.1 (by decide), w_thing h.1.1 (fun t ht et => ⟨fun q => absurd q (by decide), fun _ => ?_⟩) (fun nt => ⟨fun _ => ?_, fun q => absurd rfl q⟩)⟩⟩) (fun nb => ⟨fun _ => ?_, fun q => absurd rfl q⟩)⟩) (fun na => ⟨fun _ => ?_, fun q => absurd rfl q⟩)
  · have a3 : sI S 5 t = nI (β 3 t) := h.1.1.2.1.2.1 2 (by decide) t (by omega)
    have a4 : sI S 6 t = nI (β 4 t) := h.1.1.2.1.2.1 3 (by decide) t (by omega)
    rw [rt1_0 hr, rt2_6 hr, rt2_7 hr, et, ea, eb, pcl (by omega), a3, a4]
    refine ⟨⟨ok_O hr.1 (by decide), by decide⟩, ⟨ok_O hr.1 (by decide), by decide⟩, ok_A (N := 12) hr.1 (by decide) (by omega) (by decide), fun x4 e4 => ⟨by decide, ok_A (N := 12) hr.1 (by decide) (by omega) (by decide), fun x5 e5 S1 e1 => ?_⟩⟩
    rw [e4, e5]
    have hr1 : RT S1 := by rw [e1]; exact hr
    rw [rt1_0 hr1, rt2_7 hr1]
    refine ⟨⟨ok_O hr1.1 (by decide), by decide⟩, ⟨ok_O hr1.1 (by decide), by decide⟩, ok_A (N := 12) hr1.1 (by decide) (by omega) (by decide), fun S2 e2 => ?_⟩
    have hr2 : RT S2 := by rw [e2]; exact hr1
    have hE2 : Ex P2 S S2 := by
      rw [e2, e1]
      exact Ex.pI (P := P2) (Ex.pI (P := P2) Ex.rf (by unfold P2; omega)) (by unfold P2; omega)
    have hcb : CB S2 2 (up (up β 3 t a) 4 t b) := by
      rw [e2, e1]
      exact (h.1.1.2.1.u (f := 3) (by decide) (by decide)).u (f := 4) (by decide) (by decide)
    have hw := h.1.1.2.2.1.posts ht ha hb
    have hbb : BB S2 (up (up β 3 t a) 4 t b) := ⟨hr2, hcb, hw⟩
    have hcr : CR S2 := by unfold CR; rw [hE2.r, hE2.r]; exact h.1.1.2.2.2.2.2.1
    -- the reference's way to its first gathering
    have mod : ∀ {S4 : St} {K2 : Int32 → St → Prop}, IM S4 β → (∀ S6, Ex P108 S4 S6 → sI S6 108 11 = sI S4 108 11 → IB S6 (up (up β 3 t a) 4 t b) → wX9_gathers S6 108 (fun r_25 S_24 => ((r_25 = 0 → (okO S_24 9 108 ∧ sR S_24 108 6 ≠ 0) ∧ okA S_24 10 (sR S_24 108 6) (nI t) ∧ ∀ S_33 : St, S_33 = pI S_24 (sR S_24 108 6) (nI t : Int32).toNatClampNeg (nI (β 3 t)) → (okO S_33 9 108 ∧ sR S_33 108 7 ≠ 0) ∧ okA S_33 10 (sR S_33 108 7) (nI t) ∧ ∀ S_36 : St, S_36 = pI S_33 (sR S_33 108 7) (nI t : Int32).toNatClampNeg (nI (β 4 t)) → okO S_36 9 108 ∧ wX9_gathers S_36 108 (fun r_38 S_37 => okO S_37 9 108 ∧ wX9_tells S_37 108 (-5) K2)) ∧ (¬ r_25 = 0 → okO S_24 9 108 ∧ wX9_tells S_24 108 0 K2)))) → wX9_posts S4 108 x y z K2 := fun {S4 K2} him k => by
      have hr4 := him.1.1
      have b3 : sI S4 111 t = nI (β 3 t) := him.1.2.2.2.2.2.1 2 (by decide) t (by omega)
      have b4 : sI S4 112 t = nI (β 4 t) := him.1.2.2.2.2.2.1 3 (by decide) t (by omega)
      refine m_in (N := 6) (by decide) rfl (fun _ _ _ => ⟨fun q => absurd q (by decide), fun _ => m_in (N := 6) (by decide) rfl (fun _ _ _ => ⟨fun q => absurd q (by decide), fun _ => ⟨ok_O hr4.1 (by decide), m_thing him.1 (fun t2 ht2 et2 => ⟨fun q => absurd q (by decide), fun _ => ?_⟩) (fun nt => absurd et (nt t ht))⟩⟩) (fun nb => absurd eb (nb b hb))⟩) (fun na => absurd ea (na a ha))
      rw [rt108_6 hr4, rt108_7 hr4, et, ea, eb, pcl (by omega), b3, b4]
      refine ⟨⟨ok_O hr4.1 (by decide), by decide⟩, ok_A (N := 12) hr4.1 (by decide) (by omega) (by decide), fun x4 e4 => ⟨by decide, ok_A (N := 12) hr4.1 (by decide) (by omega) (by decide), fun x5 e5 S5 e6 => ?_⟩⟩
      rw [e4, e5]
      have hr5 : RT S5 := by rw [e6]; exact hr4
      rw [rt108_7 hr5]
      refine ⟨⟨ok_O hr5.1 (by decide), by decide⟩, ok_A (N := 12) hr5.1 (by decide) (by omega) (by decide), fun S6 e7 => ?_⟩
      have hr6 : RT S6 := by rw [e7]; exact hr5
      have kk := k S6 (by
        rw [e7, e6]
        exact Ex.pI (P := P108) (Ex.pI (P := P108) Ex.rf (by unfold P108; omega)) (by unfold P108; omega)) (by rw [e7, e6, sI_o (by decide), sI_o (by decide)]) ⟨hr6, hw, by
        rw [e7, e6]
        exact (him.1.2.2.u (f := 3) (by decide) (by decide)).u (f := 4) (by decide) (by decide)⟩
      rw [pcl (by omega)] at kk
      exact ⟨ok_O hr6.1 (by decide), kk⟩
    rw [rt1_0 hr2, rt1_1 hr2]
    refine ⟨⟨ok_O hr2.1 (by decide), by decide⟩, by decide, ok_O hr2.1 (by decide), w_relist hbb hcr (fun hle S3 hF hcr3 hN3 hl3 => ⟨fun q => absurd q (by decide), fun _ => ?_⟩) (fun hgt S3 hE3 => ⟨fun _ => ?_, fun q => absurd rfl q⟩)⟩
    · have hr3 := hF.1
      refine ⟨ok_O hr3.1 (by decide), w_acc hr3 (fun S4 hE4 st fl => hK _ S4 (hE4.rt hr3) (fun K2 h2 => ?_))⟩
      have h4 := h.md.acc2 hE2 hbb hle hF hcr3 hN3 hl3 hE4 fl
      refine mod h4.2.1 (fun S6 hE6 _ hib => ?_)
      refine m_gathers hib (fun _ S7 hE7 hj hm => ⟨fun q => absurd q (by decide), fun _ => ?_⟩) (fun q => absurd hle (by omega))
      exact m_ok h4 st (hE6.tr (hE7.mo (fun k hk => by unfold P108; omega))) ⟨hib.g hE7 hj, hle, hm⟩ (by decide) h2
    · have hr3 := hE3.rt hr2
      have hcb3 := hcb.ex hE3 (fun k hk => by unfold CR at hcr; omega)
      rw [rt1_0 hr3, rt2_6 hr3]
      refine ⟨⟨ok_O hr3.1 (by decide), by decide⟩, ⟨ok_O hr3.1 (by decide), by decide⟩, ok_A (N := 12) hr3.1 (by decide) (by omega) (by decide), fun S4 e4 => ?_⟩
      have hr4 : RT S4 := by rw [e4]; exact hr3
      rw [rt1_0 hr4, rt2_7 hr4]
      refine ⟨⟨ok_O hr4.1 (by decide), by decide⟩, ⟨ok_O hr4.1 (by decide), by decide⟩, ok_A (N := 12) hr4.1 (by decide) (by omega) (by decide), fun S5 e5 => ?_⟩
      have hr5 : RT S5 := by rw [e5]; exact hr4
      have hE5 : Ex (PR S) S S5 := by
        rw [e5, e4]
        refine Ex.pI (P := PR S) (Ex.pI (P := PR S) ((hE2.mo (fun k hk => Or.inl hk)).tr (hE3.mo (fun k hk => Or.inr (by rw [hk]; exact hE2.r 17 2)))) ?_) ?_
        · exact Or.inl (by unfold P2; omega)
        · exact Or.inl (by unfold P2; omega)
      have hcb5 : CB S5 2 β := by
        have q := (hcb3.u (f := 3) (i := t) (v := β 3 t) (by decide) (by decide)).u (f := 4) (i := t) (v := β 4 t) (by decide) (by decide)
        rw [up2 (by decide)] at q
        rw [e5, e4]
        exact q
      refine ⟨ok_O hr5.1 (by decide), w_ref hr5 (fun S6 hE6 e6 => hK _ S6 (hE6.rt hr5) (fun K2 h2 => ?_))⟩
      have h6 := h.md.rej hE5 hcb5 h.1.1.2.2.1 SameC.rf SameE.rf hE6
      refine mod h6.2.1 (fun S7 hE7 _ hib => ?_)
      refine m_gathers hib (fun q => absurd hgt (by omega)) (fun _ S8 hE8 hj => ⟨fun _ => ?_, fun q => absurd rfl q⟩)
      have hr8 := hE8.rt hib.1
      have hib8 := hib.g hE8 hj
      rw [rt108_6 hr8, pcl (by omega)]
      refine ⟨⟨ok_O hr8.1 (by decide), by decide⟩, ok_A (N := 12) hr8.1 (by decide) (by omega) (by decide), fun S9 e9 => ?_⟩
      have hr9 : RT S9 := by rw [e9]; exact hr8
      rw [rt108_7 hr9]
      refine ⟨⟨ok_O hr9.1 (by decide), by decide⟩, ok_A (N := 12) hr9.1 (by decide) (by omega) (by decide), fun Sx ex => ?_⟩
      have hrx : RT Sx := by rw [ex]; exact hr9
      have hmx : MBn Sx β := by
        have q := (hib8.2.2.u (f := 3) (i := t) (v := β 3 t) (by decide) (by decide)).u (f := 4) (i := t) (v := β 4 t) (by decide) (by decide)
        rw [up2 (by decide)] at q
        rw [ex, e9]
        exact q
      have hEx : Ex P108 S6 Sx := by
        rw [ex, e9]
        exact Ex.pI (P := P108) (Ex.pI (P := P108) (hE7.tr (hE8.mo (fun k hk => by unfold P108; omega))) (by unfold P108; omega)) (by unfold P108; omega)
      exact m_rej h6 e6 hEx ⟨hrx, h.1.1.2.2.1, hmx⟩ hN5 (by decide) h2
  · exact w_no h (by decide) hK (fun S1 K2 h1 k => m_in (N := 6) (by decide) rfl (fun _ _ _ => ⟨fun q => absurd q (by decide), fun _ => m_in (N := 6) (by decide) rfl (fun _ _ _ => ⟨fun q => absurd q (by decide), fun _ => ⟨ok_O h1.2.1.1.1.1 (by decide), m_thing h1.2.1.1 (fun t ht et => absurd et (nt t ht)) (fun _ => ⟨fun _ => ⟨ok_O h1.2.1.1.1.1 (by decide), k⟩, fun q => absurd rfl q⟩)⟩⟩) (fun nb => absurd eb (nb b hb))⟩) (fun na => absurd ea (na a ha)))
  · exact w_no h (by decide) hK (fun S1 K2 h1 k => m_in (N := 6) (by decide) rfl (fun _ _ _ => ⟨fun q => absurd q (by decide), fun _ => m_in (N := 6) (by decide) rfl (fun b hb eb => absurd eb (nb b hb)) (fun _ => ⟨fun _ => ⟨ok_O h1.2.1.1.1.1 (by decide), k⟩, fun q => absurd rfl q⟩)⟩) (fun na => absurd ea (na a ha)))
  · exact w_no h (by decide) hK (fun S1 K2 h1 k => m_in (N := 6) (by decide) rfl (fun a ha ea => absurd ea (na a ha)) (fun _ => ⟨fun _ => ⟨ok_O h1.2.1.1.1.1 (by decide), k⟩, fun q => absurd rfl q⟩))
-- kind
def KO (a b : Nat) : Prop := (a = 0 ∧ b ≤ 12) ∨ (a = 1 ∧ 1 ≤ b ∧ b ≤ 5) ∨ (a = 2 ∧ 1 ≤ b ∧ b ≤ 6) ∨ (a = 3 ∧ b ≤ 6)
def KX (x y : Int32) : Prop := ∃ a b, KO a b ∧ x = nI a ∧ y = nI b
theorem in_lh {x : Int32} {lo hi : Nat} (hh : hi < 2147483648) (hl : lo ≤ hi) (h1 : ¬ x < nI lo) (h2 : ¬ nI hi < x) : ∃ b, lo ≤ b ∧ b ≤ hi ∧ x = nI b := by
  rw [fa_lt, nI_toInt (n31 (by omega))] at h1 h2
  obtain ⟨b, hb, e⟩ := nI_of (x := x) (fun z => by rw [fa_lt] at z; have z0 : (0 : Int32).toInt = 0 := (by decide); omega)
  rw [e, nI_toInt hb] at h1 h2
  exact ⟨b, by omega, by omega, e⟩
theorem k_lim (a : Nat) (ha : a < 4) : ∃ lo hi, lo ≤ hi ∧ hi ≤ 12 ∧ mmL.getD a 0 = nI lo ∧ mmM.getD a 0 = nI hi ∧ ((a = 0 ∧ lo = 0 ∧ hi = 12) ∨ (a = 1 ∧ lo = 1 ∧ hi = 5) ∨ (a = 2 ∧ lo = 1 ∧ hi = 6) ∨ (a = 3 ∧ lo = 0 ∧ hi = 6)) := by
  match a, ha with
  | 0, _ => exact ⟨0, 12, by decide, by decide, rfl, rfl, by omega⟩
  | 1, _ => exact ⟨1, 5, by decide, by decide, rfl, rfl, by omega⟩
  | 2, _ => exact ⟨1, 6, by decide, by decide, rfl, rfl, by omega⟩
  | 3, _ => exact ⟨0, 6, by decide, by decide, rfl, rfl, by omega⟩
theorem w_kindc {S : St} {x y : Int32} {A B : St → Prop} (h1 : ∀ a b, KO a b → x = nI a → y = nI b → B S) (h0 : ¬ KX x y → A S) : wX8_isWithin S x 4 (fun r S1 => (r = 0 → A S1) ∧ (¬ r = 0 → vp_in x 4 ∧ ((y < (mmL.getD (x : Int32).toNatClampNeg 0) → A S1) ∧ (¬ y < (mmL.getD (x : Int32).toNatClampNeg 0) → vp_in x 4 ∧ ((y ≤ (mmM.getD (x : Int32).toNatClampNeg 0) → B S1) ∧ (¬ y ≤ (mmM.getD (x : Int32).toNatClampNeg 0) → A S1)))))) := by
  refine w_within (m := 4) (by decide) (fun a ha e => ⟨fun q => absurd q (by decide), fun _ => ?_⟩) (fun n => ⟨fun _ => h0 (fun ⟨a, b, hk, e, _⟩ => n a (by unfold KO at hk; omega) e), fun q => absurd rfl q⟩)
  obtain ⟨lo, hi, hl, hh, el, eh, hc⟩ := k_lim a ha
  have hv : vp_in x 4 := by rw [e]; exact vp_in_nI (by omega) (by decide)
  have one : ∀ a2 b2, KO a2 b2 → x = nI a2 → y = nI b2 → lo ≤ b2 ∧ b2 ≤ hi := fun a2 b2 hk e2 _ => by
    rw [e, peq (by omega) (by unfold KO at hk; omega)] at e2
    unfold KO at hk
    omega
  have ec : (x : Int32).toNatClampNeg = a := by rw [e]; exact pcl (by omega)
  rw [ec, el, eh]
  refine ⟨hv, fun c => h0 (fun ⟨a2, b2, hk, e2, e3⟩ => ?_), fun c => ⟨hv, fun c2 => ?_, fun c2 => h0 (fun ⟨a2, b2, hk, e2, e3⟩ => ?_)⟩⟩
  · have := one a2 b2 hk e2 e3
    rw [e3, plt (by omega) (by omega)] at c; omega
  · obtain ⟨b, hb1, hb2, e3⟩ := in_lh (x := y) (lo := lo) (hi := hi) (by omega) hl c (fun z => by rw [fa_lt] at z; rw [fa_le] at c2; omega)
    exact h1 a b (by unfold KO; omega) e e3
  · have := one a2 b2 hk e2 e3
    rw [e3, ple (by omega) (by omega)] at c2; omega
theorem m_kindc {S : St} {x y : Int32} {K : Int32 → St → Prop} (h1 : ∀ a b, KO a b → x = nI a → y = nI b → okO S 9 108 ∧ ∀ x3_8 : Int32, x3_8 = (sI S 108 2) → ∀ x4_9 : Int32, x4_9 = (sI S 108 3) → ∀ S_10 : St, S_10 = pI S 108 2 x → okO S_10 9 108 ∧ ∀ S_12 : St, S_12 = pI S_10 108 3 y → okO S_12 9 108 ∧ wX9_gathers S_12 108 (fun r_14 S_13 => ((r_14 = 0 → okO S_13 9 108 ∧ ∀ S_21 : St, S_21 = pI S_13 108 2 x3_8 → okO S_21 9 108 ∧ ∀ S_23 : St, S_23 = pI S_21 108 3 x4_9 → okO S_23 9 108 ∧ wX9_gathers S_23 108 (fun r_25 S_24 => okO S_24 9 108 ∧ wX9_tells S_24 108 (-5) (fun r_28 S_27 => K r_28 S_27))) ∧ (¬ r_14 = 0 → okO S_13 9 108 ∧ wX9_tells S_13 108 (sI S_13 108 11) (fun r_19 S_18 => K r_19 S_18))))) (h0 : ¬ KX x y → wX9_kind_51 K 108 S) : wX9_kind S 108 x y K := by
  have go : ∀ a lo hi, lo ≤ hi → hi ≤ 12 → ((a = 0 ∧ lo = 0 ∧ hi = 12) ∨ (a = 1 ∧ lo = 1 ∧ hi = 5) ∨ (a = 2 ∧ lo = 1 ∧ hi = 6) ∨ (a = 3 ∧ lo = 0 ∧ hi = 6)) → x = nI a → wX9_kind_45 K 108 x y y (nI lo) (nI hi) S := fun a lo hi hl hh hc e => by
    have one : ∀ a2 b2, KO a2 b2 → x = nI a2 → y = nI b2 → lo ≤ b2 ∧ b2 ≤ hi := fun a2 b2 hk e2 _ => by
      rw [e, peq (by omega) (by unfold KO at hk; omega)] at e2
      unfold KO at hk
      omega
    refine ⟨fun c => ⟨fun _ => h0 (fun ⟨a2, b2, hk, e2, e3⟩ => ?_), fun q => absurd rfl q⟩, fun c => ⟨fun c2 => ⟨fun _ => h0 (fun ⟨a2, b2, hk, e2, e3⟩ => ?_), fun q => absurd rfl q⟩, fun c2 => ⟨fun q => absurd q (by decide), fun _ => ?_⟩⟩⟩
    · have := one a2 b2 hk e2 e3
      rw [e3, plt (by omega) (by omega)] at c; omega
    · have := one a2 b2 hk e2 e3
      rw [e3, plt (by omega) (by omega)] at c2; omega
    · obtain ⟨b, hb1, hb2, e3⟩ := in_lh (x := y) (lo := lo) (hi := hi) (by omega) hl c c2
      exact h1 a b (by unfold KO; omega) e e3
  refine m_in (N := 4) (by decide) rfl (fun a ha e => ⟨fun q => absurd q (by decide), fun _ => ?_⟩) (fun n => ⟨fun _ => h0 (fun ⟨a, b, hk, e, _⟩ => n a (by unfold KO at hk; omega) e), fun q => absurd rfl q⟩)
  have e0 : (x = 0) = (a = 0) := by rw [e, show (0 : Int32) = nI 0 from rfl, peq (by omega) (by omega)]
  have e1 : (x = 1) = (a = 1) := by rw [e, show (1 : Int32) = nI 1 from rfl, peq (by omega) (by omega)]
  have e2 : (x = 2) = (a = 2) := by rw [e, show (2 : Int32) = nI 2 from rfl, peq (by omega) (by omega)]
  have k25 : ∀ lo hi, lo ≤ hi → hi ≤ 12 → ((a = 0 ∧ lo = 0 ∧ hi = 12) ∨ (a = 1 ∧ lo = 1 ∧ hi = 5) ∨ (a = 2 ∧ lo = 1 ∧ hi = 6) ∨ (a = 3 ∧ lo = 0 ∧ hi = 6)) → wX9_kind_25 K 108 x y y (nI lo) S := fun lo hi hl hh hc => by
    unfold wX9_kind_25
    rw [e0, e1]
    refine ⟨fun q => ?_, fun q => ⟨fun q2 => ?_, fun q2 => ?_⟩⟩
    · rw [show (12 : Int32) = nI hi by rw [show hi = 12 by omega]; rfl]; exact go a lo hi hl hh hc e
    · rw [show (5 : Int32) = nI hi by rw [show hi = 5 by omega]; rfl]; exact go a lo hi hl hh hc e
    · rw [show (6 : Int32) = nI hi by rw [show hi = 6 by omega]; rfl]; exact go a lo hi hl hh hc e
  rw [e1, e2]
  refine ⟨fun q => k25 1 5 (by decide) (by decide) (by omega), fun q => ⟨fun q2 => k25 1 6 (by decide) (by decide) (by omega), fun q2 => ?_⟩⟩
  by_cases q0 : a = 0
  · exact k25 0 12 (by decide) (by decide) (by omega)
  · exact k25 0 6 (by decide) (by decide) (by omega)
theorem WF.kind {β : Nat → Nat → Nat} {a b : Nat} (h : WF β) (hk : KO a b) : WF (up (up β 0 1 a) 0 2 b) := by
  obtain ⟨h1, h2, h3, h4, h5, h6, h7⟩ := h
  unfold KO at hk
  have r : ∀ q, q ≠ 0 → up (up β 0 1 a) 0 2 b q = β q := fun q h1 => by rw [up_r h1, up_r h1]
  have z0 : up (up β 0 1 a) 0 2 b 0 0 = β 0 0 := by rw [up_o (by omega), up_o (by omega)]
  have z1 : up (up β 0 1 a) 0 2 b 0 1 = a := by rw [up_o (by omega), up_s']
  have z2 : up (up β 0 1 a) 0 2 b 0 2 = b := by rw [up_s']
  have z3 : up (up β 0 1 a) 0 2 b 0 3 = β 0 3 := by rw [up_o (by omega), up_o (by omega)]
  refine ⟨by rw [z0, z1, z2, z3]; omega, by rw [r 1 (by decide), r 2 (by decide)]; exact h2, by rw [r 3 (by decide), r 4 (by decide)]; exact h3, by rw [r 5 (by decide)]; exact h4, fun w hw => by rw [r (6 + w) (by omega)]; exact h5 w hw, by rw [z1, z2]; omega, fun q q1 q2 => by rw [r q (by omega), z0]; exact h7 q q1 q2⟩
theorem up3 {β : Nat → Nat → Nat} {a b : Nat} : up (up (up (up β 0 1 a) 0 2 b) 0 1 (β 0 1)) 0 2 (β 0 2) = β := by
  refine up_bk (fun p q h => ?_)
  by_cases e : p = 0 ∧ q = 1
  · rw [e.1, e.2]; exact up_s'
  · rw [up_o e, up_o h, up_o e]
theorem s_kind {S : St} {β : Nat → Nat → Nat} {x y : Int32} {K : Int32 → St → Prop} (h : INV S β) (hK : ∀ r S1, RT S1 → (∀ K2 : Int32 → St → Prop, (∀ S2, J S2 → K2 r S2) → wX9_kind S1 108 x y K2) → K r S1) : wX8_kind S 1 x y K := by
  have hr := h.1.1.1
  have h12 := h.1.1.n12
  have hN5 := h.N.2
  refine w_kindc (A := wX8_kind_26 K 1) (fun a b hk ea eb => ?_) (fun nk => w_no h (by decide) hK (fun S1 K2 h1 k => m_kindc (fun a b hk ea eb => absurd ⟨a, b, hk, ea, eb⟩ nk) (fun _ => ⟨ok_O h1.2.1.1.1.1 (by decide), k⟩)))
  have a1 : sI S 2 1 = nI (β 0 1) := h.1.1.2.1.1 1 (by decide)
  have a2 : sI S 2 2 = nI (β 0 2) := h.1.1.2.1.1 2 (by decide)
  rw [rt1_0 hr, ea, eb, a1, a2]
  refine ⟨⟨ok_O hr.1 (by decide), by decide⟩, ok_O hr.1 (by decide), fun x3 e3 x4 e4 S1 e1 => ?_⟩
  rw [e3, e4]
  have hr1 : RT S1 := by rw [e1]; exact hr
  rw [rt1_0 hr1]
  refine ⟨⟨ok_O hr1.1 (by decide), by decide⟩, ok_O hr1.1 (by decide), fun S2 e2 => ?_⟩
  have hr2 : RT S2 := by rw [e2]; exact hr1
  have hE2 : Ex P2 S S2 := by
    rw [e2, e1]
    exact Ex.pI (P := P2) (Ex.pI (P := P2) Ex.rf (by unfold P2; omega)) (by unfold P2; omega)
  have hcb : CB S2 2 (up (up β 0 1 a) 0 2 b) := by
    rw [e2, e1]
    exact h.1.1.2.1.u0.u0
  have hw := h.1.1.2.2.1.kind hk
  have hbb : BB S2 (up (up β 0 1 a) 0 2 b) := ⟨hr2, hcb, hw⟩
  have hcr : CR S2 := by unfold CR; rw [hE2.r, hE2.r]; exact h.1.1.2.2.2.2.2.1
  rw [rt1_0 hr2, rt1_1 hr2]
  refine ⟨⟨ok_O hr2.1 (by decide), by decide⟩, by decide, ok_O hr2.1 (by decide), w_relist hbb hcr (fun hle S3 hF hcr3 hN3 hl3 => ⟨fun q => absurd q (by decide), fun _ => ?_⟩) (fun hgt S3 hE3 => ⟨fun _ => ?_, fun q => absurd rfl q⟩)⟩
  · have hr3 := hF.1
    rw [rt1_1 hr3, hN3]
    refine ⟨⟨ok_O hr3.1 (by decide), by decide⟩, ok_O hr3.1 (by decide), w_acc hr3 (fun S4 hE4 st fl => hK _ S4 (hE4.rt hr3) (fun K2 h2 => ?_))⟩
    have h4 := h.md.acc2 hE2 hbb hle hF hcr3 hN3 hl3 hE4 fl
    have hr4 := h4.2.1.1.1
    refine m_kindc (fun _ _ _ _ _ => ⟨ok_O hr4.1 (by decide), fun _ _ _ _ S5 e5 => ?_⟩) (fun nk => absurd ⟨a, b, hk, ea, eb⟩ nk)
    have hr5 : RT S5 := by rw [e5]; exact hr4
    refine ⟨ok_O hr5.1 (by decide), fun S6 e6 => ?_⟩
    have hr6 : RT S6 := by rw [e6]; exact hr5
    have hib : IB S6 (up (up β 0 1 a) 0 2 b) := ⟨hr6, hw, by
      rw [e6, e5, ea, eb]
      exact (h4.2.1.1.2.2.u0 (j := 1) (by decide)).u0 (j := 2) (by decide)⟩
    have hE6 : Ex P108 S4 S6 := by
      rw [e6, e5]
      exact Ex.pI (P := P108) (Ex.pI (P := P108) Ex.rf (by unfold P108; omega)) (by unfold P108; omega)
    refine ⟨ok_O hr6.1 (by decide), m_gathers hib (fun _ S7 hE7 hj hm => ⟨fun q => absurd q (by decide), fun _ => ?_⟩) (fun q => absurd hle (by omega))⟩
    rw [hm.1]
    exact m_ok h4 st (hE6.tr (hE7.mo (fun k hk => by unfold P108; omega))) ⟨hib.g hE7 hj, hle, hm⟩ (nn (by omega)) h2
  · have hr3 := hE3.rt hr2
    have hcb3 := hcb.ex hE3 (fun k hk => by unfold CR at hcr; omega)
    rw [rt1_0 hr3]
    refine ⟨⟨ok_O hr3.1 (by decide), by decide⟩, ok_O hr3.1 (by decide), fun S4 e4 => ?_⟩
    have hr4 : RT S4 := by rw [e4]; exact hr3
    rw [rt1_0 hr4]
    refine ⟨⟨ok_O hr4.1 (by decide), by decide⟩, ok_O hr4.1 (by decide), fun S5 e5 => ?_⟩
    have hr5 : RT S5 := by rw [e5]; exact hr4
    have hE5 : Ex (PR S) S S5 := by
      rw [e5, e4]
      refine Ex.pI (P := PR S) (Ex.pI (P := PR S) ((hE2.mo (fun k hk => Or.inl hk)).tr (hE3.mo (fun k hk => Or.inr (by rw [hk]; exact hE2.r 17 2)))) ?_) ?_
      · exact Or.inl (by unfold P2; omega)
      · exact Or.inl (by unfold P2; omega)
    have hcb5 : CB S5 2 β := by
      have q := (hcb3.u0 (j := 1) (v := β 0 1)).u0 (j := 2) (v := β 0 2)
      rw [up3] at q
      rw [e5, e4]
      exact q
    refine ⟨ok_O hr5.1 (by decide), w_ref hr5 (fun S6 hE6 e6 => hK _ S6 (hE6.rt hr5) (fun K2 h2 => ?_))⟩
    have h6 := h.md.rej hE5 hcb5 h.1.1.2.2.1 SameC.rf SameE.rf hE6
    have hr6 := h6.2.1.1.1
    refine m_kindc (fun _ _ _ _ _ => ⟨ok_O hr6.1 (by decide), fun y3 f3 y4 f4 S7 e7 => ?_⟩) (fun nk => absurd ⟨a, b, hk, ea, eb⟩ nk)
    have f3 : y3 = nI (β 0 1) := f3.trans h6.2.1.1.2.2.2.1
    have f4 : y4 = nI (β 0 2) := f4.trans h6.2.1.1.2.2.2.2.1
    have hr7 : RT S7 := by rw [e7]; exact hr6
    refine ⟨ok_O hr7.1 (by decide), fun S8 e8 => ?_⟩
    have hr8 : RT S8 := by rw [e8]; exact hr7
    have hib : IB S8 (up (up β 0 1 a) 0 2 b) := ⟨hr8, hw, by
      rw [e8, e7, ea, eb]
      exact (h6.2.1.1.2.2.u0 (j := 1) (by decide)).u0 (j := 2) (by decide)⟩
    have hE8 : Ex P108 S6 S8 := by
      rw [e8, e7]
      exact Ex.pI (P := P108) (Ex.pI (P := P108) Ex.rf (by unfold P108; omega)) (by unfold P108; omega)
    refine ⟨ok_O hr8.1 (by decide), m_gathers hib (fun q => absurd hgt (by omega)) (fun _ S9 hE9 hj => ⟨fun _ => ?_, fun q => absurd rfl q⟩)⟩
    have hr9 := hE9.rt hr8
    have hib9 := hib.g hE9 hj
    refine ⟨ok_O hr9.1 (by decide), fun Sx ex => ?_⟩
    have hrx : RT Sx := by rw [ex]; exact hr9
    refine ⟨ok_O hrx.1 (by decide), fun Sy ey => ?_⟩
    have hry : RT Sy := by rw [ey]; exact hrx
    have hmy : MBn Sy β := by
      have q := (hib9.2.2.u0 (j := 1) (v := β 0 1) (by decide)).u0 (j := 2) (v := β 0 2) (by decide)
      rw [up3] at q
      rw [ey, ex, f3, f4]
      exact q
    have hEy : Ex P108 S6 Sy := by
      rw [ey, ex]
      exact Ex.pI (P := P108) (Ex.pI (P := P108) (hE8.tr (hE9.mo (fun k hk => by unfold P108; omega))) (by unfold P108; omega)) (by unfold P108; omega)
    exact m_rej h6 e6 hEy ⟨hry, h.1.1.2.2.1, hmy⟩ hN5 (by decide) h2
