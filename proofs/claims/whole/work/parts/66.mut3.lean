theorem up_id {β : Nat → Nat → Nat} {f i v : Nat} (h : β f i = v) : up β f i v = β := by
  rw [← h]; exact up_bk (fun _ _ _ => rfl)
theorem l_th87 {S : St} {δ : Nat → Nat → Nat} {n : Nat} {K : Int32 → St → Prop} (hr : RT S) (hn : n < 12) (hz : ∀ w, w < 8 → δ (6 + w) n = 0) (hK : ∀ S1, Ex (fun k => k = 115) S S1 → MBn S1 δ → wX9_thing_113 K 108 (nI n) S1) :
    ∀ (m w : Nat) (S1 : St), w ≤ 8 → 8 - w < m → Ex (fun k => k = 115) S S1 → MBn S1 δ → wX9_thing_87 K m 108 (nI n) (nI w) S1
  | 0, w, S1, _, h, _, _ => absurd h (by omega)
  | m + 1, w, S1, hw, hm, hE, hM => by
    have hr1 := hE.rt hr
    rw [wX9_thing_87, show (8 : Int32) = nI 8 from rfl, ple (by omega) (by omega)]
    refine ⟨fun c => hK S1 hE hM, fun c => ?_⟩
    rw [rt108_10 hr1, show (12 : Int32) = nI 12 from rfl, pk_mul, nI_add, pcl (by omega)]
    refine ⟨⟨ok_O hr1.1 (by decide), by decide⟩, ok_A (N := 96) hr1.1 (by decide) (by omega) (by decide), fun S2 e2 x ex => ?_⟩
    rw [ex, nI_1]
    refine l_th87 hr hn hz hK m (w + 1) S2 (by omega) (by omega) (by rw [e2]; exact hE.pI rfl) ?_
    rw [e2, ← up_id (hz w (by omega))]
    exact hM.uc hn
theorem WF.more {δ : Nat → Nat → Nat} (h : WF δ) (hn : δ 0 0 < 12) : WF (up δ 0 0 (δ 0 0 + 1)) := by
  obtain ⟨h1, h2, h3, h4, h5, h6, h7⟩ := h
  have r : ∀ q, q ≠ 0 → up δ 0 0 (δ 0 0 + 1) q = δ q := fun q h1 => up_r h1
  have r0 : ∀ j, j ≠ 0 → up δ 0 0 (δ 0 0 + 1) 0 j = δ 0 j := fun j hj => up_o (by omega)
  refine ⟨by rw [up_s', r0 1 (by decide), r0 2 (by decide), r0 3 (by decide)]; omega, by rw [r 1 (by decide), r 2 (by decide)]; exact h2, by rw [r 3 (by decide), r 4 (by decide)]; exact h3, by rw [r 5 (by decide)]; exact h4, fun w hw => by rw [r (6 + w) (by omega)]; exact h5 w hw, by rw [r0 1 (by decide), r0 2 (by decide)]; exact h6, fun q q1 q2 i q3 q4 => ?_⟩
  rw [up_s'] at q3
  rw [r q (by omega)]
  exact h7 q q1 q2 i (by omega) q4
theorem s_thing {S : St} {β : Nat → Nat → Nat} {x y : Int32} {K : Int32 → St → Prop} (h : INV S β) (hK : ∀ r S1, RT S1 → (∀ K2 : Int32 → St → Prop, (∀ S2, J S2 → K2 r S2) → wX9_thing S1 108 x y K2) → K r S1) : wX8_thing S 1 x y K := by
  have hr := h.1.1.1
  have h12 := h.1.1.n12
  have hN5 := h.N.2
  have hwf := h.1.1.2.2.1
  refine w_ends (fun l g hl hg el eg => ⟨fun q => absurd q (by decide), fun _ => ?_⟩) (fun ne => ⟨fun _ => w_no h (by decide) hK (fun S1 K2 h1 k => m_ends (fun l g hl hg el eg => absurd ⟨l, g, hl, hg, el, eg⟩ ne) (fun _ => ⟨ok_O h1.2.1.1.1.1 (by decide), k⟩)), fun q => absurd rfl q⟩)
  have a0 : sI S 2 0 = nI (β 0 0) := h.1.1.2.1.1 0 (by decide)
  rw [rt1_0 hr, a0, show (12 : Int32) = nI 12 from rfl, peq (by omega) (by omega)]
  refine ⟨⟨ok_O hr.1 (by decide), by decide⟩, ok_O hr.1 (by decide), fun c => (w_no h (by decide) hK (fun S1 K2 h1 k => m_ends (fun l2 g2 _ _ _ _ => ?_) (fun ne => absurd ⟨l, g, hl, hg, el, eg⟩ ne))).2, fun c => ?_⟩
  · have hr1 := h1.2.1.1.1
    rw [h1.2.1.1.2.2.1, show (12 : Int32) = nI 12 from rfl, peq (by omega) (by omega)]
    exact ⟨ok_O hr1.1 (by decide), fun _ => k, fun q => absurd c q⟩
  have hn : β 0 0 < 12 := by omega
  unfold wX0_addThing
  rw [a0, rt2_4 hr, el, eg, pcl (by omega), show (12 : Int32) = nI 12 from rfl, ple (by omega) (by omega)]
  refine ⟨ok_O hr.1 (by decide), fun q => absurd q (by omega), fun _ => ⟨by decide, ok_A (N := 12) hr.1 (by decide) (by omega) (by decide), fun S1 e1 => ?_⟩⟩
  have hr1 : RT S1 := by rw [e1]; exact hr
  have a1 : sI S1 2 0 = nI (β 0 0) := by rw [e1, sI_o (by decide)]; exact a0
  rw [a1, rt2_5 hr1, pcl (by omega)]
  refine ⟨⟨ok_O hr1.1 (by decide), by decide⟩, ok_A (N := 12) hr1.1 (by decide) (by omega) (by decide), fun S2 e2 => ?_⟩
  have hr2 : RT S2 := by rw [e2]; exact hr1
  have a2 : sI S2 2 0 = nI (β 0 0) := by rw [e2, sI_o (by decide)]; exact a1
  rw [a2, nI_1]
  refine ⟨ok_O hr2.1 (by decide), fun S3 e3 => ?_⟩
  have hr3 : RT S3 := by rw [e3]; exact hr2
  generalize hδ : up (up β 1 (β 0 0) l) 2 (β 0 0) g = δ
  have d0 : δ 0 0 = β 0 0 := by rw [← hδ, up_o (by omega), up_o (by omega)]
  have hwd : WF δ := by rw [← hδ]; exact hwf.ends hl hg
  have hsd : SameC β δ := by rw [← hδ]; exact SameC.tr (SameC.r (by decide)) (SameC.r (by decide))
  have hed : SameE β δ := ⟨d0.symm, fun t ht => by rw [← hδ, up_o (by omega), up_o (by omega), up_o (by omega), up_o (by omega)]; exact ⟨rfl, rfl⟩⟩
  have hwg : WF (up δ 0 0 (β 0 0 + 1)) := by rw [← d0]; exact hwd.more (by omega)
  have hcd : CB S2 2 δ := by
    rw [e2, e1, ← hδ]
    exact (h.1.1.2.1.u (f := 1) (by decide) (by decide)).u (f := 2) (by decide) (by decide)
  have hcb : CB S3 2 (up δ 0 0 (β 0 0 + 1)) := by rw [e3]; exact hcd.u0
  have hE3 : Ex P2 S S3 := by
    rw [e3, e2, e1]
    exact Ex.pI (P := P2) (Ex.pI (P := P2) (Ex.pI (P := P2) Ex.rf (by unfold P2; omega)) (by unfold P2; omega)) (by unfold P2; omega)
  have hbb : BB S3 (up δ 0 0 (β 0 0 + 1)) := ⟨hr3, hcb, hwg⟩
  have hcr : CR S3 := by unfold CR; rw [hE3.r, hE3.r]; exact h.1.1.2.2.2.2.2.1
  -- the reference's way to its first gathering
  have mod : ∀ {S4 : St} {K2 : Int32 → St → Prop}, IM S4 β → (∀ S6, Ex P108 S4 S6 → IB S6 (up δ 0 0 (β 0 0 + 1)) → wX9_gathers S6 108 (fun r_7 S_6 => ((r_7 = 0 → okO S_6 9 108 ∧ ∀ S_14 : St, S_14 = pI S_6 108 1 ((sI S_6 108 1) - 1) → okO S_14 9 108 ∧ wX9_gathers S_14 108 (fun r_16 S_15 => okO S_15 9 108 ∧ wX9_tells S_15 108 (-5) K2)) ∧ (¬ r_7 = 0 → okO S_6 9 108 ∧ wX9_tells S_6 108 (nI (β 0 0)) K2)))) → wX9_thing S4 108 x y K2 := fun {S4 K2} him k => by
    have hr4 := him.1.1
    have b0 := him.1.2.2.1
    refine m_ends (fun _ _ _ _ _ _ => ?_) (fun ne => absurd ⟨l, g, hl, hg, el, eg⟩ ne)
    rw [b0, el, eg, show (12 : Int32) = nI 12 from rfl, peq (by omega) (by omega)]
    refine ⟨ok_O hr4.1 (by decide), fun q => absurd q c, fun _ x3 ex3 => ?_⟩
    rw [ex3, rt108_4 hr4, pcl (by omega)]
    refine ⟨by decide, ok_A (N := 12) hr4.1 (by decide) (by omega) (by decide), fun S5 e5 => ?_⟩
    have hr5 : RT S5 := by rw [e5]; exact hr4
    rw [rt108_5 hr5]
    refine ⟨⟨ok_O hr5.1 (by decide), by decide⟩, ok_A (N := 12) hr5.1 (by decide) (by omega) (by decide), fun S6 e6 => ?_⟩
    have hr6 : RT S6 := by rw [e6]; exact hr5
    rw [rt108_6 hr6]
    refine ⟨⟨ok_O hr6.1 (by decide), by decide⟩, ok_A (N := 12) hr6.1 (by decide) (by omega) (by decide), fun S7 e7 => ?_⟩
    have hr7 : RT S7 := by rw [e7]; exact hr6
    rw [rt108_7 hr7]
    refine ⟨⟨ok_O hr7.1 (by decide), by decide⟩, ok_A (N := 12) hr7.1 (by decide) (by omega) (by decide), fun S8 e8 => ?_⟩
    have hr8 : RT S8 := by rw [e8]; exact hr7
    rw [rt108_8 hr8]
    refine ⟨⟨ok_O hr8.1 (by decide), by decide⟩, ok_A (N := 12) hr8.1 (by decide) (by omega) (by decide), fun S9 e9 => ?_⟩
    have hr9 : RT S9 := by rw [e9]; exact hr8
    have m6 : MBn S6 δ := by
      rw [e6, e5, ← hδ]
      exact (him.1.2.2.u (f := 1) (by decide) (by decide)).u (f := 2) (by decide) (by decide)
    have zf : ∀ f, 3 ≤ f → f < 14 → δ f (β 0 0) = 0 := fun f h3 h14 => hwd.2.2.2.2.2.2 f h3 h14 (β 0 0) (by omega) hn
    have m9 : MBn S9 δ := by
      rw [e9, ← up_id (zf 5 (by decide) (by decide))]
      refine MBn.u (f := 5) ?_ (by decide) (by decide)
      rw [e8, ← up_id (zf 4 (by decide) (by decide))]
      refine MBn.u (f := 4) ?_ (by decide) (by decide)
      rw [e7, ← up_id (zf 3 (by decide) (by decide))]
      exact m6.u (f := 3) (by decide) (by decide)
    have hE9 : Ex P108 S4 S9 := by
      rw [e9, e8, e7, e6, e5]
      exact Ex.pI (P := P108) (Ex.pI (P := P108) (Ex.pI (P := P108) (Ex.pI (P := P108) (Ex.pI (P := P108) Ex.rf (by unfold P108; omega)) (by unfold P108; omega)) (by unfold P108; omega)) (by unfold P108; omega)) (by unfold P108; omega)
    refine ⟨9, l_th87 hr9 hn (fun w hw => zf (6 + w) (by omega) (by omega)) (fun Sx hEx mx => ?_) 9 0 S9 (by omega) (by omega) Ex.rf m9⟩
    have hrx := hEx.rt hr9
    refine ⟨ok_O hrx.1 (by decide), fun Sy ey => ?_⟩
    rw [mx.1, d0, nI_1] at ey
    have hry : RT Sy := by rw [ey]; exact hrx
    refine ⟨ok_O hry.1 (by decide), k Sy ?_ ⟨hry, hwg, ?_⟩⟩
    · rw [ey]
      exact Ex.pI (P := P108) (hE9.tr (hEx.mo (fun k hk => by unfold P108; omega))) (by unfold P108; omega)
    · rw [ey]
      exact mx.u0 (j := 0) (by decide)
  dsimp only
  rw [rt1_0 hr3, rt1_1 hr3]
  refine ⟨⟨ok_O hr3.1 (by decide), by decide⟩, by decide, ok_O hr3.1 (by decide), w_relist hbb hcr (fun hle S4 hF hcr4 hN4 hl4 => ⟨fun q => absurd q (by decide), fun _ => ?_⟩) (fun hgt S4 hE4 => ⟨fun _ => ?_, fun q => absurd rfl q⟩)⟩
  · have hr4 := hF.1
    have a4 : sI S4 2 0 = nI (β 0 0 + 1) := by rw [hF.i (by unfold P17; omega), hcb.1 0 (by decide), up_s']
    rw [rt1_0 hr4, a4, show (1 : Int32) = nI 1 from rfl, pk_sub (by omega), Nat.add_sub_cancel]
    refine ⟨⟨ok_O hr4.1 (by decide), by decide⟩, ok_O hr4.1 (by decide), w_acc hr4 (fun S5 hE5 st fl => hK _ S5 (hE5.rt hr4) (fun K2 h2 => ?_))⟩
    have h5 := h.md.acc2 hE3 hbb hle hF hcr4 hN4 hl4 hE5 fl
    refine mod h5.2.1 (fun S6 hE6 hib => ?_)
    refine m_gathers hib (fun _ S7 hE7 hj hm => ⟨fun q => absurd q (by decide), fun _ => ?_⟩) (fun q => absurd hle (by omega))
    exact m_ok h5 st (hE6.tr (hE7.mo (fun k hk => by unfold P108; omega))) ⟨hib.g hE7 hj, hle, hm⟩ (nn (by omega)) h2
  · have hr4 := hE4.rt hr3
    have hcb4 := hcb.ex hE4 (fun k hk => by unfold CR at hcr; omega)
    have a4 : sI S4 2 0 = nI (β 0 0 + 1) := by rw [hcb4.1 0 (by decide), up_s']
    rw [rt1_0 hr4, a4, show (1 : Int32) = nI 1 from rfl, pk_sub (by omega), Nat.add_sub_cancel]
    refine ⟨⟨ok_O hr4.1 (by decide), by decide⟩, ok_O hr4.1 (by decide), fun S5 e5 => ?_⟩
    have hr5 : RT S5 := by rw [e5]; exact hr4
    have hE5 : Ex (PR S) S S5 := by
      rw [e5]
      refine Ex.pI (P := PR S) ((hE3.mo (fun k hk => Or.inl hk)).tr (hE4.mo (fun k hk => Or.inr (by rw [hk]; exact hE3.r 17 2)))) ?_
      exact Or.inl (by unfold P2; omega)
    have bk : up (up δ 0 0 (β 0 0 + 1)) 0 0 (β 0 0) = δ := by
      rw [← d0]
      exact up_bk (fun a b hab => up_o hab)
    have hcb5 : CB S5 2 δ := by
      have q := hcb4.u0 (j := 0) (v := β 0 0)
      rw [bk] at q
      rw [e5]
      exact q
    refine ⟨ok_O hr5.1 (by decide), w_ref hr5 (fun S6 hE6 e6 => hK _ S6 (hE6.rt hr5) (fun K2 h2 => ?_))⟩
    have h6 := h.md.rej hE5 hcb5 hwd hsd hed hE6
    refine mod h6.2.1 (fun S7 hE7 hib => ?_)
    refine m_gathers hib (fun q => absurd hgt (by omega)) (fun _ S8 hE8 hj => ⟨fun _ => ?_, fun q => absurd rfl q⟩)
    have hr8 := hE8.rt hib.1
    have hib8 := hib.g hE8 hj
    have a8 : sI S8 108 1 = nI (β 0 0 + 1) := by rw [hib8.2.2.1, up_s']
    rw [a8, show (1 : Int32) = nI 1 from rfl, pk_sub (by omega), Nat.add_sub_cancel]
    refine ⟨ok_O hr8.1 (by decide), fun S9 e9 => ?_⟩
    have hr9 : RT S9 := by rw [e9]; exact hr8
    have hm9 : MBn S9 δ := by
      have q := hib8.2.2.u0 (j := 0) (v := β 0 0) (by decide)
      rw [bk] at q
      rw [e9]
      exact q
    have hE9 : Ex P108 S6 S9 := by
      rw [e9]
      exact Ex.pI (P := P108) (hE7.tr (hE8.mo (fun k hk => by unfold P108; omega))) (by unfold P108; omega)
    exact m_rej h6 e6 hE9 ⟨hr9, hwd, hm9⟩ (by rw [← nch_cg hsd]; exact hN5) (by decide) h2
