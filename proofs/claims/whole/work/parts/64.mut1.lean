theorem w_cost {S : St} {x : Int32} {K : Int32 → St → Prop} (h1 : ∀ k, k ≤ 1000 → x = nI k → K 1 S) (h0 : (∀ k, k ≤ 1000 → x ≠ nI k) → K 0 S) : wX8_isCost S x K := by
  have h := m_in (S := S) (x := x) (hi := 1000) (N := 1001) (K := K) (by decide) rfl (fun k hk e => h1 k (by omega) e) (fun z => h0 (fun k hk => z k (by omega)))
  exact h
theorem m_cost {S : St} {x : Int32} {K : Int32 → St → Prop} (h1 : ∀ k, k ≤ 1000 → x = nI k → K 1 S) (h0 : (∀ k, k ≤ 1000 → x ≠ nI k) → K 0 S) : wX9_in S x 0 1000 K :=
  m_in (N := 1001) (by decide) rfl (fun k hk e => h1 k (by omega) e) (fun z => h0 (fun k hk => z k (by omega)))
def EN (x y : Int32) : Prop := ∃ l g, l ≤ g ∧ g ≤ 1000 ∧ x = nI l ∧ y = nI g
theorem w_ends {S : St} {x y : Int32} {K : Int32 → St → Prop} (h1 : ∀ l g, l ≤ g → g ≤ 1000 → x = nI l → y = nI g → K 1 S) (h0 : ¬ EN x y → K 0 S) : wX8_areEnds S x y K := by
  refine w_cost (fun l hl e => ⟨fun q => absurd q (by decide), fun _ => w_cost (fun g hg e2 => ⟨fun q => absurd q (by decide), fun _ => ?_⟩) (fun n => ⟨fun _ => h0 (fun ⟨_, g, _, hg, _, e⟩ => n g hg e), fun q => absurd rfl q⟩)⟩) (fun n => ⟨fun _ => h0 (fun ⟨l, g, hl, hg, e, _⟩ => n l (by omega) e), fun q => absurd rfl q⟩)
  refine ⟨fun c => h0 (fun ⟨l2, g2, h3, h4, e3, e4⟩ => ?_), fun c => h1 l g ?_ hg e e2⟩
  · rw [e3, e4, plt (by omega) (by omega)] at c; omega
  · rw [e, e2, plt (by omega) (by omega)] at c; omega
theorem m_ends {S : St} {x y : Int32} {A B : St → Prop} (h1 : ∀ l g, l ≤ g → g ≤ 1000 → x = nI l → y = nI g → B S) (h0 : ¬ EN x y → A S) : wX9_in S x 0 1000 (fun r S1 => (r = 0 → A S1) ∧ (¬ r = 0 → wX9_in S1 y x 1000 (fun r2 S2 => (r2 = 0 → A S2) ∧ (¬ r2 = 0 → B S2)))) := by
  refine m_cost (fun l hl e => ⟨fun q => absurd q (by decide), fun _ => ?_⟩) (fun n => ⟨fun _ => h0 (fun ⟨l, g, hl, hg, e, _⟩ => n l (by omega) e), fun q => absurd rfl q⟩)
  refine ⟨fun c => ⟨fun _ => h0 (fun ⟨l2, g2, h3, h4, e3, e4⟩ => ?_), fun q => absurd rfl q⟩, fun c => ⟨fun c2 => ⟨fun _ => h0 (fun ⟨l2, g2, h3, h4, e3, e4⟩ => ?_), fun q => absurd rfl q⟩, fun c2 => ⟨fun q => absurd q (by decide), fun _ => ?_⟩⟩⟩
  · rw [e3, e4, plt (by omega) (by omega)] at c; omega
  · rw [e4, show (1000 : Int32) = nI 1000 from rfl, plt (by omega) (by omega)] at c2; omega
  · have el := nI_toInt (n31 (show l < 2147483648 by omega))
    have e1000 : (1000 : Int32).toInt = 1000 := by decide
    rw [e, fa_lt, el] at c
    rw [fa_lt, e1000] at c2
    obtain ⟨g, hg, e2⟩ := nI_of (x := y) (fun z => by rw [fa_lt] at z; have z0 : (0 : Int32).toInt = 0 := (by decide); omega)
    have eg := nI_toInt hg
    rw [e2, eg] at c c2
    exact h1 l g (by omega) (by omega) e e2
theorem WF.ends {β : Nat → Nat → Nat} {t l g : Nat} (h : WF β) (hl : l ≤ g) (hg : g ≤ 1000) : WF (up (up β 1 t l) 2 t g) := by
  obtain ⟨a, b, c, d, e, f, k⟩ := h
  have r : ∀ q, q ≠ 1 → q ≠ 2 → up (up β 1 t l) 2 t g q = β q := fun q h1 h2 => by rw [up_r h2, up_r h1]
  refine ⟨by rw [r 0 (by decide) (by decide)]; exact a, fun i hi => ?_, by rw [r 3 (by decide) (by decide), r 4 (by decide) (by decide)]; exact c, by rw [r 5 (by decide) (by decide)]; exact d, fun w hw => by rw [r (6 + w) (by omega) (by omega)]; exact e w hw, by rw [r 0 (by decide) (by decide)]; exact f, fun q h1 h2 => by rw [r 0 (by decide) (by decide), r q (by omega) (by omega)]; exact k q h1 h2⟩
  by_cases z : i = t
  · rw [z, up_s', up_o (by omega), up_s']; exact ⟨hl, hg⟩
  · rw [up_o (by omega), up_o (by omega), up_o (by omega), up_o (by omega)]; exact b i hi
theorem WF.one {β : Nat → Nat → Nat} {f t v : Nat} (h : WF β) (h5 : 5 ≤ f) (hf : f < 14) (ht : t < β 0 0) (hv : v ≤ 1000) : WF (up β f t v) := by
  obtain ⟨a, b, c, d, e, g, k⟩ := h
  have r : ∀ q, q ≠ f → up β f t v q = β q := fun q h1 => up_r h1
  refine ⟨by rw [r 0 (by omega)]; exact a, by rw [r 1 (by omega), r 2 (by omega)]; exact b, by rw [r 3 (by omega), r 4 (by omega)]; exact c, fun i hi => ?_, fun w hw i hi => ?_, by rw [r 0 (by omega)]; exact g, fun q h1 h2 i h3 h4 => ?_⟩
  · by_cases z : 5 = f ∧ i = t
    · rw [z.1, z.2, up_s']; exact hv
    · rw [up_o z]; exact d i hi
  · by_cases z : 6 + w = f ∧ i = t
    · rw [z.1, z.2, up_s']; exact hv
    · rw [up_o z]; exact e w hw i hi
  · rw [r 0 (by omega)] at h3
    rw [up_o (by omega)]; exact k q h1 h2 i h3 h4
theorem SameC.r {β : Nat → Nat → Nat} {f i v : Nat} (h : f ≠ 0 ∧ f ≠ 3 ∧ f ≠ 4) : SameC β (up β f i v) := by
  unfold SameC
  rw [up_r (Ne.symm h.1), up_r (Ne.symm h.2.1), up_r (Ne.symm h.2.2)]
  exact ⟨rfl, rfl, rfl, rfl, rfl⟩
theorem SameC.w {β : Nat → Nat → Nat} {v : Nat} : SameC β (up β 0 3 v) := by
  unfold SameC
  rw [up_r (show 3 ≠ 0 by decide), up_r (show 4 ≠ 0 by decide), up_o (by omega), up_o (by omega), up_o (by omega)]
  exact ⟨rfl, rfl, rfl, rfl, rfl⟩
theorem SameC.tr {β γ δ : Nat → Nat → Nat} (h : SameC β γ) (g : SameC γ δ) : SameC β δ := ⟨h.1.trans g.1, h.2.1.trans g.2.1, h.2.2.1.trans g.2.2.1, h.2.2.2.1.trans g.2.2.2.1, h.2.2.2.2.trans g.2.2.2.2⟩
theorem s_ends {S : St} {β : Nat → Nat → Nat} {x y z : Int32} {K : Int32 → St → Prop} (h : INV S β) (hK : ∀ r S1, RT S1 → (∀ K2 : Int32 → St → Prop, (∀ S2, J S2 → K2 r S2) → wX9_ends S1 108 x y z K2) → K r S1) : wX8_ends S 1 x y z K := by
  have hr := h.1.1.1
  have h12 := h.1.1.n12
  refine w_ends (fun l g hl hg el eg => ⟨fun q => absurd q (by decide), fun _ => ⟨ok_O hr.1 (by decide), w_thing h.1.1 (fun t ht et => ⟨fun q => absurd q (by decide), fun _ => ?_⟩) (fun nt => ⟨fun _ => ?_, fun q => absurd rfl q⟩)⟩⟩) (fun ne => ⟨fun _ => ?_, fun q => absurd rfl q⟩)
  · rw [rt1_0 hr, rt2_4 hr, et, el, pcl (by omega)]
    refine ⟨⟨ok_O hr.1 (by decide), by decide⟩, ⟨ok_O hr.1 (by decide), by decide⟩, ok_A (N := 12) hr.1 (by decide) (by omega) (by decide), fun S1 e1 => ?_⟩
    have hr1 : RT S1 := by rw [e1]; exact hr
    rw [rt1_0 hr1, rt2_5 hr1, eg]
    refine ⟨⟨ok_O hr1.1 (by decide), by decide⟩, ⟨ok_O hr1.1 (by decide), by decide⟩, ok_A (N := 12) hr1.1 (by decide) (by omega) (by decide), fun S2 e2 => ?_⟩
    have hr2 : RT S2 := by rw [e2]; exact hr1
    have hE2 : Ex P2 S S2 := by
      rw [e2, e1]
      exact Ex.pI (P := P2) (Ex.pI (P := P2) Ex.rf (by unfold P2; omega)) (by unfold P2; omega)
    have hb : CB S2 2 (up (up β 1 t l) 2 t g) := by
      rw [e2, e1]
      exact (h.1.1.2.1.u (f := 1) (by decide) (by decide)).u (f := 2) (by decide) (by decide)
    have hw := h.1.1.2.2.1.ends (t := t) hl hg
    have hs : SameC β (up (up β 1 t l) 2 t g) := SameC.tr (SameC.r (by decide)) (SameC.r (by decide))
    refine ⟨ok_O hr2.1 (by decide), w_acc hr2 (fun S3 hE3 st fl => hK _ S3 (hE3.rt hr2) (fun K2 h2 => ?_))⟩
    have h3 := h.md.acc hE2 hb hw hs hE3 fl
    have hr3 := h3.2.1.1.1
    refine m_ends (fun l2 g2 _ _ el2 eg2 => ⟨ok_O hr3.1 (by decide), m_thing h3.2.1.1 (fun t2 ht2 et2 => ⟨fun q => absurd q (by decide), fun _ => ?_⟩) (fun nt => absurd et (nt t ht))⟩) (fun ne => absurd ⟨l, g, hl, hg, el, eg⟩ ne)
    rw [et, el, eg, rt108_4 hr3, pcl (by omega)]
    refine ⟨⟨ok_O hr3.1 (by decide), by decide⟩, ok_A (N := 12) hr3.1 (by decide) (by omega) (by decide), fun S4 e4 => ?_⟩
    have hr4 : RT S4 := by rw [e4]; exact hr3
    rw [rt108_5 hr4]
    refine ⟨⟨ok_O hr4.1 (by decide), by decide⟩, ok_A (N := 12) hr4.1 (by decide) (by omega) (by decide), fun S5 e5 => ?_⟩
    have hE5 : Ex P108 S3 S5 := by
      rw [e5, e4]
      exact Ex.pI (P := P108) (Ex.pI (P := P108) Ex.rf (by unfold P108; omega)) (by unfold P108; omega)
    refine m_ok h3 st hE5 (h3.2.1.sc (hE5.rt hr3) hw ?_ hs ?_ (fun c => ?_)) (by decide) h2
    · rw [e5, e4]
      exact (h3.2.1.1.2.2.u (f := 1) (by decide) (by decide)).u (f := 2) (by decide) (by decide)
    · rw [e5, e4, sI_o (by decide), sI_o (by decide)]
    · rw [e5, e4, sI_o (by decide), sI_o (by decide)]
  · exact w_no h (by decide) hK (fun S1 K2 h1 k => m_ends (fun l2 g2 _ _ el2 eg2 => ⟨ok_O h1.2.1.1.1.1 (by decide), m_thing h1.2.1.1 (fun t2 ht2 et2 => absurd et2 (nt t2 ht2)) (fun _ => ⟨fun _ => ⟨ok_O h1.2.1.1.1.1 (by decide), k⟩, fun q => absurd rfl q⟩)⟩) (fun ne => absurd ⟨l, g, hl, hg, el, eg⟩ ne))
  · exact w_no h (by decide) hK (fun S1 K2 h1 k => m_ends (fun l2 g2 a b el2 eg2 => absurd ⟨l2, g2, a, b, el2, eg2⟩ ne) (fun _ => ⟨ok_O h1.2.1.1.1.1 (by decide), k⟩))
theorem s_price {S : St} {β : Nat → Nat → Nat} {x y : Int32} {K : Int32 → St → Prop} (h : INV S β) (hK : ∀ r S1, RT S1 → (∀ K2 : Int32 → St → Prop, (∀ S2, J S2 → K2 r S2) → wX9_price S1 108 x y K2) → K r S1) : wX8_price S 1 x y K := by
  have hr := h.1.1.1
  have h12 := h.1.1.n12
  refine w_cost (fun v hv ev => ⟨fun q => absurd q (by decide), fun _ => ⟨ok_O hr.1 (by decide), w_thing h.1.1 (fun t ht et => ⟨fun q => absurd q (by decide), fun _ => ?_⟩) (fun nt => ⟨fun _ => ?_, fun q => absurd rfl q⟩)⟩⟩) (fun nv => ⟨fun _ => ?_, fun q => absurd rfl q⟩)
  · have a5 := h.1.1.2.1.2.1 4 (by decide) t (by omega)
    have w5 := h.1.1.2.2.1.2.2.2.1 t (by omega)
    rw [rt1_0 hr, rt2_8 hr, et, ev, pcl (by omega)]
    refine ⟨⟨ok_O hr.1 (by decide), by decide⟩, ⟨ok_O hr.1 (by decide), by decide⟩, ok_A (N := 12) hr.1 (by decide) (by omega) (by decide), fun x3 e3 S1 e1 => ?_⟩
    have e3 : x3 = nI (β 5 t) := e3.trans a5
    rw [e3]
    have hr1 : RT S1 := by rw [e1]; exact hr
    have hE1 : Ex P2 S S1 := by rw [e1]; exact Ex.pI (P := P2) Ex.rf (by unfold P2; omega)
    have hb : CB S1 2 (up β 5 t v) := by rw [e1]; exact h.1.1.2.1.u (f := 5) (by decide) (by decide)
    have hw := h.1.1.2.2.1.one (f := 5) (by decide) (by decide) ht hv
    have hs : SameC β (up β 5 t v) := SameC.r (by decide)
    refine ⟨ok_O hr1.1 (by decide), w_acc hr1 (fun S3 hE3 st fl => hK _ S3 (hE3.rt hr1) (fun K2 h2 => ?_))⟩
    have h3 := h.md.acc hE1 hb hw hs hE3 fl
    have hr3 := h3.2.1.1.1
    refine m_cost (fun _ _ _ => ⟨fun q => absurd q (by decide), fun _ => ⟨ok_O hr3.1 (by decide), m_thing h3.2.1.1 (fun t2 ht2 et2 => ⟨fun q => absurd q (by decide), fun _ => ?_⟩) (fun nt => absurd et (nt t ht))⟩⟩) (fun nv => absurd ev (nv v hv))
    have b5 := h3.2.1.1.2.2.2.2.2.1 4 (by decide) t (by omega)
    rw [et, ev, rt108_8 hr3, pcl (by omega)]
    refine ⟨⟨ok_O hr3.1 (by decide), by decide⟩, ok_A (N := 12) hr3.1 (by decide) (by omega) (by decide), fun x4 e4 S5 e5 => ?_⟩
    have e4 : x4 = nI (β 5 t) := e4.trans b5
    rw [e4]
    have hE5 : Ex P108 S3 S5 := by rw [e5]; exact Ex.pI (P := P108) Ex.rf (by unfold P108; omega)
    refine m_ok h3 st hE5 (h3.2.1.sc (hE5.rt hr3) hw ?_ hs ?_ (fun c => ?_)) (nn (by omega)) h2
    · rw [e5]; exact h3.2.1.1.2.2.u (f := 5) (by decide) (by decide)
    · rw [e5, sI_o (by decide)]
    · rw [e5, sI_o (by decide)]
  · exact w_no h (by decide) hK (fun S1 K2 h1 k => m_cost (fun _ _ _ => ⟨fun q => absurd q (by decide), fun _ => ⟨ok_O h1.2.1.1.1.1 (by decide), m_thing h1.2.1.1 (fun t2 ht2 et2 => absurd et2 (nt t2 ht2)) (fun _ => ⟨fun _ => ⟨ok_O h1.2.1.1.1.1 (by decide), k⟩, fun q => absurd rfl q⟩)⟩⟩) (fun nv => absurd ev (nv v hv)))
  · exact w_no h (by decide) hK (fun S1 K2 h1 k => m_cost (fun v hv ev => absurd ev (nv v hv)) (fun _ => ⟨fun _ => ⟨ok_O h1.2.1.1.1.1 (by decide), k⟩, fun q => absurd rfl q⟩))
theorem WF.wor {β : Nat → Nat → Nat} {v : Nat} (h : WF β) (hv : v < 256) : WF (up β 0 3 v) := by
  obtain ⟨a, b, c, d, e, g, k⟩ := h
  have r : ∀ q, q ≠ 0 → up β 0 3 v q = β q := fun q h1 => up_r h1
  have r0 : ∀ j, j ≠ 3 → up β 0 3 v 0 j = β 0 j := fun j hj => up_o (by omega)
  refine ⟨?_, by rw [r 1 (by omega), r 2 (by omega)]; exact b, by rw [r 3 (by omega), r 4 (by omega)]; exact c, by rw [r 5 (by omega)]; exact d, fun w hw => by rw [r (6 + w) (by omega)]; exact e w hw, by rw [r0 1 (by decide), r0 2 (by decide)]; exact g, fun q h1 h2 => by rw [r0 0 (by decide), r q (by omega)]; exact k q h1 h2⟩
  rw [r0 0 (by decide), r0 1 (by decide), r0 2 (by decide), up_s']
  exact ⟨a.1, a.2.1, a.2.2.1, hv⟩
theorem s_forget {S : St} {β : Nat → Nat → Nat} {x : Int32} {K : Int32 → St → Prop} (h : INV S β) (hK : ∀ r S1, RT S1 → (∀ K2 : Int32 → St → Prop, (∀ S2, J S2 → K2 r S2) → wX9_forget S1 108 x K2) → K r S1) : wX8_forget S 1 x K := by
  have hr := h.1.1.1
  have hwf := h.1.1.2.2.1
  have h3w := hwf.1.2.2.2
  refine w_within (m := 8) (by decide) (fun w hw ew => ⟨fun q => absurd q (by decide), fun _ => ?_⟩) (fun nw => ⟨fun _ => ?_, fun q => absurd rfl q⟩)
  · rw [rt1_0 hr]
    refine ⟨⟨ok_O hr.1 (by decide), by decide⟩, ok_O hr.1 (by decide), w_hasW hr.1 (by decide) h.1.1.2.1 hwf (fun w2 hw2 ew2 ht => ⟨fun q => absurd q (by decide), fun _ => ?_⟩) (fun nw => ⟨fun _ => ?_, fun q => absurd rfl q⟩)⟩
    · rw [ew, peq (by omega) (by omega)] at ew2
      subst ew2
      rw [rt1_0 hr, ew, psh (by omega), h.1.1.2.1.1 3 (by decide), pdf]
      refine ⟨⟨ok_O hr.1 (by decide), by decide⟩, ok_O hr.1 (by decide), fun S1 e1 => ?_⟩
      have hr1 : RT S1 := by rw [e1]; exact hr
      have hE1 : Ex P2 S S1 := by rw [e1]; exact Ex.pI (P := P2) Ex.rf (by unfold P2; omega)
      have hb : CB S1 2 (up β 0 3 (sdf (β 0 3) (2 ^ w))) := by rw [e1]; exact h.1.1.2.1.u0
      have hlt : sdf (β 0 3) (2 ^ w) < 256 := sdf_lt (n := 8) h3w
      have hw' := hwf.wor hlt
      have hs : SameC β (up β 0 3 (sdf (β 0 3) (2 ^ w))) := SameC.w
      refine ⟨ok_O hr1.1 (by decide), w_acc hr1 (fun S3 hE3 st fl => hK _ S3 (hE3.rt hr1) (fun K2 h2 => ?_))⟩
      have h3 := h.md.acc hE1 hb hw' hs hE3 fl
      have hr3 := h3.2.1.1.1
      refine m_in (N := 8) (by decide) rfl (fun _ _ _ => ⟨fun q => absurd q (by decide), fun _ => ?_⟩) (fun n => absurd ew (n w hw))
      rw [ew, rt108_9 hr3, pcl (by omega), isw h3.2.1.1 hw, ht]
      refine ⟨⟨ok_O hr3.1 (by decide), by decide⟩, ok_A (N := 8) hr3.1 (by decide) (by omega) (by decide), fun q => absurd q (by decide), fun _ S5 e5 => ?_⟩
      have hE5 : Ex P108 S3 S5 := by rw [e5]; exact Ex.pI (P := P108) Ex.rf (by unfold P108; omega)
      refine m_ok h3 st hE5 (h3.2.1.sc (hE5.rt hr3) hw' ?_ hs ?_ (fun c => ?_)) (by decide) h2
      · rw [e5]
        refine h3.2.1.1.2.2.uw ?_ (fun q hq hne => ?_)
        · rw [sd_bit, ht]; simp; rfl
        · rw [sd_bit, decide_eq_false (Ne.symm hne)]; simp
      · rw [e5, sI_o (by decide)]
      · rw [e5, sI_o (by decide)]
    · refine w_no h (by decide) hK (fun S1 K2 h1 k => ?_)
      have hr1 := h1.2.1.1.1
      refine m_in (N := 8) (by decide) rfl (fun _ _ _ => ⟨fun q => absurd q (by decide), fun _ => ?_⟩) (fun n => absurd ew (n w hw))
      rw [ew, rt108_9 hr1, pcl (by omega), isw h1.2.1.1 hw]
      exact ⟨⟨ok_O hr1.1 (by decide), by decide⟩, ok_A (N := 8) hr1.1 (by decide) (by omega) (by decide), fun _ => k, fun q => absurd (nw w hw ew) q⟩
  · exact w_no h (by decide) hK (fun S1 K2 h1 k => m_in (N := 8) (by decide) rfl (fun w hw ew => absurd ew (nw w hw)) (fun _ => ⟨fun _ => ⟨ok_O h1.2.1.1.1.1 (by decide), k⟩, fun q => absurd rfl q⟩))
