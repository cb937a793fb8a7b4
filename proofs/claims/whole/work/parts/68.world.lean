theorem sub10 {y : Int32} {w : Nat} (h : y - 10 = nI w) : y = nI (10 + w) := by
  have e : y - 10 + 10 = y := Int32.sub_add_cancel y 10
  rw [h, show (10 : Int32) = nI 10 from rfl, nI_add] at e
  rw [← e, Nat.add_comm]
theorem s_of {S : St} {β : Nat → Nat → Nat} {x y : Int32} {K : Int32 → St → Prop} (h : INV S β) (hK : ∀ r S1, RT S1 → (∀ K2 : Int32 → St → Prop, (∀ S2, J S2 → K2 r S2) → wX9_of S1 108 x y K2) → K r S1) : wX8_of S 1 x y K := by
  have hr := h.1.1.1
  have h12 := h.1.1.n12
  have jj : J S := ⟨β, h⟩
  refine ⟨ok_O hr.1 (by decide), w_thing h.1.1 (fun t ht et => ⟨fun q => absurd q (by decide), fun _ => ?_⟩) (fun nt => ⟨fun _ => hK _ S hr (fun K2 h2 => ⟨ok_O hr.1 (by decide), m_thing h.2.1.1 (fun t ht et => absurd et (nt t ht)) (fun _ => ⟨fun _ => h2 S jj, fun q => absurd rfl q⟩)⟩), fun q => absurd rfl q⟩)⟩
  have big : ∀ w, w < 8 → y = nI (10 + w) → y.toInt = 10 + (w : Int) := fun w hw e => by
    rw [e, nI_toInt (n31 (by omega))]; omega
  have mod : ∀ {K2 : Int32 → St → Prop}, (y.toInt = 0 → K2 (nI (β 1 t)) S) → (y.toInt = 1 → K2 (nI (β 2 t)) S) → (y.toInt = 2 → K2 (nI (β 3 t)) S) → (y.toInt = 3 → K2 (nI (β 4 t)) S) → (y.toInt = 4 → K2 (nI (β 5 t)) S) → (∀ w, w < 8 → y = nI (10 + w) → (β 0 3).testBit w = true → K2 (nI (β (6 + w) t)) S) → ((y.toInt < 0 ∨ 4 < y.toInt) → (∀ w, w < 8 → y = nI (10 + w) → (β 0 3).testBit w = false) → K2 (-1) S) → wX9_of S 108 x y K2 := fun {K2} k0 k1 k2 k3 k4 kw kn => by
    have m := fun f hf => h.2.1.1.2.2.2.2.2.1 f hf t (by omega)
    refine ⟨ok_O hr.1 (by decide), m_thing h.2.1.1 (fun t2 ht2 et2 => ⟨fun q => absurd q (by decide), fun _ => ?_⟩) (fun nt => absurd et (nt t ht))⟩
    rw [et, pcl (by omega), rt108_4 hr, rt108_5 hr, rt108_6 hr, rt108_7 hr, rt108_8 hr, m 0 (by decide), m 1 (by decide), m 2 (by decide), m 3 (by decide), m 4 (by decide)]
    refine ⟨fun c => ?_, fun c => ⟨⟨ok_O hr.1 (by decide), by decide⟩, ok_A (N := 12) hr.1 (by decide) (by omega) (by decide), k0 c⟩, fun c => ⟨⟨ok_O hr.1 (by decide), by decide⟩, ok_A (N := 12) hr.1 (by decide) (by omega) (by decide), k1 c⟩, fun c => ⟨⟨ok_O hr.1 (by decide), by decide⟩, ok_A (N := 12) hr.1 (by decide) (by omega) (by decide), k2 c⟩, fun c => ⟨⟨ok_O hr.1 (by decide), by decide⟩, ok_A (N := 12) hr.1 (by decide) (by omega) (by decide), k3 c⟩, fun c => ⟨⟨ok_O hr.1 (by decide), by decide⟩, ok_A (N := 12) hr.1 (by decide) (by omega) (by decide), k4 c⟩⟩
    refine ⟨fun c1 => ⟨fun _ => kn c (fun w hw e => ?_), fun q => absurd rfl q⟩, fun c1 => ⟨fun c2 => ⟨fun _ => kn c (fun w hw e => ?_), fun q => absurd rfl q⟩, fun c2 => ⟨fun q => absurd q (by decide), fun _ => ?_⟩⟩⟩
    · rw [e, show (10 : Int32) = nI 10 from rfl, plt (by omega) (by omega)] at c1; omega
    · rw [e, show (17 : Int32) = nI 17 from rfl, plt (by omega) (by omega)] at c2; omega
    · obtain ⟨b, hb1, hb2, e⟩ := in_lh (x := y) (lo := 10) (hi := 17) (by decide) (by decide) c1 c2
      obtain ⟨w, ew⟩ : ∃ w, b = 10 + w := ⟨b - 10, by omega⟩
      rw [ew] at e
      have hw : w < 8 := by omega
      have e10 : y - 10 = nI w := by rw [e, show (10 : Int32) = nI 10 from rfl, pk_sub (by omega), Nat.add_sub_cancel_left]
      rw [e10, rt108_9 hr, rt108_10 hr, pcl (by omega), isw h.2.1.1 hw, show (12 : Int32) = nI 12 from rfl, pk_mul, nI_add, pcl (by omega), h.2.1.1.2.2.2.2.2.2.2 w hw t (by omega)]
      refine ⟨⟨ok_O hr.1 (by decide), by decide⟩, ok_A (N := 8) hr.1 (by decide) (by omega) (by decide), fun q => kn c (fun w2 hw2 e2 => ?_), fun q => ⟨by decide, ok_A (N := 96) hr.1 (by decide) (by omega) (by decide), kw w hw e (tb_eq q)⟩⟩
      rw [e, peq (by omega) (by omega)] at e2
      rw [show w2 = w by omega]; exact q
  have a := fun f hf => h.1.1.2.1.2.1 f hf t (by omega)
  have no : ∀ {P : Prop} {w : Nat}, y = nI (10 + w) → w < 8 → (y.toInt < 10) → P := fun {P w} e hw c => by
    have := big w hw e
    omega
  rw [et, pcl (by omega), rt1_0 hr, rt2_4 hr, rt2_5 hr, rt2_6 hr, rt2_7 hr, rt2_8 hr]
  refine ⟨fun c => ⟨ok_O hr.1 (by decide), ?_⟩, fun c => ⟨⟨ok_O hr.1 (by decide), by decide⟩, ⟨ok_O hr.1 (by decide), by decide⟩, ok_A (N := 12) hr.1 (by decide) (by omega) (by decide), ?_⟩, fun c => ⟨⟨ok_O hr.1 (by decide), by decide⟩, ⟨ok_O hr.1 (by decide), by decide⟩, ok_A (N := 12) hr.1 (by decide) (by omega) (by decide), ?_⟩, fun c => ⟨⟨ok_O hr.1 (by decide), by decide⟩, ⟨ok_O hr.1 (by decide), by decide⟩, ok_A (N := 12) hr.1 (by decide) (by omega) (by decide), ?_⟩, fun c => ⟨⟨ok_O hr.1 (by decide), by decide⟩, ⟨ok_O hr.1 (by decide), by decide⟩, ok_A (N := 12) hr.1 (by decide) (by omega) (by decide), ?_⟩, fun c => ⟨⟨ok_O hr.1 (by decide), by decide⟩, ⟨ok_O hr.1 (by decide), by decide⟩, ok_A (N := 12) hr.1 (by decide) (by omega) (by decide), ?_⟩⟩
  · have mn : (∀ w, w < 8 → y = nI (10 + w) → (β 0 3).testBit w = false) → K (-1) S := fun nb => hK _ S hr (fun K2 h2 => mod (fun q => absurd q (by omega)) (fun q => absurd q (by omega)) (fun q => absurd q (by omega)) (fun q => absurd q (by omega)) (fun q => absurd q (by omega)) (fun w hw e hb => by rw [nb w hw e] at hb; cases hb) (fun _ _ => h2 S jj))
    unfold wX8_costOfThing
    rw [rt1_0 hr]
    refine ⟨fun c1 => mn (fun w hw e => ?_), fun c1 => ⟨⟨ok_O hr.1 (by decide), by decide⟩, ok_O hr.1 (by decide), w_hasW hr.1 (by decide) h.1.1.2.1 h.1.1.2.2.1 (fun w hw e hb => ⟨fun q => absurd q (by decide), fun _ => ?_⟩) (fun nb => ⟨fun _ => mn (fun w hw e => nb w hw ?_), fun q => absurd rfl q⟩)⟩⟩
    · rw [e, show (10 : Int32) = nI 10 from rfl, plt (by omega) (by omega)] at c1; omega
    · have e2 := sub10 e
      have cw := h.1.1.2.1.2.2 w hw t (by omega)
      rw [show 2 + 7 + w = 9 + w by omega] at cw
      rw [rt1_0 hr, rt2_9 hr, e, pcl (by omega), r8w hr hw, pcl (by omega), cw]
      refine ⟨⟨ok_O hr.1 (by decide), by decide⟩, ⟨ok_O hr.1 (by decide), by decide⟩, ⟨ok_A (N := 8) hr.1 (by decide) (by omega) (by decide), by omega⟩, ok_A hr.1 (c9w hw) (by omega) (by decide), hK _ S hr (fun K2 h2 => mod (fun q => absurd q (by omega)) (fun q => absurd q (by omega)) (fun q => absurd q (by omega)) (fun q => absurd q (by omega)) (fun q => absurd q (by omega)) (fun w2 hw2 e3 _ => ?_) (fun _ nb => ?_))⟩
      · rw [e2, peq (by omega) (by omega)] at e3
        rw [show w2 = w by omega]; exact h2 S jj
      · rw [nb w hw e2] at hb; cases hb
    · rw [e, show (10 : Int32) = nI 10 from rfl, pk_sub (by omega), Nat.add_sub_cancel_left]
  · have a0 : sI S 3 t = nI (β 1 t) := a 0 (by decide)
    rw [a0]
    exact hK _ S hr (fun K2 h2 => mod (fun _ => h2 S jj) (fun q => absurd q (by omega)) (fun q => absurd q (by omega)) (fun q => absurd q (by omega)) (fun q => absurd q (by omega)) (fun w hw e _ => no e hw (by omega)) (fun q => absurd q (by omega)))
  · have a0 : sI S 4 t = nI (β 2 t) := a 1 (by decide)
    rw [a0]
    exact hK _ S hr (fun K2 h2 => mod (fun q => absurd q (by omega)) (fun _ => h2 S jj) (fun q => absurd q (by omega)) (fun q => absurd q (by omega)) (fun q => absurd q (by omega)) (fun w hw e _ => no e hw (by omega)) (fun q => absurd q (by omega)))
  · have a0 : sI S 5 t = nI (β 3 t) := a 2 (by decide)
    rw [a0]
    exact hK _ S hr (fun K2 h2 => mod (fun q => absurd q (by omega)) (fun q => absurd q (by omega)) (fun _ => h2 S jj) (fun q => absurd q (by omega)) (fun q => absurd q (by omega)) (fun w hw e _ => no e hw (by omega)) (fun q => absurd q (by omega)))
  · have a0 : sI S 6 t = nI (β 4 t) := a 3 (by decide)
    rw [a0]
    exact hK _ S hr (fun K2 h2 => mod (fun q => absurd q (by omega)) (fun q => absurd q (by omega)) (fun q => absurd q (by omega)) (fun _ => h2 S jj) (fun q => absurd q (by omega)) (fun w hw e _ => no e hw (by omega)) (fun q => absurd q (by omega)))
  · have a0 : sI S 7 t = nI (β 5 t) := a 4 (by decide)
    rw [a0]
    exact hK _ S hr (fun K2 h2 => mod (fun q => absurd q (by omega)) (fun q => absurd q (by omega)) (fun q => absurd q (by omega)) (fun q => absurd q (by omega)) (fun _ => h2 S jj) (fun w hw e _ => no e hw (by omega)) (fun q => absurd q (by omega)))
-- world
def num (S : St) (s fr t : Nat) : Int32 := if (fr : Int) + (t : Int) < (sI S 118 s).toInt then sI S 119 (100 * s + fr + t) else 0
theorem sh_len {S : St} (h : SH S) {s : Nat} (hs : s < 4) : -1 ≤ (sI S 118 s).toInt ∧ (sI S 118 s).toInt ≤ 100 := by
  rcases (h s hs).2.2.1 with e | ⟨n, hn, e⟩
  · rw [e]; decide
  · rw [e, nI_toInt (n31 (by omega))]; omega
theorem w_numAt {S : St} {s fr t : Nat} {K : Int32 → St → Prop} (hr : RT S) (hsh : SH S) (hs : s < 4) (hf : fr < 2147483648) (ht : t < 12) (hK : K (num S s fr t) S) : wX4_numberAt S (21 + 2 * s) ((nI fr).toInt64 + (nI t).toInt64) K := by
  obtain ⟨sa, sb, sc, sd⟩ := hsh s hs
  have hl := sh_len hsh hs
  have ex : (nI fr).toInt64 + (nI t).toInt64 = lN (fr + t) := by rw [nI_l (n31 hf), nI_l (n31 (by omega)), lN_add]
  have et : (lN (fr + t)).toInt = ((fr + t : Nat) : Int) := pk_lT (by omega)
  rw [ex]
  refine ⟨oS21 hr hs, w_place (oS21 hr hs) (fun p1 p2 => ⟨fun q => absurd q (by decide), fun _ => ?_⟩) (fun np => ⟨fun _ => ?_, fun q => absurd rfl q⟩)⟩
  · rw [et, sa] at p2
    unfold num at hK
    rw [if_pos (by omega)] at hK
    rw [rS21 hr hs, lN_i, pcl (by omega), sd _ (by omega), show 100 * s + (fr + t) = 100 * s + fr + t by omega]
    exact ⟨⟨oS21 hr hs, by omega⟩, aS22 hr hs (by omega), hK⟩
  · rw [et, sa] at np
    unfold num at hK
    rw [if_neg (by omega)] at hK
    exact hK
theorem m_stands {S : St} {s fr t : Nat} {K : Int32 → St → Prop} (hr : RT S) (hsh : SH S) (hs : s < 4) (hf : fr < 2147483648) (ht : t < 12) (hK : K (num S s fr t) S) : wX9_stands S 108 (nI s) (nI fr) (nI t) K := by
  have hl := sh_len hsh hs
  have et := nI_toInt (n31 (show t < 2147483648 by omega))
  have es : (sI S 118 s - nI t).toInt = (sI S 118 s).toInt - (t : Int) := by rw [fb_subI (by rw [et]; omega) (by rw [et]; omega), et]
  unfold wX9_stands
  rw [rt108_14 hr, rt108_15 hr, pcl (by omega), fa_le, es, nI_toInt (n31 hf), show (100 : Int32) = nI 100 from rfl, pk_mul, nI_add, nI_add]
  unfold num at hK
  refine ⟨⟨ok_O hr.1 (by decide), by decide⟩, ok_A (N := 4) hr.1 (by decide) (by omega) (by decide), fun c => ?_, fun c => ⟨by decide, ?_⟩⟩
  · rw [if_neg (by omega)] at hK; exact hK
  · rw [if_pos (by omega)] at hK
    rw [pcl (by omega)]
    exact ⟨ok_A (N := 400) hr.1 (by decide) (by omega) (by decide), hK⟩
def ct (β : Nat → Nat → Nat) (w : Nat) (vv : Nat → Nat) (m : Nat) : Nat → Nat → Nat := fun f i => if f = 6 + w ∧ i < m then vv i else β f i
theorem ct_0 {β : Nat → Nat → Nat} {w : Nat} {vv : Nat → Nat} : ct β w vv 0 = β := by
  funext a b
  exact if_neg (by omega)
theorem ct_o {β : Nat → Nat → Nat} {w m f i : Nat} {vv : Nat → Nat} (h : ¬ (f = 6 + w ∧ i < m)) : ct β w vv m f i = β f i := if_neg h
theorem ct_r {β : Nat → Nat → Nat} {w m f : Nat} {vv : Nat → Nat} (h : f ≠ 6 + w) : ct β w vv m f = β f := funext fun _ => ct_o (fun z => h z.1)
theorem ct_up {β : Nat → Nat → Nat} {w m : Nat} {vv : Nat → Nat} : up (ct β w vv m) (6 + w) m (vv m) = ct β w vv (m + 1) := by
  funext a b
  unfold up ct
  by_cases e : a = 6 + w ∧ b = m
  · rw [if_pos e, if_pos (by omega), e.2]
  · rw [if_neg e]
    by_cases e2 : a = 6 + w ∧ b < m
    · rw [if_pos e2, if_pos (by omega)]
    · rw [if_neg e2, if_neg (by omega)]
theorem ct_sw {β : Nat → Nat → Nat} {w m v : Nat} {vv : Nat → Nat} : ct (up β 0 3 v) w vv m = up (ct β w vv m) 0 3 v := by
  funext a b
  unfold up ct
  by_cases e : a = 6 + w ∧ b < m
  · rw [if_pos e, if_neg (by omega), if_pos e]
  · rw [if_neg e, if_neg e]
theorem num_ex {S S1 : St} {P : Nat → Prop} {s fr t : Nat} (he : Ex P S S1) (h1 : ¬ P 118) (h2 : ¬ P 119) : num S1 s fr t = num S s fr t := by
  unfold num
  rw [he.i h1, he.i h2]
def NC (S : St) (s fr n : Nat) : Prop := ∀ t, t < n → ∃ v, v ≤ 1000 ∧ num S s fr t = nI v
theorem l_hc {S : St} {β : Nat → Nat → Nat} {s fr : Nat} {K : Int32 → St → Prop} (h : INV S β) (hs : s < 4) (hf : fr < 2147483648) (h1 : NC S s fr (β 0 0) → K 1 S) (h0 : ¬ NC S s fr (β 0 0) → K 0 S) : ∀ (n t : Nat), t ≤ β 0 0 → β 0 0 - t < n → NC S s fr t → wX8_holdsCosts_2 K n 1 (21 + 2 * s) (nI fr) (nI t) S
  | 0, t, _, h, _ => absurd h (by omega)
  | n + 1, t, ht, hn, hI => by
    have hr := h.1.1.1
    have h12 := h.1.1.n12
    have ih := l_hc h hs hf h1 h0 n
    rw [wX8_holdsCosts_2, rt1_0 hr, h.1.1.2.1.1 0 (by decide), ple (by omega) (by omega)]
    refine ⟨⟨ok_O hr.1 (by decide), by decide⟩, ok_O hr.1 (by decide), fun c => ?_, fun c => ⟨oS21 hr hs, w_numAt hr h.2.2.2.1 hs hf (by omega) (w_cost (fun v hv e => ⟨fun q => absurd q (by decide), fun _ x ex => ?_⟩) (fun nv => ⟨fun _ => h0 (fun q => ?_), fun q => absurd rfl q⟩))⟩⟩
    · rw [show t = β 0 0 by omega] at hI; exact h1 hI
    · rw [ex, nI_1]
      refine ih (t + 1) (by omega) (by omega) (fun q hq => ?_)
      by_cases eq : q = t
      · rw [eq]; exact ⟨v, hv, e⟩
      · exact hI q (by omega)
    · obtain ⟨v, hv, e⟩ := q t (by omega)
      exact nv v hv e
theorem lm_w32 {S : St} {β : Nat → Nat → Nat} {w s fr : Nat} {K : Int32 → St → Prop} (him : IM S β) (hsh : SH S) (hs : s < 4) (hf : fr < 2147483648) (h1 : NC S s fr (β 0 0) → wX9_world_71 K 108 (nI w) (nI s) (nI fr) S) (h0 : ¬ NC S s fr (β 0 0) → wX9_world_59 K 108 S) : ∀ (n t : Nat), t ≤ β 0 0 → β 0 0 - t < n → NC S s fr t → wX9_world_32 K n 108 (nI w) (nI s) (nI fr) (nI t) S
  | 0, t, _, h, _ => absurd h (by omega)
  | n + 1, t, ht, hn, hI => by
    have hr := him.1.1
    have h12 := him.1.2.1.1.1
    have ih := lm_w32 him hsh hs hf h1 h0 n
    rw [wX9_world_32, him.1.2.2.1, ple (by omega) (by omega)]
    refine ⟨ok_O hr.1 (by decide), fun c => ?_, fun c => m_stands hr hsh hs hf (by omega) (m_cost (fun v hv e => ⟨fun q => absurd q (by decide), fun _ x ex => ?_⟩) (fun nv => ⟨fun _ => h0 (fun q => ?_), fun q => absurd rfl q⟩))⟩
    · rw [show t = β 0 0 by omega] at hI; exact h1 hI
    · rw [ex, nI_1]
      refine ih (t + 1) (by omega) (by omega) (fun q hq => ?_)
      by_cases eq : q = t
      · rw [eq]; exact ⟨v, hv, e⟩
      · exact hI q (by omega)
    · obtain ⟨v, hv, e⟩ := q t (by omega)
      exact nv v hv e
theorem l_w50 {S : St} {β : Nat → Nat → Nat} {w s fr : Nat} {vv : Nat → Nat} {K : Int32 → St → Prop} (h : INV S β) (hw : w < 8) (hs : s < 4) (hf : fr < 2147483648) (hv : ∀ t, t < β 0 0 → num S s fr t = nI (vv t)) (hK : ∀ S1, Ex (fun k => k = 9 + w) S S1 → CB S1 2 (ct β w vv (β 0 0)) → wX8_world_95 K 1 (nI w) S1) :
    ∀ (n t : Nat) (S1 : St), t ≤ β 0 0 → β 0 0 - t < n → Ex (fun k => k = 9 + w) S S1 → CB S1 2 (ct β w vv t) → wX8_world_50 K n 1 (nI w) (nI s) (nI fr) (nI t) S1
  | 0, t, S1, _, h, _, _ => absurd h (by omega)
  | n + 1, t, S1, ht, hn, hE, hC => by
    have hr1 := hE.rt h.1.1.1
    have h12 := h.1.1.n12
    have hsh1 : SH S1 := h.2.2.2.1.fr (Fr.of hE h.1.1.1) (fun k hk => by omega)
    have a0 := hC.1 0 (by decide)
    rw [ct_o (by omega)] at a0
    rw [wX8_world_50, rt1_0 hr1, a0, ple (by omega) (by omega)]
    refine ⟨⟨ok_O hr1.1 (by decide), by decide⟩, ok_O hr1.1 (by decide), fun c => ?_, fun c => ?_⟩
    · rw [show t = β 0 0 by omega] at hC; exact hK S1 hE hC
    · rw [rt2_9 hr1, rt1_2 hr1, pcl (by omega), pcl (by omega), pcl (by omega), r8w hr1 hw, rS20 hr1 hs]
      refine ⟨by decide, ⟨ok_A (N := 8) hr1.1 (by decide) (by omega) (by decide), by omega⟩, by decide, ⟨ok_A (N := 4) hr1.1 (by decide) (by omega) (by decide), by omega⟩, oS21 hr1 hs, w_numAt hr1 hsh1 hs hf (by omega) ⟨ok_A hr1.1 (c9w hw) (by omega) (by decide), fun S2 e2 x ex => ?_⟩⟩
      rw [ex, nI_1]
      rw [num_ex hE (by omega) (by omega), hv t (by omega)] at e2
      refine l_w50 h hw hs hf hv hK n (t + 1) S2 (by omega) (by omega) (by rw [e2]; exact hE.pI rfl) ?_
      rw [e2, ← ct_up, show 9 + w = 2 + 7 + w by omega]
      exact hC.uc
theorem lm_w81 {S : St} {β δ : Nat → Nat → Nat} {w s fr : Nat} {vv : Nat → Nat} {K : Int32 → St → Prop} (hr : RT S) (hsh : SH S) (hw : w < 8) (hs : s < 4) (hf : fr < 2147483648) (hb : β 0 0 ≤ 12) (hd : δ 0 0 = β 0 0) (hz : ∀ i, β 0 0 ≤ i → i < 12 → δ (6 + w) i = 0) (hv : ∀ t, t < β 0 0 → num S s fr t = nI (vv t)) (hK : ∀ S1, Ex (fun k => k = 115) S S1 → MBn S1 (ct δ w vv (β 0 0)) → wX9_world_127 K 108 S1) :
    ∀ (n t : Nat) (S1 : St), t ≤ 12 → 12 - t < n → Ex (fun k => k = 115) S S1 → MBn S1 (ct δ w vv (min t (β 0 0))) → wX9_world_81 K n 108 (nI w) (nI s) (nI fr) (nI t) S1
  | 0, t, S1, _, h, _, _ => absurd h (by omega)
  | n + 1, t, S1, ht, hn, hE, hM => by
    have hr1 := hE.rt hr
    have hsh1 : SH S1 := hsh.fr (Fr.of hE hr) (fun k hk => by omega)
    have ih := lm_w81 hr hsh hw hs hf hb hd hz hv hK n
    have a0 := hM.1
    rw [ct_o (by omega), hd] at a0
    rw [wX9_world_81, show (12 : Int32) = nI 12 from rfl, ple (by omega) (by omega)]
    refine ⟨fun c => ?_, fun c => ?_⟩
    · rw [show min t (β 0 0) = β 0 0 by omega] at hM; exact hK S1 hE hM
    · rw [rt108_10 hr1, a0, ple (by omega) (by omega)]
      refine ⟨⟨ok_O hr1.1 (by decide), by decide⟩, fun c2 => ?_, fun c2 => m_stands hr1 hsh1 hs hf (by omega) ?_⟩
      · unfold wX9_world_120
        rw [pk_mul, nI_add, pcl (by omega)]
        refine ⟨ok_A (N := 96) hr1.1 (by decide) (by omega) (by decide), fun S2 e2 x ex => ?_⟩
        rw [ex, nI_1]
        refine ih (t + 1) S2 (by omega) (by omega) (by rw [e2]; exact hE.pI rfl) ?_
        rw [e2, show min (t + 1) (β 0 0) = min t (β 0 0) by omega]
        have q := hM.uc (w := w) (i := t) (v := 0) (by omega)
        rw [up_id (by rw [ct_o (by omega)]; exact hz t c2 (by omega))] at q
        exact q
      · unfold wX9_world_120
        rw [pk_mul, nI_add, pcl (by omega)]
        refine ⟨ok_A (N := 96) hr1.1 (by decide) (by omega) (by decide), fun S2 e2 x ex => ?_⟩
        rw [ex, nI_1]
        rw [num_ex hE (by omega) (by omega), hv t (by omega)] at e2
        refine ih (t + 1) S2 (by omega) (by omega) (by rw [e2]; exact hE.pI rfl) ?_
        rw [show min t (β 0 0) = t by omega] at hM
        rw [e2, show min (t + 1) (β 0 0) = t + 1 by omega, ← ct_up]
        exact hM.uc (by omega)
theorem WF.csts {β : Nat → Nat → Nat} {w : Nat} {vv : Nat → Nat} (h : WF β) (hw : w < 8) (hv : ∀ t, t < β 0 0 → vv t ≤ 1000) : WF (ct β w vv (β 0 0)) := by
  obtain ⟨a, b, c, d, e, g, k⟩ := h
  have r : ∀ q, q ≠ 6 + w → ct β w vv (β 0 0) q = β q := fun q h1 => ct_r h1
  refine ⟨by rw [r 0 (by omega)]; exact a, by rw [r 1 (by omega), r 2 (by omega)]; exact b, by rw [r 3 (by omega), r 4 (by omega)]; exact c, by rw [r 5 (by omega)]; exact d, fun q hq i hi => ?_, by rw [r 0 (by omega)]; exact g, fun q h1 h2 i h3 h4 => ?_⟩
  · by_cases z : 6 + q = 6 + w ∧ i < β 0 0
    · unfold ct; rw [if_pos z]; exact hv i z.2
    · rw [ct_o z]; exact e q hq i hi
  · rw [r 0 (by omega)] at h3
    rw [ct_o (by omega)]; exact k q h1 h2 i h3 h4
theorem SameC.csts {β : Nat → Nat → Nat} {w m : Nat} {vv : Nat → Nat} : SameC β (ct β w vv m) := by
  unfold SameC
  rw [ct_r (show 0 ≠ 6 + w by omega), ct_r (show 3 ≠ 6 + w by omega), ct_r (show 4 ≠ 6 + w by omega)]
  exact ⟨rfl, rfl, rfl, rfl, rfl⟩
theorem s_world {S : St} {β : Nat → Nat → Nat} {x y z : Int32} {K : Int32 → St → Prop} (h : INV S β) (hK : ∀ r S1, RT S1 → (∀ K2 : Int32 → St → Prop, (∀ S2, J S2 → K2 r S2) → wX9_world S1 108 x y z K2) → K r S1) : wX8_world S 1 x y z K := by
  have hr := h.1.1.1
  have h12 := h.1.1.n12
  have hwf := h.1.1.2.2.1
  have h3w := hwf.1.2.2.2
  refine w_within (m := 8) (by decide) (fun w hw ew => ⟨fun q => absurd q (by decide), fun _ => w_within (m := 4) (by decide) (fun s hs es => ⟨fun q => absurd q (by decide), fun _ => ⟨fun c => ?_, fun c => ?_⟩⟩) (fun ns => ⟨fun _ => ?_, fun q => absurd rfl q⟩)⟩) (fun nw => ⟨fun _ => ?_, fun q => absurd rfl q⟩)
  · obtain ⟨fr, hf, ef⟩ := nI_of (x := z) (fun q => by rw [fa_lt] at q; rw [fa_le] at c; omega)
    have hf : fr < 2147483648 := hf
    have mod : ∀ {T : St} {K2 : Int32 → St → Prop}, IM T β → SH T → (NC T s fr (β 0 0) → wX9_world_71 K2 108 (nI w) (nI s) (nI fr) T) → (¬ NC T s fr (β 0 0) → wX9_world_59 K2 108 T) → wX9_world T 108 x y z K2 := fun {T K2} him hsh k1 k0 => by
      refine m_in (N := 8) (by decide) rfl (fun _ _ _ => ⟨fun q => absurd q (by decide), fun _ => m_in (N := 4) (by decide) rfl (fun _ _ _ => ⟨fun q => absurd q (by decide), fun _ => ⟨fun _ => ?_, fun q => absurd c q⟩⟩) (fun n => absurd es (n s hs))⟩) (fun n => absurd ew (n w hw))
      rw [ew, es, ef]
      exact ⟨β 0 0 + 1, lm_w32 him hsh hs hf k1 k0 _ 0 (by omega) (by omega) (fun q hq => absurd hq (by omega))⟩
    rw [rt1_2 hr, ew, es, ef, pcl (by omega), rS20 hr hs]
    refine ⟨⟨ok_O hr.1 (by decide), by decide⟩, ⟨ok_A (N := 4) hr.1 (by decide) (by omega) (by decide), by omega⟩, β 0 0 + 1, l_hc h hs hf (fun nc => ⟨fun q => absurd q (by decide), fun _ => ?_⟩) (fun nc => ⟨fun _ => ?_, fun q => absurd rfl q⟩) _ 0 (by omega) (by omega) (fun q hq => absurd hq (by omega))⟩
    · have hvv : ∀ t, t < β 0 0 → num S s fr t = nI ((num S s fr t).toNatClampNeg) ∧ (num S s fr t).toNatClampNeg ≤ 1000 := fun t ht => by
        obtain ⟨v, hv, e⟩ := nc t ht
        rw [e, pcl (by omega)]; exact ⟨rfl, hv⟩
      generalize hv0 : (fun t => (num S s fr t).toNatClampNeg) = vv
      have hv1 : ∀ t, t < β 0 0 → num S s fr t = nI (vv t) := fun t ht => by rw [← hv0]; exact (hvv t ht).1
      have hv2 : ∀ t, t < β 0 0 → vv t ≤ 1000 := fun t ht => by rw [← hv0]; exact (hvv t ht).2
      have hbt : β 0 3 ||| 2 ^ w < 256 := Nat.or_lt_two_pow (n := 8) h3w (Nat.pow_lt_pow_right (by decide) hw)
      have hwc := hwf.csts hw hv2
      have hwg : WF (up (ct β w vv (β 0 0)) 0 3 (β 0 3 ||| 2 ^ w)) := hwc.wor hbt
      have hs' : SameC β (up (ct β w vv (β 0 0)) 0 3 (β 0 3 ||| 2 ^ w)) := SameC.tr SameC.csts SameC.w
      refine ⟨β 0 0 + 1, l_w50 h hw hs hf hv1 (fun S1 hE1 hC1 => ?_) _ 0 S (by omega) (by omega) Ex.rf (by rw [ct_0]; exact h.1.1.2.1)⟩
      have hr1 := hE1.rt hr
      have a3 := hC1.1 3 (by decide)
      rw [ct_o (by omega)] at a3
      unfold wX8_world_95
      rw [rt1_0 hr1, a3, psh (by omega), por]
      refine ⟨⟨ok_O hr1.1 (by decide), by decide⟩, ok_O hr1.1 (by decide), fun S2 e2 => ?_⟩
      have hr2 : RT S2 := by rw [e2]; exact hr1
      have b3 : sI S2 2 3 = nI (β 0 3 ||| 2 ^ w) := by rw [e2, sI_s]
      rw [rt1_0 hr2, b3]
      have hE2 : Ex P2 S S2 := by
        rw [e2]
        exact Ex.pI (P := P2) (hE1.mo (fun k hk => by unfold P2; omega)) (by unfold P2; omega)
      have hC2 : CB S2 2 (up (ct β w vv (β 0 0)) 0 3 (β 0 3 ||| 2 ^ w)) := by rw [e2]; exact hC1.u0
      refine ⟨⟨ok_O hr2.1 (by decide), by decide⟩, ok_O hr2.1 (by decide), w_bc (by omega) ⟨ok_O hr2.1 (by decide), w_acc hr2 (fun S3 hE3 st fl => hK _ S3 (hE3.rt hr2) (fun K2 h2 => ?_))⟩⟩
      have h3 := h.md.acc hE2 hC2 hwg hs' hE3 fl
      have hr3 := h3.2.1.1.1
      have n3 : ∀ t, num S3 s fr t = num S s fr t := fun t => by rw [num_ex hE3 (by omega) (by omega), num_ex hE2 (by unfold P2; omega) (by unfold P2; omega)]
      refine mod h3.2.1 h3.2.2.2 (fun _ => ?_) (fun q => absurd (fun t ht => by rw [n3]; exact nc t ht) q)
      unfold wX9_world_71
      rw [rt108_9 hr3, pcl (by omega)]
      refine ⟨⟨ok_O hr3.1 (by decide), by decide⟩, ok_A (N := 8) hr3.1 (by decide) (by omega) (by decide), fun S4 e4 => ?_⟩
      have hr4 : RT S4 := by rw [e4]; exact hr3
      have hE4 : Ex (fun k => k = 114) S3 S4 := by rw [e4]; exact Ex.pI (P := fun k => k = 114) Ex.rf rfl
      have m4 : MBn S4 (up β 0 3 (β 0 3 ||| 2 ^ w)) := by
        rw [e4]
        refine h3.2.1.1.2.2.uw ?_ (fun q hq hne => ?_)
        · rw [Nat.testBit_or, Nat.testBit_two_pow]; simp; rfl
        · rw [Nat.testBit_or, Nat.testBit_two_pow, decide_eq_false (Ne.symm hne)]; simp
      have sh4 : SH S4 := h3.2.2.2.fr (Fr.of hE4 hr3) (fun k hk => by omega)
      refine ⟨13, lm_w81 (β := β) (δ := up β 0 3 (β 0 3 ||| 2 ^ w)) (vv := vv) hr4 sh4 hw hs hf h12 (up_o (by omega)) (fun i h1 h2 => ?_) (fun t ht => ?_) (fun S5 hE5 m5 => ?_) 13 0 S4 (by omega) (by omega) Ex.rf ?_⟩
      · rw [up_o (by omega)]; exact hwf.2.2.2.2.2.2 (6 + w) (by omega) (by omega) i h1 h2
      · rw [num_ex hE4 (by omega) (by omega), n3]; exact hv1 t ht
      · have hr5 := hE5.rt hr4
        rw [ct_sw] at m5
        have hE35 : Ex P108 S3 S5 := (hE4.mo (fun k hk => by unfold P108; omega)).tr (hE5.mo (fun k hk => by unfold P108; omega))
        have him : IM S5 (up (ct β w vv (β 0 0)) 0 3 (β 0 3 ||| 2 ^ w)) := h3.2.1.sc hr5 hwg m5 hs' (by rw [hE5.i (by omega), hE4.i (by omega)]) (fun c => by rw [hE5.i (by omega), hE4.i (by omega)])
        refine ⟨ok_O hr5.1 (by decide), m_worlds him.1 ?_⟩
        rw [up_s']
        have pl := popc_le (β 0 3 ||| 2 ^ w)
        exact m_ok h3 st hE35 him (nn (by omega)) h2
      · rw [show min 0 (β 0 0) = 0 by omega, ct_0]; exact m4
    · exact w_noE h (by decide) hK (fun S1 K2 hE h1 k => mod h1.2.1 h1.2.2.2 (fun q => absurd (fun t ht => by rw [← num_ex hE (by omega) (by omega)]; exact q t ht) nc) (fun _ => ⟨ok_O h1.2.1.1.1.1 (by decide), k⟩))
  · exact w_no h (by decide) hK (fun S1 K2 h1 k => m_in (N := 8) (by decide) rfl (fun _ _ _ => ⟨fun q => absurd q (by decide), fun _ => m_in (N := 4) (by decide) rfl (fun _ _ _ => ⟨fun q => absurd q (by decide), fun _ => ⟨fun q => absurd q c, fun _ => ⟨ok_O h1.2.1.1.1.1 (by decide), k⟩⟩⟩) (fun n => absurd es (n s hs))⟩) (fun n => absurd ew (n w hw)))
  · exact w_no h (by decide) hK (fun S1 K2 h1 k => m_in (N := 8) (by decide) rfl (fun _ _ _ => ⟨fun q => absurd q (by decide), fun _ => m_in (N := 4) (by decide) rfl (fun s hs es => absurd es (ns s hs)) (fun _ => ⟨fun _ => ⟨ok_O h1.2.1.1.1.1 (by decide), k⟩, fun q => absurd rfl q⟩)⟩) (fun n => absurd ew (n w hw)))
  · exact w_no h (by decide) hK (fun S1 K2 h1 k => m_in (N := 8) (by decide) rfl (fun w hw ew => absurd ew (nw w hw)) (fun _ => ⟨fun _ => ⟨ok_O h1.2.1.1.1.1 (by decide), k⟩, fun q => absurd rfl q⟩))
