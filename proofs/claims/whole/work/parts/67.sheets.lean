theorem r20s : ∀ s, s < 4 → rt 20 s = 21 + 2 * s ∧ rt (21 + 2 * s) 0 = 22 + 2 * s ∧ kc (21 + 2 * s) = 4 ∧ kc (22 + 2 * s) = 10 ∧ ln (22 + 2 * s) = 100 := by decide
theorem rS20 {S : St} (hr : RT S) {s : Nat} (hs : s < 4) : sR S 20 s = 21 + 2 * s := by
  have h := (r20s s hs).1
  rw [← h]
  exact hr.2 20 s (by omega)
theorem rS21 {S : St} (hr : RT S) {s : Nat} (hs : s < 4) : sR S (21 + 2 * s) 0 = 22 + 2 * s := by
  have h := (r20s s hs).2.1
  rw [hr.2 (21 + 2 * s) 0 (by omega), h]
theorem oS21 {S : St} (hr : RT S) {s : Nat} (hs : s < 4) : okO S 4 (21 + 2 * s) := ok_O hr.1 ⟨by omega, by omega, (r20s s hs).2.2.1⟩
theorem zS22 {s : Nat} (hs : s < 4) : 1 ≤ 22 + 2 * s ∧ 22 + 2 * s ≤ 124 ∧ kc (22 + 2 * s) = 10 ∧ ln (22 + 2 * s) = 100 := ⟨by omega, by omega, (r20s s hs).2.2.2.1, (r20s s hs).2.2.2.2⟩
theorem aS22 {S : St} (hr : RT S) {s i : Nat} (hs : s < 4) (hi : i < 100) : okA S 10 (22 + 2 * s) (nI i) := ok_A hr.1 (zS22 hs) hi (by decide)
def PS (s k : Nat) : Prop := k = 1 ∨ k = 76 ∨ k = 108 ∨ k = 21 + 2 * s ∨ k = 22 + 2 * s ∨ (117 ≤ k ∧ k ≤ 119)
theorem SH.new {S T : St} {s : Nat} (h : SH S) (hs : s < 4) (hE : Ex (PS s) S T) (c2 : sI T (21 + 2 * s) 2 = sI T 118 s) (c1 : sI T (21 + 2 * s) 1 = sI T 117 s) (c3 : sI T 118 s = -1 ∨ ∃ n, n ≤ 100 ∧ sI T 118 s = nI n) (c4 : ∀ i, i < 100 → sI T (22 + 2 * s) i = sI T 119 (100 * s + i)) (o8 : ∀ q, q ≠ s → sI T 118 q = sI S 118 q) (o7 : ∀ q, q ≠ s → sI T 117 q = sI S 117 q) (o9 : ∀ j, (j < 100 * s ∨ 100 * s + 100 ≤ j) → sI T 119 j = sI S 119 j) : SH T := by
  intro q hq
  by_cases e : q = s
  · subst e; exact ⟨c2, c1, c3, c4⟩
  · obtain ⟨a, b, c, d⟩ := h q hq
    have i21 : ∀ j, sI T (21 + 2 * q) j = sI S (21 + 2 * q) j := fun j => hE.i (by unfold PS; omega) j
    rw [i21, i21, o8 q e, o7 q e]
    refine ⟨a, b, c, fun i hi => ?_⟩
    rw [hE.i (by unfold PS; omega), o9 _ (by omega)]
    exact d i hi
def MC (S : St) (β : Nat → Nat → Nat) : Prop := CS S β (nch β) (chl β) ∧ IM S β ∧ KP S
theorem INV.mc {S : St} {β : Nat → Nat → Nat} (h : INV S β) : MC S β := ⟨h.1, h.2.1, h.2.2.1⟩
theorem MC.ex {S S1 : St} {β : Nat → Nat → Nat} {P : Nat → Prop} (h : MC S β) (he : Ex P S S1) (hp : ∀ k, P k → k = 1 ∨ (20 ≤ k ∧ k < 30) ∨ (116 < k ∧ k < 123)) : MC S1 β := by
  have hf := Fr.of he h.2.1.1.1
  exact ⟨h.1.ex he (fun k hk => by have := hp k hk; omega), h.2.1.fr hf (fun k hk => by have := hp k hk; omega), h.2.2.fr hf (fun k hk => by have := hp k hk; omega)⟩
theorem MC.acc {S S1 : St} {β : Nat → Nat → Nat} (h : MC S β) (hE : Ex (fun k => k = 1 ∨ k = 76) S S1) (fl : sI S1 76 8 = 0 ∧ sI S1 76 9 = 0 ∧ sI S1 76 10 = 0) : MC S1 β := by
  have hf := Fr.of hE h.2.1.1.1
  exact ⟨CS.acc h.1.1 h.1.2.2 hE fl, h.2.1.fr hf (fun k hk => by omega), h.2.2.fr hf (fun k hk => by omega)⟩
theorem l_sh65 {S : St} {s : Nat} {z : Int32} {K : Int32 → St → Prop} (hr : RT S) (hs : s < 4) (hK : ∀ S1, Ex (fun k => k = 119) S S1 → (∀ q, q < 100 → sI S1 119 (100 * s + q) = 0) → (∀ j, (j < 100 * s ∨ 100 * s + 100 ≤ j) → sI S1 119 j = sI S 119 j) → wX9_sheet_91 K 108 z S1) :
    ∀ (m i : Nat) (S1 : St), i ≤ 100 → 100 - i < m → Ex (fun k => k = 119) S S1 → (∀ q, q < i → sI S1 119 (100 * s + q) = 0) → (∀ j, (j < 100 * s ∨ 100 * s + 100 ≤ j) → sI S1 119 j = sI S 119 j) → wX9_sheet_65 K m 108 (nI s) z (nI i) S1
  | 0, i, S1, _, h, _, _, _ => absurd h (by omega)
  | m + 1, i, S1, hi, hm, hE, hI, hO => by
    have hr1 := hE.rt hr
    rw [wX9_sheet_65, show (100 : Int32) = nI 100 from rfl, ple (by omega) (by omega)]
    refine ⟨fun c => hK S1 hE (fun q hq => hI q (by omega)) hO, fun c => ?_⟩
    rw [rt108_15 hr1, pk_mul, nI_add, pcl (by omega)]
    refine ⟨⟨ok_O hr1.1 (by decide), by decide⟩, ok_A (N := 400) hr1.1 (by decide) (by omega) (by decide), fun S2 e2 x ex => ?_⟩
    rw [ex, nI_1]
    refine l_sh65 hr hs hK m (i + 1) S2 (by omega) (by omega) (by rw [e2]; exact hE.pI rfl) (fun q hq => ?_) (fun j hj => ?_)
    · by_cases e : q = i
      · rw [e2, e, sI_s]
      · rw [e2, sI_n (by omega)]; exact hI q (by omega)
    · rw [e2, sI_n (by omega)]; exact hO j hj
theorem in_0 {z : Int32} {n : Nat} {w : Int32} (hw : w = nI n) (hn : n < 2147483648) (c1 : z ≤ w) (c2 : 0 ≤ z) : ∃ b, b ≤ n ∧ z = nI b := by
  obtain ⟨b, _, h2, e⟩ := in_lh (x := z) (lo := 0) (hi := n) hn (Nat.zero_le _) (fun q => by rw [show nI 0 = 0 from rfl, fa_lt] at q; rw [fa_le] at c2; omega) (fun q => by rw [← hw, fa_lt] at q; rw [fa_le] at c1; omega)
  exact ⟨b, h2, e⟩
theorem s_sheet {S : St} {β : Nat → Nat → Nat} {x y z : Int32} {K : Int32 → St → Prop} (h : INV S β) (hK : ∀ r S1, RT S1 → (∀ K2 : Int32 → St → Prop, (∀ S2, J S2 → K2 r S2) → wX9_sheet S1 108 x y z K2) → K r S1) : wX8_sheet S 1 x y z K := by
  have hr := h.1.1.1
  refine w_within (m := 4) (by decide) (fun s hs es => ⟨fun q => absurd q (by decide), fun _ => w_within (m := 3) (by decide) (fun a ha ea => ⟨fun q => absurd q (by decide), fun _ => ?_⟩) (fun na => ⟨fun _ => ?_, fun q => absurd rfl q⟩)⟩) (fun ns => ⟨fun _ => ?_, fun q => absurd rfl q⟩)
  · -- the reference's checks
    have mod : ∀ {T : St} {K2 : Int32 → St → Prop}, RT T → (z ≤ 100 → ∀ T1, T1 = pI T 118 s (-1) → ((0 ≤ z → ∀ T2, T2 = pI T1 117 s y → ∀ T3, T3 = pI T2 118 s z → (∃ n1 : Nat, wX9_sheet_65 K2 n1 108 (nI s) z 0 T3)) ∧ (¬ 0 ≤ z → okO T1 9 108 ∧ wX9_tells T1 108 (-4) K2))) → (¬ z ≤ 100 → wX9_sheet_24 K2 108 T) → wX9_sheet T 108 x y z K2 := fun {T K2} hr k1 k0 => by
      refine m_in (N := 4) (by decide) rfl (fun _ _ _ => ⟨fun q => absurd q (by decide), fun _ => m_in (N := 3) (by decide) rfl (fun _ _ _ => ⟨fun q => absurd q (by decide), fun _ => ⟨fun c => ?_, k0⟩⟩) (fun n => absurd ea (n a ha))⟩) (fun n => absurd es (n s hs))
      rw [rt108_14 hr, es, pcl (by omega)]
      refine ⟨⟨ok_O hr.1 (by decide), by decide⟩, ok_A (N := 4) hr.1 (by decide) (by omega) (by decide), fun T1 f1 => ?_⟩
      have hr1 : RT T1 := by rw [f1]; exact hr
      obtain ⟨ka, kb⟩ := k1 c T1 f1
      refine ⟨fun c2 => ?_, kb⟩
      rw [rt108_13 hr1]
      refine ⟨⟨ok_O hr1.1 (by decide), by decide⟩, ok_A (N := 4) hr1.1 (by decide) (by omega) (by decide), fun T2 f2 => ?_⟩
      have hr2 : RT T2 := by rw [f2]; exact hr1
      rw [rt108_14 hr2]
      exact ⟨⟨ok_O hr2.1 (by decide), by decide⟩, ok_A (N := 4) hr2.1 (by decide) (by omega) (by decide), fun T3 f3 => ka c2 T2 f2 T3 f3⟩
    refine ⟨fun c1 => ⟨fun c2 => ?_, fun c2 => ?_⟩, fun c1 => ?_⟩
    · obtain ⟨n, hn, en⟩ := in_0 (n := 100) rfl (by decide) c1 c2
      rw [rt1_2 hr, es, pcl (by omega), rS20 hr hs]
      refine ⟨⟨ok_O hr.1 (by decide), by decide⟩, ⟨ok_A (N := 4) hr.1 (by decide) (by omega) (by decide), by omega⟩, oS21 hr hs, oS21 hr hs, fun S1 e1 => ?_⟩
      have hr1 : RT S1 := by rw [e1]; exact hr
      refine ⟨oS21 hr1 hs, fun S2 e2 => ?_⟩
      have hr2 : RT S2 := by rw [e2]; exact hr1
      rw [rS21 hr2 hs]
      refine ⟨⟨oS21 hr2 hs, by omega⟩, w_zero hr2.1 (zS22 hs) (by decide) (fun S3 hE3 z3 => ?_)⟩
      have hr3 := hE3.rt hr2
      have hE03 : Ex (PS s) S S3 := by
        refine Ex.tr (S1 := S2) ?_ (hE3.mo (fun k hk => by unfold PS; omega))
        rw [e2, e1]
        exact Ex.pI (P := PS s) (Ex.pI (P := PS s) Ex.rf (by unfold PS; omega)) (by unfold PS; omega)
      have a1 : sI S3 (21 + 2 * s) 1 = y := by rw [hE3.i (by omega), e2, sI_n (by decide), e1, sI_s]
      have a2 : sI S3 (21 + 2 * s) 2 = z := by rw [hE3.i (by omega), e2, sI_s]
      have m3 : MC S3 β := by
        refine MC.ex (P := fun k => k = 21 + 2 * s ∨ k = 22 + 2 * s) h.mc ?_ (fun k hk => by omega)
        refine Ex.tr (S1 := S2) ?_ (hE3.mo (fun k hk => by omega))
        rw [e2, e1]
        exact Ex.pI (P := fun k => k = 21 + 2 * s ∨ k = 22 + 2 * s) (Ex.pI (P := fun k => k = 21 + 2 * s ∨ k = 22 + 2 * s) Ex.rf (Or.inl rfl)) (Or.inl rfl)
      refine ⟨ok_O hr3.1 (by decide), w_acc hr3 (fun S4 hE4 st fl => hK _ S4 (hE4.rt hr3) (fun K2 h2 => ?_))⟩
      have hr4 := hE4.rt hr3
      have m4 := m3.acc hE4 fl
      have hE04 : Ex (PS s) S S4 := hE03.tr (hE4.mo (fun k hk => by unfold PS; omega))
      refine mod hr4 (fun _ S5 e5 => ⟨fun _ S6 e6 S7 e7 => ?_, fun q => absurd c2 q⟩) (fun q => absurd c1 q)
      have hr7 : RT S7 := by rw [e7, e6, e5]; exact hr4
      have hE7 : Ex (fun k => 117 ≤ k ∧ k ≤ 119) S4 S7 := by
        rw [e7, e6, e5]
        exact Ex.pI (P := fun k => 117 ≤ k ∧ k ≤ 119) (Ex.pI (P := fun k => 117 ≤ k ∧ k ≤ 119) (Ex.pI (P := fun k => 117 ≤ k ∧ k ≤ 119) Ex.rf (by omega)) (by omega)) (by omega)
      refine ⟨101, l_sh65 hr7 hs (fun S8 hE8 z8 o8 => ?_) 101 0 S7 (by omega) (by omega) Ex.rf (fun q hq => absurd hq (by omega)) (fun _ _ => rfl)⟩
      have hr8 := hE8.rt hr7
      have hE48 : Ex (fun k => 117 ≤ k ∧ k ≤ 119) S4 S8 := hE7.tr (hE8.mo (fun k hk => by omega))
      have hE08 : Ex (PS s) S S8 := hE04.tr (hE48.mo (fun k hk => by unfold PS; omega))
      have m8 := m4.ex hE48 (fun k hk => by omega)
      have f8 : sI S8 118 s = z := by rw [hE8.i (by omega), e7, sI_s]
      have f7 : sI S8 117 s = y := by rw [hE8.i (by omega), e7, sI_o (by decide), e6, sI_s]
      have sh : SH S8 := by
        refine h.2.2.2.1.new hs hE08 ?_ ?_ (Or.inr ⟨n, hn, by rw [f8]; exact en⟩) (fun i hi => ?_) (fun q hq => ?_) (fun q hq => ?_) (fun j hj => ?_)
        · rw [f8, hE48.i (by omega), hE4.i (by omega)]; exact a2
        · rw [f7, hE48.i (by omega), hE4.i (by omega)]; exact a1
        · rw [z8 i hi, hE48.i (by omega), hE4.i (by omega)]; exact z3 i hi
        · rw [hE8.i (by omega), e7, sI_n hq, e6, sI_o (by decide), e5, sI_n hq, hE4.i (by omega), hE3.i (by omega), e2, sI_o (by omega), e1, sI_o (by omega)]
        · rw [hE8.i (by omega), e7, sI_o (by decide), e6, sI_n hq, e5, sI_o (by decide), hE4.i (by omega), hE3.i (by omega), e2, sI_o (by omega), e1, sI_o (by omega)]
        · rw [o8 j hj, e7, sI_o (by decide), e6, sI_o (by decide), e5, sI_o (by decide), hE4.i (by omega), hE3.i (by omega), e2, sI_o (by omega), e1, sI_o (by omega)]
      exact ⟨ok_O hr8.1 (by decide), m_end (y := 0) ⟨m8.1, m8.2.1, m8.2.2, sh⟩ (by rw [hE48.i (by omega)]; exact st) (by rw [if_pos c2]) h2⟩
    · rw [rt1_2 hr, es, pcl (by omega), rS20 hr hs]
      refine ⟨⟨ok_O hr.1 (by decide), by decide⟩, ⟨ok_A (N := 4) hr.1 (by decide) (by omega) (by decide), by omega⟩, oS21 hr hs, oS21 hr hs, fun S1 e1 => ?_⟩
      have hr1 : RT S1 := by rw [e1]; exact hr
      have hE1 : Ex (fun k => k = 21 + 2 * s) S S1 := by rw [e1]; exact Ex.pI (P := fun k => k = 21 + 2 * s) Ex.rf rfl
      refine ⟨ok_O hr1.1 (by decide), w_ref hr1 (fun S2 hE2 st => hK _ S2 (hE2.rt hr1) (fun K2 h2 => ?_))⟩
      have hr2 := hE2.rt hr1
      refine mod hr2 (fun _ S3 e3 => ⟨fun q => absurd q c2, fun _ => ?_⟩) (fun q => absurd c1 q)
      have hr3 : RT S3 := by rw [e3]; exact hr2
      have hE3 : Ex (fun k => k = 118) S2 S3 := by rw [e3]; exact Ex.pI (P := fun k => k = 118) Ex.rf rfl
      have hE03 : Ex (PS s) S S3 := ((hE1.mo (fun k hk => by unfold PS; omega)).tr (hE2.mo (fun k hk => by unfold PS; omega))).tr (hE3.mo (fun k hk => by unfold PS; omega))
      have m3 := ((h.mc.ex hE1 (fun k hk => by omega)).ex hE2 (fun k hk => by omega)).ex hE3 (fun k hk => by omega)
      obtain ⟨_, sb, _, sd⟩ := h.2.2.2.1 s hs
      have sh : SH S3 := by
        refine h.2.2.2.1.new hs hE03 ?_ ?_ (Or.inl (by rw [e3, sI_s])) (fun i hi => ?_) (fun q hq => ?_) (fun q hq => ?_) (fun j hj => ?_)
        · rw [hE3.i (by omega), hE2.i (by omega), e1, sI_s, e3, sI_s]
        · rw [hE3.i (by omega), hE2.i (by omega), e1, sI_n (by decide), hE3.i (by omega), hE2.i (by omega), hE1.i (by omega)]; exact sb
        · rw [hE3.i (by omega), hE2.i (by omega), hE1.i (by omega), hE3.i (by omega), hE2.i (by omega), hE1.i (by omega)]; exact sd i hi
        · rw [e3, sI_n hq, hE2.i (by omega), hE1.i (by omega)]
        · rw [hE3.i (by omega), hE2.i (by omega), hE1.i (by omega)]
        · rw [hE3.i (by omega), hE2.i (by omega), hE1.i (by omega)]
      exact ⟨ok_O hr3.1 (by decide), m_end (y := -4) ⟨m3.1, m3.2.1, m3.2.2, sh⟩ (by rw [hE3.i (by omega)]; exact st) (by rw [if_neg (by decide)]) h2⟩
    · exact w_no h (by decide) hK (fun S1 K2 h1 k => mod h1.2.1.1.1 (fun q => absurd q c1) (fun _ => ⟨ok_O h1.2.1.1.1.1 (by decide), k⟩))
  · exact w_no h (by decide) hK (fun S1 K2 h1 k => m_in (N := 4) (by decide) rfl (fun _ _ _ => ⟨fun q => absurd q (by decide), fun _ => m_in (N := 3) (by decide) rfl (fun a ha ea => absurd ea (na a ha)) (fun _ => ⟨fun _ => ⟨ok_O h1.2.1.1.1.1 (by decide), k⟩, fun q => absurd rfl q⟩)⟩) (fun n => absurd es (n s hs)))
  · exact w_no h (by decide) hK (fun S1 K2 h1 k => m_in (N := 4) (by decide) rfl (fun s hs es => absurd es (ns s hs)) (fun _ => ⟨fun _ => ⟨ok_O h1.2.1.1.1.1 (by decide), k⟩, fun q => absurd rfl q⟩))
theorem w_place {S : St} {o : Nat} {X : Int64} {K : Int32 → St → Prop} (ho : okO S 4 o) (h1 : 0 ≤ X.toInt → X.toInt < (sI S o 2).toInt → K 1 S) (h0 : ¬ (0 ≤ X.toInt ∧ X.toInt < (sI S o 2).toInt) → K 0 S) : wX4_hasPlace S o X K := by
  have z0 : (0 : Int64).toInt = 0 := by decide
  unfold wX4_hasPlace
  rw [lg_cmp_lt, lg_cmp_ge, fa_lt64, fa_le64, Int32.toInt_toInt64, z0]
  exact ⟨fun c => h0 (by omega), fun c => ⟨ho, fun c2 => h0 (by omega), fun c2 => h1 (by omega) (by omega)⟩⟩
def nw (a v : Int32) : Int32 := if a = 0 then v.toInt8.toInt32 else if a = 1 then v.toInt16.toInt32 else v
theorem w_put {S : St} {o c : Nat} {x v : Int32} {K : St → Prop} (ho : okO S 4 o) (hr : sR S o 0 = c) (h0 : c ≠ 0) (ha : okA S 10 c x) (hK : K (pI S c (x : Int32).toNatClampNeg (nw (sI S o 1) v))) : wX4_put S o x v K := by
  unfold wX4_put
  rw [hr]
  unfold nw at hK
  refine ⟨ho, fun a => ⟨h0, ha, fun S1 e1 => ?_⟩, fun a => ⟨fun b => ⟨h0, ha, fun S1 e1 => ?_⟩, fun b => ⟨h0, ha, fun S1 e1 => ?_⟩⟩⟩
  · rw [if_pos a] at hK; rw [e1]; exact hK
  · rw [if_neg a, if_pos b] at hK; rw [e1]; exact hK
  · rw [if_neg a, if_neg b] at hK; rw [e1]; exact hK
theorem w_noE {S : St} {β : Nat → Nat → Nat} {x : Int32} {W : St → (Int32 → St → Prop) → Prop} {K : Int32 → St → Prop} (h : INV S β) (hx : ¬ 0 ≤ x) (hK : ∀ r S1, RT S1 → (∀ K2 : Int32 → St → Prop, (∀ S2, J S2 → K2 r S2) → W S1 K2) → K r S1) (hW : ∀ S1 K2, Ex (fun k => k = 1) S S1 → MD S1 β β → wX9_tells S1 108 x K2 → W S1 K2) : okO S 8 1 ∧ wX8_refused S 1 x K := by
  have hr := h.1.1.1
  refine ⟨ok_O hr.1 (by decide), w_ref hr (fun S1 hE e1 => hK x S1 (hE.rt hr) (fun K2 h2 => ?_))⟩
  have h1 := h.md.ex1 hE
  exact hW S1 K2 hE h1 (m_end h1 e1 (by rw [if_neg hx]) h2)
theorem s_write {S : St} {β : Nat → Nat → Nat} {x y z : Int32} {K : Int32 → St → Prop} (h : INV S β) (hK : ∀ r S1, RT S1 → (∀ K2 : Int32 → St → Prop, (∀ S2, J S2 → K2 r S2) → wX9_write S1 108 x y z K2) → K r S1) : wX8_write S 1 x y z K := by
  have hr := h.1.1.1
  refine w_within (m := 4) (by decide) (fun s hs es => ⟨fun q => absurd q (by decide), fun _ => ?_⟩) (fun ns => ⟨fun _ => ?_, fun q => absurd rfl q⟩)
  · obtain ⟨sa, sb, sc, sd⟩ := h.2.2.2.1 s hs
    rw [rt1_2 hr, es, pcl (by omega), rS20 hr hs]
    refine ⟨⟨ok_O hr.1 (by decide), by decide⟩, ⟨ok_A (N := 4) hr.1 (by decide) (by omega) (by decide), by omega⟩, oS21 hr hs, oS21 hr hs, fun cm => ⟨fun q => absurd q (by decide), fun _ => ?_⟩, fun cm => ⟨fun _ => ?_, fun q => absurd rfl q⟩⟩
    · refine w_noE h (by decide) hK (fun S1 K2 hE h1 k => ?_)
      have hr1 := h1.2.1.1.1
      refine m_in (N := 4) (by decide) rfl (fun _ _ _ => ⟨fun q => absurd q (by decide), fun _ => ?_⟩) (fun n => absurd es (n s hs))
      rw [rt108_14 hr1, es, pcl (by omega), hE.i (by omega), ← sa]
      exact ⟨⟨ok_O hr1.1 (by decide), by decide⟩, ok_A (N := 4) hr1.1 (by decide) (by omega) (by decide), fun _ => k, fun q => absurd cm q⟩
    · obtain ⟨n, hn, en⟩ : ∃ n, n ≤ 100 ∧ sI S 118 s = nI n := by
        rcases sc with q | q
        · rw [sa] at cm; exact absurd q cm
        · exact q
      have en2 : (sI S (21 + 2 * s) 2).toInt = (n : Int) := by rw [sa, en]; exact nI_toInt (n31 (by omega))
      rw [rt1_2 hr, rS20 hr hs]
      refine ⟨⟨ok_O hr.1 (by decide), by decide⟩, ⟨ok_A (N := 4) hr.1 (by decide) (by omega) (by decide), by omega⟩, oS21 hr hs, w_place (oS21 hr hs) (fun p1 p2 => ⟨fun q => absurd q (by decide), fun _ => ?_⟩) (fun np => ⟨fun _ => ?_, fun q => absurd rfl q⟩)⟩
      · rw [Int32.toInt_toInt64] at p1 p2
        obtain ⟨i, hi, ei⟩ : ∃ i, i < n ∧ y = nI i := by
          obtain ⟨j, hj, ej⟩ := nI_of (x := y) (fun q => by rw [fa_lt] at q; have z0 : (0 : Int32).toInt = 0 := (by decide); omega)
          refine ⟨j, ?_, ej⟩
          rw [ej, nI_toInt hj] at p2
          omega
        rw [rt1_2 hr, rS20 hr hs]
        refine ⟨⟨ok_O hr.1 (by decide), by decide⟩, ⟨ok_A (N := 4) hr.1 (by decide) (by omega) (by decide), by omega⟩, oS21 hr hs, w_put (oS21 hr hs) (rS21 hr hs) (by omega) (by rw [ei]; exact aS22 hr hs (by omega)) ?_⟩
        rw [ei, pcl (by omega), sb]
        generalize e1 : pI S (22 + 2 * s) i (nw (sI S 117 s) z) = S1
        have hr1 : RT S1 := by rw [← e1]; exact hr
        have hE1 : Ex (fun k => k = 22 + 2 * s) S S1 := by rw [← e1]; exact Ex.pI (P := fun k => k = 22 + 2 * s) Ex.rf rfl
        refine ⟨ok_O hr1.1 (by decide), w_acc hr1 (fun S2 hE2 st fl => hK _ S2 (hE2.rt hr1) (fun K2 h2 => ?_))⟩
        have hr2 := hE2.rt hr1
        have m2 := (h.mc.ex hE1 (fun k hk => by omega)).acc hE2 fl
        have i18 : sI S2 118 s = nI n := by rw [hE2.i (by omega), hE1.i (by omega)]; exact en
        have i17 : sI S2 117 s = sI S 117 s := by rw [hE2.i (by omega), hE1.i (by omega)]
        refine m_in (N := 4) (by decide) rfl (fun _ _ _ => ⟨fun q => absurd q (by decide), fun _ => ?_⟩) (fun n => absurd es (n s hs))
        rw [rt108_14 hr2, es, pcl (by omega), i18]
        refine ⟨⟨ok_O hr2.1 (by decide), by decide⟩, ok_A (N := 4) hr2.1 (by decide) (by omega) (by decide), fun q => absurd q (neg1_ne (by omega)), fun _ => m_in (N := n) (by omega) (nI1_toInt (by omega)) (fun _ _ _ => ⟨fun q => absurd q (by decide), fun _ => ?_⟩) (fun q => absurd ei (q i hi))⟩
        have fin : wX9_write_95 K2 108 119 (nI (100 * s + i)) (nw (sI S 117 s) z) S2 := by
          unfold wX9_write_95
          rw [pcl (by omega)]
          refine ⟨ok_A (N := 400) hr2.1 (by decide) (by omega) (by decide), fun S3 e3 => ?_⟩
          have hr3 : RT S3 := by rw [e3]; exact hr2
          have hE3 : Ex (fun k => k = 119) S2 S3 := by rw [e3]; exact Ex.pI (P := fun k => k = 119) Ex.rf rfl
          have hE03 : Ex (PS s) S S3 := ((hE1.mo (fun k hk => by unfold PS; omega)).tr (hE2.mo (fun k hk => by unfold PS; omega))).tr (hE3.mo (fun k hk => by unfold PS; omega))
          have m3 := m2.ex hE3 (fun k hk => by omega)
          have q3 : ∀ k, k ≠ 119 → k ≠ 1 → k ≠ 76 → k ≠ 22 + 2 * s → ∀ j, sI S3 k j = sI S k j := fun k g1 g2 g3 g4 j => by rw [hE3.i g1, hE2.i (by omega), hE1.i g4]
          have sh : SH S3 := by
            refine h.2.2.2.1.new hs hE03 ?_ ?_ (Or.inr ⟨n, hn, ?_⟩) (fun j hj => ?_) (fun q hq => ?_) (fun q hq => ?_) (fun j hj => ?_)
            · rw [q3 _ (by omega) (by omega) (by omega) (by omega), q3 _ (by omega) (by omega) (by omega) (by omega)]; exact sa
            · rw [q3 _ (by omega) (by omega) (by omega) (by omega), q3 _ (by omega) (by omega) (by omega) (by omega)]; exact sb
            · rw [q3 _ (by omega) (by omega) (by omega) (by omega)]; exact en
            · rw [hE3.i (by omega), hE2.i (by omega), ← e1, e3, sI_pI, sI_pI]
              by_cases ej : j = i
              · rw [if_pos ⟨rfl, ej⟩, if_pos ⟨rfl, by omega⟩]
              · rw [if_neg (by omega), if_neg (by omega), hE2.i (by omega), hE1.i (by omega)]; exact sd j hj
            · exact q3 _ (by omega) (by omega) (by omega) (by omega) _
            · exact q3 _ (by omega) (by omega) (by omega) (by omega) _
            · rw [e3, sI_n (by omega), hE2.i (by omega), hE1.i (by omega)]
          exact ⟨ok_O hr3.1 (by decide), m_end (y := 0) ⟨m3.1, m3.2.1, m3.2.2, sh⟩ (by rw [hE3.i (by omega)]; exact st) (by rw [if_pos (by decide)]) h2⟩
        unfold nw at fin
        rw [rt108_15 hr2, rt108_13 hr2, i17, ei, show (100 : Int32) = nI 100 from rfl, pk_mul, nI_add]
        refine ⟨⟨ok_O hr2.1 (by decide), by decide⟩, by decide, ok_A (N := 4) hr2.1 (by decide) (by omega) (by decide), fun a => ?_, fun a => ⟨fun b => ?_, fun b => ?_⟩⟩
        · rw [if_pos a] at fin; exact fin
        · rw [if_neg a, if_pos b] at fin; exact fin
        · rw [if_neg a, if_neg b] at fin; exact fin
      · refine w_noE h (by decide) hK (fun S1 K2 hE h1 k => ?_)
        have hr1 := h1.2.1.1.1
        refine m_in (N := 4) (by decide) rfl (fun _ _ _ => ⟨fun q => absurd q (by decide), fun _ => ?_⟩) (fun n => absurd es (n s hs))
        rw [rt108_14 hr1, es, pcl (by omega), hE.i (by omega), en]
        refine ⟨⟨ok_O hr1.1 (by decide), by decide⟩, ok_A (N := 4) hr1.1 (by decide) (by omega) (by decide), fun q => absurd q (neg1_ne (by omega)), fun _ => m_in (N := n) (by omega) (nI1_toInt (by omega)) (fun i hi ei => ?_) (fun _ => ⟨fun _ => ⟨ok_O hr1.1 (by decide), k⟩, fun q => absurd rfl q⟩)⟩
        have ey := nI_toInt (n31 (show i < 2147483648 by omega))
        rw [Int32.toInt_toInt64, ei, ey, en2] at np
        omega
  · exact w_no h (by decide) hK (fun S1 K2 h1 k => m_in (N := 4) (by decide) rfl (fun s hs es => absurd es (ns s hs)) (fun _ => ⟨fun _ => ⟨ok_O h1.2.1.1.1.1 (by decide), k⟩, fun q => absurd rfl q⟩))
-- count
def nsh (S : St) (m : Nat) : Nat := fb_ct (fun s => decide (¬ sI S 118 s = -1)) m
theorem l_shc {S : St} {K : Int32 → St → Prop} (hr : RT S) (h : SH S) (hK : K (nI (nsh S 4)) S) : ∀ (n s : Nat), s ≤ 4 → 4 - s < n → wX8_sheetsThere_4 K n 1 (nI (nsh S s)) (nI s) S
  | 0, s, _, h => absurd h (by omega)
  | n + 1, s, hs, hn => by
    have ih := l_shc hr h hK n
    rw [wX8_sheetsThere_4, show (4 : Int32) = nI 4 from rfl, ple (by omega) (by omega)]
    refine ⟨fun c => ?_, fun c => ?_⟩
    · rw [show s = 4 by omega]; exact hK
    · have e : nsh S (s + 1) = nsh S s + if decide (¬ sI S 118 s = -1) then 1 else 0 := rfl
      rw [rt1_2 hr, pcl (by omega), rS20 hr (by omega)]
      refine ⟨⟨ok_O hr.1 (by decide), by decide⟩, ⟨ok_A (N := 4) hr.1 (by decide) (by omega) (by decide), by omega⟩, oS21 hr (by omega), oS21 hr (by omega), fun cm => ⟨fun q => absurd q (by decide), fun _ x ex => ?_⟩, fun cm => ⟨fun _ x1 ex1 x ex => ?_, fun q => absurd rfl q⟩⟩
      · rw [(h s (by omega)).1] at cm
        have e : nsh S (s + 1) = nsh S s := e.trans (by simp [cm])
        rw [ex, nI_1, ← e]
        exact ih (s + 1) (by omega) (by omega)
      · rw [(h s (by omega)).1] at cm
        rw [if_pos (by simp [cm])] at e
        rw [ex, ex1, nI_1, nI_1, ← e]
        exact ih (s + 1) (by omega) (by omega)
theorem lm_shc {S : St} {K : Int32 → St → Prop} (hr : RT S) (hK : K (nI (nsh S 4)) S) : ∀ (n s : Nat), s ≤ 4 → 4 - s < n → wX9_count_69 K n 108 (nI (nsh S s)) (nI s) S
  | 0, s, _, h => absurd h (by omega)
  | n + 1, s, hs, hn => by
    have ih := lm_shc hr hK n
    rw [wX9_count_69, show (4 : Int32) = nI 4 from rfl, ple (by omega) (by omega)]
    refine ⟨fun c => ?_, fun c => ?_⟩
    · rw [show s = 4 by omega]; exact hK
    · have e : nsh S (s + 1) = nsh S s + if decide (¬ sI S 118 s = -1) then 1 else 0 := rfl
      rw [rt108_14 hr, pcl (by omega)]
      refine ⟨⟨ok_O hr.1 (by decide), by decide⟩, ok_A (N := 4) hr.1 (by decide) (by omega) (by decide), fun cm x1 ex1 x ex => ?_, fun cm x1 ex1 x ex => ?_⟩
      · have e : nsh S (s + 1) = nsh S s := e.trans (by simp [cm])
        rw [ex, ex1, show (0 : Int32) = nI 0 from rfl, nI_add, nI_1, Nat.add_zero, ← e]
        exact ih (s + 1) (by omega) (by omega)
      · rw [if_pos (by simp [cm])] at e
        rw [ex, ex1, nI_1, nI_1, ← e]
        exact ih (s + 1) (by omega) (by omega)
theorem s_count {S : St} {β : Nat → Nat → Nat} {x : Int32} {K : Int32 → St → Prop} (h : INV S β) (hK : ∀ r S1, RT S1 → (∀ K2 : Int32 → St → Prop, (∀ S2, J S2 → K2 r S2) → wX9_count S1 108 x K2) → K r S1) : wX8_count S 1 x K := by
  have hr := h.1.1.1
  have hb := h.1.1.2.1.1
  have hm := h.2.1.1.2.2
  have h3 := h.1.1.2.2.1.1.2.2.2
  have jj : J S := ⟨β, h⟩
  unfold wX8_count
  rw [rt1_0 hr, rt1_1 hr, hb 0 (by decide), hb 1 (by decide), hb 2 (by decide), hb 3 (by decide), h.N.1]
  refine ⟨fun c => hK _ S hr (fun K2 h2 => ?_), fun c => ⟨⟨ok_O hr.1 (by decide), by decide⟩, ok_O hr.1 (by decide), hK _ S hr (fun K2 h2 => ?_)⟩, fun c => ⟨⟨ok_O hr.1 (by decide), by decide⟩, ok_O hr.1 (by decide), hK _ S hr (fun K2 h2 => ?_)⟩, fun c => ⟨⟨ok_O hr.1 (by decide), by decide⟩, ok_O hr.1 (by decide), w_bc (by omega) (hK _ S hr (fun K2 h2 => ?_))⟩, fun c => ⟨⟨ok_O hr.1 (by decide), by decide⟩, ok_O hr.1 (by decide), hK _ S hr (fun K2 h2 => ?_)⟩, fun c => ⟨⟨ok_O hr.1 (by decide), by decide⟩, ok_O hr.1 (by decide), hK _ S hr (fun K2 h2 => ?_)⟩, fun c => ⟨ok_O hr.1 (by decide), 5, l_shc hr h.2.2.2.1 (hK _ S hr (fun K2 h2 => ?_)) 5 0 (by omega) (by omega)⟩⟩
  · exact ⟨fun _ => h2 S jj, fun q => absurd q (by omega), fun q => absurd q (by omega), fun q => absurd q (by omega), fun q => absurd q (by omega), fun q => absurd q (by omega), fun q => absurd q (by omega)⟩
  · refine ⟨fun q => absurd q (by omega), fun q => ⟨ok_O hr.1 (by decide), ?_⟩, fun q => absurd q (by omega), fun q => absurd q (by omega), fun q => absurd q (by omega), fun q => absurd q (by omega), fun q => absurd q (by omega)⟩
    rw [hm.1]; exact h2 S jj
  · refine ⟨fun q => absurd q (by omega), fun q => absurd q (by omega), fun q => ⟨ok_O hr.1 (by decide), ?_⟩, fun q => absurd q (by omega), fun q => absurd q (by omega), fun q => absurd q (by omega), fun q => absurd q (by omega)⟩
    rw [h.2.1.2.2.1]; exact h2 S jj
  · refine ⟨fun q => absurd q (by omega), fun q => absurd q (by omega), fun q => absurd q (by omega), fun q => ⟨ok_O hr.1 (by decide), m_worlds h.2.1.1 ?_⟩, fun q => absurd q (by omega), fun q => absurd q (by omega), fun q => absurd q (by omega)⟩
    exact h2 S jj
  · refine ⟨fun q => absurd q (by omega), fun q => absurd q (by omega), fun q => absurd q (by omega), fun q => absurd q (by omega), fun q => ⟨ok_O hr.1 (by decide), ?_⟩, fun q => absurd q (by omega), fun q => absurd q (by omega)⟩
    rw [hm.2.1]; exact h2 S jj
  · refine ⟨fun q => absurd q (by omega), fun q => absurd q (by omega), fun q => absurd q (by omega), fun q => absurd q (by omega), fun q => absurd q (by omega), fun q => ⟨ok_O hr.1 (by decide), ?_⟩, fun q => absurd q (by omega)⟩
    rw [hm.2.2.1]; exact h2 S jj
  · exact ⟨fun q => absurd q (by omega), fun q => absurd q (by omega), fun q => absurd q (by omega), fun q => absurd q (by omega), fun q => absurd q (by omega), fun q => absurd q (by omega), fun q => ⟨5, lm_shc hr (h2 S jj) 5 0 (by omega) (by omega)⟩⟩
