theorem r29k : ∀ k, k < 3 → rt 29 k = 30 + 15 * k := by decide
theorem rS29 {S : St} (hr : RT S) {k : Nat} (hk : k < 3) : sR S 29 k = 30 + 15 * k := by
  have h := r29k k hk
  rw [hr.2 29 k (by omega), h]
theorem bo2 : BO 2 := Or.inl rfl
theorem bok {k : Nat} (hk : k < 3) : BO (30 + 15 * k) := by unfold BO; omega
theorem vn1 : vp_nar .boolean 1 = 1 := rfl
theorem vn0 : vp_nar .boolean 0 = 0 := rfl
def Q34 (k : Nat) : Prop := k = 123 ∨ k = 124
theorem l_i111 {S T0 : St} {β : Nat → Nat → Nat} {k : Nat} {K : Int32 → St → Prop} (hib : IB T0 β) (hk : k < 3) (hK : ∀ T, Ex (fun k => k = 124) T0 T → PK S T k β 164 → wX9_image_149 K 108 (nI (200 * k)) T) :
    ∀ (n w : Nat) (T : St), w ≤ 8 → 8 - w < n → Ex (fun k => k = 124) T0 T → PK S T k β (156 + w) → wX9_image_111 K n 108 (nI (200 * k)) (nI w) T
  | 0, w, T, _, h, _, _ => absurd h (by omega)
  | n + 1, w, T, hw, hn, hE, hP => by
    have hr := hE.rt hib.1
    have ih := l_i111 hib hk hK n
    rw [wX9_image_111, show (8 : Int32) = nI 8 from rfl, ple (by omega) (by omega)]
    refine ⟨fun c => ?_, fun c => ?_⟩
    · rw [show w = 8 by omega] at hP; exact hK T hE hP
    · have e0 : (sI T 114 w = 0) = ((β 0 3).testBit w = false) := by rw [hE.i (by omega)]; exact isw hib (by omega)
      have tw := tg_w (β := β) (w := w) (by omega)
      have go : ∀ x : Int32, x = tg β (156 + w) → wX9_image_142 K (wX9_image_111 K n) 108 (nI (200 * k)) (nI w) 124 (nI (200 * k) + 156 + nI w) x T := fun x hx => by
        unfold wX9_image_142
        rw [show (156 : Int32) = nI 156 from rfl, nI_add, nI_add, pcl (by omega), Nat.add_assoc]
        refine ⟨ok_A (N := 600) hr.1 (by decide) (by omega) (by decide), fun T2 e2 y ey => ?_⟩
        rw [ey, nI_1]
        refine ih (w + 1) T2 (by omega) (by omega) (by rw [e2]; exact hE.pI rfl) ?_
        rw [e2]
        exact hP.p (by omega) hx
      rw [rt108_22 hr, rt108_9 hr, pcl (by omega), e0]
      refine ⟨⟨ok_O hr.1 (by decide), by decide⟩, by decide, ok_A (N := 8) hr.1 (by decide) (by omega) (by decide), fun b => go 0 ?_, fun b => go 1 ?_⟩
      · rw [tw, if_neg (by rw [b]; decide)]
      · rw [tw, if_pos (tb_eq b)]
theorem s_image {S : St} {β : Nat → Nat → Nat} {x : Int32} {K : Int32 → St → Prop} (h : INV S β) (hK : ∀ r S1, RT S1 → (∀ K2 : Int32 → St → Prop, (∀ S2, J S2 → K2 r S2) → wX9_image S1 108 x K2) → K r S1) : wX8_image S 1 x K := by
  have hr := h.1.1.1
  refine w_within (m := 3) (by decide) (fun k hk ek => ⟨fun q => absurd q (by decide), fun _ => ?_⟩) (fun nk => ⟨fun _ => w_no h (by decide) hK (fun S1 K2 h1 k => m_in (N := 3) (by decide) rfl (fun k hk ek => absurd ek (nk k hk)) (fun _ => ⟨fun _ => ⟨ok_O h1.2.1.1.1.1 (by decide), k⟩, fun q => absurd rfl q⟩)), fun q => absurd rfl q⟩)
  rw [rt1_3 hr, rt1_0 hr, ek, pcl (by omega), rS29 hr hk]
  refine ⟨⟨ok_O hr.1 (by decide), by decide⟩, ⟨ok_A (N := 3) hr.1 (by decide) (by omega) (by decide), by omega⟩, by decide, (bok hk).o hr, w_copy (bok hk) bo2 (by omega) hr h.1.1.2.1 (fun S1 hE1 hC1 => ?_)⟩
  have hr1 := hE1.rt hr
  rw [rt1_4 hr1, vn1]
  refine ⟨⟨ok_O hr1.1 (by decide), by decide⟩, ok_A (N := 3) hr1.1 (by decide) (by omega) (by decide), fun S2 e2 => ?_⟩
  have hr2 : RT S2 := by rw [e2]; exact hr1
  have hE2 : Ex (fun q => PB (30 + 15 * k) q ∨ q = 75) S S2 := by
    rw [e2]
    exact Ex.pI (P := fun q => PB (30 + 15 * k) q ∨ q = 75) (hE1.mo (fun q hq => Or.inl hq)) (Or.inr rfl)
  refine ⟨ok_O hr2.1 (by decide), w_acc hr2 (fun S3 hE3 st fl => hK _ S3 (hE3.rt hr2) (fun K2 h2 => ?_))⟩
  have hf2 := Fr.of hE2 hr
  have hf3 := Fr.of hE3 hr2
  have hr3 := hf3.1
  have cs3 : CS S3 β (nch β) (chl β) := CS.acc (h.1.1.ex hE2 (fun q hq => by unfold PB at hq; omega)) (h.1.2.2.ex hE2 (fun q hq => by unfold PB at hq; omega)) hE3 fl
  have im3 : IM S3 β := (h.2.1.fr hf2 (fun q hq => by unfold PB at hq; omega)).fr hf3 (fun q hq => by omega)
  have sh3 : SH S3 := (h.2.2.2.1.fr hf2 (fun q hq => by unfold PB at hq; omega)).fr hf3 (fun q hq => by omega)
  have imT : ∀ {T : St}, Ex Q34 S3 T → IM T β := fun {T} hE => im3.fr (Fr.of hE hr3) (fun q hq => by unfold Q34 at hq; omega)
  have row : ∀ {T : St}, Ex Q34 S3 T → ∀ f, f < 5 → ∀ i, i < 12 → sI T (109 + f) i = tg β (12 * f + i) := fun {T} hE f hf i hi => by
    rw [tg_r hf hi]; exact (imT hE).1.2.2.2.2.2.1 f hf i hi
  have rowc : ∀ {T : St}, Ex Q34 S3 T → ∀ j, j < 96 → sI T 115 j = tg β (60 + j) := fun {T} hE j hj => by
    have q := (imT hE).1.2.2.2.2.2.2.2 (j / 12) (by omega) (j % 12) (by omega)
    have q2 := tg_c (β := β) (w := j / 12) (i := j % 12) (by omega) (by omega)
    rw [show 12 * (j / 12) + j % 12 = j by omega] at q q2
    rw [q, q2]
  refine m_in (N := 3) (by decide) rfl (fun _ _ _ => ⟨fun q => absurd q (by decide), fun _ x2 ex2 => ?_⟩) (fun n => absurd ek (n k hk))
  rw [ek, show (200 : Int32) = nI 200 from rfl, pk_mul] at ex2
  rw [ek, ex2, rt108_21 hr3, pcl (by omega), vn1, show (12 : Int32) = nI 12 from rfl, show (24 : Int32) = nI 24 from rfl, show (36 : Int32) = nI 36 from rfl, show (48 : Int32) = nI 48 from rfl, show (60 : Int32) = nI 60 from rfl, show (96 : Int32) = nI 96 from rfl, nI_add, nI_add, nI_add, nI_add, nI_add]
  refine ⟨⟨ok_O hr3.1 (by decide), by decide⟩, ok_A (N := 3) hr3.1 (by decide) (by omega) (by decide), fun S4 e4 => ?_⟩
  have hr4 : RT S4 := by rw [e4]; exact hr3
  have E4 : Ex Q34 S3 S4 := by rw [e4]; exact Ex.pI (P := Q34) Ex.rf (Or.inl rfl)
  have p4 : PK S3 S4 k β 0 := ⟨fun j hj => absurd hj (by omega), fun j hj => by rw [e4, sI_o (by decide)]⟩
  have m34 : ∀ q, q = 124 → Q34 q := fun q hq => Or.inr hq
  rw [rt108_4 hr4]
  refine ⟨⟨ok_O hr4.1 (by decide), by decide⟩, p4.k (N := 12) hr4 hk (by decide) (by decide) (by decide) (by decide) (by decide) (fun i hi => by rw [show 0 + i = 12 * 0 + i by omega]; exact row E4 0 (by decide) i hi) (fun S5 hE5 p5 => ?_)⟩
  have E5 := E4.tr (hE5.mo m34)
  have hr5 := E5.rt hr3
  rw [rt108_5 hr5]
  refine ⟨⟨ok_O hr5.1 (by decide), by decide⟩, p5.k (N := 12) hr5 hk (by decide) (by decide) (by decide) (by decide) (by decide) (fun i hi => row E5 1 (by decide) i hi) (fun S6 hE6 p6 => ?_)⟩
  have E6 := E5.tr (hE6.mo m34)
  have hr6 := E6.rt hr3
  rw [rt108_6 hr6]
  refine ⟨⟨ok_O hr6.1 (by decide), by decide⟩, p6.k (N := 12) hr6 hk (by decide) (by decide) (by decide) (by decide) (by decide) (fun i hi => row E6 2 (by decide) i hi) (fun S7 hE7 p7 => ?_)⟩
  have E7 := E6.tr (hE7.mo m34)
  have hr7 := E7.rt hr3
  rw [rt108_7 hr7]
  refine ⟨⟨ok_O hr7.1 (by decide), by decide⟩, p7.k (N := 12) hr7 hk (by decide) (by decide) (by decide) (by decide) (by decide) (fun i hi => row E7 3 (by decide) i hi) (fun S8 hE8 p8 => ?_)⟩
  have E8 := E7.tr (hE8.mo m34)
  have hr8 := E8.rt hr3
  rw [rt108_8 hr8]
  refine ⟨⟨ok_O hr8.1 (by decide), by decide⟩, p8.k (N := 12) hr8 hk (by decide) (by decide) (by decide) (by decide) (by decide) (fun i hi => row E8 4 (by decide) i hi) (fun S9 hE9 p9 => ?_)⟩
  have E9 := E8.tr (hE9.mo m34)
  have hr9 := E9.rt hr3
  rw [rt108_10 hr9]
  refine ⟨⟨ok_O hr9.1 (by decide), by decide⟩, p9.k (N := 96) hr9 hk (by decide) (by decide) (by decide) (by decide) (by decide) (fun i hi => rowc E9 i hi) (fun Sa hEa pa => ?_)⟩
  have Ea := E9.tr (hEa.mo m34)
  have hra := Ea.rt hr3
  refine ⟨9, l_i111 (imT Ea).1 hk (fun Sb hEb pb => ?_) 9 0 Sa (by omega) (by omega) Ex.rf pa⟩
  have Eb := Ea.tr (hEb.mo m34)
  have hrb := Eb.rt hr3
  unfold wX9_image_149
  rw [rt108_22 hrb, show (164 : Int32) = nI 164 from rfl, show (165 : Int32) = nI 165 from rfl, show (166 : Int32) = nI 166 from rfl, nI_add, nI_add, nI_add, pcl (by omega), pcl (by omega), pcl (by omega), (imT Eb).1.2.2.1]
  refine ⟨⟨ok_O hrb.1 (by decide), by decide⟩, ok_A (N := 600) hrb.1 (by decide) (by omega) (by decide), fun Sc ec => ?_⟩
  have Ec : Ex Q34 S3 Sc := by rw [ec]; exact Eb.pI (Or.inr rfl)
  have hrc := Ec.rt hr3
  have pc : PK S3 Sc k β 165 := by rw [ec]; exact pb.p (by omega) (tg_f (j := 0)).symm
  rw [rt108_22 hrc, (imT Ec).1.2.2.2.1]
  refine ⟨⟨ok_O hrc.1 (by decide), by decide⟩, ok_A (N := 600) hrc.1 (by decide) (by omega) (by decide), fun Sd ed => ?_⟩
  have Ed : Ex Q34 S3 Sd := by rw [ed]; exact Ec.pI (Or.inr rfl)
  have hrd := Ed.rt hr3
  have pd : PK S3 Sd k β 166 := by rw [ed]; exact pc.p (by omega) (tg_f (j := 1)).symm
  rw [rt108_22 hrd, (imT Ed).1.2.2.2.2.1]
  refine ⟨⟨ok_O hrd.1 (by decide), by decide⟩, ok_A (N := 600) hrd.1 (by decide) (by omega) (by decide), fun Se ee => ?_⟩
  have Ee : Ex Q34 S3 Se := by rw [ee]; exact Ed.pI (Or.inr rfl)
  have hre := Ee.rt hr3
  have pe : PK S3 Se k β 167 := by rw [ee]; exact pd.p (by omega) (tg_f (j := 2)).symm
  have hfe := Fr.of Ee hr3
  have E4e : Ex (fun q => q = 124) S4 Se := by
    rw [ee, ed, ec]
    exact ((((((((hE5.tr hE6).tr hE7).tr hE8).tr hE9).tr hEa).tr hEb).pI rfl).pI rfl).pI rfl
  have E0 : Ex (fun q => PB (30 + 15 * k) q ∨ q = 75 ∨ q = 1 ∨ q = 76 ∨ q = 123 ∨ q = 124) S Se := ((hE2.mo (fun q hq => by unfold PB at hq ⊢; omega)).tr (hE3.mo (fun q hq => by unfold PB; omega))).tr (Ee.mo (fun q hq => by unfold Q34 at hq; unfold PB; omega))
  have v75 : ∀ q, sI Se 75 q = if q = k then 1 else sI S 75 q := fun q => by
    rw [Ee.i (by unfold Q34; omega), hE3.i (by omega), e2]
    by_cases c : q = k
    · rw [if_pos c, c, sI_s]
    · rw [if_neg c, sI_n c, hE1.i (by unfold PB; omega)]
  have v123 : ∀ q, sI Se 123 q = if q = k then 1 else sI S 123 q := fun q => by
    rw [E4e.i (by omega), e4]
    by_cases c : q = k
    · rw [if_pos c, c, sI_s]
    · rw [if_neg c, sI_n c, hE3.i (by omega), hE2.i (by unfold PB; omega)]
  have kp : KP Se := by
    intro q hq
    rw [v75, v123]
    by_cases c : q = k
    · rw [if_pos c, if_pos c, c]
      refine Or.inr ⟨rfl, rfl, β, h.1.1.2.2.1, h.N.2, ?_, pe.ki⟩
      have c2 : CB S2 (30 + 15 * k) β := by
        rw [e2]
        exact hC1.ex (Ex.pI (P := fun q => q = 75) Ex.rf rfl) (fun q hq => by omega)
      exact (c2.ex hE3 (fun q hq => by omega)).ex Ee (fun q hq => by unfold Q34 at hq; omega)
    · rw [if_neg c, if_neg c]
      rcases h.2.2.1 q hq with z | ⟨a, b, γ, d1, d2, d3, d4⟩
      · exact Or.inl z
      · refine Or.inr ⟨a, b, γ, d1, d2, d3.ex E0 (fun j hj => by unfold PB at hj; omega), d4.o c (fun j hj => ?_)⟩
        rw [pe.2 j hj, hE3.i (by omega), hE2.i (by unfold PB; omega)]
  exact ⟨ok_O hre.1 (by decide), m_end (y := 0) ⟨cs3.ex Ee (fun q hq => by unfold Q34 at hq; omega), imT Ee, kp, sh3.fr hfe (fun q hq => by unfold Q34 at hq; omega)⟩ (by rw [Ee.i (by unfold Q34; omega)]; exact st) (by rw [if_pos (by decide)]) h2⟩
-- back
theorem l_b120 {T0 : St} {γ : Nat → Nat → Nat} {k : Nat} {K : Int32 → St → Prop} (hr0 : RT T0) (hk : k < 3) (hi : KI T0 k γ) (hK : ∀ T, Ex (fun k => k = 114) T0 T → (∀ q, q < 8 → sI T 114 q = if (γ 0 3).testBit q then 1 else 0) → wX9_back_159 K 108 (nI (200 * k)) T) :
    ∀ (n w : Nat) (T : St), w ≤ 8 → 8 - w < n → Ex (fun k => k = 114) T0 T → (∀ q, q < w → sI T 114 q = if (γ 0 3).testBit q then 1 else 0) → wX9_back_120 K n 108 (nI (200 * k)) (nI w) T
  | 0, w, T, _, h, _, _ => absurd h (by omega)
  | n + 1, w, T, hw, hn, hE, hI => by
    have hr := hE.rt hr0
    have ih := l_b120 hr0 hk hi hK n
    rw [wX9_back_120, show (8 : Int32) = nI 8 from rfl, ple (by omega) (by omega)]
    refine ⟨fun c => ?_, fun c => ?_⟩
    · rw [show w = 8 by omega] at hI; exact hK T hE hI
    · have e1 : sI T 124 (200 * k + 156 + w) = if (γ 0 3).testBit w then 1 else 0 := by rw [hE.i (by omega)]; exact hi.2.2.1 w (by omega)
      have go : ∀ x : Int32, vp_nar .boolean x = (if (γ 0 3).testBit w then 1 else 0) → wX9_back_152 K (wX9_back_120 K n) 108 (nI (200 * k)) (nI w) 114 (nI w) x T := fun x hx => by
        unfold wX9_back_152
        rw [hx, pcl (by omega)]
        refine ⟨ok_A (N := 8) hr.1 (by decide) (by omega) (by decide), fun T2 e2 y ey => ?_⟩
        rw [ey, nI_1]
        refine ih (w + 1) T2 (by omega) (by omega) (by rw [e2]; exact hE.pI rfl) (fun q hq => ?_)
        by_cases e : q = w
        · rw [e2, e, sI_s]
        · rw [e2, sI_n e]; exact hI q (by omega)
      rw [rt108_22 hr, rt108_9 hr, show (156 : Int32) = nI 156 from rfl, nI_add, nI_add, pcl (by omega), e1]
      refine ⟨⟨ok_O hr.1 (by decide), by decide⟩, by decide, ok_A (N := 600) hr.1 (by decide) (by omega) (by decide), fun b => go 1 ?_, fun b => go 0 ?_⟩
      · cases hb : (γ 0 3).testBit w with
        | true => rfl
        | false => rw [hb] at b; exact absurd b (by decide)
      · cases hb : (γ 0 3).testBit w with
        | true => rw [hb] at b; exact absurd rfl b
        | false => rfl
theorem m_br {S : St} {a row n N : Nat} {K : St → Prop} (hr : RT S) (hw : 1 ≤ row ∧ row ≤ 124 ∧ kc row = 10 ∧ ln row = N) (hne : row ≠ 124) (hn : n ≤ N) (hN : N < 1000) (ha : a + n ≤ 600) (hK : ∀ S1, Ex (fun k => k = row) S S1 → (∀ i, i < n → sI S1 row i = sI S 124 (a + i)) → K S1) : wX9_brings S 108 (nI a) row (nI n) K :=
  ⟨n + 1, l_brings hr hw hne hn hN ha hK (n + 1) 0 S (by omega) (by omega) Ex.rf (fun q hq => absurd hq (by omega))⟩
def Q09 (k : Nat) : Prop := 109 ≤ k ∧ k ≤ 115
theorem s_back {S : St} {β : Nat → Nat → Nat} {x : Int32} {K : Int32 → St → Prop} (h : INV S β) (hK : ∀ r S1, RT S1 → (∀ K2 : Int32 → St → Prop, (∀ S2, J S2 → K2 r S2) → wX9_back S1 108 x K2) → K r S1) : wX8_back S 1 x K := by
  have hr := h.1.1.1
  refine w_within (m := 3) (by decide) (fun k hk ek => ⟨fun q => absurd q (by decide), fun _ => ?_⟩) (fun nk => ⟨fun _ => w_no h (by decide) hK (fun S1 K2 h1 k => m_in (N := 3) (by decide) rfl (fun k hk ek => absurd ek (nk k hk)) (fun _ => ⟨fun _ => ⟨ok_O h1.2.1.1.1.1 (by decide), k⟩, fun q => absurd rfl q⟩)), fun q => absurd rfl q⟩)
  rw [rt1_4 hr, rt1_3 hr, rt1_0 hr, ek, pcl (by omega), rS29 hr hk]
  rcases h.2.2.1 k hk with ⟨z1, z2⟩ | ⟨a, b, γ, d1, d2, d3, d4⟩
  · refine ⟨⟨ok_O hr.1 (by decide), by decide⟩, ok_A (N := 3) hr.1 (by decide) (by omega) (by decide), fun _ => (w_noE h (by decide) hK (fun S1 K2 hE h1 kk => m_in (N := 3) (by decide) rfl (fun _ _ _ => ⟨fun q => absurd q (by decide), fun _ => ?_⟩) (fun n => absurd ek (n k hk)))).2, fun q => absurd z1 q⟩
    have hr1 := h1.2.1.1.1
    rw [ek, rt108_21 hr1, pcl (by omega), hE.i (by omega), z2]
    exact ⟨⟨ok_O hr1.1 (by decide), by decide⟩, ok_A (N := 3) hr1.1 (by decide) (by omega) (by decide), fun _ => kk, fun q => absurd rfl q⟩
  · refine ⟨⟨ok_O hr.1 (by decide), by decide⟩, ok_A (N := 3) hr.1 (by decide) (by omega) (by decide), fun q => absurd (a.symm.trans q) (by decide), fun _ => ⟨by decide, by decide, ⟨ok_A (N := 3) hr.1 (by decide) (by omega) (by decide), by omega⟩, ok_O hr.1 (by decide), w_copy bo2 (bok hk) (by omega) hr d3 (fun S1 hE1 hC1 => ?_)⟩⟩
    have hr1 := hE1.rt hr
    have hE1' : Ex P2 S S1 := hE1.mo (fun q hq => by unfold PB at hq; unfold P2; omega)
    have hbb : BB S1 γ := ⟨hr1, hC1, d1⟩
    have hcr : CR S1 := by unfold CR; rw [hE1.r, hE1.r]; exact h.1.1.2.2.2.2.2.1
    rw [rt1_1 hr1, rt1_0 hr1]
    refine ⟨⟨ok_O hr1.1 (by decide), by decide⟩, by decide, ok_O hr1.1 (by decide), w_relist hbb hcr (fun hle S2 hF hcr2 hN2 hl2 => ?_) (fun hgt => absurd d2 (by omega))⟩
    have hr2 := hF.1
    refine ⟨ok_O hr2.1 (by decide), w_acc hr2 (fun S3 hE3 st fl => hK _ S3 (hE3.rt hr2) (fun K2 h2 => ?_))⟩
    have h3 := h.md.acc2 hE1' hbb hle hF hcr2 hN2 hl2 hE3 fl
    have hr3 := h3.2.1.1.1
    have k3 : KI S3 k γ := d4.fr (((hE3.2.2 124 (by omega)).trans (hF.2 124 (by unfold P17; omega))).trans (hE1.2.2 124 (by unfold PB; omega)))
    have kT : ∀ {T : St}, Ex Q09 S3 T → KI T k γ := fun {T} hE => k3.fr (hE.2.2 124 (by unfold Q09; omega))
    have b3 : sI S3 123 k = 1 := by rw [hE3.i (by omega), hF.i (by unfold P17; omega), hE1.i (by unfold PB; omega)]; exact b
    refine m_in (N := 3) (by decide) rfl (fun _ _ _ => ⟨fun q => absurd q (by decide), fun _ => ?_⟩) (fun n => absurd ek (n k hk))
    rw [ek, rt108_21 hr3, pcl (by omega), b3, show (12 : Int32) = nI 12 from rfl, show (24 : Int32) = nI 24 from rfl, show (36 : Int32) = nI 36 from rfl, show (48 : Int32) = nI 48 from rfl, show (60 : Int32) = nI 60 from rfl, show (96 : Int32) = nI 96 from rfl, show (200 : Int32) = nI 200 from rfl, pk_mul]
    refine ⟨⟨ok_O hr3.1 (by decide), by decide⟩, ok_A (N := 3) hr3.1 (by decide) (by omega) (by decide), fun q => absurd q (by decide), fun _ x2 ex2 => ?_⟩
    rw [ex2, nI_add, nI_add, nI_add, nI_add, nI_add, rt108_4 hr3]
    refine ⟨by decide, m_br (N := 12) hr3 (by decide) (by decide) (by decide) (by decide) (by omega) (fun T1 f1 v1 => ?_)⟩
    have E1 : Ex Q09 S3 T1 := f1.mo (fun q hq => by unfold Q09; omega)
    have g1 := E1.rt hr3
    rw [rt108_5 g1]
    refine ⟨⟨ok_O g1.1 (by decide), by decide⟩, m_br (N := 12) g1 (by decide) (by decide) (by decide) (by decide) (by omega) (fun T2 f2 v2 => ?_)⟩
    have E2 : Ex Q09 S3 T2 := E1.tr (f2.mo (fun q hq => by unfold Q09; omega))
    have g2 := E2.rt hr3
    rw [rt108_6 g2]
    refine ⟨⟨ok_O g2.1 (by decide), by decide⟩, m_br (N := 12) g2 (by decide) (by decide) (by decide) (by decide) (by omega) (fun T3 f3 v3 => ?_)⟩
    have E3 : Ex Q09 S3 T3 := E2.tr (f3.mo (fun q hq => by unfold Q09; omega))
    have g3 := E3.rt hr3
    rw [rt108_7 g3]
    refine ⟨⟨ok_O g3.1 (by decide), by decide⟩, m_br (N := 12) g3 (by decide) (by decide) (by decide) (by decide) (by omega) (fun T4 f4 v4 => ?_)⟩
    have E4 : Ex Q09 S3 T4 := E3.tr (f4.mo (fun q hq => by unfold Q09; omega))
    have g4 := E4.rt hr3
    rw [rt108_8 g4]
    refine ⟨⟨ok_O g4.1 (by decide), by decide⟩, m_br (N := 12) g4 (by decide) (by decide) (by decide) (by decide) (by omega) (fun T5 f5 v5 => ?_)⟩
    have E5 : Ex Q09 S3 T5 := E4.tr (f5.mo (fun q hq => by unfold Q09; omega))
    have g5 := E5.rt hr3
    rw [rt108_10 g5]
    refine ⟨⟨ok_O g5.1 (by decide), by decide⟩, m_br (N := 96) g5 (by decide) (by decide) (by decide) (by decide) (by omega) (fun T6 f6 v6 => ?_)⟩
    have E6 : Ex Q09 S3 T6 := E5.tr (f6.mo (fun q hq => by unfold Q09; omega))
    have g6 := E6.rt hr3
    refine ⟨9, l_b120 g6 hk (kT E6) (fun T7 f7 w7 => ?_) 9 0 T6 (by omega) (by omega) Ex.rf (fun q hq => absurd hq (by omega))⟩
    have E7 : Ex Q09 S3 T7 := E6.tr (f7.mo (fun q hq => by unfold Q09; omega))
    have g7 := E7.rt hr3
    obtain ⟨_, _, _, q1, q2, q3⟩ := kT E7
    unfold wX9_back_159
    rw [rt108_22 g7, show (164 : Int32) = nI 164 from rfl, show (165 : Int32) = nI 165 from rfl, show (166 : Int32) = nI 166 from rfl, nI_add, nI_add, nI_add, pcl (by omega), pcl (by omega), pcl (by omega), q1]
    refine ⟨⟨ok_O g7.1 (by decide), by decide⟩, ok_A (N := 600) g7.1 (by decide) (by omega) (by decide), fun T8 e8 => ?_⟩
    have g8 : RT T8 := by rw [e8]; exact g7
    rw [rt108_22 g8, show sI T8 124 (200 * k + 165) = nI (γ 0 1) by rw [e8, sI_o (by decide)]; exact q2]
    refine ⟨⟨ok_O g8.1 (by decide), by decide⟩, ok_A (N := 600) g8.1 (by decide) (by omega) (by decide), fun T9 e9 => ?_⟩
    have g9 : RT T9 := by rw [e9]; exact g8
    rw [rt108_22 g9, show sI T9 124 (200 * k + 166) = nI (γ 0 2) by rw [e9, sI_o (by decide), e8, sI_o (by decide)]; exact q3]
    refine ⟨⟨ok_O g9.1 (by decide), by decide⟩, ok_A (N := 600) g9.1 (by decide) (by omega) (by decide), fun Tx ex => ?_⟩
    have gx : RT Tx := by rw [ex]; exact g9
    have E8x : Ex (fun q => q = 108) T7 Tx := by
      rw [ex, e9, e8]
      exact Ex.pI (P := fun q => q = 108) (Ex.pI (P := fun q => q = 108) (Ex.pI (P := fun q => q = 108) Ex.rf rfl) rfl) rfl
    have Ex3 : Ex P108 S3 Tx := (E7.mo (fun q hq => by unfold Q09 at hq; unfold P108; omega)).tr (E8x.mo (fun q hq => by unfold P108; omega))
    have hib : IB Tx γ := by
      refine ⟨gx, d1, ?_, ?_, ?_, fun f hf i hi => ?_, fun w hw => ?_, fun w hw i hi => ?_⟩
      · rw [ex, sI_n (by decide), e9, sI_n (by decide), e8, sI_s]
      · rw [ex, sI_n (by decide), e9, sI_s]
      · rw [ex, sI_s]
      · rw [E8x.i (by omega), f7.i (by omega), f6.i (by omega)]
        match f, hf with
        | 0, _ =>
          rw [f5.i (by omega), f4.i (by omega), f3.i (by omega), f2.i (by omega)]
          exact (v1 i hi).trans (k3.1 0 (by decide) i hi)
        | 1, _ =>
          rw [f5.i (by omega), f4.i (by omega), f3.i (by omega)]
          exact (v2 i hi).trans ((kT E1).1 1 (by decide) i hi)
        | 2, _ =>
          rw [f5.i (by omega), f4.i (by omega)]
          exact (v3 i hi).trans ((kT E2).1 2 (by decide) i hi)
        | 3, _ =>
          rw [f5.i (by omega)]
          exact (v4 i hi).trans ((kT E3).1 3 (by decide) i hi)
        | 4, _ => exact (v5 i hi).trans ((kT E4).1 4 (by decide) i hi)
        | q + 5, hq => exact absurd hq (by omega)
      · rw [E8x.i (by omega)]; exact w7 w hw
      · rw [E8x.i (by omega), f7.i (by omega), v6 _ (by omega), show 200 * k + 60 + (12 * w + i) = 200 * k + 60 + 12 * w + i by omega]
        exact (kT E5).2.1 w hw i hi
    refine ⟨ok_O gx.1 (by decide), m_gathers hib (fun _ Ty hEy hj hm => ?_) (fun hgt => absurd d2 (by omega))⟩
    exact m_ok h3 st (Ex3.tr (hEy.mo (fun q hq => by unfold P108; omega))) ⟨hib.g hEy hj, d2, hm⟩ (by decide) h2
