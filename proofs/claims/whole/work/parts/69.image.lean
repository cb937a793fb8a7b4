def BO (o : Nat) : Prop := o = 2 ∨ o = 30 ∨ o = 45 ∨ o = 60
theorem BO.f {o : Nat} (h : BO o) : (1 ≤ o ∧ o ≤ 124 ∧ kc o = 0) ∧ (∀ f, f < 5 → rt o (4 + f) = o + 1 + f ∧ kc (o + 1 + f) = 10 ∧ ln (o + 1 + f) = 12) ∧ (rt o 9 = o + 6 ∧ kc (o + 6) = 14 ∧ ln (o + 6) = 8) ∧ ∀ w, w < 8 → rt (o + 6) w = o + 7 + w ∧ kc (o + 7 + w) = 10 ∧ ln (o + 7 + w) = 12 := by
  rcases h with rfl | rfl | rfl | rfl <;> decide
theorem BO.le {o : Nat} (h : BO o) : 2 ≤ o ∧ o ≤ 60 := by unfold BO at h; omega
theorem BO.far {o a : Nat} (h : BO o) (g : BO a) (hn : o ≠ a) : o + 14 < a ∨ a + 14 < o := by unfold BO at h g; omega
theorem BO.rf {S : St} {o f : Nat} (h : BO o) (hr : RT S) (hf : f < 5) : sR S o (4 + f) = o + 1 + f := by
  have e := (h.f.2.1 f hf).1
  rw [hr.2 o (4 + f) (by omega), e]
theorem BO.r9 {S : St} {o : Nat} (h : BO o) (hr : RT S) : sR S o 9 = o + 6 := by
  have e := h.f.2.2.1.1
  rw [hr.2 o 9 (by omega), e]
theorem BO.rw {S : St} {o w : Nat} (h : BO o) (hr : RT S) (hw : w < 8) : sR S (o + 6) w = o + 7 + w := by
  have e := (h.f.2.2.2 w hw).1
  rw [hr.2 (o + 6) w (by omega), e]
theorem BO.o {S : St} {o : Nat} (h : BO o) (hr : RT S) : okO S 0 o := ok_O hr.1 h.f.1
theorem BO.zr {o f : Nat} (h : BO o) (hf : f < 5) : 1 ≤ o + 1 + f ∧ o + 1 + f ≤ 124 ∧ kc (o + 1 + f) = 10 ∧ ln (o + 1 + f) = 12 := ⟨by omega, by have := h.le; omega, (h.f.2.1 f hf).2.1, (h.f.2.1 f hf).2.2⟩
theorem BO.zw {o w : Nat} (h : BO o) (hw : w < 8) : 1 ≤ o + 7 + w ∧ o + 7 + w ≤ 124 ∧ kc (o + 7 + w) = 10 ∧ ln (o + 7 + w) = 12 := ⟨by omega, by have := h.le; omega, (h.f.2.2.2 w hw).2.1, (h.f.2.2.2 w hw).2.2⟩
theorem BO.a6 {S : St} {o w : Nat} (h : BO o) (hr : RT S) (hw : w < 8) : okA S 14 (o + 6) (nI w) := ok_A (N := 8) hr.1 ⟨by omega, by have := h.le; omega, h.f.2.2.1.2.1, h.f.2.2.1.2.2⟩ hw (by decide)
theorem ok_cp {S : St} {a b : Nat} (h : S.1 = 124) (ha : 1 ≤ a ∧ a ≤ 124 ∧ kc a = 10 ∧ ln a = 12) (hb : 1 ≤ b ∧ b ≤ 124 ∧ kc b = 10 ∧ ln b = 12) : okCp S a 0 b 0 12 := by
  refine ⟨ok_O h ⟨ha.1, ha.2.1, ha.2.2.1⟩, ok_O h ⟨hb.1, hb.2.1, hb.2.2.1⟩, by decide, by decide, by decide, ?_, ?_⟩
  · rw [ha.2.2.2]; decide
  · rw [hb.2.2.2]; decide
theorem cp_s {S : St} {a b i : Nat} (hi : i < 12) : sI (pCp S a 0 b 0 12) b i = sI S a i := by
  have z0 : (0 : Int32).toNatClampNeg = 0 := by decide
  have z12 : (12 : Int32).toNatClampNeg = 12 := by decide
  unfold pCp
  rw [sI_pA, z0, z12]
  unfold va_cpy
  rw [if_pos (by omega), Nat.zero_add, Nat.sub_zero]
theorem Ex.pCp {P : Nat → Prop} {S S1 : St} {a b : Nat} (h : Ex P S S1) (hb : P b) : Ex P S (pCp S1 a 0 b 0 12) := h.pA hb
theorem cp_o {S : St} {a b k : Nat} (h : k ≠ b) (j : Nat) : sI (pCp S a 0 b 0 12) k j = sI S k j := (Ex.pCp (P := fun k => k = b) Ex.rf rfl).i h j
def PC (S : St) (o : Nat) (γ : Nat → Nat → Nat) (m r : Nat) : Prop := (∀ j, j < m → sI S o j = nI (γ 0 j)) ∧ ∀ f, f < r → ∀ i, i < 12 → sI S (o + 1 + f) i = nI (γ (1 + f) i)
theorem PC.f {S : St} {o m : Nat} {γ : Nat → Nat → Nat} (h : PC S o γ m 0) : PC (pI S o m (nI (γ 0 m))) o γ (m + 1) 0 := by
  refine ⟨fun j hj => ?_, fun f hf => absurd hf (by omega)⟩
  by_cases e : j = m
  · rw [e, sI_s]
  · rw [sI_n e]; exact h.1 j (by omega)
theorem PC.r {S : St} {o m r a : Nat} {γ : Nat → Nat → Nat} (h : PC S o γ m r) (ha : ∀ i, i < 12 → sI S a i = nI (γ (1 + r) i)) : PC (pCp S a 0 (o + 1 + r) 0 12) o γ m (r + 1) := by
  refine ⟨fun j hj => ?_, fun f hf i hi => ?_⟩
  · rw [cp_o (by omega)]; exact h.1 j hj
  · by_cases e : f = r
    · rw [e, cp_s hi]; exact ha i hi
    · rw [cp_o (by omega)]; exact h.2 f (by omega) i hi
def PB (o k : Nat) : Prop := o ≤ k ∧ k ≤ o + 14
theorem l_c109 {S : St} {o a : Nat} {γ : Nat → Nat → Nat} {K : St → Prop} (ho : BO o) (ha : BO a) (hn : o ≠ a) (hr : RT S) (hc : CB S a γ) (hp : PC S o γ 4 5) (hK : ∀ S1, Ex (PB o) S S1 → CB S1 o γ → K S1) :
    ∀ (n w : Nat) (S1 : St), w ≤ 8 → 8 - w < n → Ex (PB o) S S1 → PC S1 o γ 4 5 → (∀ q, q < w → ∀ i, i < 12 → sI S1 (o + 7 + q) i = nI (γ (6 + q) i)) → wX0_copyFrom_109 K n o a (nI w) S1
  | 0, w, S1, _, h, _, _, _ => absurd h (by omega)
  | n + 1, w, S1, hw, hm, hE, hP, hI => by
    have hr1 := hE.rt hr
    have far := ho.far ha hn
    have hc1 : CB S1 a γ := hc.ex hE (fun k hk => by unfold PB at hk; omega)
    rw [wX0_copyFrom_109, show (8 : Int32) = nI 8 from rfl, ple (by omega) (by omega)]
    refine ⟨fun c => hK S1 hE ⟨hP.1, hP.2, fun q hq => hI q (by omega)⟩, fun c => ?_⟩
    rw [ha.r9 hr1, ho.r9 hr1, pcl (by omega), ha.rw hr1 (by omega), ho.rw hr1 (by omega)]
    refine ⟨⟨ha.o hr1, by omega⟩, ⟨ha.a6 hr1 (by omega), by omega⟩, ⟨ho.o hr1, by omega⟩, ⟨ho.a6 hr1 (by omega), by omega⟩, ok_cp hr1.1 (ha.zw (by omega)) (ho.zw (by omega)), fun S2 e2 x ex => ?_⟩
    rw [ex, nI_1]
    refine l_c109 ho ha hn hr hc hp hK n (w + 1) S2 (by omega) (by omega) (by rw [e2]; exact hE.pCp (by unfold PB; omega)) ⟨fun j hj => ?_, fun f hf i hi => ?_⟩ (fun q hq i hi => ?_)
    · rw [e2, cp_o (by omega)]; exact hP.1 j hj
    · rw [e2, cp_o (by omega)]; exact hP.2 f hf i hi
    · by_cases e : q = w
      · rw [e2, e, cp_s hi]; exact hc1.2.2 w (by omega) i hi
      · rw [e2, cp_o (by omega)]; exact hI q (by omega) i hi
theorem w_copy {S : St} {o a : Nat} {γ : Nat → Nat → Nat} {K : St → Prop} (ho : BO o) (ha : BO a) (hn : o ≠ a) (hr : RT S) (hc : CB S a γ) (hK : ∀ S1, Ex (PB o) S S1 → CB S1 o γ → K S1) : wX0_copyFrom S o a K := by
  have far := ho.far ha hn
  have cc : ∀ {T : St}, Ex (PB o) S T → CB T a γ := fun {T} hE => hc.ex hE (fun k hk => by unfold PB at hk; omega)
  have ob : PB o o := by unfold PB; omega
  have rr : ∀ f, f < 5 → PB o (o + 1 + f) := fun f hf => by unfold PB; omega
  refine ⟨ha.o hr, ho.o hr, fun S1 e1 => ?_⟩
  rw [hc.1 0 (by decide)] at e1
  have hr1 : RT S1 := by rw [e1]; exact hr
  have E1 : Ex (PB o) S S1 := by rw [e1]; exact Ex.rf.pI ob
  have p1 : PC S1 o γ 1 0 := by rw [e1]; exact PC.f ⟨fun j hj => absurd hj (by omega), fun j hj => absurd hj (by omega)⟩
  refine ⟨ha.o hr1, ho.o hr1, fun S2 e2 => ?_⟩
  rw [(cc E1).1 1 (by decide)] at e2
  have hr2 : RT S2 := by rw [e2]; exact hr1
  have E2 : Ex (PB o) S S2 := by rw [e2]; exact E1.pI ob
  have p2 : PC S2 o γ 2 0 := by rw [e2]; exact p1.f
  refine ⟨ha.o hr2, ho.o hr2, fun S3 e3 => ?_⟩
  rw [(cc E2).1 2 (by decide)] at e3
  have hr3 : RT S3 := by rw [e3]; exact hr2
  have E3 : Ex (PB o) S S3 := by rw [e3]; exact E2.pI ob
  have p3 : PC S3 o γ 3 0 := by rw [e3]; exact p2.f
  refine ⟨ha.o hr3, ho.o hr3, fun S4 e4 => ?_⟩
  rw [(cc E3).1 3 (by decide)] at e4
  have hr4 : RT S4 := by rw [e4]; exact hr3
  have E4 : Ex (PB o) S S4 := by rw [e4]; exact E3.pI ob
  have p4 : PC S4 o γ 4 0 := by rw [e4]; exact p3.f
  have ra := fun {T : St} (h : RT T) f hf => ha.rf (f := f) h hf
  have ro := fun {T : St} (h : RT T) f hf => ho.rf (f := f) h hf
  rw [ra hr4 0 (by decide), ro hr4 0 (by decide)]
  refine ⟨⟨ha.o hr4, by omega⟩, ⟨ho.o hr4, by omega⟩, ok_cp hr4.1 (ha.zr (f := 0) (by decide)) (ho.zr (f := 0) (by decide)), fun S5 e5 => ?_⟩
  have E5 : Ex (PB o) S S5 := by rw [e5]; exact E4.pCp (rr 0 (by decide))
  have hr5 := E5.rt hr
  have p5 : PC S5 o γ 4 1 := by rw [e5]; exact p4.r ((cc E4).2.1 0 (by decide))
  rw [ra hr5 1 (by decide), ro hr5 1 (by decide)]
  refine ⟨⟨ha.o hr5, by omega⟩, ⟨ho.o hr5, by omega⟩, ok_cp hr5.1 (ha.zr (f := 1) (by decide)) (ho.zr (f := 1) (by decide)), fun S6 e6 => ?_⟩
  have E6 : Ex (PB o) S S6 := by rw [e6]; exact E5.pCp (rr 1 (by decide))
  have hr6 := E6.rt hr
  have p6 : PC S6 o γ 4 2 := by rw [e6]; exact p5.r ((cc E5).2.1 1 (by decide))
  rw [ra hr6 2 (by decide), ro hr6 2 (by decide)]
  refine ⟨⟨ha.o hr6, by omega⟩, ⟨ho.o hr6, by omega⟩, ok_cp hr6.1 (ha.zr (f := 2) (by decide)) (ho.zr (f := 2) (by decide)), fun S7 e7 => ?_⟩
  have E7 : Ex (PB o) S S7 := by rw [e7]; exact E6.pCp (rr 2 (by decide))
  have hr7 := E7.rt hr
  have p7 : PC S7 o γ 4 3 := by rw [e7]; exact p6.r ((cc E6).2.1 2 (by decide))
  rw [ra hr7 3 (by decide), ro hr7 3 (by decide)]
  refine ⟨⟨ha.o hr7, by omega⟩, ⟨ho.o hr7, by omega⟩, ok_cp hr7.1 (ha.zr (f := 3) (by decide)) (ho.zr (f := 3) (by decide)), fun S8 e8 => ?_⟩
  have E8 : Ex (PB o) S S8 := by rw [e8]; exact E7.pCp (rr 3 (by decide))
  have hr8 := E8.rt hr
  have p8 : PC S8 o γ 4 4 := by rw [e8]; exact p7.r ((cc E7).2.1 3 (by decide))
  rw [ra hr8 4 (by decide), ro hr8 4 (by decide)]
  refine ⟨⟨ha.o hr8, by omega⟩, ⟨ho.o hr8, by omega⟩, ok_cp hr8.1 (ha.zr (f := 4) (by decide)) (ho.zr (f := 4) (by decide)), fun S9 e9 => ?_⟩
  have E9 : Ex (PB o) S S9 := by rw [e9]; exact E8.pCp (rr 4 (by decide))
  have hr9 := E9.rt hr
  have p9 : PC S9 o γ 4 5 := by rw [e9]; exact p8.r ((cc E8).2.1 4 (by decide))
  exact ⟨9, l_c109 ho ha hn hr9 (cc E9) p9 (fun T hE hc => hK T (E9.tr hE) hc) 9 0 S9 (by omega) (by omega) Ex.rf p9 (fun q hq => absurd hq (by omega))⟩
-- the reference's keeping
theorem l_keeps {S : St} {a row n N : Nat} {K : St → Prop} (hr : RT S) (hw : 1 ≤ row ∧ row ≤ 124 ∧ kc row = 10 ∧ ln row = N) (hne : row ≠ 124) (hn : n ≤ N) (hN : N < 1000) (ha : a + n ≤ 600) (hK : ∀ S1, Ex (fun k => k = 124) S S1 → (∀ i, i < n → sI S1 124 (a + i) = sI S row i) → (∀ j, (j < a ∨ a + n ≤ j) → sI S1 124 j = sI S 124 j) → K S1) :
    ∀ (m i : Nat) (S1 : St), i ≤ n → n - i < m → Ex (fun k => k = 124) S S1 → (∀ q, q < i → sI S1 124 (a + q) = sI S row q) → (∀ j, (j < a ∨ a + n ≤ j) → sI S1 124 j = sI S 124 j) → wX9_keeps_3 K m 108 (nI a) row (nI n) (nI i) S1
  | 0, i, S1, _, h, _, _, _ => absurd h (by omega)
  | m + 1, i, S1, hi, hm, hE, hI, hO => by
    have hr1 := hE.rt hr
    rw [wX9_keeps_3, ple (by omega) (by omega)]
    refine ⟨fun c => hK S1 hE (fun q hq => hI q (by omega)) hO, fun c => ?_⟩
    rw [rt108_22 hr1, nI_add, pcl (by omega), pcl (by omega)]
    refine ⟨⟨ok_O hr1.1 (by decide), by decide⟩, ok_A hr1.1 hw (by omega) (by omega), ok_A (N := 600) hr1.1 (by decide) (by omega) (by decide), fun S2 e2 x ex => ?_⟩
    rw [ex, nI_1]
    rw [hE.i hne] at e2
    refine l_keeps hr hw hne hn hN ha hK m (i + 1) S2 (by omega) (by omega) (by rw [e2]; exact hE.pI rfl) (fun q hq => ?_) (fun j hj => ?_)
    · by_cases e : q = i
      · rw [e2, e, sI_s]
      · rw [e2, sI_n (by omega)]; exact hI q (by omega)
    · rw [e2, sI_n (by omega)]; exact hO j hj
theorem l_brings {S : St} {a row n N : Nat} {K : St → Prop} (hr : RT S) (hw : 1 ≤ row ∧ row ≤ 124 ∧ kc row = 10 ∧ ln row = N) (hne : row ≠ 124) (hn : n ≤ N) (hN : N < 1000) (ha : a + n ≤ 600) (hK : ∀ S1, Ex (fun k => k = row) S S1 → (∀ i, i < n → sI S1 row i = sI S 124 (a + i)) → K S1) :
    ∀ (m i : Nat) (S1 : St), i ≤ n → n - i < m → Ex (fun k => k = row) S S1 → (∀ q, q < i → sI S1 row q = sI S 124 (a + q)) → wX9_brings_3 K m 108 (nI a) row (nI n) (nI i) S1
  | 0, i, S1, _, h, _, _ => absurd h (by omega)
  | m + 1, i, S1, hi, hm, hE, hI => by
    have hr1 := hE.rt hr
    rw [wX9_brings_3, ple (by omega) (by omega)]
    refine ⟨fun c => hK S1 hE (fun q hq => hI q (by omega)), fun c => ?_⟩
    rw [rt108_22 hr1, nI_add, pcl (by omega), pcl (by omega)]
    refine ⟨⟨ok_O hr1.1 (by decide), by decide⟩, ok_A (N := 600) hr1.1 (by decide) (by omega) (by decide), ok_A hr1.1 hw (by omega) (by omega), fun S2 e2 x ex => ?_⟩
    rw [ex, nI_1]
    rw [hE.i (Ne.symm hne)] at e2
    refine l_brings hr hw hne hn hN ha hK m (i + 1) S2 (by omega) (by omega) (by rw [e2]; exact hE.pI rfl) (fun q hq => ?_)
    by_cases e : q = i
    · rw [e2, e, sI_s]
    · rw [e2, sI_n (by omega)]; exact hI q (by omega)
def tg (β : Nat → Nat → Nat) (j : Nat) : Int32 := if j < 60 then nI (β (1 + j / 12) (j % 12)) else if j < 156 then nI (β (6 + (j - 60) / 12) ((j - 60) % 12)) else if j < 164 then (if (β 0 3).testBit (j - 156) then 1 else 0) else nI (β 0 (j - 164))
def PK (S T : St) (k : Nat) (β : Nat → Nat → Nat) (m : Nat) : Prop := (∀ j, j < m → sI T 124 (200 * k + j) = tg β j) ∧ ∀ j, (j < 200 * k ∨ 200 * k + 167 ≤ j) → sI T 124 j = sI S 124 j
theorem PK.k {S T : St} {k m row n N : Nat} {β : Nat → Nat → Nat} {K : St → Prop} (h : PK S T k β m) (hr : RT T) (hk : k < 3) (hw : 1 ≤ row ∧ row ≤ 124 ∧ kc row = 10 ∧ ln row = N) (hne : row ≠ 124) (hn : n ≤ N) (hN : N < 1000) (hm : m + n ≤ 167) (hv : ∀ i, i < n → sI T row i = tg β (m + i)) (hK : ∀ S1, Ex (fun k => k = 124) T S1 → PK S S1 k β (m + n) → K S1) : wX9_keeps T 108 (nI (200 * k + m)) row (nI n) K := by
  refine ⟨n + 1, l_keeps hr hw hne hn hN (by omega) (fun S1 hE hI hO => hK S1 hE ⟨fun j hj => ?_, fun j hj => ?_⟩) (n + 1) 0 T (by omega) (by omega) Ex.rf (fun q hq => absurd hq (by omega)) (fun _ _ => rfl)⟩
  · by_cases c : j < m
    · rw [hO _ (by omega)]; exact h.1 j c
    · have q := hI (j - m) (by omega)
      rw [show 200 * k + m + (j - m) = 200 * k + j by omega, hv (j - m) (by omega), show m + (j - m) = j by omega] at q
      exact q
  · rw [hO _ (by omega)]; exact h.2 j hj
theorem PK.p {S T : St} {k m : Nat} {β : Nat → Nat → Nat} {x : Int32} (h : PK S T k β m) (hm : m < 167) (hx : x = tg β m) : PK S (pI T 124 (200 * k + m) x) k β (m + 1) := by
  refine ⟨fun j hj => ?_, fun j hj => ?_⟩
  · by_cases e : j = m
    · rw [e, sI_s]; exact hx
    · rw [sI_n (by omega)]; exact h.1 j (by omega)
  · rw [sI_n (by omega)]; exact h.2 j hj
theorem tg_r {β : Nat → Nat → Nat} {f i : Nat} (hf : f < 5) (hi : i < 12) : tg β (12 * f + i) = nI (β (1 + f) i) := by
  unfold tg
  rw [if_pos (by omega), show (12 * f + i) / 12 = f by omega, show (12 * f + i) % 12 = i by omega]
theorem tg_c {β : Nat → Nat → Nat} {w i : Nat} (hw : w < 8) (hi : i < 12) : tg β (60 + (12 * w + i)) = nI (β (6 + w) i) := by
  unfold tg
  rw [if_neg (by omega), if_pos (by omega), show (60 + (12 * w + i) - 60) / 12 = w by omega, show (60 + (12 * w + i) - 60) % 12 = i by omega]
theorem tg_w {β : Nat → Nat → Nat} {w : Nat} (hw : w < 8) : tg β (156 + w) = if (β 0 3).testBit w then 1 else 0 := by
  unfold tg
  rw [if_neg (by omega), if_neg (by omega), if_pos (by omega), show 156 + w - 156 = w by omega]
theorem tg_f {β : Nat → Nat → Nat} {j : Nat} : tg β (164 + j) = nI (β 0 j) := by
  unfold tg
  rw [if_neg (by omega), if_neg (by omega), if_neg (by omega), show 164 + j - 164 = j by omega]
theorem PK.ki {S T : St} {k : Nat} {β : Nat → Nat → Nat} (h : PK S T k β 167) : KI T k β := by
  refine ⟨fun f hf i hi => ?_, fun w hw i hi => ?_, fun w hw => ?_, ?_, ?_, ?_⟩
  · rw [show 200 * k + 12 * f + i = 200 * k + (12 * f + i) by omega, h.1 _ (by omega)]; exact tg_r hf hi
  · rw [show 200 * k + 60 + 12 * w + i = 200 * k + (60 + (12 * w + i)) by omega, h.1 _ (by omega)]; exact tg_c hw hi
  · rw [show 200 * k + 156 + w = 200 * k + (156 + w) by omega, h.1 _ (by omega)]; exact tg_w hw
  · rw [h.1 _ (by omega)]; exact tg_f (j := 0)
  · rw [h.1 _ (by omega)]; exact tg_f (j := 1)
  · rw [h.1 _ (by omega)]; exact tg_f (j := 2)
theorem KI.o {S T : St} {k q : Nat} {γ : Nat → Nat → Nat} (h : KI S q γ) (hq : q ≠ k) (hO : ∀ j, (j < 200 * k ∨ 200 * k + 167 ≤ j) → sI T 124 j = sI S 124 j) : KI T q γ := by
  obtain ⟨a, b, c, d, e, f⟩ := h
  refine ⟨fun g hg i hi => ?_, fun w hw i hi => ?_, fun w hw => ?_, ?_, ?_, ?_⟩
  · rw [hO _ (by omega)]; exact a g hg i hi
  · rw [hO _ (by omega)]; exact b w hw i hi
  · rw [hO _ (by omega)]; exact c w hw
  · rw [hO _ (by omega)]; exact d
  · rw [hO _ (by omega)]; exact e
  · rw [hO _ (by omega)]; exact f
