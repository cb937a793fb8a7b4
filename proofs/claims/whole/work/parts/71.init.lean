-- what the constructors lay
def vl {α : Type} (d : α) : List ((Nat × Nat) × α) → Nat → Nat → α
  | [], _, _ => d
  | e :: t, a, b => if a = e.1.1 ∧ b = e.1.2 then e.2 else vl d t a b
def BS (S : St) (n : Nat) (lr : List ((Nat × Nat) × Nat)) (li : List ((Nat × Nat) × Int32)) : Prop := S.1 = n ∧ (∀ a b, sR S a b = vl 0 lr a b) ∧ (∀ a b, sI S a b = vl 0 li a b) ∧ ∀ a, n < a → ∀ b, sR S a b = 0 ∧ sI S a b = 0
theorem sR_pN {S : St} {a b : Nat} : sR (pN S) a b = if a = S.1 + 1 then 0 else sR S a b := by
  show va_up S.2.2.1 (S.1 + 1) (fun _ => 0) a b = _
  by_cases e : a = S.1 + 1
  · rw [e, up_s, if_pos rfl]
  · rw [up_n e, if_neg e]; rfl
theorem sI_pN {S : St} {a b : Nat} : sI (pN S) a b = if a = S.1 + 1 then 0 else sI S a b := by
  show va_up S.2.1 (S.1 + 1) (fun _ => 0) a b = _
  by_cases e : a = S.1 + 1
  · rw [e, up_s, if_pos rfl]
  · rw [up_n e, if_neg e]; rfl
theorem BS.n {S : St} {n : Nat} {lr : List ((Nat × Nat) × Nat)} {li : List ((Nat × Nat) × Int32)} (h : BS S n lr li) : BS (pN S) (n + 1) lr li := by
  obtain ⟨h1, h2, h3, h4⟩ := h
  refine ⟨by show S.1 + 1 = _; rw [h1], fun a b => ?_, fun a b => ?_, fun a ha b => ?_⟩
  · rw [sR_pN]
    by_cases e : a = S.1 + 1
    · rw [if_pos e, ← h2, (h4 a (by omega) b).1]
    · rw [if_neg e, h2]
  · rw [sI_pN]
    by_cases e : a = S.1 + 1
    · rw [if_pos e, ← h3, (h4 a (by omega) b).2]
    · rw [if_neg e, h3]
  · rw [sR_pN, sI_pN, if_neg (by omega), if_neg (by omega)]; exact h4 a (by omega) b
theorem BS.r {S : St} {n k j v : Nat} {lr : List ((Nat × Nat) × Nat)} {li : List ((Nat × Nat) × Int32)} (h : BS S n lr li) (hk : k ≤ n) : BS (pR S k j v) n (((k, j), v) :: lr) li := by
  obtain ⟨h1, h2, h3, h4⟩ := h
  refine ⟨h1, fun a b => ?_, h3, fun a ha b => ?_⟩
  · rw [sR_pR, h2]; rfl
  · rw [sR_pR, if_neg (by omega)]; exact h4 a ha b
theorem BS.i {S : St} {n k j : Nat} {x : Int32} {lr : List ((Nat × Nat) × Nat)} {li : List ((Nat × Nat) × Int32)} (h : BS S n lr li) (hk : k ≤ n) : BS (pI S k j x) n lr (((k, j), x) :: li) := by
  obtain ⟨h1, h2, h3, h4⟩ := h
  refine ⟨h1, h2, fun a b => ?_, fun a ha b => ?_⟩
  · rw [sI_pI, h3]; rfl
  · rw [sI_pI, if_neg (by omega)]; exact h4 a ha b
theorem BS.m {S : St} {n : Nat} {lr : List ((Nat × Nat) × Nat)} {li : List ((Nat × Nat) × Int32)} (h : BS S n lr li) : BS (pMN S 8) (n + 9) (((n + 1, 0), n + 2) :: ((n + 1, 1), n + 3) :: ((n + 1, 2), n + 4) :: ((n + 1, 3), n + 5) :: ((n + 1, 4), n + 6) :: ((n + 1, 5), n + 7) :: ((n + 1, 6), n + 8) :: ((n + 1, 7), n + 9) :: lr) li := by
  obtain ⟨h1, h2, h3, h4⟩ := h
  have r : ∀ a b, sR (pMN S 8) a b = if a = n + 1 then (if b < 8 then n + 2 + b else 0) else if n < a then 0 else sR S a b := fun a b => by
    show (if a = S.1 + 1 then (fun j => if j < 8 then S.1 + 2 + j else 0) else if S.1 < a then fun _ => 0 else S.2.2.1 a) b = _
    rw [h1]
    by_cases c : a = n + 1
    · rw [if_pos c, if_pos c]
    · rw [if_neg c, if_neg c]
      by_cases c2 : n < a
      · rw [if_pos c2, if_pos c2]
      · rw [if_neg c2, if_neg c2]; rfl
  have i : ∀ a b, sI (pMN S 8) a b = if n < a then 0 else sI S a b := fun a b => by
    show (if S.1 < a then fun _ => 0 else S.2.1 a) b = _
    rw [h1]
    by_cases c2 : n < a
    · rw [if_pos c2, if_pos c2]
    · rw [if_neg c2, if_neg c2]; rfl
  refine ⟨by show S.1 + 1 + 8 = _; rw [h1], fun a b => ?_, fun a b => ?_, fun a ha b => ?_⟩
  · rw [r]
    simp only [vl]
    by_cases c : a = n + 1
    · rw [if_pos c]
      by_cases d : b < 8
      · rw [if_pos d]
        rcases (show b = 0 ∨ b = 1 ∨ b = 2 ∨ b = 3 ∨ b = 4 ∨ b = 5 ∨ b = 6 ∨ b = 7 by omega) with e | e | e | e | e | e | e | e <;> simp [c, e] <;> omega
      · rw [if_neg d, if_neg (by omega), if_neg (by omega), if_neg (by omega), if_neg (by omega), if_neg (by omega), if_neg (by omega), if_neg (by omega), if_neg (by omega), ← h2, (h4 a (by omega) b).1]
    · have e : (if n < a then 0 else sR S a b) = sR S a b := by
        by_cases c2 : n < a
        · rw [if_pos c2, (h4 a c2 b).1]
        · rw [if_neg c2]
      rw [if_neg c, e]
      simp [c, h2]
  · rw [i, ← h3]
    by_cases c2 : n < a
    · rw [if_pos c2, (h4 a c2 b).2]
    · rw [if_neg c2]
  · rw [r, i, if_neg (by omega), if_pos (by omega), if_pos (by omega)]; exact ⟨rfl, rfl⟩
theorem bO {S : St} {n c o : Nat} {lr : List ((Nat × Nat) × Nat)} {li : List ((Nat × Nat) × Int32)} (h : BS S n lr li) (ho : 1 ≤ o ∧ o ≤ n ∧ kc o = c) : okO S c o := ⟨ho.1, by rw [h.1]; exact ho.2.1, ho.2.2⟩
theorem bNR {S : St} {n o j t N c : Nat} {lr : List ((Nat × Nat) × Nat)} {li : List ((Nat × Nat) × Int32)} {Q : St → Prop} (h : BS S n lr li) (c1 : kc (n + 1) = t ∧ ln (n + 1) = N) (ho : 1 ≤ o ∧ o ≤ n ∧ kc o = c) (hQ : ∀ S1, BS S1 (n + 1) (((o, j), n + 1) :: lr) li → Q S1) : okNw S t N ∧ ∀ S_2 : St, S_2 = pN S → okO S_2 c o ∧ (S.1 + 1) ≠ 0 ∧ ∀ S_4 : St, S_4 = pR S_2 o j (S.1 + 1) → Q S_4 := by
  refine ⟨by unfold okNw; rw [h.1]; exact c1, fun S1 e1 => ?_⟩
  have b1 : BS S1 (n + 1) lr li := by rw [e1]; exact h.n
  refine ⟨bO b1 ⟨ho.1, by omega, ho.2.2⟩, by omega, fun S2 e2 => hQ S2 ?_⟩
  rw [e2, h.1]
  exact b1.r (by omega)
theorem bMR {S : St} {n o : Nat} {lr : List ((Nat × Nat) × Nat)} {li : List ((Nat × Nat) × Int32)} {Q : St → Prop} (h : BS S n lr li) (c1 : kc (n + 1) = 14 ∧ ln (n + 1) = 8 ∧ ∀ i, i < 8 → kc (n + 2 + i) = 10 ∧ ln (n + 2 + i) = 12) (ho : 1 ≤ o ∧ o ≤ n ∧ kc o = 0) (hQ : ∀ S1, BS S1 (n + 9) (((o, 9), n + 1) :: ((n + 1, 0), n + 2) :: ((n + 1, 1), n + 3) :: ((n + 1, 2), n + 4) :: ((n + 1, 3), n + 5) :: ((n + 1, 4), n + 6) :: ((n + 1, 5), n + 7) :: ((n + 1, 6), n + 8) :: ((n + 1, 7), n + 9) :: lr) li → Q S1) : okMN S 8 12 ∧ ∀ S_27 : St, S_27 = pMN S 8 → okO S_27 0 o ∧ (S.1 + 1) ≠ 0 ∧ ∀ S_29 : St, S_29 = pR S_27 o 9 (S.1 + 1) → Q S_29 := by
  refine ⟨by unfold okMN; rw [h.1]; exact c1, fun S1 e1 => ?_⟩
  have b1 := h.m
  rw [← e1] at b1
  refine ⟨bO b1 ⟨ho.1, by omega, ho.2.2⟩, by omega, fun S2 e2 => hQ S2 ?_⟩
  rw [e2, h.1]
  exact b1.r (by omega)
theorem i5 {S : St} {n o : Nat} {lr : List ((Nat × Nat) × Nat)} {li : List ((Nat × Nat) × Int32)} {K : St → Prop} (h : BS S n lr li) (c1 : kc (n + 1) = 10 ∧ ln (n + 1) = 64) (c2 : kc (n + 2) = 10 ∧ ln (n + 2) = 64) (ho : 1 ≤ o ∧ o ≤ n ∧ kc o = 5) (hK : ∀ S1, BS S1 (n + 2) (((o, 1), n + 2) :: ((o, 0), n + 1) :: lr) li → K S1) : wX5_init S o K :=
  bNR h c1 ho (fun _ b1 => bNR b1 c2 ⟨ho.1, by omega, ho.2.2⟩ hK)
theorem b5 {S : St} {n o j c : Nat} {lr : List ((Nat × Nat) × Nat)} {li : List ((Nat × Nat) × Int32)} {Q : St → Prop} (h : BS S n lr li) (c0 : kc (n + 1) = 5) (c1 : kc (n + 2) = 10 ∧ ln (n + 2) = 64) (c2 : kc (n + 3) = 10 ∧ ln (n + 3) = 64) (ho : 1 ≤ o ∧ o ≤ n ∧ kc o = c) (hQ : ∀ S1, BS S1 (n + 3) (((o, j), n + 1) :: ((n + 1, 1), n + 3) :: ((n + 1, 0), n + 2) :: lr) li → Q S1) : kc (S.1 + 1) = 5 ∧ ∀ S_7 : St, S_7 = pN S → wX5_init S_7 (S.1 + 1) (fun S_8 => okO S_8 c o ∧ (S.1 + 1) ≠ 0 ∧ ∀ S_11 : St, S_11 = pR S_8 o j (S.1 + 1) → Q S_11) := by
  rw [h.1]
  refine ⟨c0, fun S1 e1 => ?_⟩
  have b1 : BS S1 (n + 1) lr li := by rw [e1]; exact h.n
  refine i5 b1 c1 c2 ⟨by omega, by omega, c0⟩ (fun S2 b2 => ⟨bO b2 ⟨ho.1, by omega, ho.2.2⟩, by omega, fun S3 e3 => hQ S3 ?_⟩)
  rw [e3]
  exact b2.r (by omega)
def BN (n : Nat) : Prop := kc n = 0 ∧ (∀ i, i < 5 → kc (n + 1 + i) = 10 ∧ ln (n + 1 + i) = 12) ∧ kc (n + 6) = 14 ∧ ln (n + 6) = 8 ∧ ∀ i, i < 8 → kc (n + 7 + i) = 10 ∧ ln (n + 7 + i) = 12
def l0 (o : Nat) (lr : List ((Nat × Nat) × Nat)) : List ((Nat × Nat) × Nat) := ((o, 9), o + 6) :: ((o + 6, 0), o + 7) :: ((o + 6, 1), o + 8) :: ((o + 6, 2), o + 9) :: ((o + 6, 3), o + 10) :: ((o + 6, 4), o + 11) :: ((o + 6, 5), o + 12) :: ((o + 6, 6), o + 13) :: ((o + 6, 7), o + 14) :: ((o, 8), o + 5) :: ((o, 7), o + 4) :: ((o, 6), o + 3) :: ((o, 5), o + 2) :: ((o, 4), o + 1) :: lr
theorem i0 {S : St} {o : Nat} {lr : List ((Nat × Nat) × Nat)} {li : List ((Nat × Nat) × Int32)} {K : St → Prop} (h : BS S o lr li) (h1 : 1 ≤ o) (hb : BN o) (hK : ∀ S1, BS S1 (o + 14) (l0 o lr) li → K S1) : wX0_init S o K :=
  bNR h (hb.2.1 0 (by decide)) ⟨h1, by omega, hb.1⟩ (fun _ b1 => bNR b1 (hb.2.1 1 (by decide)) ⟨h1, by omega, hb.1⟩ (fun _ b2 => bNR b2 (hb.2.1 2 (by decide)) ⟨h1, by omega, hb.1⟩ (fun _ b3 => bNR b3 (hb.2.1 3 (by decide)) ⟨h1, by omega, hb.1⟩ (fun _ b4 => bNR b4 (hb.2.1 4 (by decide)) ⟨h1, by omega, hb.1⟩ (fun _ b5 => bMR b5 ⟨hb.2.2.1, hb.2.2.2.1, hb.2.2.2.2⟩ ⟨h1, by omega, hb.1⟩ hK)))))
theorem bRR {S : St} {n o c x1 x2 : Nat} {lr : List ((Nat × Nat) × Nat)} {li : List ((Nat × Nat) × Int32)} {K : St → Prop} (h : BS S n lr li) (ho : 1 ≤ o ∧ o ≤ n ∧ kc o = c) (h1 : x1 ≠ 0) (h2 : x2 ≠ 0) (hK : ∀ S1, BS S1 n (((o, 1), x2) :: ((o, 0), x1) :: lr) li → K S1) : okO S c o ∧ x1 ≠ 0 ∧ ∀ S_36 : St, S_36 = pR S o 0 x1 → okO S_36 c o ∧ x2 ≠ 0 ∧ ∀ S_39 : St, S_39 = pR S_36 o 1 x2 → K S_39 := by
  refine ⟨bO h ho, h1, fun S1 e1 => ?_⟩
  have b1 := h.r (k := o) (j := 0) (v := x1) ho.2.1
  rw [← e1] at b1
  refine ⟨bO b1 ho, h2, fun S2 e2 => hK S2 ?_⟩
  rw [e2]
  exact b1.r ho.2.1
theorem i1 {S : St} {lr : List ((Nat × Nat) × Nat)} {li : List ((Nat × Nat) × Int32)} {K : St → Prop} (h : BS S 76 lr li) (hK : ∀ S1, BS S1 86 (((76, 1), 17) :: ((76, 0), 2) :: ((76, 7), 86) :: ((76, 6), 85) :: ((76, 5), 84) :: ((76, 4), 81) :: ((81, 1), 83) :: ((81, 0), 82) :: ((76, 3), 78) :: ((78, 1), 80) :: ((78, 0), 79) :: ((76, 2), 77) :: lr) li → K S1) : wX1_init S 76 2 17 K :=
  bNR h (by decide) (by decide) (fun _ b1 => b5 b1 (by decide) (by decide) (by decide) (by decide) (fun _ b2 => b5 b2 (by decide) (by decide) (by decide) (by decide) (fun _ b3 => bNR b3 (by decide) (by decide) (fun _ b4 => bNR b4 (by decide) (by decide) (fun _ b5 => bNR b5 (by decide) (by decide) (fun _ b6 => bRR b6 (by decide) (by decide) (by decide) hK))))))
theorem i2 {S : St} {n : Nat} {lr : List ((Nat × Nat) × Nat)} {li : List ((Nat × Nat) × Int32)} {K : St → Prop} (h : BS S 87 lr li) (hK : ∀ S1, BS S1 92 (((87, 1), 17) :: ((87, 0), 2) :: ((87, 4), 92) :: ((87, 3), 91) :: ((87, 2), 88) :: ((88, 1), 90) :: ((88, 0), 89) :: lr) li → K S1) : wX2_init S 87 2 17 K :=
  b5 h (by decide) (by decide) (by decide) (by decide) (fun _ b1 => bNR b1 (by decide) (by decide) (fun _ b2 => bNR b2 (by decide) (by decide) (fun _ b3 => bRR b3 (by decide) (by decide) (by decide) hK)))
theorem i7 {S : St} {lr : List ((Nat × Nat) × Nat)} {li : List ((Nat × Nat) × Int32)} {K : St → Prop} (h : BS S 93 lr li) (hK : ∀ S1, BS S1 98 (((93, 1), 17) :: ((93, 0), 2) :: ((93, 4), 98) :: ((93, 3), 97) :: ((93, 2), 94) :: ((94, 1), 96) :: ((94, 0), 95) :: lr) li → K S1) : wX7_init S 93 2 17 K :=
  b5 h (by decide) (by decide) (by decide) (by decide) (fun _ b1 => bNR b1 (by decide) (by decide) (fun _ b2 => bNR b2 (by decide) (by decide) (fun _ b3 => bRR b3 (by decide) (by decide) (by decide) hK)))
theorem i6 {S : St} {lr : List ((Nat × Nat) × Nat)} {li : List ((Nat × Nat) × Int32)} {K : St → Prop} (h : BS S 99 lr li) (hK : ∀ S1, BS S1 107 (((99, 1), 17) :: ((99, 0), 2) :: ((99, 5), 107) :: ((99, 4), 106) :: ((99, 3), 103) :: ((103, 1), 105) :: ((103, 0), 104) :: ((99, 2), 100) :: ((100, 1), 102) :: ((100, 0), 101) :: lr) li → K S1) : wX6_init S 99 2 17 K :=
  b5 h (by decide) (by decide) (by decide) (by decide) (fun _ b1 => b5 b1 (by decide) (by decide) (by decide) (by decide) (fun _ b2 => bNR b2 (by decide) (by decide) (fun _ b3 => bNR b3 (by decide) (by decide) (fun _ b4 => bRR b4 (by decide) (by decide) (by decide) hK))))
theorem i4 {S : St} {o : Nat} {lr : List ((Nat × Nat) × Nat)} {li : List ((Nat × Nat) × Int32)} {K : St → Prop} (h : BS S o lr li) (h1 : 1 ≤ o) (c0 : kc o = 4) (c1 : kc (o + 1) = 10 ∧ ln (o + 1) = 100) (hK : ∀ S1, BS S1 (o + 1) (((o, 0), o + 1) :: lr) (((o, 2), -1) :: li) → K S1) : wX4_init S o K := by
  refine bNR h c1 ⟨h1, by omega, c0⟩ (fun S1 b1 => ⟨bO b1 ⟨h1, by omega, c0⟩, fun S2 e2 => hK S2 ?_⟩)
  rw [e2]
  exact b1.i (by omega)
theorem bS {S : St} {n s : Nat} {x : Int32} {lr : List ((Nat × Nat) × Nat)} {li : List ((Nat × Nat) × Int32)} {Q : St → Prop} (h : BS S n lr li) (hq : vl 0 lr 1 2 = 20) (hn : 20 ≤ n) (hs : s < 4) (hx : x = nI s) (c0 : kc (n + 1) = 4) (c1 : kc (n + 2) = 10 ∧ ln (n + 2) = 100) (hQ : ∀ S1, BS S1 (n + 2) (((20, s), n + 1) :: ((n + 1, 0), n + 2) :: lr) (((n + 1, 2), -1) :: li) → Q S1) :
    (okO S 8 1 ∧ sR S 1 2 ≠ 0) ∧ kc (S.1 + 1) = 4 ∧ ∀ S_27 : St, S_27 = pN S → wX4_init S_27 (S.1 + 1) (fun S_28 => okA S_28 13 (sR S 1 2) x ∧ okO S_28 4 (S.1 + 1) ∧ ∀ S_31 : St, S_31 = pR S_28 (sR S 1 2) (x : Int32).toNatClampNeg (S.1 + 1) → Q S_31) := by
  rw [h.2.1 1 2, hq, h.1, hx, pcl (by omega)]
  refine ⟨⟨bO h ⟨by decide, by omega, by decide⟩, by decide⟩, c0, fun S1 e1 => ?_⟩
  have b1 : BS S1 (n + 1) lr li := by rw [e1]; exact h.n
  refine i4 b1 (by omega) c0 c1 (fun S2 b2 => ⟨⟨⟨by decide, by rw [b2.1]; omega, by decide⟩, vp_in_nI hs (by decide)⟩, bO b2 ⟨by omega, by omega, c0⟩, fun S3 e3 => hQ S3 ?_⟩)
  rw [e3]
  exact b2.r (by omega)
theorem bB {S : St} {n k : Nat} {x : Int32} {lr : List ((Nat × Nat) × Nat)} {li : List ((Nat × Nat) × Int32)} {Q : St → Prop} (h : BS S n lr li) (hq : vl 0 lr 1 3 = 29) (hn : 29 ≤ n) (hk : k < 3) (hx : x = nI k) (c0 : BN (n + 1)) (hQ : ∀ S1, BS S1 (n + 15) (((29, k), n + 1) :: l0 (n + 1) lr) li → Q S1) :
    (okO S 8 1 ∧ sR S 1 3 ≠ 0) ∧ kc (S.1 + 1) = 0 ∧ ∀ S_27 : St, S_27 = pN S → wX0_init S_27 (S.1 + 1) (fun S_28 => okA S_28 12 (sR S 1 3) x ∧ okO S_28 0 (S.1 + 1) ∧ ∀ S_31 : St, S_31 = pR S_28 (sR S 1 3) (x : Int32).toNatClampNeg (S.1 + 1) → Q S_31) := by
  rw [h.2.1 1 3, hq, h.1, hx, pcl (by omega)]
  refine ⟨⟨bO h ⟨by decide, by omega, by decide⟩, by decide⟩, c0.1, fun S1 e1 => ?_⟩
  have b1 : BS S1 (n + 1) lr li := by rw [e1]; exact h.n
  refine i0 b1 (by omega) c0 (fun S2 b2 => ⟨⟨⟨by decide, by rw [b2.1]; omega, by decide⟩, vp_in_nI hk (by decide)⟩, bO b2 ⟨by omega, by omega, c0.1⟩, fun S3 e3 => hQ S3 ?_⟩)
  rw [e3]
  exact b2.r (by omega)
theorem i_rel {S : St} {lr : List ((Nat × Nat) × Nat)} {K : Int32 → St → Prop} (h : BS S 19 lr []) (h1 : vl 0 lr 17 1 = 18) (h2 : vl 0 lr 17 2 = 19) (hK : ∀ S1, BS S1 19 (((17, 2), 18) :: ((17, 1), 19) :: lr) (((17, 0), 1) :: ((19, 0), 0) :: []) → K 1 S1) : wX3_relist S 17 2 K := by
  have z : ∀ a b, sI S a b = 0 := fun a b => h.2.2.1 a b
  have r1 : sR S 17 1 = 18 := (h.2.1 17 1).trans h1
  have r2 : sR S 17 2 = 19 := (h.2.1 17 2).trans h2
  refine ⟨bO h (by decide), fun x ex => ?_⟩
  rw [z, show (0 : Int32) = nI 0 from rfl, psh (by decide)] at ex
  refine ⟨2, ?_⟩
  rw [ex, wX3_relist_12]
  refine ⟨fun q => absurd q (by decide), fun _ => ⟨bO h (by decide), ?_⟩⟩
  unfold wX0_allows
  rw [z]
  refine ⟨bO h (by decide), fun _ => w_bc (s := 0) (by decide) ?_, fun q => absurd q (by decide), fun q => absurd q (by decide), fun q => absurd q (by decide)⟩
  rw [z]
  refine ⟨bO h (by decide), fun _ => ⟨fun q => absurd q (by decide), fun _ => ⟨fun q => absurd q (by decide), fun _ => ?_⟩⟩, fun q => absurd (show nI (popc 0) = 0 from by decide) q⟩
  rw [r2]
  refine ⟨⟨bO h (by decide), by decide⟩, ⟨bO h (by decide), show vp_in (nI 0) 500 from vp_in_nI (by decide) (by decide)⟩, fun S1 e1 x2 ex2 x4 ex4 => ?_⟩
  have b1 : BS S1 19 lr (((19, 0), 0) :: []) := by rw [e1]; exact h.i (by decide)
  have q1 : sR S1 17 1 = 18 := (b1.2.1 17 1).trans h1
  have q2 : sR S1 17 2 = 19 := (b1.2.1 17 2).trans h2
  rw [ex2, ex4, wX3_relist_12]
  refine ⟨fun _ => ?_, fun q => absurd (show nI (2 ^ 0) ≤ 0 + 1 from by decide) q⟩
  unfold wX3_relist_53
  rw [q1, q2]
  refine ⟨⟨bO b1 (by decide), by decide⟩, by decide, by decide, fun S2 e2 => ?_⟩
  have b2 := b1.r (k := 17) (j := 1) (v := 19) (by decide)
  rw [← e2] at b2
  refine ⟨bO b2 (by decide), by decide, fun S3 e3 => ?_⟩
  have b3 := b2.r (k := 17) (j := 2) (v := 18) (by decide)
  rw [← e3] at b3
  refine ⟨bO b3 (by decide), fun S4 e4 => hK S4 ?_⟩
  rw [e4]
  exact b3.i (by decide)
