def q0 : List ((Nat × Nat) × Nat) := ((1, 0), 2) :: l0 2 []
def q1 : List ((Nat × Nat) × Nat) := ((1, 1), 17) :: ((17, 2), 19) :: ((17, 1), 18) :: q0
def q2 : List ((Nat × Nat) × Nat) := ((1, 2), 20) :: ((17, 2), 18) :: ((17, 1), 19) :: q1
def q3 : List ((Nat × Nat) × Nat) := ((20, 3), 27) :: ((27, 0), 28) :: ((20, 2), 25) :: ((25, 0), 26) :: ((20, 1), 23) :: ((23, 0), 24) :: ((20, 0), 21) :: ((21, 0), 22) :: q2
def q4 : List ((Nat × Nat) × Nat) := ((1, 3), 29) :: q3
def q5 : List ((Nat × Nat) × Nat) := ((29, 2), 60) :: l0 60 (((29, 1), 45) :: l0 45 (((29, 0), 30) :: l0 30 q4))
def q6 : List ((Nat × Nat) × Nat) := ((1, 4), 75) :: q5
def q7 : List ((Nat × Nat) × Nat) := ((1, 5), 76) :: ((76, 1), 17) :: ((76, 0), 2) :: ((76, 7), 86) :: ((76, 6), 85) :: ((76, 5), 84) :: ((76, 4), 81) :: ((81, 1), 83) :: ((81, 0), 82) :: ((76, 3), 78) :: ((78, 1), 80) :: ((78, 0), 79) :: ((76, 2), 77) :: q6
def q8 : List ((Nat × Nat) × Nat) := ((1, 6), 87) :: ((87, 1), 17) :: ((87, 0), 2) :: ((87, 4), 92) :: ((87, 3), 91) :: ((87, 2), 88) :: ((88, 1), 90) :: ((88, 0), 89) :: q7
def q9 : List ((Nat × Nat) × Nat) := ((1, 7), 93) :: ((93, 1), 17) :: ((93, 0), 2) :: ((93, 4), 98) :: ((93, 3), 97) :: ((93, 2), 94) :: ((94, 1), 96) :: ((94, 0), 95) :: q8
def qA : List ((Nat × Nat) × Nat) := ((1, 8), 99) :: ((99, 1), 17) :: ((99, 0), 2) :: ((99, 5), 107) :: ((99, 4), 106) :: ((99, 3), 103) :: ((103, 1), 105) :: ((103, 0), 104) :: ((99, 2), 100) :: ((100, 1), 102) :: ((100, 0), 101) :: q9
def qB : List ((Nat × Nat) × Nat) := ((108, 22), 124) :: ((108, 21), 123) :: ((108, 20), 122) :: ((108, 19), 121) :: ((108, 16), 120) :: ((108, 15), 119) :: ((108, 14), 118) :: ((108, 13), 117) :: ((108, 12), 116) :: ((108, 10), 115) :: ((108, 9), 114) :: ((108, 8), 113) :: ((108, 7), 112) :: ((108, 6), 111) :: ((108, 5), 110) :: ((108, 4), 109) :: qA
def w0 : List ((Nat × Nat) × Int32) := ((17, 0), 1) :: ((19, 0), 0) :: []
def wA : List ((Nat × Nat) × Int32) := ((27, 2), -1) :: ((25, 2), -1) :: ((23, 2), -1) :: ((21, 2), -1) :: w0
def wB : List ((Nat × Nat) × Int32) := ((118, 3), -1) :: ((118, 2), -1) :: ((118, 1), -1) :: ((118, 0), -1) :: wA
theorem bn2 : BN 2 := by unfold BN; decide
theorem bn30 : BN 30 := by unfold BN; decide
theorem bn45 : BN 45 := by unfold BN; decide
theorem bn60 : BN 60 := by unfold BN; decide
theorem i8 {S : St} {K : St → Prop} (h : BS S 1 [] []) (hK : ∀ S1, BS S1 107 qA wA → K S1) : wX8_init S 1 K := by
  unfold wX8_init
  rw [h.1]
  refine ⟨by decide, fun S2 e2 => ?_⟩
  have b2 : BS S2 2 [] [] := by rw [e2]; exact h.n
  refine i0 b2 (by decide) bn2 (fun S3 b3 => ⟨bO b3 (by decide), by decide, fun S4 e4 => ?_⟩)
  have b4 : BS S4 16 q0 [] := by rw [e4]; exact b3.r (by decide)
  rw [b4.1]
  refine ⟨by decide, fun S5 e5 => ?_⟩
  have b5 : BS S5 17 q0 [] := by rw [e5]; exact b4.n
  refine bNR b5 (by decide) (by decide) (fun S6 b6 => bNR b6 (by decide) (by decide) (fun S7 b7 => ⟨bO b7 (by decide), by decide, fun S8 e8 => ?_⟩))
  have b8 : BS S8 19 q1 [] := by rw [e8]; exact b7.r (by decide)
  have r1 : sR S8 1 1 = 17 := (b8.2.1 1 1).trans (by decide +kernel)
  have r0 : sR S8 1 0 = 2 := (b8.2.1 1 0).trans (by decide +kernel)
  rw [r1, r0]
  refine ⟨⟨bO b8 (by decide), by decide⟩, by decide, bO b8 (by decide), i_rel b8 (by decide +kernel) (by decide +kernel) (fun S9 b9 => ?_)⟩
  refine bNR b9 (by decide) (by decide) (fun Sa ba => ?_)
  refine bS (s := 0) ba (by decide +kernel) (by decide) (by decide) rfl (by decide) (by decide) (fun Sb bb => ?_)
  refine bS (s := 1) bb (by decide +kernel) (by decide) (by decide) rfl (by decide) (by decide) (fun Sc bc => ?_)
  refine bS (s := 2) bc (by decide +kernel) (by decide) (by decide) rfl (by decide) (by decide) (fun Sd bd => ?_)
  refine bS (s := 3) bd (by decide +kernel) (by decide) (by decide) rfl (by decide) (by decide) (fun Se be => ?_)
  have be' : BS Se 28 q3 wA := be
  refine bNR be' (by decide) (by decide) (fun Sf bf => ?_)
  have bf' : BS Sf 29 q4 wA := bf
  refine bB (k := 0) bf' (by decide +kernel) (by decide) (by decide) rfl bn30 (fun Sg bg => ?_)
  refine bB (k := 1) bg (by decide +kernel) (by decide) (by decide) rfl bn45 (fun Sh bh => ?_)
  refine bB (k := 2) bh (by decide +kernel) (by decide) (by decide) rfl bn60 (fun Si bi => ?_)
  have bi' : BS Si 74 q5 wA := bi
  refine bNR bi' (by decide) (by decide) (fun Sj bj => ?_)
  have bj' : BS Sj 75 q6 wA := bj
  rw [bj'.1]
  refine ⟨by decide, fun Sk ek => ?_⟩
  have bk : BS Sk 76 q6 wA := by rw [ek]; exact bj'.n
  rw [show sR Sk 1 0 = 2 from (bk.2.1 1 0).trans (by decide +kernel), show sR Sk 1 1 = 17 from (bk.2.1 1 1).trans (by decide +kernel)]
  refine ⟨⟨bO bk (by decide), by decide⟩, by decide, i1 bk (fun Sl bl => ⟨bO bl (by decide), by decide, fun Sm em => ?_⟩)⟩
  have bm : BS Sm 86 q7 wA := by rw [em]; exact bl.r (by decide)
  rw [bm.1]
  refine ⟨by decide, fun Sn en => ?_⟩
  have bn : BS Sn 87 q7 wA := by rw [en]; exact bm.n
  rw [show sR Sn 1 0 = 2 from (bn.2.1 1 0).trans (by decide +kernel), show sR Sn 1 1 = 17 from (bn.2.1 1 1).trans (by decide +kernel)]
  refine ⟨⟨bO bn (by decide), by decide⟩, by decide, i2 (n := 0) bn (fun So bo => ⟨bO bo (by decide), by decide, fun Sp ep => ?_⟩)⟩
  have bp : BS Sp 92 q8 wA := by rw [ep]; exact bo.r (by decide)
  rw [bp.1]
  refine ⟨by decide, fun Sq eq => ?_⟩
  have bq : BS Sq 93 q8 wA := by rw [eq]; exact bp.n
  rw [show sR Sq 1 0 = 2 from (bq.2.1 1 0).trans (by decide +kernel), show sR Sq 1 1 = 17 from (bq.2.1 1 1).trans (by decide +kernel)]
  refine ⟨⟨bO bq (by decide), by decide⟩, by decide, i7 bq (fun Sr br => ⟨bO br (by decide), by decide, fun Ss es => ?_⟩)⟩
  have bs : BS Ss 98 q9 wA := by rw [es]; exact br.r (by decide)
  rw [bs.1]
  refine ⟨by decide, fun St et => ?_⟩
  have bt : BS St 99 q9 wA := by rw [et]; exact bs.n
  rw [show sR St 1 0 = 2 from (bt.2.1 1 0).trans (by decide +kernel), show sR St 1 1 = 17 from (bt.2.1 1 1).trans (by decide +kernel)]
  refine ⟨⟨bO bt (by decide), by decide⟩, by decide, i6 bt (fun Su bu => ⟨bO bu (by decide), by decide, fun Sv ev => hK Sv ?_⟩)⟩
  rw [ev]
  exact bu.r (by decide)
theorem bA4 {S : St} {n j : Nat} {x : Int32} {lr : List ((Nat × Nat) × Nat)} {li : List ((Nat × Nat) × Int32)} {Q : St → Prop} (h : BS S n lr li) (hn : 118 ≤ n) (hj : j < 4) (hx : x = nI j) (hQ : ∀ S1, BS S1 n lr (((118, j), -1) :: li) → Q S1) : okA S 10 118 x ∧ ∀ S_49 : St, S_49 = pI S 118 (x : Int32).toNatClampNeg (-1) → Q S_49 := by
  rw [hx, pcl (by omega)]
  refine ⟨⟨⟨by decide, by rw [h.1]; exact hn, by decide⟩, vp_in_nI hj (by decide)⟩, fun S1 e1 => hQ S1 ?_⟩
  rw [e1]
  exact h.i hn
theorem i9 {S : St} {K : St → Prop} (h : BS S 108 qA wA) (hK : ∀ S1, BS S1 124 qB wB → okO S1 9 108 ∧ wX9_gathers S1 108 (fun _ S2 => K S2)) : wX9_init S 108 K := by
  refine bNR h (by decide) (by decide) (fun S1 b1 => bNR b1 (by decide) (by decide) (fun S2 b2 => bNR b2 (by decide) (by decide) (fun S3 b3 => bNR b3 (by decide) (by decide) (fun S4 b4 => bNR b4 (by decide) (by decide) (fun S5 b5 => bNR b5 (by decide) (by decide) (fun S6 b6 => bNR b6 (by decide) (by decide) (fun S7 b7 => bNR b7 (by decide) (by decide) (fun S8 b8 => bNR b8 (by decide) (by decide) (fun S9 b9 => ?_)))))))))
  unfold okNw
  rw [b9.1]
  refine ⟨by decide, fun Sa ea => ?_⟩
  have ba := b9.n
  rw [← ea] at ba
  refine bA4 (j := 0) ba (by decide) (by decide) rfl (fun Sb bb => bA4 (j := 1) bb (by decide) (by decide) rfl (fun Sc bc => bA4 (j := 2) bc (by decide) (by decide) rfl (fun Sd bd => bA4 (j := 3) bd (by decide) (by decide) rfl (fun Se be => ⟨bO be (by decide), by decide, fun Sf ef => ?_⟩))))
  have bf := be.r (k := 108) (j := 14) (v := 117 + 1) (by decide)
  rw [← ef] at bf
  exact bNR bf (by decide) (by decide) (fun S1 b1 => bNR b1 (by decide) (by decide) (fun S2 b2 => bNR b2 (by decide) (by decide) (fun S3 b3 => bNR b3 (by decide) (by decide) (fun S4 b4 => bNR b4 (by decide) (by decide) (fun S5 b5 => bNR b5 (by decide) (by decide) (fun S6 b6 => hK S6 b6))))))
theorem qB_ok : ∀ k, k < 125 → ∀ j, j < 23 → rt k j ≠ 0 → vl 0 qB k j = rt k j := by decide +kernel
theorem rt_in {k j : Nat} (h : rt k j ≠ 0) : k < 125 ∧ j < 23 := by
  have l1 : mmR.length = 125 := by decide +kernel
  have l2 : ∀ k, k < 125 → (mmR.getD k []).length ≤ 23 := by decide +kernel
  by_cases c : k < 125
  · refine ⟨c, ?_⟩
    by_cases d : j < 23
    · exact d
    · have := l2 k c
      refine absurd ?_ h
      unfold rt
      rw [List.getD_eq_getElem?_getD (l := mmR.getD k []), List.getElem?_eq_none (by omega)]
      rfl
  · refine absurd ?_ h
    unfold rt
    rw [List.getD_eq_getElem?_getD (l := mmR), List.getElem?_eq_none (by omega)]
    rfl
theorem bRT {S : St} (h : BS S 124 qB wB) : RT S := ⟨h.1, fun k j hkj => by
  obtain ⟨h1, h2⟩ := rt_in hkj
  rw [h.2.1]
  exact qB_ok k h1 j h2 hkj⟩
theorem wB_z {a b : Nat} (h : a ≠ 17 ∧ a ≠ 19 ∧ a ≠ 21 ∧ a ≠ 23 ∧ a ≠ 25 ∧ a ≠ 27 ∧ a ≠ 118) : vl 0 wB a b = 0 := by
  show vl 0 (((118, 3), -1) :: ((118, 2), -1) :: ((118, 1), -1) :: ((118, 0), -1) :: ((27, 2), -1) :: ((25, 2), -1) :: ((23, 2), -1) :: ((21, 2), -1) :: ((17, 0), 1) :: ((19, 0), 0) :: []) a b = 0
  simp only [vl]
  rw [if_neg (by omega), if_neg (by omega), if_neg (by omega), if_neg (by omega), if_neg (by omega), if_neg (by omega), if_neg (by omega), if_neg (by omega), if_neg (by omega), if_neg (by omega)]
def b00 : Nat → Nat → Nat := fun _ _ => 0
theorem nch0 : nch b00 = 1 := by decide
theorem chl0 : chl b00 0 = 0 := by decide
theorem WF0 : WF b00 := by
  refine ⟨⟨by decide, by decide, by decide, by decide⟩, fun i hi => ⟨Nat.le_refl _, Nat.zero_le _⟩, fun i hi => ⟨show (0 : Nat) < 6 from by decide, show (0 : Nat) < 6 from by decide⟩, fun i hi => Nat.zero_le _, fun w hw i hi => Nat.zero_le _, ⟨fun h => absurd h (by decide), fun h => absurd h (by decide), fun h => absurd h (by decide)⟩, fun f h1 h2 i h3 h4 => rfl⟩
theorem inv0 {S : St} (h : BS S 124 qB wB) (hK : St → Prop) (hJ : ∀ S1, J S1 → hK S1) : okO S 9 108 ∧ wX9_gathers S 108 (fun _ S2 => hK S2) := by
  have hr := bRT h
  have z : ∀ {a : Nat}, (a ≠ 17 ∧ a ≠ 19 ∧ a ≠ 21 ∧ a ≠ 23 ∧ a ≠ 25 ∧ a ≠ 27 ∧ a ≠ 118) → ∀ b, sI S a b = 0 := fun ha b => (h.2.2.1 _ b).trans (wB_z ha)
  have hib : IB S b00 := by
    refine ⟨hr, WF0, z (by omega) _, z (by omega) _, z (by omega) _, fun f hf i hi => z (by omega) _, fun w hw => ?_, fun w hw i hi => z (by omega) _⟩
    rw [z (by omega)]
    show (0 : Int32) = if (0 : Nat).testBit w then 1 else 0
    rw [Nat.zero_testBit]; rfl
  refine ⟨ok_O hr.1 (by decide), m_gathers hib (fun hle S1 hE hj hm => hJ S1 ⟨b00, ?_⟩) (fun q => by rw [nch0] at q; omega)⟩
  have hf := Fr.of hE hr
  have hc : CS S b00 (nch b00) (chl b00) := by
    refine ⟨⟨hr, ⟨fun j hj => z (by omega) _, fun f hf i hi => z (by omega) _, fun w hw i hi => z (by omega) _⟩, WF0, ?_, hle, Or.inr ⟨?_, ?_⟩, fun c hc => ?_⟩, ⟨Or.inl (z (by omega) _), Or.inl (z (by omega) _), Or.inl (z (by omega) _)⟩, fun o ho => ?_⟩
    · rw [nch0]; exact (h.2.2.1 17 0).trans (by decide +kernel)
    · exact (h.2.1 17 1).trans (by decide +kernel)
    · exact (h.2.1 17 2).trans (by decide +kernel)
    · rw [nch0] at hc
      have e : c = 0 := by omega
      rw [e, chl0, (h.2.1 17 1).trans (show vl 0 qB 17 1 = 19 by decide +kernel)]
      exact ⟨(h.2.2.1 19 0).trans (by decide +kernel), by decide⟩
    · have f := ho.far
      exact ⟨z (by omega) _, z (by omega) _⟩
  have hk : KP S := fun k hk => Or.inl ⟨z (by omega) _, z (by omega) _⟩
  have hs : SH S := by
    intro s hs
    have q : ∀ s, s < 4 → vl 0 wB (21 + 2 * s) 2 = -1 ∧ vl 0 wB 118 s = -1 ∧ vl 0 wB (21 + 2 * s) 1 = 0 := by decide +kernel
    obtain ⟨q1, q2, q3⟩ := q s hs
    rw [h.2.2.1 _ 2, h.2.2.1 118 s, h.2.2.1 _ 1, q1, q2, q3, z (a := 117) (by omega)]
    exact ⟨rfl, rfl, Or.inl rfl, fun i hi => by rw [z (by omega), z (by omega)]⟩
  refine ⟨hc.ex hE (fun k hk => by omega), ⟨hib.g hE hj, hle, hm⟩, hk.fr hf (fun k hk => by omega), hs.fr hf (fun k hk => by omega), ?_⟩
  rw [hE.i (by omega), hj 0 (by decide), z (by omega), z (by omega)]
