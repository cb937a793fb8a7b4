def lo (h : Nat → Nat) (d : Nat) : Nat → Option Nat
  | 0 => none
  | i + 1 => if h i < mn h d i then some i else lo h d i
theorem lo_none {h : Nat → Nat} {d : Nat} : ∀ {n : Nat}, lo h d n = none → mn h d n = d
  | 0, _ => rfl
  | n + 1, e => by
    unfold lo at e
    unfold mn
    by_cases c : h n < mn h d n
    · rw [if_pos c] at e; cases e
    · rw [if_neg c] at e ⊢
      exact lo_none e
theorem lo_some {h : Nat → Nat} {d : Nat} : ∀ {n u : Nat}, lo h d n = some u → u < n ∧ h u = mn h d n ∧ h u < d
  | 0, u, e => by cases e
  | n + 1, u, e => by
    unfold lo at e
    unfold mn
    by_cases c : h n < mn h d n
    · rw [if_pos c] at e ⊢
      cases e
      have := (mn_le h d n).1
      exact ⟨by omega, rfl, by omega⟩
    · rw [if_neg c] at e ⊢
      obtain ⟨a1, a2, a3⟩ := lo_some e
      exact ⟨by omega, a2, a3⟩
theorem und_le {a b : Nat → Nat} {L R c : Nat} (h1 : b L ≤ 12000) (h2 : a R ≤ 12000) (h3 : a c ≤ 12000) (h4 : b c ≤ 12000) : und a b L R c ≤ 288000000 := by
  have t1 : (b L - b R) * a c ≤ 12000 * 12000 := Nat.mul_le_mul (by omega) h3
  have t2 : (a R - a L) * b c ≤ 12000 * 12000 := Nat.mul_le_mul (by omega) h4
  unfold und
  omega
theorem l_low {S : St} {β : Nat → Nat → Nat} {N : Nat} {ch : Nat → Nat} {L R : Nat} {a b : Nat → Nat} {K : Int32 → St → Prop} (h : CS S β N ch) (hp : PT S N a b) (hL : L < N) (hR : R < N) (hK : K (oI (lo (und a b L R) (und a b L R L) N)) S) :
    ∀ (n i : Nat), i ≤ N → N - i < n → wX7_lowestUnder_59 K n 93 (lN (b L - b R)) (lN (a R - a L)) (lN (mn (und a b L R) (und a b L R L) i)) (oI (lo (und a b L R) (und a b L R L) i)) (nI i) S
  | 0, i, _, h => absurd h (by omega)
  | n + 1, i, hi, hn => by
    have hr := h.1.1
    have hN := h.1.2.2.2.2.1
    have ih := l_low h hp hL hR hK n
    rw [wX7_lowestUnder_59, rt93_1 hr, h.1.2.2.2.1, ple (by omega) (by omega)]
    refine ⟨⟨ok_O hr.1 (by decide), by decide⟩, ok_O hr.1 (by decide), fun c => ?_, fun c => ?_⟩
    · have e : i = N := by omega
      subst e
      exact hK
    · obtain ⟨p1, p2, p3, p4⟩ := hp i (by omega)
      have bb := und_le (a := a) (b := b) (hp L hL).2.2.2 (hp R hR).2.2.1 p3 p4
      have bd := und_le (a := a) (b := b) (hp L hL).2.2.2 (hp R hR).2.2.1 (hp L hL).2.2.1 (hp L hL).2.2.2
      have bm := (mn_le (und a b L R) (und a b L R L) i).1
      rw [rt93_3 hr, rt93_4 hr, pcl (by omega), p1, p2, nI_l (n31 (by omega)), nI_l (n31 (by omega)), lN_mul, lN_mul, lN_add]
      have i2 := ih (i + 1) (by omega) (by omega)
      refine ⟨by decide, ok_A (N := 500) hr.1 (by decide) (by omega) (by decide), by decide, ok_A (N := 500) hr.1 (by decide) (by omega) (by decide), fun x11 e11 => ?_⟩
      have e11 : x11 = lN (und a b L R i) := e11
      subst e11
      rw [lg_cmp_ge, lN_le (n31 (by omega)) (n31 (by omega))]
      have e1 : mn (und a b L R) (und a b L R L) (i + 1) = if und a b L R i < mn (und a b L R) (und a b L R L) i then und a b L R i else mn (und a b L R) (und a b L R L) i := rfl
      have e2 : lo (und a b L R) (und a b L R L) (i + 1) = if und a b L R i < mn (und a b L R) (und a b L R L) i then some i else lo (und a b L R) (und a b L R L) i := rfl
      rw [e1, e2] at i2
      refine ⟨fun z => ?_, fun z => ?_⟩
      · rw [if_neg (by omega), if_neg (by omega)] at i2
        intro x ex
        rw [ex, nI_1]
        exact i2
      · rw [if_pos (by omega), if_pos (by omega)] at i2
        intro x ex
        rw [ex, nI_1]
        exact i2
theorem w_low {S : St} {β : Nat → Nat → Nat} {N : Nat} {ch : Nat → Nat} {L R : Nat} {a b : Nat → Nat} {K : Int32 → St → Prop} (h : CS S β N ch) (hp : PT S N a b) (hL : L < N) (hR : R < N) (h1 : a L ≤ a R) (h2 : b R ≤ b L) (hK : K (oI (lo (und a b L R) (und a b L R L) N)) S) : wX7_lowestUnder S 93 (nI L) (nI R) K := by
  have hr := h.1.1
  have hN := h.1.2.2.2.2.1
  obtain ⟨p1, p2, p3, p4⟩ := hp L hL
  obtain ⟨q1, q2, q3, q4⟩ := hp R hR
  unfold wX7_lowestUnder
  rw [rt93_3 hr, rt93_4 hr, pcl (by omega), pcl (by omega), p1, p2, q1, q2, pk_sub h2, pk_sub h1, nI_l (n31 (by omega)), nI_l (n31 (by omega)), nI_l (n31 (by omega)), nI_l (n31 (by omega))]
  refine ⟨⟨ok_O hr.1 (by decide), by decide⟩, ok_A (N := 500) hr.1 (by decide) (by omega) (by decide), ok_A (N := 500) hr.1 (by decide) (by omega) (by decide), fun x3 e3 => ⟨by decide, ok_A (N := 500) hr.1 (by decide) (by omega) (by decide), ok_A (N := 500) hr.1 (by decide) (by omega) (by decide), fun x5 e5 x7 e7 => ?_⟩⟩
  subst e3 e5
  rw [lN_mul, lN_mul, lN_add] at e7
  subst e7
  exact ⟨N + 1, l_low h hp hL hR hK (N + 1) 0 (by omega) (by omega)⟩
theorem mod_half {a b : Nat} (h0 : 0 < b) (h : b ≤ a) : 2 * (a % b) ≤ a := by
  have h1 := Nat.div_add_mod a b
  have h2 := Nat.mod_lt a h0
  have h3 : 1 ≤ a / b := (Nat.one_le_div_iff h0).mpr h
  have h4 : b * 1 ≤ b * (a / b) := Nat.mul_le_mul_left b h3
  omega
theorem gcd_st (a b : Nat) : Nat.gcd a b = Nat.gcd b (a % b) := by
  rw [Nat.gcd_comm a b, Nat.gcd_rec b a, Nat.gcd_comm]
theorem l_gcd {S : St} {K : Int64 → St → Prop} : ∀ (m n big small step : Nat), small ≤ big → big * small < 2 ^ m → step + m ≤ 100 → m < n → big < 2 ^ 63 → K (lN (Nat.gcd big small)) S → wX7_commonDivisor_9 K n (lN big) (lN small) (nI step) S
  | m, 0, _, _, _, _, _, _, h, _, _ => absurd h (by omega)
  | m, n + 1, big, small, step, h1, h2, h3, h4, h5, hK => by
    have z0 : (lg_cmp (lN small) 0 = 0) = (small = 0) := by
      rw [lg_cmp_eq, show (0 : Int64) = lN 0 from rfl, pk_lEQ (by omega) (by decide)]
    rw [wX7_commonDivisor_9, show (100 : Int32) = nI 100 from rfl, ple (by omega) (by omega), z0]
    have done : small = 0 → K (lN big) S := fun e => by
      subst e
      rw [Nat.gcd_zero_right] at hK
      exact hK
    have h1' : small ≠ 0 → 1 ≤ m := fun e => by
      rcases Nat.eq_zero_or_pos m with w | w
      · subst w
        have : 1 * 1 ≤ big * small := Nat.mul_le_mul (by omega) (by omega)
        omega
      · exact w
    refine ⟨fun c => ?_, fun c => ⟨done, fun e => ?_⟩⟩
    · by_cases e : small = 0
      · exact done e
      · have := h1' e; omega
    · have hm := h1' e
      have hs : 0 < small := by omega
      refine ⟨?_, fun x9 e9 x8 e8 => ?_⟩
      · rw [show (0 : Int64) = lN 0 from rfl, pk_lEQ (by omega) (by decide)]; exact e
      · rw [pk_lRem h5 hs (by omega)] at e9
        rw [nI_1] at e8
        subst e9 e8
        have hh := mod_half hs h1
        have hlt := Nat.mod_lt big hs
        refine l_gcd (m - 1) n small (big % small) (step + 1) (by omega) ?_ (by omega) (by omega) (by omega) (by rw [← gcd_st]; exact hK)
        have t : small * (2 * (big % small)) ≤ small * big := Nat.mul_le_mul_left _ hh
        have e2 : small * (2 * (big % small)) = 2 * (small * (big % small)) := by rw [Nat.mul_left_comm]
        have e3 : 2 ^ m = 2 * 2 ^ (m - 1) := by rw [← Nat.pow_succ']; congr 1; omega
        rw [Nat.mul_comm small big] at t
        omega
theorem w_gcd {S : St} {K : Int64 → St → Prop} {U V : Nat} (hU : U < 2 ^ 31) (hV : V < 2 ^ 31) (hK : K (lN (Nat.gcd U V)) S) : wX7_commonDivisor S (lN U) (lN V) K := by
  refine ⟨100, ?_⟩
  have z0 : (lg_cmp (lN V) 0 = 0) = (V = 0) := by
    rw [lg_cmp_eq, show (0 : Int64) = lN 0 from rfl, pk_lEQ (by omega) (by decide)]
  rw [wX7_commonDivisor_9, z0]
  refine ⟨fun c => absurd c (by decide), fun _ => ⟨fun e => ?_, fun e => ⟨?_, fun x9 e9 x8 e8 => ?_⟩⟩⟩
  · subst e
    rw [Nat.gcd_zero_right] at hK
    exact hK
  · rw [show (0 : Int64) = lN 0 from rfl, pk_lEQ (by omega) (by decide)]; exact e
  · rw [pk_lRem (by omega) (by omega) (by omega)] at e9
    subst e9 e8
    have hlt := Nat.mod_lt U (show 0 < V by omega)
    refine l_gcd 62 99 V (U % V) 1 (by omega) ?_ (by decide) (by decide) (by omega) (by rw [← gcd_st]; exact hK)
    have : V * (U % V) ≤ 2147483647 * 2147483647 := Nat.mul_le_mul (by omega) (by omega)
    omega
theorem pL_sL {S : St} {k j : Nat} {x : Int64} : sL (pL S k j x) k j = x := by
  show va_up (S.2.2.2) k _ k j = x
  rw [up_s, up_s]
theorem pL_sLn {S : St} {k j i : Nat} {x : Int64} (h : i ≠ j) : sL (pL S k j x) k i = sL S k i := by
  show va_up (S.2.2.2) k _ k i = _
  rw [up_s, up_n h]
  rfl
theorem w_meet {S : St} {β : Nat → Nat → Nat} {N : Nat} {ch : Nat → Nat} {L R : Nat} {a b : Nat → Nat} {K : St → Prop} (h : CS S β N ch) (hp : PT S N a b) (hd : DI a b N L R) (hm : ∀ c, c < N → und a b L R L ≤ und a b L R c) (hK : ∀ S1 U V, Ex (fun _ => False) S S1 → sL S1 93 5 = lN U → sL S1 93 6 = lN V → LV a b N U V → K S1) : wX7_meet S 93 (nI L) (nI R) K := by
  have hr := h.1.1
  have hN := h.1.2.2.2.2.1
  obtain ⟨dU, dle, dV, dL⟩ := draw_LV hd hm
  obtain ⟨hL, hR, h3, h4, h5, h6, -, -⟩ := hd
  obtain ⟨p1, p2, p3, p4⟩ := hp L hL
  obtain ⟨q1, q2, q3, q4⟩ := hp R hR
  have bU := und_le (a := a) (b := b) (L := L) (R := R) p4 q3 p3 p4
  unfold wX7_meet
  rw [rt93_3 hr, rt93_4 hr, pcl (by omega), pcl (by omega), p1, p2, q1, q2, nI_l (n31 (by omega)), nI_l (n31 (by omega)), nI_l (n31 (by omega)), nI_l (n31 (by omega)), lN_mul, lN_mul, lN_sub dle, lN_sub h3, lN_add, lN_sub (by omega)]
  refine ⟨⟨ok_O hr.1 (by decide), by decide⟩, ok_A (N := 500) hr.1 (by decide) (by omega) (by decide), by decide, ok_A (N := 500) hr.1 (by decide) (by omega) (by decide), ok_A (N := 500) hr.1 (by decide) (by omega) (by decide), ok_A (N := 500) hr.1 (by decide) (by omega) (by decide), fun x3 e3 x5 e5 => ?_⟩
  rw [show b L - a L + a R - b R = (b L - a L) + (a R - b R) by omega] at e5
  subst e3 e5
  rw [dU] at dL ⊢
  have bV : (b L - a L) + (a R - b R) ≤ 24000 := by omega
  generalize (b L - a L) + (a R - b R) = V at dV dL bV ⊢
  generalize und a b L R L = U at bU dL ⊢
  have hg : 0 < Nat.gcd U V := Nat.gcd_pos_of_pos_right U dV
  have hg2 : Nat.gcd U V ≤ V := Nat.gcd_le_right U dV
  refine w_gcd (by omega) (by omega) ?_
  generalize Nat.gcd U V = g at hg hg2 dL ⊢
  have ne : ¬ lN g = 0 := by rw [show (0 : Int64) = lN 0 from rfl, pk_lEQ (by omega) (by decide)]; omega
  refine ⟨fun z => ?_, fun _ => ⟨ne, ok_O hr.1 (by decide), fun S1 e1 => ⟨ne, ?_, fun S2 e2 => ?_⟩⟩⟩
  · rw [lg_cmp_le, show (0 : Int64) = lN 0 from rfl, pk_lLE (by omega) (by decide)] at z
    omega
  · rw [e1]; exact ok_O hr.1 (by decide)
  · rw [pk_lDiv (by omega) hg (by omega)] at e1 e2
    refine hK S2 (U / g) (V / g) ?_ ?_ ?_ dL
    · rw [e2, e1]; exact Ex.rf
    · rw [e2, pL_sLn (by decide), e1, pL_sL]
    · rw [e2, pL_sL]
theorem l_draw {S : St} {β : Nat → Nat → Nat} {N : Nat} {ch : Nat → Nat} {a b : Nat → Nat} {K : St → Prop} (h : CS S β N ch) (hp : PT S N a b) (hK : ∀ S1 U V, Ex (fun _ => False) S S1 → sL S1 93 5 = lN U → sL S1 93 6 = lN V → LV a b N U V → K S1) :
    ∀ (n L R t : Nat), DI a b N L R → btw a N L R + t ≤ N → N - t < n → wX7_draw_48 K n 93 (nI L) (nI R) (nI t) S
  | 0, L, R, t, _, _, h => absurd h (by omega)
  | n + 1, L, R, t, hd, hb, hn => by
    have hr := h.1.1
    have hN := h.1.2.2.2.2.1
    obtain ⟨hL, hR, h3, h4, h5, h6, -, -⟩ := id hd
    have done : (∀ c, c < N → und a b L R L ≤ und a b L R c) → wX7_draw_108 K 93 (nI L) (nI R) S := fun hm => ⟨ok_O hr.1 (by decide), w_meet h hp hd hm hK⟩
    rw [wX7_draw_48, rt93_1 hr, h.1.2.2.2.1, ple (by omega) (by omega)]
    refine ⟨⟨ok_O hr.1 (by decide), by decide⟩, ok_O hr.1 (by decide), fun c => done (fun x hx => ?_), fun c => ?_⟩
    · rcases Nat.lt_or_ge (und a b L R x) (und a b L R L) with z | z
      · exfalso
        have k := box hd hx z
        have z0 : btw a N L R = 0 := by omega
        have := fb_ct_zero.mp z0 x hx
        simp only [decide_eq_false_iff_not] at this
        omega
      · exact z
    · refine w_low h hp hL hR (by omega) (by omega) ?_
      cases hl : lo (und a b L R) (und a b L R L) N with
      | none =>
        refine ⟨fun _ => done (fun x hx => ?_), fun z => absurd rfl z⟩
        have := lo_none hl
        have := (mn_le (und a b L R) (und a b L R L) N).2 x hx
        omega
      | some u =>
        obtain ⟨u1, u2, u3⟩ := lo_some hl
        have hm : ∀ c, c < N → und a b L R u ≤ und a b L R c := fun c hc => by
          have := (mn_le (und a b L R) (und a b L R L) N).2 c hc
          omega
        have k := box hd u1 u3
        obtain ⟨p1, p2, p3, p4⟩ := hp u u1
        refine ⟨fun z => absurd z (neg1_ne (by omega)), fun _ => ?_⟩
        show (okO S 7 93 ∧ sR S 93 3 ≠ 0) ∧ okA S 10 (sR S 93 3) (nI u) ∧ sR S 93 4 ≠ 0 ∧ okA S 10 (sR S 93 4) (nI u) ∧ ((sI S (sR S 93 3) (nI u).toNatClampNeg ≤ sI S (sR S 93 4) (nI u).toNatClampNeg → wX7_draw_102 K (wX7_draw_48 K n) 93 (nI u) (nI R) (nI t) S) ∧ (¬ sI S (sR S 93 3) (nI u).toNatClampNeg ≤ sI S (sR S 93 4) (nI u).toNatClampNeg → wX7_draw_102 K (wX7_draw_48 K n) 93 (nI L) (nI u) (nI t) S))
        rw [rt93_3 hr, rt93_4 hr, pcl (by omega), p1, p2, ple (by omega) (by omega)]
        refine ⟨⟨ok_O hr.1 (by decide), by decide⟩, ok_A (N := 500) hr.1 (by decide) (by omega) (by decide), by decide, ok_A (N := 500) hr.1 (by decide) (by omega) (by decide), fun z x ex => ?_, fun z x ex => ?_⟩
        · rw [ex, nI_1]
          have hb2 := btw_L (a := a) (b := b) u1 k.1 k.2.1
          exact l_draw h hp hK n u R (t + 1) (DI_L hd u1 u3 hm z) (by omega) (by omega)
        · rw [ex, nI_1]
          have hb2 := btw_R (a := a) (b := b) u1 k.1 k.2.1
          exact l_draw h hp hK n L u (t + 1) (DI_R hd u1 u3 hm (by omega)) (by omega) (by omega)
theorem w_draw {S : St} {β : Nat → Nat → Nat} {N : Nat} {ch : Nat → Nat} {a b : Nat → Nat} {K : St → Prop} (h : CS S β N ch) (hp : PT S N a b) (h0 : 0 < N) (za : ∃ c, c < N ∧ a c = 0) (zb : ∃ c, c < N ∧ b c = 0) (hK : ∀ S1 U V, Ex (fun _ => False) S S1 → sL S1 93 5 = lN U → sL S1 93 6 = lN V → LV a b N U V → K S1) : wX7_draw S 93 K := by
  have hr := h.1.1
  have hN := h.1.2.2.2.2.1
  unfold wX7_draw
  rw [rt93_3 hr, rt93_4 hr]
  have hLN := am_lt (key a b) N h0
  have hRN := am_lt (key b a) N h0
  have hLm := am_le (key a b) N
  have hRm := am_le (key b a) N
  refine ⟨⟨ok_O hr.1 (by decide), by decide⟩, by decide, w_leastBy (f := a) (g := b) h h0 (Or.inl rfl) (Or.inr rfl) hp ?_⟩
  rw [rt93_4 hr, rt93_3 hr]
  refine ⟨⟨ok_O hr.1 (by decide), by decide⟩, by decide, w_leastBy (f := b) (g := a) h h0 (Or.inr rfl) (Or.inl rfl) (fun c hc => ⟨(hp c hc).2.1, (hp c hc).1, (hp c hc).2.2.2, (hp c hc).2.2.1⟩) ?_⟩

  rw [rt93_4 hr]
  generalize am (key a b) N = L at hLN hLm ⊢
  generalize am (key b a) N = R at hRN hRm ⊢
  obtain ⟨p1, p2, p3, p4⟩ := hp L hLN
  obtain ⟨q1, q2, q3, q4⟩ := hp R hRN
  have lx : ∀ c, c < N → a L ≤ a c ∧ (a c = a L → b L ≤ b c) := fun c hc => by
    have := hLm c hc
    have := hp c hc
    unfold key at *
    omega
  have rx : ∀ c, c < N → b R ≤ b c ∧ (b c = b R → a R ≤ a c) := fun c hc => by
    have := hRm c hc
    have := hp c hc
    unfold key at *
    omega
  have aL : a L = 0 := by obtain ⟨c, hc, e⟩ := za; have := (lx c hc).1; omega
  have bR : b R = 0 := by obtain ⟨c, hc, e⟩ := zb; have := (rx c hc).1; omega
  rw [pcl (by omega), p2, show (0 : Int32) = nI 0 from rfl, peq (by omega) (by omega)]
  refine ⟨⟨ok_O hr.1 (by decide), by decide⟩, ok_A (N := 500) hr.1 (by decide) (by omega) (by decide), fun z S1 e1 => ⟨by rw [e1]; exact ok_O hr.1 (by decide), fun S2 e2 => ?_⟩, fun z => ?_⟩
  · refine hK S2 0 1 ?_ ?_ ?_ (zero_LV hLN aL z)
    · rw [e2, e1]; exact Ex.rf
    · rw [e2, pL_sLn (by decide), e1, pL_sL]; rfl
    · rw [e2, pL_sL]; rfl
  · have hRa : 0 < a R := by
      rcases Nat.eq_zero_or_pos (a R) with w | w
      · exfalso
        have := (lx R hRN).2 (by omega)
        omega
      · exact w
    have hd : DI a b N L R := ⟨hLN, hRN, by omega, by omega, by omega, by omega, ⟨1, 0, by omega, fun c hc => by have := (lx c hc).1; omega, fun _ c hc e => (lx c hc).2 e⟩, ⟨1, 0, by omega, fun c hc => by have := (rx c hc).1; omega, fun _ c hc e => (rx c hc).2 e⟩⟩
    exact ⟨N + 1, l_draw h hp hK (N + 1) L R 0 hd (by have := fb_ct_le (fun c => decide (a L < a c ∧ a c < a R)) N; unfold btw; omega) (by omega)⟩
/-- the front -/
def FR (a b : Nat → Nat) (N c : Nat) : Bool := fb_ct (fun d => decide ((a d ≤ a c ∧ b d ≤ b c ∧ (a d < a c ∨ b d < b c)) ∨ (d < c ∧ a d = a c ∧ b d = b c))) N == 0
theorem FR_iff {a b : Nat → Nat} {N c : Nat} : FR a b N c = true ↔ ∀ d, d < N → ¬ ((a d ≤ a c ∧ b d ≤ b c ∧ (a d < a c ∨ b d < b c)) ∨ (d < c ∧ a d = a c ∧ b d = b c)) := by
  unfold FR
  rw [beq_iff_eq, fb_ct_zero]
  simp only [decide_eq_false_iff_not]
def rkf (a b : Nat → Nat) (N c : Nat) : Nat := fb_ct (fun d => FR a b N d && decide (a d < a c)) N
def sq (a b : Nat → Nat) (N : Nat) : Nat → Option Nat
  | 0 => lmb a b N 2147483647
  | i + 1 => match sq a b N i with
    | none => none
    | some c => lmb a b N (b c)
theorem FR_one {a b : Nat → Nat} {N c d : Nat} (hc : c < N) (hd : d < N) (h1 : FR a b N c = true) (h2 : FR a b N d = true) (e : a c = a d) : c = d := by
  have k1 := FR_iff.mp h1 d hd
  have k2 := FR_iff.mp h2 c hc
  omega
theorem lmb_FR {a b : Nat → Nat} {N h c : Nat} (hb : ∀ c, c < N → b c ≤ 12000) (e : lmb a b N h = some c) : c < N ∧ b c < h ∧ FR a b N c = true ∧ ∀ d, d < N → b d < h → a c ≤ a d := by
  obtain ⟨h1, h2, h3⟩ := fo_some e
  have hp : ∀ j, j < N → b j < h → key a b c ≤ key a b j ∧ (j < c → key a b c < key a b j) := fun j hj hbj => h3 j hj (by rw [decide_eq_true_eq]; exact hbj)
  rw [decide_eq_true_eq] at h2
  unfold key at hp
  refine ⟨h1, h2, FR_iff.mpr (fun d hd hh => ?_), fun d hd hbd => ?_⟩
  · have x1 := hb d hd
    have x2 := hb c h1
    have := hp d hd (by omega)
    omega
  · have x1 := hb d hd
    have x2 := hb c h1
    have := (hp d hd hbd).1
    omega
theorem sq_spec {a b : Nat → Nat} {N : Nat} (hb : ∀ c, c < N → b c ≤ 12000) : ∀ i, (sq a b N i = none → fb_ct (FR a b N) N ≤ i) ∧ ∀ c, sq a b N i = some c → c < N ∧ FR a b N c = true ∧ rkf a b N c = i
  | 0 => by
    refine ⟨fun e => ?_, fun c e => ?_⟩
    · have hN : N = 0 := by
        rcases Nat.eq_zero_or_pos N with w | w
        · exact w
        · have := fo_none e 0 w
          have := hb 0 w
          simp only [decide_eq_false_iff_not] at *
          omega
      rw [hN]
      exact Nat.le_refl _
    · obtain ⟨h1, h2, h3, h4⟩ := lmb_FR hb e
      refine ⟨h1, h3, fb_ct_zero.mpr (fun d hd => ?_)⟩
      have := h4 d hd (by have := hb d hd; omega)
      have : decide (a d < a c) = false := by rw [decide_eq_false_iff_not]; omega
      rw [this, Bool.and_false]
  | i + 1 => by
    obtain ⟨ih1, ih2⟩ := sq_spec hb i
    cases hs : sq a b N i with
    | none =>
      have e : sq a b N (i + 1) = none := by
        show (match sq a b N i with
          | none => none
          | some c => lmb a b N (b c)) = none
        rw [hs]
      refine ⟨fun _ => by have := ih1 hs; omega, fun c h => by rw [e] at h; cases h⟩
    | some c =>
      have e : sq a b N (i + 1) = lmb a b N (b c) := by
        show (match sq a b N i with
          | none => none
          | some c => lmb a b N (b c)) = _
        rw [hs]
      obtain ⟨c1, c2, c3⟩ := ih2 c hs
      have cf := FR_iff.mp c2
      rw [e]
      refine ⟨fun hn => ?_, fun c' hc' => ?_⟩
      · -- all others of the front lie left of c
        have hall : ∀ d, d < N → b c ≤ b d := fun d hd => by
          have := fo_none hn d hd
          rw [decide_eq_false_iff_not] at this
          omega
        have h1 := fb_ct_upd (fun d => FR a b N d && decide (a d < a c)) true c1
        have z : (FR a b N c && decide (a c < a c)) = false := by
          rw [decide_eq_false (Nat.lt_irrefl _), Bool.and_false]
        rw [z, if_neg Bool.false_ne_true, if_pos rfl] at h1
        have h2 : fb_ct (FR a b N) N ≤ fb_ct (fun k => if k = c then true else FR a b N k && decide (a k < a c)) N := fb_ct_sub (fun d hd hf => by
          by_cases e : d = c
          · simp only [e, if_true]
          · simp only [e, if_false]
            rw [hf, Bool.true_and, decide_eq_true_eq]
            have k1 := FR_iff.mp hf c c1
            have k2 := cf d hd
            have k3 := hall d hd
            omega)
        unfold rkf at c3
        omega
      · obtain ⟨h1, h2, h3, h4⟩ := lmb_FR hb hc'
        refine ⟨h1, h3, ?_⟩
        have q1 := fb_ct_upd (fun d => FR a b N d && decide (a d < a c)) true c1
        have z : (FR a b N c && decide (a c < a c)) = false := by
          rw [decide_eq_false (Nat.lt_irrefl _), Bool.and_false]
        rw [z, if_neg Bool.false_ne_true, if_pos rfl] at q1
        have q2 : rkf a b N c' = fb_ct (fun k => if k = c then true else FR a b N k && decide (a k < a c)) N := by
          unfold rkf
          refine fb_ct_cong (fun d hd => ?_)
          have f' := FR_iff.mp h3
          by_cases e : d = c
          · subst e
            simp only [if_true]
            rw [c2, Bool.true_and, decide_eq_true_eq]
            have := cf c' h1
            omega
          · simp only [e, if_false]
            cases hf : FR a b N d with
            | false => rfl
            | true =>
              rw [Bool.true_and, Bool.true_and]
              have k1 := FR_iff.mp hf c c1
              have k2 := cf d hd
              have k3 := FR_iff.mp hf c' h1
              have k4 := h4 d hd
              have k5 := cf c' h1
              have : (a d < a c') ↔ (a d < a c) := by omega
              exact decide_eq_decide.mpr this
        unfold rkf at c3 q2
        unfold rkf
        omega
/-- what front answers -/
def fra (a b : Nat → Nat) (N i : Nat) : Option Nat := sq a b N i
theorem l_pair {S : St} {β : Nat → Nat → Nat} {N : Nat} {ch : Nat → Nat} {i : Nat} {a b : Nat → Nat} {K : Int32 → St → Prop} (h : CS S β N ch) (hp : PT S N a b) (hi : i < 2147483648) (hK : K (oI (sq a b N i)) S) :
    ∀ (n t : Nat), t ≤ i → i - t < n → wX7_pairOnFront_9 K n 93 (nI i) (oI (sq a b N t)) (nI t) S
  | 0, t, _, h => absurd h (by omega)
  | n + 1, t, ht, hn => by
    have hr := h.1.1
    have hN := h.1.2.2.2.2.1
    have ih := l_pair h hp hi hK n
    rw [wX7_pairOnFront_9, ple (by omega) (by omega)]
    refine ⟨fun c => ?_, fun c => ?_⟩
    · have e : t = i := by omega
      subst e
      exact hK
    · cases hs : sq a b N t with
      | none =>
        refine ⟨fun _ => ?_, fun z => absurd rfl z⟩
        have : ∀ d, sq a b N (t + d) = none := fun d => by
          induction d with
          | zero => exact hs
          | succ d ihd =>
            show (match sq a b N (t + d) with
              | none => none
              | some c => lmb a b N (b c)) = none
            rw [ihd]
        have h2 := this (i - t)
        rw [show t + (i - t) = i by omega] at h2
        rw [h2] at hK
        exact hK
      | some c =>
        have hc := ((sq_spec (fun c hc => (hp c hc).2.2.2) t).2 c hs).1
        have e : sq a b N (t + 1) = lmb a b N (b c) := by
          show (match sq a b N t with
            | none => none
            | some c => lmb a b N (b c)) = _
          rw [hs]
        have i2 := ih (t + 1) (by omega) (by omega)
        rw [e] at i2
        refine ⟨fun z => absurd z (neg1_ne (by omega)), fun _ => ?_⟩
        show (okO S 7 93 ∧ sR S 93 4 ≠ 0) ∧ okA S 10 (sR S 93 4) (nI c) ∧ wX7_leftmostBelow S 93 (sI S (sR S 93 4) (nI c).toNatClampNeg) (fun r_6 S_5 => ∀ x3_7 : Int32, x3_7 = (nI t) + 1 → wX7_pairOnFront_9 K n 93 (nI i) r_6 x3_7 S_5)
        rw [rt93_4 hr, pcl (by omega), (hp c hc).2.1]
        refine ⟨⟨ok_O hr.1 (by decide), by decide⟩, ok_A (N := 500) hr.1 (by decide) (by omega) (by decide), w_lmb h hp (by have := (hp c hc).2.2.2; omega) (fun x ex => ?_)⟩
        rw [ex, nI_1]
        exact i2
theorem w_pair {S : St} {β : Nat → Nat → Nat} {N : Nat} {ch : Nat → Nat} {i : Nat} {a b : Nat → Nat} {K : Int32 → St → Prop} (h : CS S β N ch) (hp : PT S N a b) (hi : i < 2147483648) (hK : K (oI (sq a b N i)) S) : wX7_pairOnFront S 93 (nI i) K := by
  have hr := h.1.1
  refine ⟨ok_O hr.1 (by decide), ?_⟩
  refine w_lmb (hh := 2147483647) h hp (by decide) ?_
  exact ⟨i + 1, l_pair h hp hi hK (i + 1) 0 (by omega) (by omega)⟩
theorem sq_lt {a b : Nat → Nat} {N i c : Nat} (hb : ∀ c, c < N → b c ≤ 12000) (e : sq a b N i = some c) : i < fb_ct (FR a b N) N := by
  obtain ⟨h1, h2, h3⟩ := (sq_spec hb i).2 c e
  have : rkf a b N c + 1 ≤ fb_ct (FR a b N) N := by
    refine ct_drop h1 (fun k _ hk => ?_) h2 ?_
    · rw [Bool.and_eq_true] at hk; exact hk.1
    · rw [decide_eq_false (Nat.lt_irrefl _), Bool.and_false]
  omega
theorem l_pairs {S : St} {β : Nat → Nat → Nat} {N : Nat} {ch : Nat → Nat} {a b : Nat → Nat} {K : Int32 → St → Prop} (h : CS S β N ch) (hp : PT S N a b) (hK : K (nI (fb_ct (FR a b N) N)) S) :
    ∀ (n t : Nat), t ≤ fb_ct (FR a b N) N → 500 - t < n → wX7_pairsOnFront_9 K n 93 (nI t) (oI (sq a b N t)) S
  | 0, t, _, h => absurd h (by omega)
  | n + 1, t, ht, hn => by
    have hr := h.1.1
    have hN := h.1.2.2.2.2.1
    have hF := fb_ct_le (FR a b N) N
    have ih := l_pairs h hp hK n
    have hb : ∀ c, c < N → b c ≤ 12000 := fun c hc => (hp c hc).2.2.2
    rw [wX7_pairsOnFront_9]
    cases hs : sq a b N t with
    | none =>
      refine ⟨fun _ => ?_, fun z => absurd rfl z⟩
      have := (sq_spec hb t).1 hs
      rw [show t = fb_ct (FR a b N) N by omega]
      exact hK
    | some c =>
      have hc := ((sq_spec hb t).2 c hs).1
      have hlt := sq_lt hb hs
      refine ⟨fun z => absurd z (neg1_ne (by omega)), fun _ => ?_⟩
      show (((500 : Int32) ≤ nI t → K (nI t) S) ∧ (¬ (500 : Int32) ≤ nI t → ∀ x1_3 : Int32, x1_3 = nI t + 1 → (okO S 7 93 ∧ sR S 93 4 ≠ 0) ∧ okA S 10 (sR S 93 4) (nI c) ∧ wX7_leftmostBelow S 93 (sI S (sR S 93 4) (nI c).toNatClampNeg) (fun r_7 S_6 => wX7_pairsOnFront_9 K n 93 x1_3 r_7 S_6)))
      rw [show (500 : Int32) = nI 500 from rfl, ple (by omega) (by omega), nI_1]
      refine ⟨fun z => absurd z (by omega), fun z x ex => ?_⟩
      subst ex
      have e : sq a b N (t + 1) = lmb a b N (b c) := by
        show (match sq a b N t with
          | none => none
          | some c => lmb a b N (b c)) = _
        rw [hs]
      have i2 := ih (t + 1) (by omega) (by omega)
      rw [e] at i2
      rw [rt93_4 hr, pcl (by omega), (hp c hc).2.1]
      exact ⟨⟨ok_O hr.1 (by decide), by decide⟩, ok_A (N := 500) hr.1 (by decide) (by omega) (by decide), w_lmb h hp (by have := hb c hc; omega) i2⟩
theorem w_pairs {S : St} {β : Nat → Nat → Nat} {N : Nat} {ch : Nat → Nat} {a b : Nat → Nat} {K : Int32 → St → Prop} (h : CS S β N ch) (hp : PT S N a b) (hK : K (nI (fb_ct (FR a b N) N)) S) : wX7_pairsOnFront S 93 K := by
  have hr := h.1.1
  refine ⟨ok_O hr.1 (by decide), ?_⟩
  refine w_lmb (hh := 2147483647) h hp (by decide) ?_
  exact ⟨501, l_pairs h hp hK 501 0 (by omega) (by omega)⟩
