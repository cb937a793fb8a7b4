-- lots: the mathematics
def mxx (x y : Nat) : Nat := if y < x then x else y
def CA (a b : Nat → Nat) (N u d : Nat) : Prop := (∃ c, c < N ∧ u = mxx (a c) (b c) ∧ d = 1) ∨ ∃ c e, c < N ∧ e < N ∧ a c < b c ∧ b e < a e ∧ u = a c * (a e - b e) + a e * (b c - a c) ∧ d = (b c - a c) + (a e - b e)
def LV (a b : Nat → Nat) (N U V : Nat) : Prop := 0 < V ∧ Nat.gcd U V = 1 ∧ (∀ u d, CA a b N u d → U * d ≤ u * V) ∧ ∃ u d, CA a b N u d ∧ 0 < d ∧ U * d = u * V
theorem frac_le {U V U2 V2 u d : Nat} (hd : 0 < d) (h1 : U * d = u * V) (h2 : U2 * d ≤ u * V2) : U2 * V ≤ U * V2 := by
  have h3 : U2 * d * V ≤ u * V2 * V := Nat.mul_le_mul_right V h2
  have e1 : u * V2 * V = (U * V2) * d := by rw [Nat.mul_assoc, Nat.mul_comm V2 V, ← Nat.mul_assoc, ← h1, Nat.mul_assoc, Nat.mul_comm d V2, ← Nat.mul_assoc]
  have e2 : U2 * d * V = (U2 * V) * d := by rw [Nat.mul_assoc, Nat.mul_comm d V, ← Nat.mul_assoc]
  rw [e1, e2] at h3
  exact Nat.le_of_mul_le_mul_right h3 hd
theorem frac_one {U V U2 V2 : Nat} (hV : 0 < V) (hV2 : 0 < V2) (g1 : Nat.gcd U V = 1) (g2 : Nat.gcd U2 V2 = 1) (h : U2 * V = U * V2) : U = U2 ∧ V = V2 := by
  have d1 : V ∣ V2 := by
    have : V ∣ U * V2 := ⟨U2, by rw [← h, Nat.mul_comm]⟩
    exact Nat.Coprime.dvd_of_dvd_mul_left (k := V) (m := U) (n := V2) (by unfold Nat.Coprime; rw [Nat.gcd_comm]; exact g1) this
  have d2 : V2 ∣ V := by
    have : V2 ∣ U2 * V := ⟨U, by rw [h, Nat.mul_comm]⟩
    exact Nat.Coprime.dvd_of_dvd_mul_left (k := V2) (m := U2) (n := V) (by unfold Nat.Coprime; rw [Nat.gcd_comm]; exact g2) this
  have e : V = V2 := Nat.dvd_antisymm d1 d2
  subst e
  exact ⟨(Nat.eq_of_mul_eq_mul_right hV h).symm, rfl⟩
theorem LV_one {a b : Nat → Nat} {N U V U2 V2 : Nat} (h : LV a b N U V) (g : LV a b N U2 V2) : U = U2 ∧ V = V2 := by
  obtain ⟨h1, h2, h3, u, d, h4, h5, h6⟩ := h
  obtain ⟨g1, g2, g3, w, e, g4, g5, g6⟩ := g
  have x := frac_le h5 h6 (g3 u d h4)
  have y := frac_le g5 g6 (h3 w e g4)
  exact frac_one h1 g1 h2 g2 (by omega)
theorem red_LV {a b : Nat → Nat} {N U V : Nat} (hV : 0 < V) (h1 : ∀ u d, CA a b N u d → U * d ≤ u * V) (h2 : ∃ u d, CA a b N u d ∧ 0 < d ∧ U * d = u * V) : LV a b N (U / Nat.gcd U V) (V / Nat.gcd U V) := by
  have hg : 0 < Nat.gcd U V := Nat.gcd_pos_of_pos_right U hV
  obtain ⟨U1, e1⟩ := Nat.gcd_dvd_left U V
  obtain ⟨V1, e2⟩ := Nat.gcd_dvd_right U V
  have hc := Nat.gcd_div_gcd_div_gcd_of_pos_right (n := U) hV
  generalize Nat.gcd U V = g at hg e1 e2 hc
  have q1 : U / g = U1 := by rw [e1, Nat.mul_div_cancel_left _ hg]
  have q2 : V / g = V1 := by rw [e2, Nat.mul_div_cancel_left _ hg]
  rw [q1, q2] at hc ⊢
  refine ⟨?_, hc, fun u d hu => ?_, ?_⟩
  · rcases Nat.eq_zero_or_pos V1 with z | z
    · subst z; omega
    · exact z
  · have := h1 u d hu
    rw [e1, e2, Nat.mul_assoc, ← Nat.mul_assoc u, Nat.mul_comm u g, Nat.mul_assoc] at this
    exact Nat.le_of_mul_le_mul_left this hg
  · obtain ⟨u, d, hu, hd, he⟩ := h2
    refine ⟨u, d, hu, hd, ?_⟩
    rw [e1, e2, Nat.mul_assoc, ← Nat.mul_assoc u, Nat.mul_comm u g, Nat.mul_assoc] at he
    exact Nat.eq_of_mul_eq_mul_left hg he
/-- how high a point lies over the line through two -/
def und (a b : Nat → Nat) (L R c : Nat) : Nat := (b L - b R) * a c + (a R - a L) * b c
def EL (a b : Nat → Nat) (N L : Nat) : Prop := ∃ p q : Nat, 0 < p ∧ (∀ c, c < N → p * a L + q * b L ≤ p * a c + q * b c) ∧ (q = 0 → ∀ c, c < N → a c = a L → b L ≤ b c)
def DI (a b : Nat → Nat) (N L R : Nat) : Prop := L < N ∧ R < N ∧ a L ≤ b L ∧ b R < a R ∧ a L < a R ∧ b R < b L ∧ EL a b N L ∧ EL b a N R
theorem und_R {a b : Nat → Nat} {L R : Nat} (h1 : a L ≤ a R) (h2 : b R ≤ b L) : und a b L R L = und a b L R R := by
  unfold und
  obtain ⟨x, hx⟩ := Nat.le.dest h1
  obtain ⟨y, hy⟩ := Nat.le.dest h2
  rw [← hx, ← hy, Nat.add_sub_cancel_left, Nat.add_sub_cancel_left, Nat.mul_add, Nat.mul_add, Nat.mul_comm y x]
  omega
/-- a point under the line lies left of R and over it -/
theorem box_R {a b : Nat → Nat} {N L R c : Nat} (hL : L < N) (hc : c < N) (h1 : a L < a R) (h2 : b R < b L) (hR : EL b a N R) (hu : und a b L R c < und a b L R R) : a c < a R ∧ b R < b c := by
  obtain ⟨q, p, hq, hm, hz⟩ := hR
  unfold und at hu
  obtain ⟨Q, hQ⟩ := Nat.le.dest (Nat.le_of_lt h1)
  obtain ⟨P, hP⟩ := Nat.le.dest (Nat.le_of_lt h2)
  have hP0 : 0 < P := by omega
  have hQ0 : 0 < Q := by omega
  rw [show b L - b R = P by omega, show a R - a L = Q by omega] at hu
  have mL := hm L hL
  have mc := hm c hc
  have k1 : a c < a R := by
    rcases Nat.lt_or_ge (a c) (a R) with z | z
    · exact z
    · exfalso
      obtain ⟨x, hx⟩ := Nat.le.dest z
      have hb : b c < b R := by
        rcases Nat.lt_or_ge (b c) (b R) with w | w
        · exact w
        · exfalso
          have t1 := Nat.mul_le_mul_left P z
          have t2 := Nat.mul_le_mul_left Q w
          omega
      obtain ⟨y, hy⟩ := Nat.le.dest (Nat.le_of_lt hb)
      rw [← hx, ← hy, Nat.mul_add, Nat.mul_add] at hu
      rw [← hx, ← hy, Nat.mul_add, Nat.mul_add] at mc
      rw [← hQ, ← hP, Nat.mul_add, Nat.mul_add] at mL
      have u1 : P * x < Q * y := by omega
      have u2 : q * y ≤ p * x := by omega
      have u3 : p * Q ≤ q * P := by omega
      have v1 : q * (P * x) < q * (Q * y) := Nat.mul_lt_mul_of_pos_left u1 hq
      have v2 : Q * (q * y) ≤ Q * (p * x) := Nat.mul_le_mul_left Q u2
      have v3 : p * Q * x ≤ q * P * x := Nat.mul_le_mul_right x u3
      have e1 : q * (P * x) = q * P * x := (Nat.mul_assoc q P x).symm
      have e2 : q * (Q * y) = Q * (q * y) := by rw [← Nat.mul_assoc, Nat.mul_comm q Q, Nat.mul_assoc]
      have e3 : Q * (p * x) = p * Q * x := by rw [← Nat.mul_assoc, Nat.mul_comm Q p]
      omega
  refine ⟨k1, ?_⟩
  rcases Nat.lt_or_ge (b R) (b c) with z | z
  · exact z
  · exfalso
    rcases Nat.eq_zero_or_pos p with w | w
    · have t := hz w
      subst w
      rw [Nat.zero_mul, Nat.zero_mul, Nat.add_zero, Nat.add_zero] at mc
      have := Nat.le_of_mul_le_mul_left mc hq
      have := t c hc (by omega)
      omega
    · have t1 := Nat.mul_lt_mul_of_pos_left k1 w
      have t2 := Nat.mul_le_mul_left q z
      omega
theorem und_sw {a b : Nat → Nat} {L R c : Nat} : und a b L R c = und b a R L c := by
  unfold und
  omega
theorem box {a b : Nat → Nat} {N L R c : Nat} (h : DI a b N L R) (hc : c < N) (hu : und a b L R c < und a b L R L) : a L < a c ∧ a c < a R ∧ b R < b c ∧ b c < b L := by
  obtain ⟨h1, h2, h3, h4, h5, h6, h7, h8⟩ := h
  have e := und_R (a := a) (b := b) (L := L) (R := R) (Nat.le_of_lt h5) (Nat.le_of_lt h6)
  have k1 := box_R h1 hc h5 h6 h8 (by omega)
  have k2 := box_R (a := b) (b := a) (L := R) (R := L) h2 hc h6 h5 h7 (by rw [und_sw (a := b) (b := a) (L := R) (R := L) (c := c), und_sw (a := b) (b := a) (L := R) (R := L) (c := L)]; exact hu)
  exact ⟨k2.2, k1.1, k1.2, k2.1⟩
theorem EL_new {a b : Nat → Nat} {N L R u : Nat} (h5 : a L < a R) (h6 : b R < b L) (hm : ∀ c, c < N → und a b L R u ≤ und a b L R c) : EL a b N u ∧ EL b a N u := by
  refine ⟨⟨b L - b R, a R - a L, by omega, fun c hc => hm c hc, fun z => by omega⟩, ⟨a R - a L, b L - b R, by omega, fun c hc => ?_, fun z => by omega⟩⟩
  have := hm c hc
  unfold und at this
  omega
theorem DI_R {a b : Nat → Nat} {N L R u : Nat} (h : DI a b N L R) (hu : u < N) (hlt : und a b L R u < und a b L R L) (hm : ∀ c, c < N → und a b L R u ≤ und a b L R c) (hs : b u < a u) : DI a b N L u := by
  have k := box h hu hlt
  obtain ⟨h1, h2, h3, h4, h5, h6, h7, h8⟩ := h
  exact ⟨h1, hu, h3, hs, k.1, k.2.2.2, h7, (EL_new h5 h6 hm).2⟩
theorem DI_L {a b : Nat → Nat} {N L R u : Nat} (h : DI a b N L R) (hu : u < N) (hlt : und a b L R u < und a b L R L) (hm : ∀ c, c < N → und a b L R u ≤ und a b L R c) (hs : a u ≤ b u) : DI a b N u R := by
  have k := box h hu hlt
  obtain ⟨h1, h2, h3, h4, h5, h6, h7, h8⟩ := h
  exact ⟨hu, h2, hs, h4, k.2.1, k.2.2.1, (EL_new h5 h6 hm).1, h8⟩
/-- how many points lie between -/
def btw (a : Nat → Nat) (N L R : Nat) : Nat := fb_ct (fun c => decide (a L < a c ∧ a c < a R)) N
theorem ct_drop {p q : Nat → Bool} {n u : Nat} (hu : u < n) (hs : ∀ k, k < n → p k = true → q k = true) (hq : q u = true) (hp : p u = false) : fb_ct p n + 1 ≤ fb_ct q n := by
  have h1 := fb_ct_upd p true hu
  rw [hp] at h1
  have h2 : fb_ct (fun k => if k = u then true else p k) n ≤ fb_ct q n := fb_ct_sub (fun k hk hh => by
    by_cases e : k = u
    · rw [e]; exact hq
    · simp only [e, if_false] at hh
      exact hs k hk hh)
  rw [if_neg Bool.false_ne_true, if_pos rfl] at h1
  omega
theorem btw_R {a b : Nat → Nat} {N L R u : Nat} (hu : u < N) (h1 : a L < a u) (h2 : a u < a R) : btw a N L u + 1 ≤ btw a N L R :=
  ct_drop hu (fun k _ hh => by simp only [decide_eq_true_eq] at hh ⊢; omega) (by simp only [decide_eq_true_eq]; omega) (by simp)
theorem btw_L {a b : Nat → Nat} {N L R u : Nat} (hu : u < N) (h1 : a L < a u) (h2 : a u < a R) : btw a N u R + 1 ≤ btw a N L R :=
  ct_drop hu (fun k _ hh => by simp only [decide_eq_true_eq] at hh ⊢; omega) (by simp only [decide_eq_true_eq]; omega) (by simp)
theorem mxx_ge (x y : Nat) : x ≤ mxx x y ∧ y ≤ mxx x y := by
  unfold mxx
  split <;> omega
/-- where no point lies under, the line's meeting with the diagonal is the least -/
theorem draw_LV {a b : Nat → Nat} {N L R : Nat} (h : DI a b N L R) (hm : ∀ c, c < N → und a b L R L ≤ und a b L R c) :
    b L * a R - a L * b R = und a b L R L ∧ a L * b R ≤ b L * a R ∧ 0 < (b L - a L) + (a R - b R) ∧ LV a b N ((b L * a R - a L * b R) / Nat.gcd (b L * a R - a L * b R) ((b L - a L) + (a R - b R))) (((b L - a L) + (a R - b R)) / Nat.gcd (b L * a R - a L * b R) ((b L - a L) + (a R - b R))) := by
  obtain ⟨h1, h2, h3, h4, h5, h6, h7, h8⟩ := h
  obtain ⟨Q, hQ⟩ := Nat.le.dest (Nat.le_of_lt h5)
  obtain ⟨P, hP⟩ := Nat.le.dest (Nat.le_of_lt h6)
  have eP : b L - b R = P := by omega
  have eQ : a R - a L = Q := by omega
  have eV : (b L - a L) + (a R - b R) = P + Q := by omega
  have hle : a L * b R ≤ b L * a R := by
    have t1 : a L * b R ≤ b L * b R := Nat.mul_le_mul_right _ h3
    have t2 : b L * b R ≤ b L * a R := Nat.mul_le_mul_left _ (Nat.le_of_lt h4)
    omega
  have eU : b L * a R - a L * b R = und a b L R L := by
    unfold und
    rw [eP, eQ, ← hQ, Nat.mul_add, Nat.mul_comm (b L) (a L), Nat.mul_comm (b L) Q]
    have : a L * b L = a L * b R + a L * P := by rw [← hP, Nat.mul_add]
    rw [Nat.mul_comm P (a L)]
    omega
  refine ⟨eU, hle, by omega, ?_⟩
  rw [eU, eV]
  refine red_LV (by omega) ?_ ?_
  · intro u d hu
    rcases hu with ⟨c, hc, rfl, rfl⟩ | ⟨c, e, hc, he, hc2, he2, rfl, rfl⟩
    · have := hm c hc
      obtain ⟨m1, m2⟩ := mxx_ge (a c) (b c)
      have g := this
      generalize hUU : und a b L R L = UU at g ⊢
      unfold und at g
      rw [eP, eQ] at g
      have t1 := Nat.mul_le_mul_left P m1
      have t2 := Nat.mul_le_mul_left Q m2
      rw [Nat.mul_one, Nat.mul_add, Nat.mul_comm (mxx (a c) (b c)) P, Nat.mul_comm (mxx (a c) (b c)) Q]
      omega
    · have g1 := hm c hc
      have g2 := hm e he
      generalize hUU : und a b L R L = UU at g1 g2 ⊢
      unfold und at g1 g2
      rw [eP, eQ] at g1 g2
      obtain ⟨x, hx⟩ := Nat.le.dest (Nat.le_of_lt hc2)
      obtain ⟨y, hy⟩ := Nat.le.dest (Nat.le_of_lt he2)
      rw [show b c - a c = x by omega, show a e - b e = y by omega]
      -- y * point c + x * point e lies on the diagonal
      have t1 := Nat.mul_le_mul_left y g1
      have t2 := Nat.mul_le_mul_left x g2
      rw [← hx] at t1
      have hy2 : a e = b e + y := hy.symm
      have e1 : y * (P * a c + Q * (a c + x)) = y * (P * a c) + (y * (Q * a c) + y * (Q * x)) := by rw [Nat.mul_add y, Nat.mul_add Q, Nat.mul_add y]
      have e2 : x * (P * a e + Q * b e) = x * (P * a e) + x * (Q * b e) := Nat.mul_add _ _ _
      have e3 : y * (Q * x) + x * (Q * b e) = x * (Q * a e) := by
        rw [hy2, Nat.mul_add Q, Nat.mul_add x, Nat.mul_comm y (Q * x), Nat.mul_assoc, Nat.mul_comm Q (x * y), Nat.mul_assoc, Nat.mul_comm y Q]
        omega
      have e4 : (a c * y + a e * x) * (P + Q) = y * (P * a c) + y * (Q * a c) + (x * (P * a e) + x * (Q * a e)) := by
        have f1 : a c * y * P = y * (P * a c) := by rw [Nat.mul_comm (a c) y, Nat.mul_assoc, Nat.mul_comm (a c) P]
        have f2 : a c * y * Q = y * (Q * a c) := by rw [Nat.mul_comm (a c) y, Nat.mul_assoc, Nat.mul_comm (a c) Q]
        have f3 : a e * x * P = x * (P * a e) := by rw [Nat.mul_comm (a e) x, Nat.mul_assoc, Nat.mul_comm (a e) P]
        have f4 : a e * x * Q = x * (Q * a e) := by rw [Nat.mul_comm (a e) x, Nat.mul_assoc, Nat.mul_comm (a e) Q]
        rw [Nat.add_mul, Nat.mul_add, Nat.mul_add, f1, f2, f3, f4]
      have e5 : UU * (x + y) = x * UU + y * UU := by rw [Nat.mul_add, Nat.mul_comm UU x, Nat.mul_comm UU y]
      rw [e4, e5]
      omega
  · rcases Nat.lt_or_eq_of_le h3 with z | z
    · refine ⟨_, _, Or.inr ⟨L, R, h1, h2, z, h4, rfl, rfl⟩, by omega, ?_⟩
      have : a L * (a R - b R) + a R * (b L - a L) = und a b L R L := by
        rw [← eU, Nat.mul_sub, Nat.mul_sub, Nat.mul_comm (a R) (b L), Nat.mul_comm (a R) (a L)]
        have t1 : a L * b R ≤ a L * a R := Nat.mul_le_mul_left _ (Nat.le_of_lt h4)
        have t2 : a L * a R ≤ b L * a R := Nat.mul_le_mul_right _ h3
        omega
      rw [this, eV]
    · refine ⟨_, _, Or.inl ⟨L, h1, rfl, rfl⟩, by omega, ?_⟩
      have : mxx (a L) (b L) = a L := by unfold mxx; rw [if_neg (by omega), z]
      rw [this, Nat.mul_one]
      unfold und
      rw [eP, eQ, ← z, ← Nat.add_mul, Nat.mul_comm]
theorem zero_LV {a b : Nat → Nat} {N L : Nat} (hL : L < N) (h1 : a L = 0) (h2 : b L = 0) : LV a b N 0 1 := by
  refine ⟨by omega, rfl, fun u d _ => by rw [Nat.zero_mul]; exact Nat.zero_le _, 0, 1, Or.inl ⟨L, hL, ?_, rfl⟩, by omega, rfl⟩
  rw [h1, h2]; rfl
