-- sets: sums over them
theorem sm_mono {f g : Nat → Nat} {s : Nat} : ∀ {n : Nat}, (∀ t, t < n → s.testBit t = true → f t ≤ g t) → sm f s n ≤ sm g s n
  | 0, _ => Nat.le_refl _
  | n + 1, h => by
    have h1 := sm_mono (n := n) (s := s) (f := f) (g := g) (fun t ht => h t (by omega))
    show sm f s n + _ ≤ sm g s n + _
    by_cases hb : s.testBit n = true
    · rw [if_pos hb, if_pos hb]
      have := h n (by omega) hb
      omega
    · rw [if_neg hb, if_neg hb]
      omega
theorem sm_str {f g : Nat → Nat} {s u : Nat} : ∀ {n : Nat}, u < n → s.testBit u = true → f u < g u → (∀ t, t < n → s.testBit t = true → f t ≤ g t) → sm f s n + 1 ≤ sm g s n
  | 0, hu, _, _, _ => absurd hu (by omega)
  | n + 1, hu, hs, hlt, h => by
    show sm f s n + _ + 1 ≤ sm g s n + _
    by_cases e : u = n
    · subst e
      have h1 := sm_mono (n := u) (s := s) (f := f) (g := g) (fun t ht => h t (by omega))
      rw [if_pos hs, if_pos hs]
      omega
    · have h1 := sm_str (n := n) (by omega) hs hlt (fun t ht => h t (by omega))
      by_cases hb : s.testBit n = true
      · rw [if_pos hb, if_pos hb]
        have := h n (by omega) hb
        omega
      · rw [if_neg hb, if_neg hb]
        omega
theorem sd_bit (s t i : Nat) : (sdf s (2 ^ t)).testBit i = (s.testBit i && !decide (t = i)) := by rw [sdf_bit, Nat.testBit_two_pow]
theorem sm_del {f : Nat → Nat} {s t : Nat} : ∀ {n : Nat}, t < n → s.testBit t = true → sm f (sdf s (2 ^ t)) n + f t = sm f s n
  | 0, h, _ => absurd h (by omega)
  | n + 1, h, hs => by
    show sm f (sdf s (2 ^ t)) n + (if (sdf s (2 ^ t)).testBit n then f n else 0) + f t = sm f s n + _
    rw [sd_bit]
    by_cases e : t = n
    · subst e
      have : sm f (sdf s (2 ^ t)) t = sm f s t := sm_cong (fun i hi => by
        rw [sd_bit, decide_eq_false (by omega)]
        simp)
      rw [this, decide_eq_true rfl, hs]
      simp
    · have ih := sm_del (f := f) (n := n) (by omega) hs
      rw [decide_eq_false e]
      simp only [Bool.not_false, Bool.and_true]
      omega
theorem sm_zero_of {f : Nat → Nat} {s : Nat} : ∀ {n : Nat}, (∀ t, t < n → s.testBit t = true → f t = 0) → sm f s n = 0
  | 0, _ => rfl
  | n + 1, h => by
    show sm f s n + _ = 0
    rw [sm_zero_of (fun t ht => h t (by omega))]
    by_cases hb : s.testBit n = true
    · rw [if_pos hb, h n (by omega) hb]
    · rw [if_neg hb]
theorem sm_pos {f : Nat → Nat} {s : Nat} : ∀ {n : Nat}, 0 < sm f s n → ∃ t, t < n ∧ s.testBit t = true ∧ 0 < f t
  | 0, h => absurd h (by simp [sm])
  | n + 1, h => by
    by_cases hb : s.testBit n = true ∧ 0 < f n
    · exact ⟨n, by omega, hb.1, hb.2⟩
    · have : 0 < sm f s n := by
        change 0 < sm f s n + _ at h
        by_cases hq : s.testBit n = true
        · rw [if_pos hq] at h
          have : ¬ 0 < f n := fun z => hb ⟨hq, z⟩
          omega
        · rw [if_neg hq] at h
          omega
      obtain ⟨t, h1, h2, h3⟩ := sm_pos this
      exact ⟨t, by omega, h2, h3⟩
theorem sm_ge {f : Nat → Nat} {s t n : Nat} (ht : t < n) (hs : s.testBit t = true) : f t ≤ sm f s n := by
  have := sm_del (f := f) ht hs
  omega
-- pairs
def cn (f : Nat → Nat) (s n p : Nat) : Nat := sm (fun t => if f t = p then 1 else 0) s n
theorem ors_bit {f : Nat → Nat} {s p : Nat} : ∀ {n : Nat}, (ors f s n).testBit p = decide (0 < cn f s n p)
  | 0 => by simp [ors, cn, sm]
  | n + 1 => by
    have ih := ors_bit (f := f) (s := s) (p := p) (n := n)
    have e : cn f s (n + 1) p = cn f s n p + if s.testBit n then (if f n = p then 1 else 0) else 0 := rfl
    rw [e]
    unfold ors
    by_cases hb : s.testBit n = true
    · rw [if_pos hb, if_pos hb, Nat.testBit_or, ih, Nat.testBit_two_pow]
      by_cases hp : f n = p
      · simp [hp]
      · simp [hp]
    · rw [if_neg hb, if_neg hb, ih]
      rfl
theorem ind6 : ∀ x, x < 6 → fb_sm (fun p => if x = p then 1 else 0) 6 = 1 := by decide
theorem cn_sum {f : Nat → Nat} {s : Nat} : ∀ {n : Nat}, (∀ t, t < n → f t < 6) → fb_sm (cn f s n) 6 = sm (fun _ => 1) s n
  | 0, _ => by
    have : cn f s 0 = fun _ => 0 := rfl
    rw [this]
    rfl
  | n + 1, h => by
    have ih := cn_sum (f := f) (s := s) (n := n) (fun t ht => h t (by omega))
    have e : cn f s (n + 1) = fun p => cn f s n p + if s.testBit n then (if f n = p then 1 else 0) else 0 := rfl
    rw [e, fb_sm_add, ih]
    show _ = sm (fun _ => 1) s n + _
    by_cases hb : s.testBit n = true
    · simp only [hb, if_true]
      rw [ind6 (f n) (h n (by omega))]
    · simp only [hb]
      rfl
theorem all_one {f : Nat → Nat} {k : Nat} (h : fb_sm f k = k) (h1 : ∀ p, p < k → 1 ≤ f p) : ∀ p, p < k → f p = 1 := by
  have e : fb_sm f k = fb_sm (fun p => (f p - 1) + 1) k := fb_sm_cong (fun p hp => by have := h1 p hp; omega)
  rw [fb_sm_add, fb_sm_const] at e
  have z : fb_sm (fun p => f p - 1) k = 0 := by omega
  intro p hp
  have := fb_sm_zero z p hp
  have := h1 p hp
  omega
theorem pairs_one {f : Nat → Nat} {s n k : Nat} (hf : ∀ t, t < n → f t < 6) (hk : k ≤ 6) (hs : sm (fun _ => 1) s n = k) : ors f s n = 2 ^ k - 1 ↔ ∀ p, p < k → cn f s n p = 1 := by
  have hsum := cn_sum (s := s) hf
  have hsp := fb_sm_split (cn f s n) k (6 - k)
  rw [show k + (6 - k) = 6 by omega, hsum, hs] at hsp
  constructor
  · intro h
    have hb : ∀ q, 0 < cn f s n q ↔ q < k := fun q => by
      have := ors_bit (f := f) (s := s) (n := n) (p := q)
      rw [h, Nat.testBit_two_pow_sub_one] at this
      exact (decide_eq_decide.mp this).symm
    have z : fb_sm (fun q => cn f s n (k + q)) (6 - k) = 0 := by
      have := fb_sm_cong (f := fun q => cn f s n (k + q)) (g := fun _ => 0) (n := 6 - k) (fun q hq => by have := hb (k + q); omega)
      rw [this, fb_sm_const, Nat.mul_zero]
    exact all_one (by omega) (fun p hp => (hb p).mpr hp)
  · intro h
    have e : fb_sm (cn f s n) k = k := by
      rw [fb_sm_cong (g := fun _ => 1) h, fb_sm_const]
      omega
    have z : fb_sm (fun q => cn f s n (k + q)) (6 - k) = 0 := by omega
    have z2 := fb_sm_zero z
    apply Nat.eq_of_testBit_eq
    intro q
    rw [Nat.testBit_two_pow_sub_one]
    by_cases hq : q < k
    · rw [ors_bit, h q hq, decide_eq_true hq]
      rfl
    · rw [decide_eq_false hq]
      by_cases h6 : q < 6
      · have := z2 (q - k) (by omega)
        rw [show k + (q - k) = q by omega] at this
        rw [ors_bit, this]
        rfl
      · have hlt : ors f s n < 2 ^ 6 := ors_lt hf
        have hp : 2 ^ 6 ≤ 2 ^ q := Nat.pow_le_pow_right (by decide) (by omega)
        exact Nat.testBit_lt_two_pow (by omega)
-- what is reached
def sb (a b : Nat) : Prop := ∀ i, a.testBit i = true → b.testBit i = true
def Cl (β : Nat → Nat → Nat) (s X : Nat) : Prop := ∀ t, t < β 0 0 → s.testBit t = true → (X.testBit (β 3 t) = true ∨ X.testBit (β 4 t) = true) → X.testBit (β 3 t) = true ∧ X.testBit (β 4 t) = true
theorem pow_or_bit (x p q i : Nat) : (x ||| (2 ^ p ||| 2 ^ q)).testBit i = (x.testBit i || (decide (p = i) || decide (q = i))) := by
  rw [Nat.testBit_or, Nat.testBit_or, Nat.testBit_two_pow, Nat.testBit_two_pow]
theorem or_has {x p q : Nat} (h1 : x.testBit p = true) (h2 : x.testBit q = true) : x ||| (2 ^ p ||| 2 ^ q) = x := by
  apply Nat.eq_of_testBit_eq
  intro i
  rw [pow_or_bit]
  by_cases e1 : p = i
  · subst e1; rw [h1]; rfl
  · by_cases e2 : q = i
    · subst e2; rw [h2]; rfl
    · simp [e1, e2]
theorem rst_sb (β : Nat → Nat → Nat) (s x t : Nat) : sb x (rst β s x t) := by
  intro i hi
  unfold rst
  split
  · rw [pow_or_bit, hi]; rfl
  · exact hi
theorem rro_sb (β : Nat → Nat → Nat) (s x : Nat) : ∀ n, sb x (rro β s x n)
  | 0 => fun _ h => h
  | n + 1 => fun i hi => rst_sb β s _ n i (rro_sb β s x n i hi)
theorem sb_anti {a b : Nat} (h1 : sb a b) (h2 : sb b a) : a = b := by
  apply Nat.eq_of_testBit_eq
  intro i
  have := h1 i
  have := h2 i
  cases ha : a.testBit i <;> cases hb : b.testBit i <;> simp_all
theorem rro_step_sb (β : Nat → Nat → Nat) (s x t : Nat) : ∀ d, sb (rro β s x t) (rro β s x (t + d))
  | 0 => fun _ h => h
  | d + 1 => fun i hi => rst_sb β s _ (t + d) i (rro_step_sb β s x t d i hi)
theorem rro_fix {β : Nat → Nat → Nat} {s x n : Nat} (h : rro β s x n = x) : ∀ t, t ≤ n → rro β s x t = x := fun t ht => by
  refine sb_anti ?_ (rro_sb β s x t)
  have := rro_step_sb β s x t (n - t)
  rw [show t + (n - t) = n by omega, h] at this
  exact this
theorem fix_Cl {β : Nat → Nat → Nat} {s x : Nat} (h : rro β s x (β 0 0) = x) : Cl β s x := by
  intro t ht hs hor
  have e1 := rro_fix h t (by omega)
  have e2 := rro_fix h (t + 1) (by omega)
  have e3 : rro β s x (t + 1) = rst β s (rro β s x t) t := rfl
  rw [e1, e2] at e3
  unfold rst at e3
  rw [if_pos ⟨hs, hor⟩] at e3
  refine ⟨?_, ?_⟩
  · rw [e3, pow_or_bit]; simp
  · rw [e3, pow_or_bit]; simp
theorem Cl_sub {β : Nat → Nat → Nat} {s X : Nat} (h : Cl β s X) {x : Nat} (hx : sb x X) : ∀ n, n ≤ β 0 0 → sb (rro β s x n) X
  | 0, _ => hx
  | n + 1, hn => by
    have ih := Cl_sub h hx n (by omega)
    intro i hi
    change (rst β s (rro β s x n) n).testBit i = true at hi
    unfold rst at hi
    split at hi
    · rename_i hc
      rw [pow_or_bit] at hi
      have hb := h n (by omega) hc.1 (hc.2.imp (ih _) (ih _))
      rw [Bool.or_eq_true, Bool.or_eq_true, decide_eq_true_eq, decide_eq_true_eq] at hi
      rcases hi with z | z | z
      · exact ih i z
      · rw [← z]; exact hb.1
      · rw [← z]; exact hb.2
    · exact ih i hi
theorem Cl_fix {β : Nat → Nat → Nat} {s X : Nat} (h : Cl β s X) : rro β s X (β 0 0) = X := sb_anti (Cl_sub h (fun _ z => z) _ (Nat.le_refl _)) (rro_sb β s X _)
theorem Cl_rch {β : Nat → Nat → Nat} {s X : Nat} (h : Cl β s X) (h0 : X.testBit 0 = true) : ∀ m, sb (rch β s m) X
  | 0 => fun i hi => by
    change Nat.testBit 1 i = true at hi
    have : i = 0 := by
      rcases Nat.eq_zero_or_pos i with z | z
      · exact z
      · rw [Nat.testBit_lt_two_pow (show 1 < 2 ^ i from Nat.one_lt_two_pow (by omega))] at hi
        cases hi
    rw [this]; exact h0
  | m + 1 => Cl_sub h (Cl_rch h h0 m) _ (Nat.le_refl _)
theorem rch_stay {β : Nat → Nat → Nat} {s m : Nat} (h : rch β s (m + 1) = rch β s m) : ∀ d, rch β s (m + d) = rch β s m
  | 0 => rfl
  | d + 1 => by
    show rro β s (rch β s (m + d)) (β 0 0) = _
    rw [rch_stay h d]
    exact h
theorem rch_sb (β : Nat → Nat → Nat) (s m : Nat) : ∀ d, sb (rch β s m) (rch β s (m + d))
  | 0 => fun _ h => h
  | d + 1 => fun i hi => rro_sb β s _ _ i (rch_sb β s m d i hi)
def pc (x : Nat) : Nat := sm (fun _ => 1) x 6
set_option maxRecDepth 100000 in
theorem pc_all : ∀ x, x < 64 → ∀ p, p < 6 → ∀ q, q < 6 → (pc x ≤ pc (x ||| (2 ^ p ||| 2 ^ q))) ∧ (x ||| (2 ^ p ||| 2 ^ q) ≠ x → pc x + 1 ≤ pc (x ||| (2 ^ p ||| 2 ^ q))) ∧ ((x.testBit p = true ∨ x.testBit q = true) → pc (x ||| (2 ^ p ||| 2 ^ q)) ≤ pc x + 1) := by decide +kernel
theorem pc_le (x : Nat) : pc x ≤ 6 := sm_le (f := fun _ => 1) (M := 1) (n := 6) (fun _ _ => Nat.le_refl _)
theorem rst_pc {β : Nat → Nat → Nat} (hw : WF β) {s x t : Nat} (hx : x < 64) (ht : t < 12) : pc x ≤ pc (rst β s x t) ∧ (rst β s x t ≠ x → pc x + 1 ≤ pc (rst β s x t)) := by
  have hp := hw.2.2.1 t ht
  have h := pc_all x hx (β 3 t) hp.1 (β 4 t) hp.2
  unfold rst
  split
  · exact ⟨h.1, h.2.1⟩
  · exact ⟨Nat.le_refl _, fun z => absurd rfl z⟩
theorem rro_pc {β : Nat → Nat → Nat} (hw : WF β) {s x : Nat} (hx : x < 64) : ∀ n, n ≤ 12 → pc x ≤ pc (rro β s x n) ∧ (rro β s x n ≠ x → pc x + 1 ≤ pc (rro β s x n))
  | 0, _ => ⟨Nat.le_refl _, fun z => absurd rfl z⟩
  | n + 1, hn => by
    obtain ⟨i1, i2⟩ := rro_pc hw (s := s) hx n (by omega)
    obtain ⟨r1, r2⟩ := rst_pc hw (s := s) (t := n) (rro_lt hw (s := s) hx n (by omega)) (by omega)
    refine ⟨by show pc x ≤ pc (rst β s (rro β s x n) n); omega, fun z => ?_⟩
    show pc x + 1 ≤ pc (rst β s (rro β s x n) n)
    by_cases e : rst β s (rro β s x n) n = rro β s x n
    · change rst β s (rro β s x n) n ≠ x at z
      rw [e] at z ⊢
      exact i2 z
    · have := r2 e
      omega
theorem rch_pc {β : Nat → Nat → Nat} (hw : WF β) {s : Nat} : ∀ m, (∀ j, j < m → rch β s (j + 1) ≠ rch β s j) → m + 1 ≤ pc (rch β s m)
  | 0, _ => by
    have e : pc 1 = 1 := by decide
    show 1 ≤ pc 1
    omega
  | m + 1, h => by
    have ih := rch_pc hw m (fun j hj => h j (by omega))
    have := (rro_pc hw (s := s) (rch_lt hw s m) (β 0 0) hw.1.1).2 (h m (by omega))
    show m + 2 ≤ pc (rro β s (rch β s m) (β 0 0))
    omega
theorem rch_end {β : Nat → Nat → Nat} (hw : WF β) (s : Nat) : Cl β s (rch β s 6) := by
  apply fix_Cl
  show rch β s 7 = rch β s 6
  by_cases h : ∀ j, j < 7 → rch β s (j + 1) ≠ rch β s j
  · have := rch_pc hw 7 h
    have := pc_le (rch β s 7)
    omega
  · have : ∃ j, j < 7 ∧ rch β s (j + 1) = rch β s j := by
      apply Classical.byContradiction
      intro hn
      exact h (fun j hj z => hn ⟨j, hj, z⟩)
    obtain ⟨j, hj, e⟩ := this
    have e1 := rch_stay e (7 - j)
    have e2 := rch_stay e (6 - j)
    rw [show j + (7 - j) = 7 by omega] at e1
    rw [show j + (6 - j) = 6 by omega] at e2
    rw [e1, e2]
theorem sb_pc {a b : Nat} (h : sb a b) : pc a ≤ pc b := by
  have key : ∀ n, sm (fun _ => 1) a n ≤ sm (fun _ => 1) b n := fun n => by
    induction n with
    | zero => exact Nat.le_refl _
    | succ n ih =>
      show sm (fun _ => 1) a n + _ ≤ sm (fun _ => 1) b n + _
      by_cases ha : a.testBit n = true
      · rw [if_pos ha, if_pos (h n ha)]; omega
      · rw [if_neg ha]; omega
  exact key 6
theorem pc_mask : ∀ k, k ≤ 6 → pc (2 ^ k - 1) = k := by decide
def us (β : Nat → Nat → Nat) (s x : Nat) : Nat := sm (fun t => if x.testBit (β 3 t) = true ∧ x.testBit (β 4 t) = true then 1 else 0) s (β 0 0)
theorem rst_us {β : Nat → Nat → Nat} (hw : WF β) {s x t : Nat} (hx : x < 64) (ht : t < β 0 0) (h : pc x ≤ 1 + us β s x) : pc (rst β s x t) ≤ 1 + us β s (rst β s x t) := by
  have h12 := hw.1.1
  have hp := hw.2.2.1 t (by omega)
  unfold rst
  split
  · rename_i hc
    obtain ⟨a1, a2, a3⟩ := pc_all x hx (β 3 t) hp.1 (β 4 t) hp.2
    by_cases e : x ||| (2 ^ β 3 t ||| 2 ^ β 4 t) = x
    · rw [e]; exact h
    · have b := a3 hc.2
      have : us β s x + 1 ≤ us β s (x ||| (2 ^ β 3 t ||| 2 ^ β 4 t)) := by
        refine sm_str ht hc.1 ?_ (fun u _ _ => ?_)
        · rw [if_neg (fun z => e (or_has z.1 z.2)), if_pos ⟨by rw [pow_or_bit]; simp, by rw [pow_or_bit]; simp⟩]
          omega
        · by_cases z : x.testBit (β 3 u) = true ∧ x.testBit (β 4 u) = true
          · rw [if_pos z, if_pos ⟨by rw [pow_or_bit, z.1]; rfl, by rw [pow_or_bit, z.2]; rfl⟩]
            omega
          · rw [if_neg z]
            omega
      omega
  · exact h
theorem rro_us {β : Nat → Nat → Nat} (hw : WF β) {s x : Nat} (hx : x < 64) (h : pc x ≤ 1 + us β s x) : ∀ n, n ≤ β 0 0 → pc (rro β s x n) ≤ 1 + us β s (rro β s x n)
  | 0, _ => h
  | n + 1, hn => rst_us hw (rro_lt hw hx n (by have := hw.1.1; omega)) (by omega) (rro_us hw hx h n (by omega))
theorem rch_us {β : Nat → Nat → Nat} (hw : WF β) (s : Nat) : ∀ m, pc (rch β s m) ≤ 1 + us β s (rch β s m)
  | 0 => by
    have e : pc 1 = 1 := by decide
    show pc 1 ≤ _
    omega
  | m + 1 => rro_us hw (rch_lt hw s m) (rch_us hw s m) _ (Nat.le_refl _)
theorem mask_bit (k i : Nat) : (2 ^ k - 1).testBit i = decide (i < k) := Nat.testBit_two_pow_sub_one k i
theorem trees {β : Nat → Nat → Nat} (hw : WF β) {s : Nat} (hk : 1 ≤ β 0 2 ∧ β 0 2 ≤ 6) (hs : sm (fun _ => 1) s (β 0 0) = β 0 2 - 1) :
    rch β s (β 0 2 - 1) = 2 ^ β 0 2 - 1 ↔ (∀ t, t < β 0 0 → s.testBit t = true → β 3 t < β 0 2 ∧ β 4 t < β 0 2) ∧ rch β s 6 = 2 ^ β 0 2 - 1 := by
  constructor
  · intro h
    have hu := rch_us hw s (β 0 2 - 1)
    rw [h, pc_mask _ hk.2] at hu
    have hall : ∀ t, t < β 0 0 → s.testBit t = true → β 3 t < β 0 2 ∧ β 4 t < β 0 2 := fun t ht hst => by
      have : (2 ^ β 0 2 - 1).testBit (β 3 t) = true ∧ (2 ^ β 0 2 - 1).testBit (β 4 t) = true := by
        apply Classical.byContradiction
        intro hn
        have : us β s (2 ^ β 0 2 - 1) + 1 ≤ sm (fun _ => 1) s (β 0 0) := by
          refine sm_str ht hst ?_ (fun u _ _ => ?_)
          · rw [if_neg hn]; omega
          · split <;> omega
        omega
      rw [mask_bit, mask_bit, decide_eq_true_eq, decide_eq_true_eq] at this
      exact this
    refine ⟨hall, ?_⟩
    have hcl : Cl β s (rch β s (β 0 2 - 1)) := fun t ht hst _ => by
      have := hall t ht hst
      rw [h, mask_bit, mask_bit, decide_eq_true_eq, decide_eq_true_eq]
      exact this
    have hst := rch_stay (m := β 0 2 - 1) (Cl_fix hcl) (6 - (β 0 2 - 1))
    rw [show β 0 2 - 1 + (6 - (β 0 2 - 1)) = 6 by omega] at hst
    rw [hst, h]
  · rintro ⟨hall, h6⟩
    apply Classical.byContradiction
    intro hne
    have hns : ∀ j, j < β 0 2 → rch β s (j + 1) ≠ rch β s j := fun j hj z => by
      have e1 := rch_stay z (β 0 2 - 1 - j)
      have e2 := rch_stay z (6 - j)
      rw [show j + (β 0 2 - 1 - j) = β 0 2 - 1 by omega] at e1
      rw [show j + (6 - j) = 6 by omega, h6] at e2
      exact hne (by rw [e1, ← e2])
    have h1 := rch_pc hw (β 0 2) hns
    have h2 := sb_pc (rch_sb β s (β 0 2) (6 - β 0 2))
    rw [show β 0 2 + (6 - β 0 2) = 6 by omega, h6, pc_mask _ hk.2] at h2
    omega
-- ways
def dg (β : Nat → Nat → Nat) (s p : Nat) : Nat := sm (fun t => if β 3 t = p ∨ β 4 t = p then 1 else 0) s (β 0 0)
def WM (β : Nat → Nat → Nat) (s : Nat) : Prop := (∀ t, t < β 0 0 → s.testBit t = true → β 3 t ≠ β 4 t ∧ (rch β s 6).testBit (β 3 t) = true) ∧ ∀ p, p < 6 → ((p = 0 ∨ p = β 0 2) → dg β s p = 1) ∧ (¬ (p = 0 ∨ p = β 0 2) → dg β s p = 0 ∨ dg β s p = 2)
theorem dg_del {β : Nat → Nat → Nat} {s t p : Nat} (ht : t < β 0 0) (hs : s.testBit t = true) : dg β s p = dg β (sdf s (2 ^ t)) p + if β 3 t = p ∨ β 4 t = p then 1 else 0 := (sm_del ht hs).symm
theorem dg_none {β : Nat → Nat → Nat} {s t p : Nat} (h : dg β s p = 0) (ht : t < β 0 0) (hs : s.testBit t = true) : ¬ (β 3 t = p ∨ β 4 t = p) := fun z => by
  have := sm_ge (f := fun t => if β 3 t = p ∨ β 4 t = p then 1 else 0) ht hs
  rw [if_pos z] at this
  change 1 ≤ dg β s p at this
  omega
theorem rdf_spec {β : Nat → Nat → Nat} {p rest : Nat} (h : rdf β p rest ≠ β 0 0) : rdf β p rest < β 0 0 ∧ rest.testBit (rdf β p rest) = true ∧ (β 3 (rdf β p rest) = p ∨ β 4 (rdf β p rest) = p) := by
  have hle := fa_first_le (fun t => rest.testBit t && (β 3 t == p || β 4 t == p)) (β 0 0)
  have hlt : rdf β p rest < β 0 0 := by
    change rdf β p rest ≤ β 0 0 at hle
    omega
  have hy := fa_first_yes (fun t => rest.testBit t && (β 3 t == p || β 4 t == p)) (β 0 0) hlt
  rw [Bool.and_eq_true, Bool.or_eq_true, beq_iff_eq, beq_iff_eq] at hy
  exact ⟨hlt, hy.1, hy.2⟩
theorem rdf_ex {β : Nat → Nat → Nat} {p rest : Nat} (h : 0 < dg β rest p) : rdf β p rest ≠ β 0 0 := fun e => by
  obtain ⟨t, h1, h2, h3⟩ := sm_pos h
  have := fa_first_no (fun t => rest.testBit t && (β 3 t == p || β 4 t == p)) (β 0 0) t (by change t < rdf β p rest; omega)
  rw [h2, Bool.true_and, Bool.or_eq_false_iff] at this
  rw [beq_eq_false_iff_ne, beq_eq_false_iff_ne] at this
  rw [if_neg (fun z => by omega)] at h3
  omega
theorem or1_bit (x p i : Nat) : (x ||| 2 ^ p).testBit i = (x.testBit i || decide (p = i)) := by rw [Nat.testBit_or, Nat.testBit_two_pow]
theorem or1_pc {x p : Nat} (hx : x < 64) (hp : p < 6) (h : x.testBit p = false) : pc x + 1 ≤ pc (x ||| 2 ^ p) := by
  have := (pc_all x hx p hp p hp).2.1
  rw [Nat.or_self] at this
  refine this (fun e => ?_)
  have e2 := congrArg (fun y => Nat.testBit y p) e
  simp only [or1_bit, h] at e2
  simp at e2
theorem full6 : ∀ x, x < 64 → 6 ≤ pc x → ∀ q, q < 6 → x.testBit q = true := by decide +kernel
theorem nx_spec {β : Nat → Nat → Nat} {t p : Nat} (h : β 3 t = p ∨ β 4 t = p) : (β 3 t = p ∧ β 4 t = nxp β t p) ∨ (β 4 t = p ∧ β 3 t = nxp β t p) := by
  unfold nxp
  by_cases e : β 3 t = p
  · rw [if_pos e]; exact Or.inl ⟨e, rfl⟩
  · rw [if_neg e]; exact Or.inr ⟨by omega, rfl⟩
theorem way_MC {β : Nat → Nat → Nat} (hw : WF β) {s : Nat} (hM : WM β s) (hk : 1 ≤ β 0 2 ∧ β 0 2 ≤ 5) :
    ∀ (m p seen rest : Nat), p < 6 → seen < 64 → seen.testBit p = true → seen.testBit 0 = true → (∀ t, rest.testBit t = true → s.testBit t = true ∧ t < β 0 0) → (∀ q, q < 6 → seen.testBit q = true → q ≠ p → dg β rest q = 0) → (p ≠ β 0 2 → dg β rest p = 1) → (p = β 0 2 → dg β rest p = 0) → (∀ q, q < 6 → seen.testBit q = false → dg β rest q = dg β s q) → (seen.testBit (β 0 2) = true → p = β 0 2) → 6 ≤ pc seen + m → (∀ t, t < β 0 0 → s.testBit t = true → rest.testBit t = false → seen.testBit (β 3 t) = true ∧ seen.testBit (β 4 t) = true) → wk β m p seen rest = true := by
  have h12 := hw.1.1
  have fin : ∀ (m p seen rest : Nat), seen.testBit 0 = true → (∀ t, rest.testBit t = true → s.testBit t = true ∧ t < β 0 0) → (∀ q, q < 6 → seen.testBit q = true → dg β rest q = 0) → (∀ t, t < β 0 0 → s.testBit t = true → rest.testBit t = false → seen.testBit (β 3 t) = true ∧ seen.testBit (β 4 t) = true) → p = β 0 2 → wk β m p seen rest = true := by
    intro m p seen rest h0 hr hd hv hp
    have hcl : Cl β s seen := fun t ht hst hor => by
      by_cases hb : rest.testBit t = true
      · exfalso
        have hp := hw.2.2.1 t (by omega)
        rcases hor with z | z
        · exact dg_none (hd _ hp.1 z) ht hb (Or.inl rfl)
        · exact dg_none (hd _ hp.2 z) ht hb (Or.inr rfl)
      · exact hv t ht hst (tb_ne hb)
    have hz : rest = 0 := by
      apply Nat.eq_of_testBit_eq
      intro t
      rw [Nat.zero_testBit]
      cases hb : rest.testBit t with
      | false => rfl
      | true =>
        exfalso
        obtain ⟨h1, h2⟩ := hr t hb
        have hp := hw.2.2.1 t (by omega)
        have := Cl_rch hcl h0 6 _ (hM.1 t h2 h1).2
        exact dg_none (hd _ hp.1 this) h2 hb (Or.inl rfl)
    cases m with
    | zero => exact decide_eq_true ⟨hz, hp⟩
    | succ m =>
      unfold wk
      rw [if_pos hz]
      exact decide_eq_true hp
  intro m
  induction m with
  | zero =>
    intro p seen rest hp hse hps h0 hr hi hii hii2 hiii hiv hv hvi
    have hk2 := full6 seen hse (by omega) (β 0 2) (by omega)
    have e := hiv hk2
    refine fin 0 p seen rest h0 hr (fun q hq hqs => ?_) hvi e
    by_cases z : q = p
    · rw [z]; exact hii2 e
    · exact hi q hq hqs z
  | succ m ih =>
    intro p seen rest hp hse hps h0 hr hi hii hii2 hiii hiv hv hvi
    by_cases e : p = β 0 2
    · refine fin (m + 1) p seen rest h0 hr (fun q hq hqs => ?_) hvi e
      by_cases z : q = p
      · rw [z]; exact hii2 e
      · exact hi q hq hqs z
    · have d1 := hii e
      have hne : rest ≠ 0 := fun z => by
        subst z
        have : dg β 0 p = 0 := sm_zero_of (fun t _ h => by rw [Nat.zero_testBit] at h; cases h)
        omega
      have hrd := rdf_ex (by omega : 0 < dg β rest p)
      obtain ⟨t1, t2, t3⟩ := rdf_spec hrd
      show (if rest = 0 then _ else if rdf β p rest = β 0 0 then false else if seen.testBit (nxp β (rdf β p rest) p) then false else wk β m (nxp β (rdf β p rest) p) (seen ||| 2 ^ nxp β (rdf β p rest) p) (sdf rest (2 ^ rdf β p rest))) = true
      rw [if_neg hne, if_neg hrd]
      generalize rdf β p rest = t at t1 t2 t3
      obtain ⟨hst, -⟩ := hr t t2
      have nl := (hM.1 t t1 hst).1
      have np := nx_spec t3
      have pp := hw.2.2.1 t (by omega)
      generalize nxp β t p = x at np
      have hx : x < 6 := by omega
      have hxp : x ≠ p := by omega
      have inc : ∀ q, (β 3 t = q ∨ β 4 t = q) ↔ (q = p ∨ q = x) := fun q => by omega
      have dd : ∀ q, dg β rest q = dg β (sdf rest (2 ^ t)) q + if q = p ∨ q = x then 1 else 0 := fun q => by
        rw [dg_del t1 t2]
        simp only [inc q]
      have hxs : seen.testBit x = false := by
        cases hb : seen.testBit x with
        | false => rfl
        | true => exact absurd (Or.elim np (fun z => Or.inr z.2) (fun z => Or.inl z.2)) (dg_none (hi x hx hb hxp) t1 t2)
      rw [if_neg (by rw [hxs]; decide)]
      have sbit : ∀ q, (seen ||| 2 ^ x).testBit q = true ↔ (seen.testBit q = true ∨ q = x) := fun q => by
        rw [or1_bit, Bool.or_eq_true, decide_eq_true_eq]
        constructor
        · rintro (z | z)
          · exact Or.inl z
          · exact Or.inr z.symm
        · rintro (z | z)
          · exact Or.inl z
          · exact Or.inr z.symm
      have rbit : ∀ q, (sdf rest (2 ^ t)).testBit q = true ↔ (rest.testBit q = true ∧ t ≠ q) := fun q => by
        rw [sd_bit, Bool.and_eq_true, Bool.not_eq_true', decide_eq_false_iff_not]
      have dsx := hiii x hx hxs
      have ddx := dd x
      rw [if_pos (Or.inr rfl)] at ddx
      have hx0 : x ≠ 0 := fun z => by rw [z] at hxs; rw [h0] at hxs; cases hxs
      have mB := hM.2 x hx
      refine ih x (seen ||| 2 ^ x) (sdf rest (2 ^ t)) hx (Nat.or_lt_two_pow (n := 6) hse (Nat.pow_lt_pow_right (by decide) hx)) ((sbit x).mpr (Or.inr rfl)) ((sbit 0).mpr (Or.inl h0)) (fun u hu => hr u ((rbit u).mp hu).1) (fun q hq hqs hqx => ?_) (fun hxk => ?_) (fun hxk => ?_) (fun q hq hqs => ?_) (fun hks => ?_) ?_ (fun u hu hsu hru => ?_)
      · have dq := dd q
        rcases (sbit q).mp hqs with z | z
        · by_cases zp : q = p
          · subst zp
            rw [if_pos (Or.inl rfl)] at dq
            omega
          · have := hi q hq z zp
            omega
        · exact absurd z hqx
      · have := mB.2 (by omega)
        omega
      · have := mB.1 (by omega)
        omega
      · have hq1 : seen.testBit q = false := by
          cases hb : seen.testBit q with
          | false => rfl
          | true => rw [(sbit q).mpr (Or.inl hb)] at hqs; cases hqs
        have hqp : q ≠ p := fun z => by rw [z, hps] at hq1; cases hq1
        have hqx : q ≠ x := fun z => by rw [(sbit q).mpr (Or.inr z)] at hqs; cases hqs
        have dq := dd q
        rw [if_neg (by omega)] at dq
        have := hiii q hq hq1
        omega
      · rcases (sbit _).mp hks with z | z
        · exact absurd (hiv z) e
        · exact z.symm
      · have := or1_pc hse hx hxs
        omega
      · by_cases zu : t = u
        · subst zu
          rcases np with ⟨z1, z2⟩ | ⟨z1, z2⟩
          · rw [z1, z2]; exact ⟨(sbit p).mpr (Or.inl hps), (sbit x).mpr (Or.inr rfl)⟩
          · rw [z1, z2]; exact ⟨(sbit x).mpr (Or.inr rfl), (sbit p).mpr (Or.inl hps)⟩
        · have hru2 : rest.testBit u = false := by
            cases hb : rest.testBit u with
            | false => rfl
            | true => rw [(rbit u).mpr ⟨hb, zu⟩] at hru; cases hru
          have := hvi u hu hsu hru2
          exact ⟨(sbit _).mpr (Or.inl this.1), (sbit _).mpr (Or.inl this.2)⟩
theorem way_CM {β : Nat → Nat → Nat} (hw : WF β) (hk : β 0 2 < 6) :
    ∀ (m p seen rest : Nat), wk β m p seen rest = true → p < 6 → seen.testBit p = true → (p = β 0 2 ∨ seen.testBit (β 0 2) = false) ∧ (∀ t, t < β 0 0 → rest.testBit t = true → β 3 t ≠ β 4 t) ∧ (∀ X : Nat, X.testBit p = true → (∀ t, t < β 0 0 → rest.testBit t = true → (X.testBit (β 3 t) = true ∨ X.testBit (β 4 t) = true) → X.testBit (β 3 t) = true ∧ X.testBit (β 4 t) = true) → ∀ t, t < β 0 0 → rest.testBit t = true → X.testBit (β 3 t) = true) ∧ (p = β 0 2 → dg β rest p = 0) ∧ (p ≠ β 0 2 → dg β rest p = 1) ∧ (∀ q, q < 6 → seen.testBit q = true → q ≠ p → dg β rest q = 0) ∧ (∀ q, q < 6 → seen.testBit q = false → (q = β 0 2 → dg β rest q = 1) ∧ (q ≠ β 0 2 → dg β rest q = 0 ∨ dg β rest q = 2)) := by
  have h12 := hw.1.1
  have fin : ∀ (p seen rest : Nat), rest = 0 → p = β 0 2 → seen.testBit p = true → (p = β 0 2 ∨ seen.testBit (β 0 2) = false) ∧ (∀ t, t < β 0 0 → rest.testBit t = true → β 3 t ≠ β 4 t) ∧ (∀ X : Nat, X.testBit p = true → (∀ t, t < β 0 0 → rest.testBit t = true → (X.testBit (β 3 t) = true ∨ X.testBit (β 4 t) = true) → X.testBit (β 3 t) = true ∧ X.testBit (β 4 t) = true) → ∀ t, t < β 0 0 → rest.testBit t = true → X.testBit (β 3 t) = true) ∧ (p = β 0 2 → dg β rest p = 0) ∧ (p ≠ β 0 2 → dg β rest p = 1) ∧ (∀ q, q < 6 → seen.testBit q = true → q ≠ p → dg β rest q = 0) ∧ (∀ q, q < 6 → seen.testBit q = false → (q = β 0 2 → dg β rest q = 1) ∧ (q ≠ β 0 2 → dg β rest q = 0 ∨ dg β rest q = 2)) := by
    intro p seen rest hr hp hs
    subst hr
    have z : ∀ q, dg β 0 q = 0 := fun q => sm_zero_of (fun t _ h => by rw [Nat.zero_testBit] at h; cases h)
    refine ⟨Or.inl hp, fun t _ h => (by rw [Nat.zero_testBit] at h; cases h), fun X _ _ t _ h => (by rw [Nat.zero_testBit] at h; cases h), fun _ => z p, fun h => absurd hp h, fun q _ _ _ => z q, fun q _ hq => ⟨fun e => ?_, fun _ => Or.inl (z q)⟩⟩
    rw [e, ← hp, hs] at hq
    cases hq
  intro m
  induction m with
  | zero =>
    intro p seen rest h hp hs
    have h : decide (rest = 0 ∧ p = β 0 2) = true := h
    rw [decide_eq_true_eq] at h
    exact fin p seen rest h.1 h.2 hs
  | succ m ih =>
    intro p seen rest h hp hps
    change (if rest = 0 then decide (p = β 0 2) else if rdf β p rest = β 0 0 then false else if seen.testBit (nxp β (rdf β p rest) p) then false else wk β m (nxp β (rdf β p rest) p) (seen ||| 2 ^ nxp β (rdf β p rest) p) (sdf rest (2 ^ rdf β p rest))) = true at h
    by_cases hz : rest = 0
    · rw [if_pos hz, decide_eq_true_eq] at h
      exact fin p seen rest hz h hps
    · rw [if_neg hz] at h
      by_cases hrd : rdf β p rest = β 0 0
      · rw [if_pos hrd] at h; cases h
      · rw [if_neg hrd] at h
        obtain ⟨t1, t2, t3⟩ := rdf_spec hrd
        generalize rdf β p rest = t at t1 t2 t3 h
        have np := nx_spec t3
        have pp := hw.2.2.1 t (by omega)
        generalize nxp β t p = x at np h
        have hx : x < 6 := by omega
        by_cases hxs : seen.testBit x = true
        · rw [if_pos hxs] at h; cases h
        · rw [if_neg hxs] at h
          have hxs := tb_ne hxs
          have hxp : x ≠ p := fun z => by rw [z, hps] at hxs; cases hxs
          have inc : ∀ q, (β 3 t = q ∨ β 4 t = q) ↔ (q = p ∨ q = x) := fun q => by omega
          have dd : ∀ q, dg β rest q = dg β (sdf rest (2 ^ t)) q + if q = p ∨ q = x then 1 else 0 := fun q => by
            rw [dg_del t1 t2]
            simp only [inc q]
          have sbit : ∀ q, (seen ||| 2 ^ x).testBit q = true ↔ (seen.testBit q = true ∨ q = x) := fun q => by
            rw [or1_bit, Bool.or_eq_true, decide_eq_true_eq]
            constructor
            · rintro (z | z)
              · exact Or.inl z
              · exact Or.inr z.symm
            · rintro (z | z)
              · exact Or.inl z
              · exact Or.inr z.symm
          have sbf : ∀ q, seen.testBit q = false → q ≠ x → (seen ||| 2 ^ x).testBit q = false := fun q h1 h2 => by
            cases hb : (seen ||| 2 ^ x).testBit q with
            | false => rfl
            | true => rcases (sbit q).mp hb with z | z
                      · rw [h1] at z; cases z
                      · exact absurd z h2
          have rbit : ∀ q, (sdf rest (2 ^ t)).testBit q = true ↔ (rest.testBit q = true ∧ t ≠ q) := fun q => by
            rw [sd_bit, Bool.and_eq_true, Bool.not_eq_true', decide_eq_false_iff_not]
          obtain ⟨i0, i1, i2, i3, i4, i5, i6⟩ := ih x (seen ||| 2 ^ x) (sdf rest (2 ^ t)) h hx ((sbit x).mpr (Or.inr rfl))
          have hpk : p ≠ β 0 2 := fun z => by
            rcases i0 with w | w
            · omega
            · rw [← z, (sbit p).mpr (Or.inl hps)] at w; cases w
          have hks : seen.testBit (β 0 2) = false := by
            rcases i0 with w | w
            · rw [← w]; exact hxs
            · cases hb : seen.testBit (β 0 2) with
              | false => rfl
              | true => rw [(sbit _).mpr (Or.inl hb)] at w; cases w
          refine ⟨Or.inr hks, fun u hu hru => ?_, fun X hX hcl u hu hru => ?_, fun z => absurd z hpk, fun _ => ?_, fun q hq hqs hqp => ?_, fun q hq hqs => ?_⟩
          · by_cases zu : t = u
            · subst zu; omega
            · exact i1 u hu ((rbit u).mpr ⟨hru, zu⟩)
          · have hboth := hcl t t1 t2 (by rcases np with ⟨z1, z2⟩ | ⟨z1, z2⟩ <;> rw [z1] <;> simp [hX])
            by_cases zu : t = u
            · subst zu; exact hboth.1
            · refine i2 X ?_ (fun v hv hrv => hcl v hv ((rbit v).mp hrv).1) u hu ((rbit u).mpr ⟨hru, zu⟩)
              rcases np with ⟨z1, z2⟩ | ⟨z1, z2⟩ <;> rw [← z2]
              · exact hboth.2
              · exact hboth.1
          · have d := dd p
            rw [if_pos (Or.inl rfl)] at d
            have := i5 p hp ((sbit p).mpr (Or.inl hps)) (by omega)
            omega
          · have d := dd q
            have hqx : q ≠ x := fun z => by rw [z, hxs] at hqs; cases hqs
            rw [if_neg (by omega)] at d
            have := i5 q hq ((sbit q).mpr (Or.inl hqs)) hqx
            omega
          · have d := dd q
            have hqp : q ≠ p := fun z => by rw [z, hps] at hqs; cases hqs
            by_cases zx : q = x
            · subst zx
              rw [if_pos (Or.inr rfl)] at d
              refine ⟨fun z => ?_, fun z => ?_⟩
              · have := i3 z; omega
              · have := i4 z; omega
            · rw [if_neg (by omega)] at d
              have := i6 q hq (sbf q hqs zx)
              refine ⟨fun z => ?_, fun z => ?_⟩
              · have := this.1 z; omega
              · have := this.2 z; omega
theorem inc2 : ∀ x, x < 6 → ∀ y, y < 6 → x ≠ y → fb_sm (fun p => if x = p ∨ y = p then 1 else 0) 6 = 2 := by decide
theorem dg_sum {β : Nat → Nat → Nat} (hw : WF β) {s : Nat} : ∀ n, n ≤ 12 → (∀ t, t < n → s.testBit t = true → β 3 t ≠ β 4 t) → fb_sm (fun p => sm (fun t => if β 3 t = p ∨ β 4 t = p then 1 else 0) s n) 6 = 2 * sm (fun _ => 1) s n
  | 0, _, _ => rfl
  | n + 1, hn, h => by
    have ih := dg_sum hw n (by omega) (fun t ht => h t (by omega))
    have e : (fun p => sm (fun t => if β 3 t = p ∨ β 4 t = p then 1 else 0) s (n + 1)) = fun p => sm (fun t => if β 3 t = p ∨ β 4 t = p then 1 else 0) s n + if s.testBit n then (if β 3 n = p ∨ β 4 n = p then 1 else 0) else 0 := rfl
    rw [e, fb_sm_add, ih]
    show _ = 2 * (sm (fun _ => 1) s n + _)
    have hp := hw.2.2.1 n (by omega)
    by_cases hb : s.testBit n = true
    · simp only [hb, if_true]
      rw [inc2 _ hp.1 _ hp.2 (h n (by omega) hb)]
      omega
    · simp only [hb]
      rfl
theorem pc1_5 : 6 ≤ pc 1 + 5 := by decide
theorem ways {β : Nat → Nat → Nat} (hw : WF β) {s : Nat} (hs : s < 2 ^ β 0 0) (hk : 1 ≤ β 0 2 ∧ β 0 2 ≤ 5) : (popc s < 6 ∧ wk β 5 0 1 s = true) ↔ WM β s := by
  have h12 := hw.1.1
  have hb1 : ∀ q, Nat.testBit 1 q = true ↔ q = 0 := fun q => by
    constructor
    · intro h
      rcases Nat.eq_zero_or_pos q with z | z
      · exact z
      · rw [Nat.testBit_lt_two_pow (show 1 < 2 ^ q from Nat.one_lt_two_pow (by omega))] at h
        cases h
    · intro h; rw [h]; rfl
  have hsb : ∀ t, s.testBit t = true → t < β 0 0 := fun t ht => by
    rcases Nat.lt_or_ge t (β 0 0) with z | z
    · exact z
    · have : 2 ^ β 0 0 ≤ 2 ^ t := Nat.pow_le_pow_right (by decide) z
      rw [Nat.testBit_lt_two_pow (by omega)] at ht
      cases ht
  constructor
  · rintro ⟨-, h⟩
    obtain ⟨c0, c1, c2, c3, c4, c5, c6⟩ := way_CM hw (by omega) 5 0 1 s h (by omega) rfl
    refine ⟨fun t ht hst => ⟨c1 t ht hst, c2 _ ?_ (rch_end hw s) t ht hst⟩, fun p hp => ?_⟩
    · exact rch_sb β s 0 6 0 (show Nat.testBit 1 0 = true from rfl)
    · by_cases z : p = 0
      · subst z
        exact ⟨fun _ => c4 (by omega), fun w => absurd (Or.inl rfl) w⟩
      · have hf : Nat.testBit 1 p = false := tb_ne (fun w => z ((hb1 p).mp w))
        have := c6 p hp hf
        exact ⟨fun w => this.1 (by omega), fun w => this.2 (by omega)⟩
  · intro h
    have hsum := dg_sum hw (s := s) (β 0 0) h12 (fun t ht hst => (h.1 t ht hst).1)
    have hpc : popc s = sm (fun _ => 1) s (β 0 0) := (sm_12 _ hs h12).symm
    refine ⟨?_, way_MC hw h hk 5 0 1 s (by omega) (by omega) rfl rfl (fun t ht => ⟨ht, hsb t ht⟩) (fun q _ hq hq0 => absurd ((hb1 q).mp hq) hq0) (fun _ => (h.2 0 (by omega)).1 (Or.inl rfl)) (fun z => by omega) (fun q _ _ => rfl) (fun z => ((hb1 _).mp z).symm) pc1_5 (fun t _ hst hn => by rw [hst] at hn; cases hn)⟩
    have g : ∀ p, p < 6 → dg β s p ≤ 2 := fun p hp => by
      have := h.2 p hp
      omega
    have g0 := (h.2 0 (by omega)).1 (Or.inl rfl)
    have gk := (h.2 (β 0 2) (by omega)).1 (Or.inr rfl)
    have e6 : fb_sm (fun p => sm (fun t => if β 3 t = p ∨ β 4 t = p then 1 else 0) s (β 0 0)) 6 = 0 + dg β s 0 + dg β s 1 + dg β s 2 + dg β s 3 + dg β s 4 + dg β s 5 := rfl
    rw [e6] at hsum
    have := g 1 (by omega)
    have := g 2 (by omega)
    have := g 3 (by omega)
    have := g 4 (by omega)
    have := g 5 (by omega)
    rw [hpc]
    have hkk : β 0 2 = 1 ∨ β 0 2 = 2 ∨ β 0 2 = 3 ∨ β 0 2 = 4 ∨ β 0 2 = 5 := by omega
    rcases hkk with z | z | z | z | z <;> rw [z] at gk <;> omega
