-- one place of the bench anew
def up (β : Nat → Nat → Nat) (f i v : Nat) : Nat → Nat → Nat := fun a b => if a = f ∧ b = i then v else β a b
theorem up_s' {β : Nat → Nat → Nat} {f i v : Nat} : up β f i v f i = v := if_pos ⟨rfl, rfl⟩
theorem up_o {β : Nat → Nat → Nat} {f i v a b : Nat} (h : ¬ (a = f ∧ b = i)) : up β f i v a b = β a b := if_neg h
theorem up_r {β : Nat → Nat → Nat} {f i v a : Nat} (h : a ≠ f) : up β f i v a = β a := funext fun _ => up_o (fun z => h z.1)
theorem up_bk {β γ : Nat → Nat → Nat} {f i : Nat} (h : ∀ a b, ¬ (a = f ∧ b = i) → γ a b = β a b) : up γ f i (β f i) = β := by
  funext a b
  by_cases e : a = f ∧ b = i
  · rw [e.1, e.2]; exact up_s'
  · rw [up_o e]; exact h a b e
theorem CB.u {S : St} {c f i v : Nat} {β : Nat → Nat → Nat} (h : CB S c β) (h1 : 1 ≤ f) (h5 : f ≤ 5) : CB (pI S (c + f) i (nI v)) c (up β f i v) := by
  refine ⟨fun j hj => ?_, fun g hg b hb => ?_, fun w hw b hb => ?_⟩
  · rw [sI_o (by omega), up_o (by omega)]; exact h.1 j hj
  · rw [sI_pI]
    by_cases e : 1 + g = f ∧ b = i
    · rw [if_pos (by omega), e.1, e.2, up_s']
    · rw [if_neg (by omega), up_o e]; exact h.2.1 g hg b hb
  · rw [sI_o (by omega), up_o (by omega)]; exact h.2.2 w hw b hb
theorem CB.u0 {S : St} {c j v : Nat} {β : Nat → Nat → Nat} (h : CB S c β) : CB (pI S c j (nI v)) c (up β 0 j v) := by
  refine ⟨fun i hi => ?_, fun g hg b hb => ?_, fun w hw b hb => ?_⟩
  · rw [sI_pI]
    by_cases e : i = j
    · rw [if_pos ⟨rfl, e⟩, e, up_s']
    · rw [if_neg (by omega), up_o (by omega)]; exact h.1 i hi
  · rw [sI_o (by omega), up_o (by omega)]; exact h.2.1 g hg b hb
  · rw [sI_o (by omega), up_o (by omega)]; exact h.2.2 w hw b hb
theorem CB.uc {S : St} {c w i v : Nat} {β : Nat → Nat → Nat} (h : CB S c β) : CB (pI S (c + 7 + w) i (nI v)) c (up β (6 + w) i v) := by
  refine ⟨fun j hj => ?_, fun g hg b hb => ?_, fun q hq b hb => ?_⟩
  · rw [sI_o (by omega), up_o (by omega)]; exact h.1 j hj
  · rw [sI_o (by omega), up_o (by omega)]; exact h.2.1 g hg b hb
  · rw [sI_pI]
    by_cases e : q = w ∧ b = i
    · rw [if_pos (by omega), e.1, e.2, up_s']
    · rw [if_neg (by omega), up_o (by omega)]; exact h.2.2 q hq b hb
theorem MBn.u {S : St} {f i v : Nat} {β : Nat → Nat → Nat} (h : MBn S β) (h1 : 1 ≤ f) (h5 : f ≤ 5) : MBn (pI S (108 + f) i (nI v)) (up β f i v) := by
  obtain ⟨a, b, c, d, e, g⟩ := h
  refine ⟨?_, ?_, ?_, fun k hk j hj => ?_, fun w hw => ?_, fun w hw j hj => ?_⟩
  · rw [sI_o (by omega), up_o (by omega)]; exact a
  · rw [sI_o (by omega), up_o (by omega)]; exact b
  · rw [sI_o (by omega), up_o (by omega)]; exact c
  · rw [sI_pI]
    by_cases q : 1 + k = f ∧ j = i
    · rw [if_pos (by omega), q.1, q.2, up_s']
    · rw [if_neg (by omega), up_o q]; exact d k hk j hj
  · rw [sI_o (by omega), up_o (by omega)]; exact e w hw
  · rw [sI_o (by omega), up_o (by omega)]; exact g w hw j hj
theorem MBn.u0 {S : St} {j v : Nat} {β : Nat → Nat → Nat} (h : MBn S β) (hj : j < 3) : MBn (pI S 108 (1 + j) (nI v)) (up β 0 j v) := by
  obtain ⟨a, b, c, d, e, g⟩ := h
  have z : ∀ i, i < 3 → sI S 108 (1 + i) = nI (β 0 i) → sI (pI S 108 (1 + j) (nI v)) 108 (1 + i) = nI (up β 0 j v 0 i) := fun i hi q => by
    rw [sI_pI]
    by_cases e : i = j
    · rw [if_pos (by omega), e, up_s']
    · rw [if_neg (by omega), up_o (by omega)]; exact q
  refine ⟨z 0 (by decide) a, z 1 (by decide) b, z 2 (by decide) c, fun k hk i hi => ?_, fun w hw => ?_, fun w hw i hi => ?_⟩
  · rw [sI_o (by omega), up_o (by omega)]; exact d k hk i hi
  · rw [sI_o (by omega), up_o (by omega)]; exact e w hw
  · rw [sI_o (by omega), up_o (by omega)]; exact g w hw i hi
theorem MBn.uw {S : St} {w v : Nat} {x : Int32} {β : Nat → Nat → Nat} (h : MBn S β) (hx : x = if v.testBit w then 1 else 0) (ho : ∀ q, q < 8 → q ≠ w → v.testBit q = (β 0 3).testBit q) : MBn (pI S 114 w x) (up β 0 3 v) := by
  obtain ⟨a, b, c, d, e, g⟩ := h
  refine ⟨?_, ?_, ?_, fun k hk j hj => ?_, fun q hq => ?_, fun q hq j hj => ?_⟩
  · rw [sI_o (by omega), up_o (by omega)]; exact a
  · rw [sI_o (by omega), up_o (by omega)]; exact b
  · rw [sI_o (by omega), up_o (by omega)]; exact c
  · rw [sI_o (by omega), up_o (by omega)]; exact d k hk j hj
  · rw [up_s']
    by_cases z : q = w
    · rw [z, sI_s]; exact hx
    · rw [sI_n z, ho q hq z]; exact e q hq
  · rw [sI_o (by omega), up_o (by omega)]; exact g q hq j hj
theorem MBn.uc {S : St} {w i v : Nat} {β : Nat → Nat → Nat} (h : MBn S β) (hi : i < 12) : MBn (pI S 115 (12 * w + i) (nI v)) (up β (6 + w) i v) := by
  obtain ⟨a, b, c, d, e, g⟩ := h
  refine ⟨?_, ?_, ?_, fun k hk j hj => ?_, fun q hq => ?_, fun q hq j hj => ?_⟩
  · rw [sI_o (by omega), up_o (by omega)]; exact a
  · rw [sI_o (by omega), up_o (by omega)]; exact b
  · rw [sI_o (by omega), up_o (by omega)]; exact c
  · rw [sI_o (by omega), up_o (by omega)]; exact d k hk j hj
  · rw [sI_o (by omega), up_o (by omega)]; exact e q hq
  · rw [sI_pI]
    by_cases z : q = w ∧ j = i
    · rw [if_pos (by omega), z.1, z.2, up_s']
    · rw [if_neg (by omega), up_o (by omega)]; exact g q hq j hj
-- the choices hang on things, kind, k and posts alone
def SameC (β γ : Nat → Nat → Nat) : Prop := β 0 0 = γ 0 0 ∧ β 0 1 = γ 0 1 ∧ β 0 2 = γ 0 2 ∧ β 3 = γ 3 ∧ β 4 = γ 4
theorem rst_cg {β γ : Nat → Nat → Nat} (h : SameC β γ) (s x t : Nat) : rst β s x t = rst γ s x t := by
  unfold rst
  rw [h.2.2.2.1, h.2.2.2.2]
theorem rro_cg {β γ : Nat → Nat → Nat} (h : SameC β γ) (s x : Nat) : ∀ n, rro β s x n = rro γ s x n
  | 0 => rfl
  | n + 1 => by
    show rst β s (rro β s x n) n = rst γ s (rro γ s x n) n
    rw [rro_cg h s x n, rst_cg h]
theorem rch_cg {β γ : Nat → Nat → Nat} (h : SameC β γ) (s : Nat) : ∀ m, rch β s m = rch γ s m
  | 0 => rfl
  | m + 1 => by
    show rro β s (rch β s m) (β 0 0) = rro γ s (rch γ s m) (γ 0 0)
    rw [rch_cg h s m, rro_cg h, h.1]
theorem rdf_cg {β γ : Nat → Nat → Nat} (h : SameC β γ) (p r : Nat) : rdf β p r = rdf γ p r := by
  unfold rdf
  rw [h.2.2.2.1, h.2.2.2.2, h.1]
theorem nxp_cg {β γ : Nat → Nat → Nat} (h : SameC β γ) (t p : Nat) : nxp β t p = nxp γ t p := by
  unfold nxp
  rw [h.2.2.2.1, h.2.2.2.2]
theorem wk_cg {β γ : Nat → Nat → Nat} (h : SameC β γ) : ∀ m p seen rest, wk β m p seen rest = wk γ m p seen rest
  | 0, p, seen, rest => by
    rw [wk, wk, h.2.2.1]
  | m + 1, p, seen, rest => by
    rw [wk, wk, rdf_cg h, nxp_cg h, wk_cg h m, h.2.2.1, h.1]
theorem alC_cg {β γ : Nat → Nat → Nat} (h : SameC β γ) (s : Nat) : alC β s = alC γ s := by
  unfold alC
  rw [wk_cg h, rch_cg h, h.1, h.2.1, h.2.2.1, h.2.2.2.1, h.2.2.2.2]
theorem nch_cg {β γ : Nat → Nat → Nat} (h : SameC β γ) : nch β = nch γ := by
  unfold nch
  rw [show alC β = alC γ from funext (alC_cg h), h.1]
theorem chl_cg {β γ : Nat → Nat → Nat} (h : SameC β γ) : chl β = chl γ := by
  funext c
  unfold chl
  rw [show alC β = alC γ from funext (alC_cg h), h.1]
-- what is kept hangs on the ends of the things alone
def SameE (β γ : Nat → Nat → Nat) : Prop := β 0 0 = γ 0 0 ∧ ∀ t, t < β 0 0 → β 1 t = γ 1 t ∧ β 2 t = γ 2 t
theorem lowc_cg {β γ : Nat → Nat → Nat} (h : SameE β γ) {s : Nat} (hs : s < 2 ^ β 0 0) : lowc β s = lowc γ s := sm_cong (fun t _ => ⟨rfl, fun z => (h.2 t (tb_in hs z)).1⟩)
theorem gp_cg {β γ : Nat → Nat → Nat} (h : SameE β γ) {t : Nat} (ht : t < β 0 0) : gp β t = gp γ t := by
  unfold gp
  rw [(h.2 t ht).1, (h.2 t ht).2]
theorem gps_cg {β γ : Nat → Nat → Nat} (h : SameE β γ) {s : Nat} (hs : s < 2 ^ β 0 0) : gps β s = gps γ s := sm_cong (fun t _ => ⟨rfl, fun z => gp_cg h (tb_in hs z)⟩)
theorem cst_cg {β γ : Nat → Nat → Nat} (h : SameE β γ) {s : Nat} (hs : s < 2 ^ β 0 0) (u : Nat) : cst β s u = cst γ s u := by
  unfold cst
  rw [lowc_cg h hs, gps_cg h (Nat.lt_of_le_of_lt Nat.and_le_left hs)]
theorem ruv_cg {β γ : Nat → Nat → Nat} (h : SameE β γ) {N : Nat} {ch : Nat → Nat} (hc : ∀ c, c < N → ch c < 2 ^ β 0 0) {c : Nat} (hcN : c < N) : ruv β N ch c = ruv γ N ch c := by
  have e : am (fun x => cst β (ch x) (ch c)) N = am (fun x => cst γ (ch x) (ch c)) N := am_cong (fun j hj => cst_cg h (hc j hj) _)
  unfold ruv
  rw [e, cst_cg h (hc c hcN), cst_cg h (hc _ (am_lt _ N (by omega)))]
theorem agn_cg {β γ : Nat → Nat → Nat} (h : SameE β γ) {N : Nat} {ch : Nat → Nat} (hc : ∀ c, c < N → ch c < 2 ^ β 0 0) {x : Nat} (hx : x < N) (c : Nat) : agn β ch c x = agn γ ch c x := by
  unfold agn
  rw [lowc_cg h (hc x hx), gps_cg h (sdf_lt (hc x hx))]
theorem orf_cg {f g : Nat → Nat} : ∀ {n : Nat}, (∀ x, x < n → f x = g x) → orf f n = orf g n
  | 0, _ => rfl
  | n + 1, h => by
    show orf f n ||| f n = orf g n ||| g n
    rw [orf_cg (fun x hx => h x (by omega)), h n (by omega)]
theorem inA_cg {β γ : Nat → Nat → Nat} (h : SameE β γ) {N : Nat} {ch : Nat → Nat} (hc : ∀ c, c < N → ch c < 2 ^ β 0 0) {c : Nat} (hcN : c < N) : inA β ch c N = inA γ ch c N := orf_cg (fun x hx => by rw [agn_cg h hc hx, lowc_cg h (hc c hcN)])
theorem btn_cg {β γ : Nat → Nat → Nat} (h : SameE β γ) {N : Nat} {ch : Nat → Nat} (hc : ∀ c, c < N → ch c < 2 ^ β 0 0) {c : Nat} (hcN : c < N) : btn β ch c N = btn γ ch c N := orf_cg (fun x hx => by rw [agn_cg h hc hx, lowc_cg h (hc c hcN)])
theorem alw_cg {β γ : Nat → Nat → Nat} (h : SameE β γ) {N : Nat} {ch : Nat → Nat} (hc : ∀ c, c < N → ch c < 2 ^ β 0 0) : ∀ i, i ≤ N → alw β N ch i = alw γ N ch i
  | 0, _ => by
    show 2 ^ β 0 0 - 1 = 2 ^ γ 0 0 - 1
    rw [h.1]
  | i + 1, hi => by
    show (if btn β ch i N = 0 then alw β N ch i &&& ch i else alw β N ch i) = (if btn γ ch i N = 0 then alw γ N ch i &&& ch i else alw γ N ch i)
    rw [alw_cg h hc i (by omega), btn_cg h hc (by omega)]
theorem sur_cg {β γ : Nat → Nat → Nat} (h : SameE β γ) {N : Nat} {ch : Nat → Nat} (hc : ∀ c, c < N → ch c < 2 ^ β 0 0) : ∀ i, i ≤ N → sur β N ch i = sur γ N ch i
  | 0, _ => by
    show 2 ^ β 0 0 - 1 = 2 ^ γ 0 0 - 1
    rw [h.1]
  | i + 1, hi => by
    show (if btn β ch i N = 0 then sur β N ch i &&& (ch i ||| inA β ch i N) else sur β N ch i) = (if btn γ ch i N = 0 then sur γ N ch i &&& (ch i ||| inA γ ch i N) else sur γ N ch i)
    rw [sur_cg h hc i (by omega), inA_cg h hc (by omega), btn_cg h hc (by omega)]
theorem mayb_cg {β γ : Nat → Nat → Nat} (h : SameE β γ) {N : Nat} {ch : Nat → Nat} (hc : ∀ c, c < N → ch c < 2 ^ β 0 0) : ∀ i, i ≤ N → mayb β N ch i = mayb γ N ch i
  | 0, _ => rfl
  | i + 1, hi => by
    show (if btn β ch i N = 0 then mayb β N ch i ||| ch i else mayb β N ch i) = (if btn γ ch i N = 0 then mayb γ N ch i ||| ch i else mayb γ N ch i)
    rw [mayb_cg h hc i (by omega), btn_cg h hc (by omega)]
theorem BE.cg {S : St} {β γ : Nat → Nat → Nat} {N : Nat} {ch : Nat → Nat} (hb : BE S β N ch) (h : SameE β γ) (hc : ∀ c, c < N → ch c < 2 ^ β 0 0) : BE S γ N ch := by
  obtain ⟨a, b, c⟩ := hb
  refine ⟨a.imp id (fun ⟨a1, a2⟩ => ⟨a1, trivial, ?_, fun t ht => ?_, fun c hcN => ?_⟩), b.imp id (fun ⟨b1, b2⟩ => ⟨b1, fun c hcN => ?_⟩), c.imp id (fun ⟨c1, c2⟩ => ⟨c1, ?_⟩)⟩
  · obtain ⟨g, g1, g2⟩ := a2.2.1
    exact ⟨g, g1, fun t ht => by rw [← h.1] at ht; rw [g2 t ht]; exact gp_cg h ht⟩
  · rw [← h.1] at ht
    rw [a2.2.2.1 t ht, gp_cg h ht]
  · rw [a2.2.2.2 c hcN, lowc_cg h (hc c hcN)]
  · rw [b2 c hcN, ruv_cg h hc hcN]
  · unfold SRT
    rw [c2.1, c2.2.1, c2.2.2, alw_cg h hc N (Nat.le_refl _), sur_cg h hc N (Nat.le_refl _), mayb_cg h hc N (Nat.le_refl _)]
    exact ⟨rfl, rfl, rfl⟩
-- the class at γ, the reference at β
def MD (S : St) (γ β : Nat → Nat → Nat) : Prop := CS S γ (nch γ) (chl γ) ∧ IM S β ∧ KP S ∧ SH S
theorem INV.md {S : St} {β : Nat → Nat → Nat} (h : INV S β) : MD S β β := ⟨h.1, h.2.1, h.2.2.1, h.2.2.2.1⟩
theorem MD.ex1 {S S1 : St} {γ β : Nat → Nat → Nat} (h : MD S γ β) (he : Ex (fun k => k = 1) S S1) : MD S1 γ β := by
  have hf := Fr.of he h.2.1.1.1
  exact ⟨h.1.ex he (fun k hk => by omega), h.2.1.fr hf (fun k hk => by omega), h.2.2.1.fr hf (fun k hk => by omega), h.2.2.2.fr hf (fun k hk => by omega)⟩
theorem m_tells {S : St} {x : Int32} {K : Int32 → St → Prop} (hr : RT S) (hK : ∀ S1, Ex (fun k => k = 108) S S1 → (∀ j, j ≠ 0 → sI S1 108 j = sI S 108 j) → sI S1 108 0 = (if 0 ≤ x then 0 else x) → K x S1) : wX9_tells S 108 x K := by
  refine ⟨fun c => ⟨ok_O hr.1 (by decide), fun S1 e1 => hK S1 ?_ (fun j hj => ?_) ?_⟩, fun c => ⟨ok_O hr.1 (by decide), fun S1 e1 => hK S1 ?_ (fun j hj => ?_) ?_⟩⟩
  · rw [e1]; exact Ex.pI (P := fun k => k = 108) Ex.rf rfl
  · rw [e1, sI_n hj]
  · rw [e1, sI_s, if_pos c]
  · rw [e1]; exact Ex.pI (P := fun k => k = 108) Ex.rf rfl
  · rw [e1, sI_n hj]
  · rw [e1, sI_s, if_neg c]
theorem MD.tell {S S1 : St} {γ β : Nat → Nat → Nat} (h : MD S γ β) (he : Ex (fun k => k = 108) S S1) (hj : ∀ j, j ≠ 0 → sI S1 108 j = sI S 108 j) : MD S1 γ β := by
  have hf := Fr.of he h.2.1.1.1
  refine ⟨h.1.ex he (fun k hk => by omega), ⟨⟨hf.1, h.2.1.1.2.1, h.2.1.1.2.2.fr hf (fun k hk => by omega) (fun j h1 _ => hj j (by omega))⟩, h.2.1.2.1, ?_, fun c hc => ?_⟩, h.2.2.1.fr hf (fun k hk => by omega), h.2.2.2.fr hf (fun k hk => by omega)⟩
  · rw [hj 11 (by decide)]; exact h.2.1.2.2.1
  · rw [he.i (by omega)]; exact h.2.1.2.2.2 c hc
theorem m_end {S : St} {β : Nat → Nat → Nat} {x y : Int32} {K : Int32 → St → Prop} (h : MD S β β) (st : sI S 1 9 = y) (hy : y = if 0 ≤ x then 0 else x) (h2 : ∀ S2, J S2 → K x S2) : wX9_tells S 108 x K := by
  refine m_tells h.2.1.1.1 (fun S1 he hj e => h2 S1 ⟨β, ?_⟩)
  obtain ⟨a, b, c, d⟩ := h.tell he hj
  refine ⟨a, b, c, d, ?_⟩
  rw [e, he.i (by omega), st, hy]
theorem w_no {S : St} {β : Nat → Nat → Nat} {x : Int32} {W : St → (Int32 → St → Prop) → Prop} {K : Int32 → St → Prop} (h : INV S β) (hx : ¬ 0 ≤ x) (hK : ∀ r S1, RT S1 → (∀ K2 : Int32 → St → Prop, (∀ S2, J S2 → K2 r S2) → W S1 K2) → K r S1) (hW : ∀ S1 K2, MD S1 β β → wX9_tells S1 108 x K2 → W S1 K2) : okO S 8 1 ∧ wX8_refused S 1 x K := by
  have hr := h.1.1.1
  refine ⟨ok_O hr.1 (by decide), w_ref hr (fun S1 hE e1 => hK x S1 (hE.rt hr) (fun K2 h2 => ?_))⟩
  have h1 := h.md.ex1 hE
  exact hW S1 K2 h1 (m_end h1 e1 (by rw [if_neg hx]) h2)
-- the class has taken γ, with the same choices
theorem CS.acc {S2 S3 : St} {γ : Nat → Nat → Nat} {N : Nat} {ch : Nat → Nat} (hc : Co S2 γ N ch) (hz : ZS S2) (hE : Ex (fun k => k = 1 ∨ k = 76) S2 S3) (fl : sI S3 76 8 = 0 ∧ sI S3 76 9 = 0 ∧ sI S3 76 10 = 0) : CS S3 γ N ch :=
  ⟨hc.ex hE (fun k hk => by omega), ⟨Or.inl fl.1, Or.inl fl.2.1, Or.inl fl.2.2⟩, hz.ex hE (fun k hk => by omega)⟩
def P2 (k : Nat) : Prop := 2 ≤ k ∧ k ≤ 16
theorem MD.acc {S S2 S3 : St} {β γ : Nat → Nat → Nat} (h : MD S β β) (hE2 : Ex P2 S S2) (hb : CB S2 2 γ) (hw : WF γ) (hs : SameC β γ) (hE3 : Ex (fun k => k = 1 ∨ k = 76) S2 S3) (fl : sI S3 76 8 = 0 ∧ sI S3 76 9 = 0 ∧ sI S3 76 10 = 0) : MD S3 γ β := by
  obtain ⟨a, b, c, d⟩ := h
  have hr2 := hE2.rt a.1.1
  obtain ⟨c1, c2, c3, c4, c5, c6, c7⟩ := a.1
  have hc2 : Co S2 γ (nch γ) (chl γ) := by
    rw [← nch_cg hs, ← chl_cg hs]
    refine ⟨hr2, hb, hw, ?_, c5, ?_, fun i hi => ?_⟩
    · rw [hE2.i (fun z => by unfold P2 at z; omega)]; exact c4
    · rw [hE2.r, hE2.r]; exact c6
    · rw [hE2.r, hE2.i (fun z => by unfold P2 at z; omega), ← hs.1]; exact c7 i hi
  have hf2 := Fr.of hE2 a.1.1
  have hf3 := Fr.of hE3 hr2
  refine ⟨CS.acc hc2 (a.2.2.ex hE2 (fun k hk => by unfold P2 at hk; omega)) hE3 fl, (b.fr hf2 (fun k hk => by unfold P2 at hk; omega)).fr hf3 (fun k hk => by omega), (c.fr hf2 (fun k hk => by unfold P2 at hk; omega)).fr hf3 (fun k hk => by omega), (d.fr hf2 (fun k hk => by unfold P2 at hk; omega)).fr hf3 (fun k hk => by omega)⟩
-- the reference has taken γ too
def P108 (k : Nat) : Prop := 108 ≤ k ∧ k ≤ 116
theorem MD.both {S S2 : St} {β γ : Nat → Nat → Nat} (h : MD S γ β) (hE : Ex P108 S S2) (hm : IM S2 γ) : MD S2 γ γ := by
  have hf := Fr.of hE h.2.1.1.1
  exact ⟨h.1.ex hE (fun k hk => by unfold P108 at hk; omega), hm, h.2.2.1.fr hf (fun k hk => by unfold P108 at hk; omega), h.2.2.2.fr hf (fun k hk => by unfold P108 at hk; omega)⟩
theorem IM.sc {S S2 : St} {β γ : Nat → Nat → Nat} (h : IM S β) (hr : RT S2) (hw : WF γ) (hm : MBn S2 γ) (hs : SameC β γ) (e1 : sI S2 108 11 = sI S 108 11) (e2 : ∀ c, sI S2 116 c = sI S 116 c) : IM S2 γ := by
  refine ⟨⟨hr, hw, hm⟩, ?_⟩
  unfold MCh
  rw [← nch_cg hs, ← chl_cg hs, e1]
  exact ⟨h.2.1, h.2.2.1, fun c hc => by rw [e2]; exact h.2.2.2 c hc⟩
theorem m_ok {S S2 : St} {β γ : Nat → Nat → Nat} {x : Int32} {K : Int32 → St → Prop} (h : MD S γ β) (st : sI S 1 9 = 0) (hE : Ex P108 S S2) (hm : IM S2 γ) (hx : 0 ≤ x) (h2 : ∀ S3, J S3 → K x S3) : okO S2 9 108 ∧ wX9_tells S2 108 x K := by
  have h3 := h.both hE hm
  have hr := hm.1.1
  refine ⟨ok_O hr.1 (by decide), m_end h3 (y := 0) ?_ (by rw [if_pos hx]) h2⟩
  rw [hE.i (fun z => by unfold P108 at z; omega)]
  exact st
theorem nn {a : Nat} (h : a < 2147483648) : (0 : Int32) ≤ nI a := by
  rw [show (0 : Int32) = nI 0 from rfl, ple (by decide) h]; exact Nat.zero_le _
