section MMR
variable {p : Program} {l : Launch} {e : Env} {R : Room} {s : State} {m : MethodId} {args : Array Value} {below : List Frame} {meth : Method} {c : Code} {H : Heap} {locs : List Loc} {cells slots : Nat} {Q : State → Prop}
variable {cc : ByteArray} {pc nL : Nat} {ls : Array Slot} {rest : List Value} {own : String} {G : Gt} {b0 : Nat} {S : St}
theorem MM.at {k ci : Nat} (hM : MM G b0 s S H locs) (ok : okO S ci k) : (cs G b0 S)[k - 1]? = some (b0 + k, ce G b0 S k) := cs_get ok.1 ok.2.1
theorem mm_get (hC : CallFix p m c cc nL s args lw_g own) (hM : MM G b0 s S H locs) {ci k j index : Nat} {q : vw_C} {ref : String} (ok : okO S ci k) (hq : vwCl[ci]? = some q) (hj : j < nf ci) (hl : Cond.fieldLink own index ref (q.2.1 j).2.1 (q.2.1 j).2.2.1 ∈ lw_g) (hr : ref = (q.2.1 j).1) (hdg : decode cc pc = .ok (.getfield index, 3))
    (kk : W p l e R s m args below meth c H locs cells slots Q (F0 m (pc + 3) ls (fv b0 S k ci j :: rest))) : W p l e R s m args below meth c H locs cells slots Q (F0 m pc ls (.ref (b0 + k) :: rest)) := by
  obtain ⟨k1, k2, k3, -, -⟩ := cok_all ci q hq
  obtain ⟨C, T, N⟩ := q
  dsimp only at k1 k2 k3 hl hr
  subst hr
  have he : (cs G b0 S)[k - 1]? = some (b0 + k, .inr (ci, fl b0 S k ci)) := by rw [hM.at ok, ce_obj ok.2.2 k3]
  exact va_get hC.1 hC.2.1 hC.2.2.2.2 k1 hC.2.2.2.1 hM.1 hM.2.2.2.1 (k - 1) he hq j (by rw [k2]; exact hj) (hC.2.2.2.2 _ hl) (fun _ h => h) (fl_get hj) hdg kk
theorem mm_gi (hC : CallFix p m c cc nL s args lw_g own) (hM : MM G b0 s S H locs) {ci k j index : Nat} {q : vw_C} {ref : String} (ok : okO S ci k) (hq : vwCl[ci]? = some q) (hj : j < nf ci) (hf : ft ci j = 0) (hl : Cond.fieldLink own index ref (q.2.1 j).2.1 (q.2.1 j).2.2.1 ∈ lw_g) (hr : ref = (q.2.1 j).1) (hdg : decode cc pc = .ok (.getfield index, 3))
    (kk : W p l e R s m args below meth c H locs cells slots Q (F0 m (pc + 3) ls (.int (sI S k j) :: rest))) : W p l e R s m args below meth c H locs cells slots Q (F0 m pc ls (.ref (b0 + k) :: rest)) :=
  mm_get hC hM ok hq hj hl hr hdg (by rw [show fv b0 S k ci j = .int (sI S k j) by unfold fv; rw [if_pos hf]]; exact kk)
theorem mm_gl (hC : CallFix p m c cc nL s args lw_g own) (hM : MM G b0 s S H locs) {ci k j index : Nat} {q : vw_C} {ref : String} (ok : okO S ci k) (hq : vwCl[ci]? = some q) (hj : j < nf ci) (hf : ft ci j = 2) (hl : Cond.fieldLink own index ref (q.2.1 j).2.1 (q.2.1 j).2.2.1 ∈ lw_g) (hr : ref = (q.2.1 j).1) (hdg : decode cc pc = .ok (.getfield index, 3))
    (kk : W p l e R s m args below meth c H locs cells slots Q (F0 m (pc + 3) ls (.long (sL S k j) :: rest))) : W p l e R s m args below meth c H locs cells slots Q (F0 m pc ls (.ref (b0 + k) :: rest)) :=
  mm_get hC hM ok hq hj hl hr hdg (by rw [show fv b0 S k ci j = .long (sL S k j) by unfold fv; rw [hf]; rfl]; exact kk)
theorem ro_ne {x : Nat} (h : x ≠ 0) : va_rf (ro b0 x) = .ref (b0 + x) := by
  unfold ro
  rw [if_neg h]
  rfl
theorem mm_gr (hC : CallFix p m c cc nL s args lw_g own) (hM : MM G b0 s S H locs) {ci k j index : Nat} {q : vw_C} {ref : String} (ok : okO S ci k ∧ sR S k j ≠ 0) (hq : vwCl[ci]? = some q) (hj : j < nf ci) (hf : ft ci j = 1) (hl : Cond.fieldLink own index ref (q.2.1 j).2.1 (q.2.1 j).2.2.1 ∈ lw_g) (hr : ref = (q.2.1 j).1) (hdg : decode cc pc = .ok (.getfield index, 3))
    (kk : W p l e R s m args below meth c H locs cells slots Q (F0 m (pc + 3) ls (.ref (b0 + sR S k j) :: rest))) : W p l e R s m args below meth c H locs cells slots Q (F0 m pc ls (.ref (b0 + k) :: rest)) :=
  mm_get hC hM ok.1 hq hj hl hr hdg (by rw [show fv b0 S k ci j = .ref (b0 + sR S k j) by unfold fv; rw [hf]; exact ro_ne ok.2]; exact kk)
/-- a field of an object, whatever its type -/
theorem mm_put (hC : CallFix p m c cc nL s args lw_g own) (hM : MM G b0 s S H locs) {ci k j index : Nat} {q : vw_C} {ref : String} {v : Value} {S1 : St} (ok : okO S ci k) (hq : vwCl[ci]? = some q) (hj : j < nf ci) (hl : Cond.fieldLink own index ref (q.2.1 j).2.1 (q.2.1 j).2.2.1 ∈ lw_g) (hr : ref = (q.2.1 j).1) (hfin : (q.2.1 j).2.2.2 = false) {ty : FieldType} (hd : parseFieldDescriptor (q.2.1 j).2.2.1 = some ty) (hn : narrow ty v = v) (hfit : fits ty v = true) (hdg : decode cc pc = .ok (.putfield index, 3))
    (e1 : S1.1 = S.1) (e2 : fv b0 S1 k ci j = v) (e3 : ∀ i, i ≠ j → fv b0 S1 k ci i = fv b0 S k ci i) (e4 : ∀ a, a ≠ k → ce G b0 S1 a = ce G b0 S a)
    (kk : ∀ (H1 : Heap) (locs1 : List Loc), MM G b0 s S1 H1 locs1 → W p l e R s m args below meth c H1 locs1 cells slots Q (F0 m (pc + 3) ls rest)) : W p l e R s m args below meth c H locs cells slots Q (F0 m pc ls (v :: .ref (b0 + k) :: rest)) := by
  obtain ⟨k1, k2, k3, ⟨ty0, k4⟩, k5⟩ := cok_all ci q hq
  obtain ⟨C, T, N⟩ := q
  dsimp only at k1 k2 k3 k4 k5 hl hr hfin hd
  subst hr
  have he : (cs G b0 S)[k - 1]? = some (b0 + k, .inr (ci, fl b0 S k ci)) := by rw [hM.at ok, ce_obj ok.2.2 k3]
  have hjN : j < N := by rw [k2]; exact hj
  have hts := hC.2.2.2.2
  obtain ⟨g1, g2, g3, g4, g5, g6, g7⟩ := id hM
  have hap := va_apart (own := own) hts k1 ty0 k4 k5 g1 hq
  obtain ⟨r, h1, cell, q1, q2, q3, q4⟩ := g4 (k - 1) _ he
  have hr : r = (C, T, N) := Option.some.inj (h1.symm.trans hq)
  subst hr
  obtain ⟨hS, hfc, kC, hkC, hkind⟩ := g1.1 ci _ hq
  obtain ⟨cf, kf, fi, f, hi, hsl⟩ := hS j hjN
  have hlay := hts _ (k1 _ (u_in_lay hjN))
  unfold u_lay at hlay
  rw [if_neg (by rw [hfin]; decide)] at hlay
  have hst := (u_facts hfc hkC (u_lays hts k1 hjN) hi).1
  have h6 := u_store hfc hkC hkind hlay hi hd hn hfit
  refine W.putK hC.1 hC.2.1 (f := f) ⟨hC.2.2.2.1, hts _ hl, ⟨_, _, _, hi⟩, hst⟩ (by rw [q2]; exact h6) q1 q3 (by rw [hsl]; exact k2_hasslot (q4 j hjN)) rfl rfl hdg fun H' x1 x2 x3 => ?_
  rw [hsl] at x1 ⊢
  have hD := cs_D G b0 S
  refine kk H' _ (hM.upd (S' := S1) (e := .inr (ci, (fl b0 S k ci).set j v)) ok.1 ok.2.1 e1 (by rw [ce_obj ok.2.2 k3, fl_set hj e2 e3]) e4 (g4.set hD he ⟨_, hq, t_OB.to (V := updV (vp_V (fl b0 S k ci)) j v) ⟨_, x1, q2, q3, t_set q4 hap hjN v⟩ (fun i _ => vp_updV_set (by rw [fl_len]; exact hj) v i)⟩ x3) x2 (g7.put x2 x3 (hD.2 (k - 1) _ he)))
theorem mm_putF (hC : CallFix p m c cc nL s args lw_g own) (hM : MM G b0 s S H locs) (hin2 : meth.name = "<init>") {ci k j index : Nat} {q : vw_C} {ref : String} {v : Value} {S1 : St} (ok : okO S ci k) (hq : vwCl[ci]? = some q) (hj : j < nf ci) (hl : Cond.fieldLink own index ref (q.2.1 j).2.1 (q.2.1 j).2.2.1 ∈ lw_g) (hr : ref = (q.2.1 j).1) (hfin : (q.2.1 j).2.2.2 = true) (hdecl : (q.2.1 j).1 = own) {ty : FieldType} (hd : parseFieldDescriptor (q.2.1 j).2.2.1 = some ty) (hn : narrow ty v = v) (hfit : fits ty v = true) (hdg : decode cc pc = .ok (.putfield index, 3))
    (e1 : S1.1 = S.1) (e2 : fv b0 S1 k ci j = v) (e3 : ∀ i, i ≠ j → fv b0 S1 k ci i = fv b0 S k ci i) (e4 : ∀ a, a ≠ k → ce G b0 S1 a = ce G b0 S a)
    (kk : ∀ (H1 : Heap) (locs1 : List Loc), MM G b0 s S1 H1 locs1 → W p l e R s m args below meth c H1 locs1 cells slots Q (F0 m (pc + 3) ls rest)) : W p l e R s m args below meth c H locs cells slots Q (F0 m pc ls (v :: .ref (b0 + k) :: rest)) := by
  obtain ⟨k1, k2, k3, ⟨ty0, k4⟩, k5⟩ := cok_all ci q hq
  obtain ⟨C, T, N⟩ := q
  dsimp only at k1 k2 k3 k4 k5 hl hr hfin hd hdecl
  subst hr
  have he : (cs G b0 S)[k - 1]? = some (b0 + k, .inr (ci, fl b0 S k ci)) := by rw [hM.at ok, ce_obj ok.2.2 k3]
  have hjN : j < N := by rw [k2]; exact hj
  have hts := hC.2.2.2.2
  obtain ⟨g1, g2, g3, g4, g5, g6, g7⟩ := id hM
  have hap := va_apart (own := own) hts k1 ty0 k4 k5 g1 hq
  obtain ⟨r, h1, cell, q1, q2, q3, q4⟩ := g4 (k - 1) _ he
  have hr : r = (C, T, N) := Option.some.inj (h1.symm.trans hq)
  subst hr
  obtain ⟨hS, hfc, kC, hkC, hkind⟩ := g1.1 ci _ hq
  obtain ⟨cf, kf, fi, f, hi, hsl⟩ := hS j hjN
  have hlay := hts _ (k1 _ (u_in_lay hjN))
  unfold u_lay at hlay
  rw [if_pos hfin] at hlay
  have hst := (u_facts hfc hkC (u_lays hts k1 hjN) hi).1
  have hcf : m.cls = cf := by
    obtain ⟨_, _, c', _, _, _, -, -, hf', -, -, -, hown2, -⟩ := Cond.laysFinal_spec hlay
    have e1 : c' = cf := by have := hi.symm.trans hf'; simp at this; exact this.1.symm
    rw [hdecl] at hown2
    rw [← e1]; exact Option.some.inj (hC.2.2.2.1.symm.trans hown2)
  have h6 := u_fits hfc hkC hkind (Or.inr hlay) hi hd hn hfit
  refine W.putFinK hC.1 hC.2.1 hC.2.2.2.1 (hts _ hl) hi hst hcf hin2 (by rw [q2]; exact h6) q1 q3 (by rw [hsl]; exact k2_hasslot (q4 j hjN)) rfl rfl hdg fun H' x1 x2 x3 => ?_
  rw [hsl] at x1 ⊢
  have hD := cs_D G b0 S
  refine kk H' _ (hM.upd (S' := S1) (e := .inr (ci, (fl b0 S k ci).set j v)) ok.1 ok.2.1 e1 (by rw [ce_obj ok.2.2 k3, fl_set hj e2 e3]) e4 (g4.set hD he ⟨_, hq, t_OB.to (V := updV (vp_V (fl b0 S k ci)) j v) ⟨_, x1, q2, q3, t_set q4 hap hjN v⟩ (fun i _ => vp_updV_set (by rw [fl_len]; exact hj) v i)⟩ x3) x2 (g7.put x2 x3 (hD.2 (k - 1) _ he)))
theorem pI_o {k j a : Nat} {x : Int32} (h : a ≠ k) : ce G b0 (pI S k j x) a = ce G b0 S a := ce_o (by show va_up _ _ _ a = _; rw [up_n h]) rfl rfl
theorem pA_o {k a : Nat} {f : Nat → Int32} (h : a ≠ k) : ce G b0 (pA S k f) a = ce G b0 S a := ce_o (by show va_up _ _ _ a = _; rw [up_n h]) rfl rfl
theorem pR_o {k j a x : Nat} (h : a ≠ k) : ce G b0 (pR S k j x) a = ce G b0 S a := ce_o rfl (by show va_up _ _ _ a = _; rw [up_n h]) rfl
theorem pL_o {k j a : Nat} {x : Int64} (h : a ≠ k) : ce G b0 (pL S k j x) a = ce G b0 S a := ce_o rfl rfl (by show va_up _ _ _ a = _; rw [up_n h])
theorem sI_pI {k j a b : Nat} {x : Int32} : sI (pI S k j x) a b = if a = k ∧ b = j then x else sI S a b := by
  show (va_up S.2.1 k (va_up (S.2.1 k) j x)) a b = _
  by_cases h : a = k
  · subst h
    rw [up_s]
    by_cases h2 : b = j
    · subst h2; rw [up_s, if_pos ⟨rfl, rfl⟩]
    · rw [up_n h2, if_neg (fun z => h2 z.2)]; rfl
  · rw [up_n h, if_neg (fun z => h z.1)]; rfl
theorem sR_pI {k j a b : Nat} {x : Int32} : sR (pI S k j x) a b = sR S a b := rfl
theorem sL_pI {k j a b : Nat} {x : Int32} : sL (pI S k j x) a b = sL S a b := rfl
theorem sI_pR {k j a b x : Nat} : sI (pR S k j x) a b = sI S a b := rfl
theorem sL_pR {k j a b x : Nat} : sL (pR S k j x) a b = sL S a b := rfl
theorem sR_pR {k j a b x : Nat} : sR (pR S k j x) a b = if a = k ∧ b = j then x else sR S a b := by
  show (va_up S.2.2.1 k (va_up (S.2.2.1 k) j x)) a b = _
  by_cases h : a = k
  · subst h
    rw [up_s]
    by_cases h2 : b = j
    · subst h2; rw [up_s, if_pos ⟨rfl, rfl⟩]
    · rw [up_n h2, if_neg (fun z => h2 z.2)]; rfl
  · rw [up_n h, if_neg (fun z => h z.1)]; rfl
theorem sI_pL {k j a b : Nat} {x : Int64} : sI (pL S k j x) a b = sI S a b := rfl
theorem sR_pL {k j a b : Nat} {x : Int64} : sR (pL S k j x) a b = sR S a b := rfl
theorem sL_pL {k j a b : Nat} {x : Int64} : sL (pL S k j x) a b = if a = k ∧ b = j then x else sL S a b := by
  show (va_up S.2.2.2 k (va_up (S.2.2.2 k) j x)) a b = _
  by_cases h : a = k
  · subst h
    rw [up_s]
    by_cases h2 : b = j
    · subst h2; rw [up_s, if_pos ⟨rfl, rfl⟩]
    · rw [up_n h2, if_neg (fun z => h2 z.2)]; rfl
  · rw [up_n h, if_neg (fun z => h z.1)]; rfl
theorem sI_s {k j : Nat} {x : Int32} : sI (pI S k j x) k j = x := by rw [sI_pI, if_pos ⟨rfl, rfl⟩]
theorem sI_n {k j i : Nat} {x : Int32} (h : i ≠ j) : sI (pI S k j x) k i = sI S k i := by rw [sI_pI, if_neg (fun z => h z.2)]
theorem sR_s {k j x : Nat} : sR (pR S k j x) k j = x := by rw [sR_pR, if_pos ⟨rfl, rfl⟩]
theorem sR_n {k j i x : Nat} (h : i ≠ j) : sR (pR S k j x) k i = sR S k i := by rw [sR_pR, if_neg (fun z => h z.2)]
theorem sL_s {k j : Nat} {x : Int64} : sL (pL S k j x) k j = x := by rw [sL_pL, if_pos ⟨rfl, rfl⟩]
theorem sL_n {k j i : Nat} {x : Int64} (h : i ≠ j) : sL (pL S k j x) k i = sL S k i := by rw [sL_pL, if_neg (fun z => h z.2)]
theorem fv0 {ci k j : Nat} (h : ft ci j = 0) : fv b0 S k ci j = .int (sI S k j) := by unfold fv; rw [if_pos h]
theorem fv1 {ci k j : Nat} (h : ft ci j = 1) : fv b0 S k ci j = va_rf (ro b0 (sR S k j)) := by unfold fv; rw [if_neg (by omega), if_pos h]
theorem fv2 {ci k j : Nat} (h : ft ci j = 2) : fv b0 S k ci j = .long (sL S k j) := by unfold fv; rw [if_neg (by omega), if_neg (by omega)]
theorem fvc {S1 : St} {ci k i : Nat} (h1 : sI S1 k i = sI S k i) (h2 : sR S1 k i = sR S k i) (h3 : sL S1 k i = sL S k i) : fv b0 S1 k ci i = fv b0 S k ci i := by unfold fv; rw [h1, h2, h3]
theorem mm_pi (hC : CallFix p m c cc nL s args lw_g own) (hM : MM G b0 s S H locs) {ci k j index : Nat} {q : vw_C} {ref : String} {x : Int32} (ok : okO S ci k) (hq : vwCl[ci]? = some q) (hj : j < nf ci) (hf : ft ci j = 0) (hl : Cond.fieldLink own index ref (q.2.1 j).2.1 (q.2.1 j).2.2.1 ∈ lw_g) (hr : ref = (q.2.1 j).1) (hfin : (q.2.1 j).2.2.2 = false) {ty : FieldType} (hd : parseFieldDescriptor (q.2.1 j).2.2.1 = some ty) (hn : narrow ty (.int x) = .int x) (hfit : fits ty (.int x) = true) (hdg : decode cc pc = .ok (.putfield index, 3))
    (kk : ∀ (S1 : St) (H1 : Heap) (locs1 : List Loc), S1 = pI S k j x → MM G b0 s S1 H1 locs1 → W p l e R s m args below meth c H1 locs1 cells slots Q (F0 m (pc + 3) ls rest)) : W p l e R s m args below meth c H locs cells slots Q (F0 m pc ls (.int x :: .ref (b0 + k) :: rest)) :=
  mm_put hC hM (S1 := pI S k j x) ok hq hj hl hr hfin hd hn hfit hdg rfl (by rw [fv0 hf, sI_s]) (fun i hi => fvc (sI_n hi) rfl rfl) (fun a ha => pI_o ha) (fun H1 locs1 h => kk _ H1 locs1 rfl h)
theorem mm_pl (hC : CallFix p m c cc nL s args lw_g own) (hM : MM G b0 s S H locs) {ci k j index : Nat} {q : vw_C} {ref : String} {x : Int64} (ok : okO S ci k) (hq : vwCl[ci]? = some q) (hj : j < nf ci) (hf : ft ci j = 2) (hl : Cond.fieldLink own index ref (q.2.1 j).2.1 (q.2.1 j).2.2.1 ∈ lw_g) (hr : ref = (q.2.1 j).1) (hfin : (q.2.1 j).2.2.2 = false) {ty : FieldType} (hd : parseFieldDescriptor (q.2.1 j).2.2.1 = some ty) (hn : narrow ty (.long x) = .long x) (hfit : fits ty (.long x) = true) (hdg : decode cc pc = .ok (.putfield index, 3))
    (kk : ∀ (S1 : St) (H1 : Heap) (locs1 : List Loc), S1 = pL S k j x → MM G b0 s S1 H1 locs1 → W p l e R s m args below meth c H1 locs1 cells slots Q (F0 m (pc + 3) ls rest)) : W p l e R s m args below meth c H locs cells slots Q (F0 m pc ls (.long x :: .ref (b0 + k) :: rest)) :=
  mm_put hC hM (S1 := pL S k j x) ok hq hj hl hr hfin hd hn hfit hdg rfl (by rw [fv2 hf, sL_s]) (fun i hi => fvc rfl rfl (sL_n hi)) (fun a ha => pL_o ha) (fun H1 locs1 h => kk _ H1 locs1 rfl h)
theorem mm_pr (hC : CallFix p m c cc nL s args lw_g own) (hM : MM G b0 s S H locs) {ci k j index x : Nat} {q : vw_C} {ref : String} (ok : okO S ci k) (hx : x ≠ 0) (hq : vwCl[ci]? = some q) (hj : j < nf ci) (hf : ft ci j = 1) (hl : Cond.fieldLink own index ref (q.2.1 j).2.1 (q.2.1 j).2.2.1 ∈ lw_g) (hr : ref = (q.2.1 j).1) (hfin : (q.2.1 j).2.2.2 = false) {ty : FieldType} (hd : parseFieldDescriptor (q.2.1 j).2.2.1 = some ty) (hn : ∀ a : Nat, narrow ty (.ref a) = .ref a) (hfit : ∀ a : Nat, fits ty (.ref a) = true) (hdg : decode cc pc = .ok (.putfield index, 3))
    (kk : ∀ (S1 : St) (H1 : Heap) (locs1 : List Loc), S1 = pR S k j x → MM G b0 s S1 H1 locs1 → W p l e R s m args below meth c H1 locs1 cells slots Q (F0 m (pc + 3) ls rest)) : W p l e R s m args below meth c H locs cells slots Q (F0 m pc ls (.ref (b0 + x) :: .ref (b0 + k) :: rest)) :=
  mm_put hC hM (S1 := pR S k j x) ok hq hj hl hr hfin hd (hn _) (hfit _) hdg rfl (by rw [fv1 hf, sR_s]; exact ro_ne hx) (fun i hi => fvc rfl (sR_n hi) rfl) (fun a ha => pR_o ha) (fun H1 locs1 h => kk _ H1 locs1 rfl h)
theorem mm_prF (hC : CallFix p m c cc nL s args lw_g own) (hM : MM G b0 s S H locs) (hin2 : meth.name = "<init>") {ci k j index x : Nat} {q : vw_C} {ref : String} (ok : okO S ci k) (hx : x ≠ 0) (hq : vwCl[ci]? = some q) (hj : j < nf ci) (hf : ft ci j = 1) (hl : Cond.fieldLink own index ref (q.2.1 j).2.1 (q.2.1 j).2.2.1 ∈ lw_g) (hr : ref = (q.2.1 j).1) (hfin : (q.2.1 j).2.2.2 = true) (hdecl : (q.2.1 j).1 = own) {ty : FieldType} (hd : parseFieldDescriptor (q.2.1 j).2.2.1 = some ty) (hn : ∀ a : Nat, narrow ty (.ref a) = .ref a) (hfit : ∀ a : Nat, fits ty (.ref a) = true) (hdg : decode cc pc = .ok (.putfield index, 3))
    (kk : ∀ (S1 : St) (H1 : Heap) (locs1 : List Loc), S1 = pR S k j x → MM G b0 s S1 H1 locs1 → W p l e R s m args below meth c H1 locs1 cells slots Q (F0 m (pc + 3) ls rest)) : W p l e R s m args below meth c H locs cells slots Q (F0 m pc ls (.ref (b0 + x) :: .ref (b0 + k) :: rest)) :=
  mm_putF hC hM hin2 (S1 := pR S k j x) ok hq hj hl hr hfin hdecl hd (hn _) (hfit _) hdg rfl (by rw [fv1 hf, sR_s]; exact ro_ne hx) (fun i hi => fvc rfl (sR_n hi) rfl) (fun a ha => pR_o ha) (fun H1 locs1 h => kk _ H1 locs1 rfl h)
theorem sI_row {k j : Nat} {x : Int32} : sI (pI S k j x) k = va_up (sI S k) j x := by
  show va_up S.2.1 k (va_up (S.2.1 k) j x) k = _
  rw [up_s]
  rfl
theorem mm_il (hC : CallFix p m c cc nL s args lw_g own) (hM : MM G b0 s S H locs) {k : Nat} {i : Int32} (ok : okA S 10 k i) (hdg : decode cc pc = .ok (.iaload, 1))
    (kk : W p l e R s m args below meth c H locs cells slots Q (F0 m (pc + 1) ls (.int (sI S k i.toNatClampNeg) :: rest))) : W p l e R s m args below meth c H locs cells slots Q (F0 m pc ls (.int i :: .ref (b0 + k) :: rest)) :=
  va_iald hC.1 hC.2.1 hM.1 hM.2.2.2.1 (k - 1) 0 (by rw [hM.at ok.1, ce_int ok.1.2.2]) rfl ok.2 hdg kk
theorem mm_zl (hC : CallFix p m c cc nL s args lw_g own) (hM : MM G b0 s S H locs) {k : Nat} {i : Int32} (ok : okA S 11 k i) (hdg : decode cc pc = .ok (.baload, 1))
    (kk : W p l e R s m args below meth c H locs cells slots Q (F0 m (pc + 1) ls (.int (sI S k i.toNatClampNeg) :: rest))) : W p l e R s m args below meth c H locs cells slots Q (F0 m pc ls (.int i :: .ref (b0 + k) :: rest)) :=
  va_zald hC.1 hC.2.1 hM.1 hM.2.2.2.1 (k - 1) 1 (by rw [hM.at ok.1, ce_boo ok.1.2.2]) rfl ok.2 hdg kk
theorem mm_is (hC : CallFix p m c cc nL s args lw_g own) (hM : MM G b0 s S H locs) {k : Nat} {i x : Int32} (ok : okA S 10 k i) (hdg : decode cc pc = .ok (.iastore, 1))
    (kk : ∀ (S1 : St) (H1 : Heap) (locs1 : List Loc), S1 = pI S k i.toNatClampNeg x → MM G b0 s S1 H1 locs1 → W p l e R s m args below meth c H1 locs1 cells slots Q (F0 m (pc + 1) ls rest)) : W p l e R s m args below meth c H locs cells slots Q (F0 m pc ls (.int x :: .int i :: .ref (b0 + k) :: rest)) := by
  obtain ⟨g1, g2, g3, g4, g5, g6, g7⟩ := id hM
  have ha : (cs G b0 S)[k - 1]? = some (b0 + k, .inl (G.2 10, ln k, .inl (sI S k))) := by rw [hM.at ok.1, ce_int ok.1.2.2]
  have hD := cs_D G b0 S
  refine W.iast hC.1 hC.2.1 (g4 (k - 1) _ ha) ((g1.2 0 _ rfl).1 (ln k) (fun j => .int (sI S k j))) (fun q => by cases q) (by show ¬ (i < 0 ∨ (arrV _ _ _).slots.size ≤ _); rw [arrV_size]; exact ok.2) rfl rfl hdg fun H1 x1 x2 x3 => ?_
  refine kk _ H1 _ rfl (hM.upd (S' := pI S k i.toNatClampNeg x) (e := .inl (G.2 10, ln k, .inl (va_up (sI S k) i.toNatClampNeg x))) ok.1.1 ok.1.2.1 rfl (by rw [ce_int ok.1.2.2]; rw [sI_row]) (fun a h => pI_o h) (g4.set hD ha ?_ x3) x2 (g7.put x2 x3 (hD.2 (k - 1) _ ha)))
  show H1[b0 + k]? = some (vp_cell _ _)
  rw [x1, vp_cell_i, vp_cell_i, arrV_store]
  congr 2
  funext j
  by_cases hj : j = i.toNatClampNeg
  · subst hj; simp [updV, va_up]
  · simp [updV, va_up, hj]
theorem mm_zs (hC : CallFix p m c cc nL s args lw_g own) (hM : MM G b0 s S H locs) {k : Nat} {i x : Int32} (ok : okA S 11 k i) (hdg : decode cc pc = .ok (.bastore, 1))
    (kk : ∀ (S1 : St) (H1 : Heap) (locs1 : List Loc), S1 = pI S k i.toNatClampNeg (vp_nar .boolean x) → MM G b0 s S1 H1 locs1 → W p l e R s m args below meth c H1 locs1 cells slots Q (F0 m (pc + 1) ls rest)) : W p l e R s m args below meth c H locs cells slots Q (F0 m pc ls (.int x :: .int i :: .ref (b0 + k) :: rest)) := by
  obtain ⟨g1, g2, g3, g4, g5, g6, g7⟩ := id hM
  have ha : (cs G b0 S)[k - 1]? = some (b0 + k, .inl (G.2 11, ln k, .inl (sI S k))) := by rw [hM.at ok.1, ce_boo ok.1.2.2]
  have hD := cs_D G b0 S
  refine W.zast hC.1 hC.2.1 (g4 (k - 1) _ ha) ((g1.2 1 _ rfl).1 (ln k) (fun j => .int (sI S k j))) (fun q => by cases q) (by show ¬ (i < 0 ∨ (arrV _ _ _).slots.size ≤ _); rw [arrV_size]; exact ok.2) rfl rfl hdg fun H1 x1 x2 x3 => ?_
  refine kk _ H1 _ rfl (hM.upd (S' := pI S k i.toNatClampNeg (vp_nar .boolean x)) (e := .inl (G.2 11, ln k, .inl (va_up (sI S k) i.toNatClampNeg (vp_nar .boolean x)))) ok.1.1 ok.1.2.1 rfl (by rw [ce_boo ok.1.2.2]; rw [sI_row]) (fun a h => pI_o h) (g4.set hD ha ?_ x3) x2 (g7.put x2 x3 (hD.2 (k - 1) _ ha)))
  show H1[b0 + k]? = some (vp_cell _ _)
  rw [x1, vp_cell_i, vp_cell_i, arrV_store]
  congr 2
  funext j
  by_cases hj : j = i.toNatClampNeg
  · subst hj
    simp [updV, va_up, vp_nar]
    try rfl
  · simp [updV, va_up, hj]
theorem mm_alen (hC : CallFix p m c cc nL s args lw_g own) (hM : MM G b0 s S H locs) {k : Nat} (ok : okO S 10 k) (hdg : decode cc pc = .ok (.arraylength, 1))
    (kk : W p l e R s m args below meth c H locs cells slots Q (F0 m (pc + 1) ls (.int (nI (ln k)) :: rest))) : W p l e R s m args below meth c H locs cells slots Q (F0 m pc ls (.ref (b0 + k) :: rest)) :=
  va_alen hC.1 hC.2.1 hM.1 hM.2.2.2.1 (k - 1) 0 (show (cs G b0 S)[k - 1]? = some (b0 + k, .inl (G.2 10, ln k, .inl (sI S k))) by rw [hM.at ok, ce_int ok.2.2]) rfl rfl hdg kk
/-- an element of an array of references that isn't null -/
theorem mm_al (hC : CallFix p m c cc nL s args lw_g own) (hM : MM G b0 s S H locs) {t k t0 : Nat} {i : Int32} {ty : FieldType} (ok : okA S t k i ∧ sR S k i.toNatClampNeg ≠ 0) (ht : 12 ≤ t) (hty : (tyG G)[t0]? = some (G.2 t, ty)) (hrk : ty.isReference = true) (hdg : decode cc pc = .ok (.aaload, 1))
    (kk : W p l e R s m args below meth c H locs cells slots Q (F0 m (pc + 1) ls (.ref (b0 + sR S k i.toNatClampNeg) :: rest))) : W p l e R s m args below meth c H locs cells slots Q (F0 m pc ls (.int i :: .ref (b0 + k) :: rest)) := by
  have hlt : i.toNatClampNeg < ln k := Nat.not_le.mp fun q => ok.1.2 (Or.inr q)
  have ha : (cs G b0 S)[k - 1]? = some (b0 + k, .inl (G.2 t, ln k, .inr (.inr (.inr (.inr (fun j => ro b0 (sR S k j))))))) := by rw [hM.at ok.1.1, ce_ref ok.1.1.2.2 ht]
  exact W.aald (v := .ref (b0 + sR S k i.toNatClampNeg)) (ty := ty) hC.1 hC.2.1 (hM.2.2.2.1 (k - 1) _ ha) ((hM.1.2 t0 _ hty).1 (ln k) (fun j => va_rf (ro b0 (sR S k j)))) hrk (fun q => by cases q) (by show ¬ (i < 0 ∨ (arrV _ _ _).slots.size ≤ _); rw [arrV_size]; exact ok.1.2) (by show (arrV _ _ _).slots[_]? = _; rw [arrV_read _ _ hlt, ro_ne ok.2]) rfl rfl hdg kk
end MMR
