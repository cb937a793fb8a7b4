def fvD (t : Nat) : Value := if t = 0 then .int 0 else if t = 1 then .null else .long 0
theorem pN_ce {G : Gt} {b0 : Nat} {S : St} {j : Nat} (h : j ≤ S.1) : ce G b0 (pN S) j = ce G b0 S j := ce_o (by show va_up _ _ _ j = _; rw [up_n (by omega)]) (by show va_up _ _ _ j = _; rw [up_n (by omega)]) (by show va_up _ _ _ j = _; rw [up_n (by omega)])
theorem pN_I {S : St} : sI (pN S) (S.1 + 1) = fun _ => 0 := by show va_up _ _ _ _ = _; rw [up_s]
theorem pN_R {S : St} : sR (pN S) (S.1 + 1) = fun _ => 0 := by show va_up _ _ _ _ = _; rw [up_s]
theorem pN_L {S : St} : sL (pN S) (S.1 + 1) = fun _ => 0 := by show va_up _ _ _ _ = _; rw [up_s]
theorem cs_push {G : Gt} {b0 : Nat} {S : St} : cs G b0 (pN S) = cs G b0 S ++ [(b0 + (S.1 + 1), ce G b0 (pN S) (S.1 + 1))] := by
  show (List.range (S.1 + 1)).map _ = _
  rw [List.range_succ, List.map_append]
  congr 1
  apply List.map_congr_left
  intro i hi
  have := List.mem_range.mp hi
  rw [pN_ce (by omega)]
theorem pN_fv {b0 : Nat} {S : St} {ci j : Nat} : fv b0 (pN S) (S.1 + 1) ci j = fvD (ft ci j) := by
  unfold fv fvD
  rw [pN_I, pN_R, pN_L]
  rfl
section MMN
variable {p : Program} {l : Launch} {e : Env} {R : Room} {s : State} {m : MethodId} {args : Array Value} {below : List Frame} {meth : Method} {c : Code} {H : Heap} {locs : List Loc} {cells slots : Nat} {Q : State → Prop}
variable {cc : ByteArray} {pc nL : Nat} {ls : Array Slot} {rest : List Value} {own : String} {G : Gt} {b0 : Nat} {S : St}
theorem MM.new {H1 : Heap} (hM : MM G b0 s S H locs) (hz : H1.size = H.size + 1) (ho : ∀ q, q < H.size → H1[q]? = H[q]?) (ha : va_at G.1 vwCl (H.size, ce G b0 (pN S) (S.1 + 1)) H1) : MM G b0 s (pN S) H1 locs := by
  obtain ⟨g1, g2, g3, g4, g5, g6, g7⟩ := hM
  have hk : ∀ (k : Nat) (x : Nat × va_E), (cs G b0 S)[k]? = some x → H1[x.1]? = H[x.1]? := fun k x hx => ho x.1 ((g4 k x hx).lt)
  refine ⟨g1, g2, g3, ?_, ?_, g6, ⟨Nat.le_trans g7.1 (by omega), fun x h1 h2 => (ho x (Nat.lt_of_lt_of_le h1 g7.1)).trans (g7.2.1 x h1 h2), g7.2.2⟩⟩
  · rw [cs_push]
    refine (g4.kept hk).app (fun k x hx => ?_)
    have hz : k < 1 := (List.getElem?_eq_some_iff.mp hx).1
    rw [show k = 0 by omega] at hx
    cases hx
    rw [show b0 + (S.1 + 1) = H.size by omega]
    exact ha
  · rw [hz, g5]
    show _ = b0 + 1 + (S.1 + 1)
    omega
def okNw (S : St) (t n : Nat) : Prop := kc (S.1 + 1) = t ∧ ln (S.1 + 1) = n
theorem mm_newI (hC : CallFix p m c cc nL s args lw_g own) (hM : MM G b0 s S H locs) {n : Int32} {N : Nat} (ok : okNw S 10 N) (hn : ¬ n < 0) (hN : n.toNatClampNeg = N) (hbytes : N * 4 ≤ 536870912) (hcells : cells + 1 ≤ R.cells) (hslots : slots + N ≤ R.slots) (hdg : decode cc pc = .ok (.newarray .int, 2))
    (kk : ∀ (S1 : St) (H1 : Heap), S1 = pN S → MM G b0 s S1 H1 locs → W p l e R s m args below meth c H1 locs (cells + 1) (slots + N) Q (F0 m (pc + 2) ls (.ref (b0 + (S.1 + 1)) :: rest))) : W p l e R s m args below meth c H locs cells slots Q (F0 m pc ls (.int n :: rest)) := by
  have hs : H.size = b0 + (S.1 + 1) := by have := hM.2.2.2.2.1; omega
  refine va_newaK (atype := .int) hC.1 hC.2.1 (hC.2.2.2.2 _ tw_81) rfl hdg rfl hn hN hbytes hcells hslots hs fun H1 cA e1 z1 o1 hAr hNm => ?_
  have hcA : cA = G.2 10 := Option.some.inj (hNm.symm.trans (show s.vm.findClass ("[" ++ (FieldType.int).toString) = some (G.2 10) from (hM.1.2 0 _ rfl).2))
  subst hcA
  rw [← hs] at e1 z1 o1
  refine kk _ H1 rfl (hM.new z1 o1 ?_)
  rw [ce_int ok.1, pN_I, ok.2]
  exact e1
theorem mm_newZ (hC : CallFix p m c cc nL s args lw_g own) (hM : MM G b0 s S H locs) {n : Int32} {N : Nat} (ok : okNw S 11 N) (hn : ¬ n < 0) (hN : n.toNatClampNeg = N) (hbytes : N * 1 ≤ 536870912) (hcells : cells + 1 ≤ R.cells) (hslots : slots + N ≤ R.slots) (hdg : decode cc pc = .ok (.newarray .boolean, 2))
    (kk : ∀ (S1 : St) (H1 : Heap), S1 = pN S → MM G b0 s S1 H1 locs → W p l e R s m args below meth c H1 locs (cells + 1) (slots + N) Q (F0 m (pc + 2) ls (.ref (b0 + (S.1 + 1)) :: rest))) : W p l e R s m args below meth c H locs cells slots Q (F0 m pc ls (.int n :: rest)) := by
  have hs : H.size = b0 + (S.1 + 1) := by have := hM.2.2.2.2.1; omega
  refine va_newaK (atype := .boolean) hC.1 hC.2.1 (hC.2.2.2.2 _ tw_175) rfl hdg rfl hn hN hbytes hcells hslots hs fun H1 cA e1 z1 o1 hAr hNm => ?_
  have hcA : cA = G.2 11 := Option.some.inj (hNm.symm.trans (show s.vm.findClass ("[" ++ (FieldType.boolean).toString) = some (G.2 11) from (hM.1.2 1 _ rfl).2))
  subst hcA
  rw [← hs] at e1 z1 o1
  refine kk _ H1 rfl (hM.new z1 o1 ?_)
  rw [ce_boo ok.1, pN_I, ok.2]
  exact e1
theorem mm_new (hC : CallFix p m c cc nL s args lw_g own) (hM : MM G b0 s S H locs) {ci idx N : Nat} {C : String} {T : u_T} {ty : Nat → FieldType} (ok : kc (S.1 + 1) = ci) (hq : vwCl[ci]? = some (C, T, N)) (hty : ∀ k, k < N → parseFieldDescriptor (T k).2.2.1 = some (ty k)) (hdv : ∀ k, k < N → defaultValue (ty k) = fvD (ft ci k)) (w1 : Cond.classLink own idx C ∈ lw_g) (w2 : Cond.instantiable C N ∈ lw_g) (w3 : Cond.initialized C ∈ lw_g) (hcells : cells + 1 ≤ R.cells) (hslots : slots + N ≤ R.slots) (hdg : decode cc pc = .ok (.new idx, 3))
    (kk : ∀ (S1 : St) (H1 : Heap), S1 = pN S → MM G b0 s S1 H1 locs → W p l e R s m args below meth c H1 locs (cells + 1) (slots + N) Q (F0 m (pc + 3) ls (.ref (b0 + (S.1 + 1)) :: rest))) : W p l e R s m args below meth c H locs cells slots Q (F0 m pc ls rest) := by
  obtain ⟨k1, k2, k3, -, -⟩ := cok_all ci _ hq
  dsimp only at k1 k2
  have hts := hC.2.2.2.2
  have hKn := hM.1.1 ci _ hq
  refine W.newcK hC.1 hC.2.1 hC.2.2.2.1 (hts _ w1) (hts _ w2) (hts _ w3) rfl hdg hcells hslots hKn.2.1 rfl fun H1 kC hkC e1 z1 o1 => ?_
  show W p l e R s m args below meth c H1 locs (cells + 1) (slots + N) Q (F0 m (pc + 3) ls (.ref H.size :: rest))
  rw [show H.size = b0 + (S.1 + 1) by have := hM.2.2.2.2.1; omega]
  refine kk _ H1 rfl (hM.new z1 o1 ?_)
  rw [ce_obj ok k3]
  refine ⟨_, hq, (u_born ty hts k1 hKn hkC e1 hty).to (fun j hj => ?_)⟩
  rw [hdv j hj]
  have hj2 : j < nf ci := by show j < (mmF.getD ci []).length; rw [← k2]; exact hj
  have := fl_get (b0 := b0) (S := pN S) (k := S.1 + 1) hj2
  simp only [vp_V, List.getD_eq_getElem?_getD, this, pN_fv, Option.getD_some]
theorem mm_anew (hC : CallFix p m c cc nL s args lw_g own) (hM : MM G b0 s S H locs) {t t0 idx : Nat} {C : String} {n : Int32} {N : Nat} (ok : okNw S t N) (ht : 12 ≤ t) (hty : (tyG G)[t0]? = some (G.2 t, .object C)) (w1 : Cond.classLink own idx C ∈ lw_g) (hover : va_AO C s) (hn : ¬ n < 0) (hN : n.toNatClampNeg = N) (hbytes : N * 4 ≤ 536870912) (hcells : cells + 1 ≤ R.cells) (hslots : slots + N ≤ R.slots) (hdg : decode cc pc = .ok (.anewarray idx, 3))
    (kk : ∀ (S1 : St) (H1 : Heap), S1 = pN S → MM G b0 s S1 H1 locs → W p l e R s m args below meth c H1 locs (cells + 1) (slots + N) Q (F0 m (pc + 3) ls (.ref (b0 + (S.1 + 1)) :: rest))) : W p l e R s m args below meth c H locs cells slots Q (F0 m pc ls (.int n :: rest)) := by
  subst hN
  refine W.anew hC.1 hC.2.1 hC.2.2.2.1 (hC.2.2.2.2 _ w1) (va_AO.use hover) rfl hdg rfl hn hbytes hcells hslots fun cA kA comp f1 f2 f3 f4 => ?_
  generalize hH1 : H.push ({ cls := cA, slots := Array.replicate n.toNatClampNeg .null, vm := .none } : Cell) = H1
  have z1 : H1.size = H.size + 1 := by rw [← hH1, Array.size_push]
  have e1 : H1[H.size]? = some (arrV cA n.toNatClampNeg (fun _ => .null)) := by rw [← hH1, Array.getElem?_push_size, ← arrV_new]
  have o1 : ∀ q : Nat, q < H.size → H1[q]? = H[q]? := fun q hq => by rw [← hH1, Array.getElem?_push, if_neg (Nat.ne_of_lt hq)]
  have hcA : cA = G.2 t := by
    obtain ⟨_, _, _, _, _, h4⟩ := (hM.1.2 t0 _ hty).2
    exact Option.some.inj (f1.symm.trans h4)
  subst hcA
  show W p l e R s m args below meth c H1 locs (cells + 1) (slots + n.toNatClampNeg) Q (F0 m (pc + 3) ls (.ref H.size :: rest))
  rw [show H.size = b0 + (S.1 + 1) by have := hM.2.2.2.2.1; omega]
  refine kk _ H1 rfl (hM.new z1 o1 ?_)
  rw [ce_ref ok.1 ht, ok.2, pN_R]
  show H1[H.size]? = some (vp_cell _ _)
  rw [vp_cell_q]
  exact e1
/-- a reference to an object of a known class is laid into an array of that class -/
theorem mm_as (hC : CallFix p m c cc nL s args lw_g own) (hM : MM G b0 s S H locs) {t t0 k x ci : Nat} {i : Int32} {q : vw_C} (ok : okA S t k i) (okx : okO S ci x) (ht : 12 ≤ t) (hq : vwCl[ci]? = some q) (hty : (tyG G)[t0]? = some (G.2 t, .object q.1)) (hdg : decode cc pc = .ok (.aastore, 1))
    (kk : ∀ (S1 : St) (H1 : Heap) (locs1 : List Loc), S1 = pR S k i.toNatClampNeg x → MM G b0 s S1 H1 locs1 → W p l e R s m args below meth c H1 locs1 cells slots Q (F0 m (pc + 1) ls rest)) : W p l e R s m args below meth c H locs cells slots Q (F0 m pc ls (.ref (b0 + x) :: .int i :: .ref (b0 + k) :: rest)) := by
  obtain ⟨-, -, k3, -, -⟩ := cok_all ci q hq
  obtain ⟨g1, g2, g3, g4, g5, g6, g7⟩ := id hM
  have hlt : i.toNatClampNeg < ln k := Nat.not_le.mp fun q => ok.2 (Or.inr q)
  have h0 : ¬ i < 0 := fun q => ok.2 (Or.inl q)
  have ha : (cs G b0 S)[k - 1]? = some (b0 + k, .inl (G.2 t, ln k, .inr (.inr (.inr (.inr (fun j => ro b0 (sR S k j))))))) := by rw [hM.at ok.1, ce_ref ok.1.2.2 ht]
  have hv : (cs G b0 S)[x - 1]? = some (b0 + x, .inr (ci, fl b0 S x ci)) := by rw [hM.at okx, ce_obj okx.2.2 k3]
  have hD := cs_D G b0 S
  obtain ⟨r', hr', cellV, c1, c2, c3, -⟩ := g4 (x - 1) _ hv
  have hcls := (g1.1 ci q hq).2
  obtain ⟨kA, comp, d1, d2, d3, -⟩ := (g1.2 t0 _ hty).2
  have hcomp : comp = G.1.1 ci := Option.some.inj (d3.symm.trans hcls.1)
  subst hcomp
  obtain ⟨kC, hkC, -⟩ := hcls.2
  refine W.aast hC.1 hC.2.1 (g4 (k - 1) _ ha) (fun q h => by cases h) (fun h => by cases h) d1 d2 rfl hkC ⟨h0, by show _ < (arrV _ _ _).slots.size; rw [arrV_size]; exact hlt⟩ c1 (fun q h => by rw [c3] at h; cases h) (by rw [c2]; exact hkC) (by rw [c2]; exact va_assign hcls) rfl rfl hdg fun H1 x1 x2 x3 => ?_
  have hx0 : x ≠ 0 := fun z => by have := okx.1; omega
  refine kk _ H1 _ rfl (hM.upd (S' := pR S k i.toNatClampNeg x) (e := .inl (G.2 t, ln k, .inr (.inr (.inr (.inr (va_up (fun j => ro b0 (sR S k j)) i.toNatClampNeg (some (b0 + x)))))))) ok.1.1 ok.1.2.1 rfl ?_ (fun a h => pR_o h) (g4.set hD ha ?_ x3) x2 (g7.put x2 x3 (hD.2 (k - 1) _ ha)))
  · rw [ce_ref ok.1.2.2 ht]
    refine congrArg (fun f => Sum.inl (G.2 t, ln k, Sum.inr (Sum.inr (Sum.inr (Sum.inr f))))) (funext fun j => ?_)
    by_cases hj : j = i.toNatClampNeg
    · subst hj
      rw [up_s, sR_s]
      unfold ro
      rw [if_neg hx0]
    · rw [up_n hj, sR_n hj]
  · show H1[b0 + k]? = some (vp_cell _ _)
    rw [x1, vp_cell_q, vp_cell_q, arrV_store]
    congr 2
    funext j
    by_cases hj : j = i.toNatClampNeg
    · subst hj
      simp [updV, va_up, va_rf]
    · simp [updV, va_up, hj]
theorem mm_obj (hC : CallFix p m c cc nL s args lw_g own) (hlv : ls.size = nL) {idx a : Nat} (w1 : Cond.methodLink own idx Lib.objectInit ∈ lw_g) (w2 : Cond.instanceMethod Lib.objectInit ∈ lw_g) (w3 : Cond.code Lib.objectInit ⟨#[0xb1]⟩ 1 none ∈ lw_g) (hdg : decode cc pc = .ok (.invokespecial idx, 3)) (hframes : 1 ≤ R.frames) (hlocals : (rest.map fun v => v.category).sum + 12 ≤ R.locals)
    (kk : W p l e R s m args below meth c H locs cells slots Q (F0 m (pc + 3) ls rest)) : W p l e R s m args below meth c H locs cells slots Q (F0 m pc ls (.ref a :: rest)) :=
  W.objInit hC.1 hC.2.1 hC.2.2.2.1 (hC.2.2.2.2 _ w1) (hC.2.2.2.2 _ w2) (hC.2.2.2.2 _ w3) rfl (by rw [hC.2.2.1]; exact hlv) rfl hdg hframes (by show 2 * 0 + _ + 12 ≤ _; omega) kk
end MMN
