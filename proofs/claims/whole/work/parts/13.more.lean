def okCp (S : St) (a : Nat) (sp : Int32) (b : Nat) (dp n : Int32) : Prop := okO S 10 a ∧ okO S 10 b ∧ ¬ sp < 0 ∧ ¬ dp < 0 ∧ ¬ n < 0 ∧ sp.toNatClampNeg + n.toNatClampNeg ≤ ln a ∧ dp.toNatClampNeg + n.toNatClampNeg ≤ ln b
def pCp (S : St) (a : Nat) (sp : Int32) (b : Nat) (dp n : Int32) : St := pA S b (va_cpy (sI S a) (sI S b) sp.toNatClampNeg dp.toNatClampNeg n.toNatClampNeg)
theorem i32_nn (z : Int32) (hz : ¬ z < 0) : z.toInt = (z.toNatClampNeg : Int) := by
  have h0 : (0 : Int) ≤ z.toInt := by simpa using Int32.le_iff_toInt_le.mp (Int32.not_lt.mp hz)
  show z.toInt = ((z.toInt.toNat : Nat) : Int)
  omega
section MMX
variable {p : Program} {l : Launch} {e : Env} {R : Room} {s : State} {m : MethodId} {args : Array Value} {below : List Frame} {meth : Method} {c : Code} {H : Heap} {locs : List Loc} {cells slots : Nat} {Q : State → Prop}
variable {cc : ByteArray} {pc nL : Nat} {ls : Array Slot} {rest : List Value} {own : String} {G : Gt} {b0 : Nat} {S : St}
theorem sI_pA {k : Nat} {f : Nat → Int32} : sI (pA S k f) k = f := by
  show va_up S.2.1 k f k = _
  rw [up_s]
theorem mm_cp (hC : CallFix p m c cc nL s args lw_g own) (hM : MM G b0 s S H locs) (hlv : ls.size = nL) {a b idx : Nat} {sp dp n : Int32} (ok : okCp S a sp b dp n) (w1 : Cond.methodLink own idx arraycopyName ∈ lw_g) (w2 : Cond.native arraycopyName ∈ lw_g) (w3 : Cond.static arraycopyName ∈ lw_g) (w4 : Cond.initialized "java/lang/System" ∈ lw_g)
    (hframes : 1 ≤ R.frames) (hlocals : (rest.map fun v => v.category).sum + (nativeFrameWords "java/lang/System" "arraycopy" 5 + 11) ≤ R.locals) (hdg : decode cc pc = .ok (.invokestatic idx, 3))
    (kk : ∀ (S1 : St) (H1 : Heap) (locs1 : List Loc), S1 = pCp S a sp b dp n → MM G b0 s S1 H1 locs1 → W p l e R s m args below meth c H1 locs1 cells slots Q (F0 m (pc + 3) ls rest)) : W p l e R s m args below meth c H locs cells slots Q (F0 m pc ls (.int n :: .int dp :: .ref (b0 + b) :: .int sp :: .ref (b0 + a) :: rest)) := by
  obtain ⟨oa, ob, h1, h2, h3, h4, h5⟩ := ok
  obtain ⟨g1, g2, g3, g4, g5, g6, g7⟩ := id hM
  have hts := hC.2.2.2.2
  have ha : (cs G b0 S)[a - 1]? = some (b0 + a, .inl (G.2 10, ln a, .inl (sI S a))) := by rw [hM.at oa, ce_int oa.2.2]
  have hb : (cs G b0 S)[b - 1]? = some (b0 + b, .inl (G.2 10, ln b, .inl (sI S b))) := by rw [hM.at ob, ce_int ob.2.2]
  have hD := cs_D G b0 S
  intro T hT X
  have c0 : H[b0 + a]? = some (vp_cell (G.2 10) (ln a, .inl (sI S a))) := g4 (a - 1) _ ha
  have c1 : H[b0 + b]? = some (vp_cell (G.2 10) (ln b, .inl (sI S b))) := g4 (b - 1) _ hb
  obtain ⟨-, k0, hk0, cm0, hkk0⟩ := (g1.2 0 _ rfl).1 (ln a) (fun j => .int (sI S a j))
  obtain ⟨-, k1, hk1, cm1, hkk1⟩ := (g1.2 0 _ rfl).1 (ln b) (fun j => .int (sI S b j))
  obtain ⟨vm', X', step⟩ := X.arraycopy hC.1 hC.2.2.2.1 (hts _ w1) (hts _ w2) (hts _ w3) (hts _ w4) (src := b0 + a) (dst := b0 + b) (cs := vp_cell (G.2 10) (ln a, .inl (sI S a))) (cd := vp_cell (G.2 10) (ln b, .inl (sI S b))) (srcPos := sp) (destPos := dp) (n := n) (by rw [hT]; exact c0) (by rw [hT]; exact c1)
    (fun _ h => by cases h) (fun _ h => by cases h) (fun h => by cases h) (fun h => by cases h) hk0 hk1 hkk0 hkk1 (by simp [refKind]) h1 h2 h3
    (by rw [i32_nn sp h1, i32_nn n h3]; show ¬ _ > ((arrV (G.2 10) (ln a) (fun j => .int (sI S a j))).slots.size : Int); rw [arrV_size]; omega)
    (by rw [i32_nn dp h2, i32_nn n h3]; show ¬ _ > ((arrV (G.2 10) (ln b) (fun j => .int (sI S b j))).slots.size : Int); rw [arrV_size]; omega)
    (fun vm₁ _ i hi => by
      have e : (vp_cell (G.2 10) (ln a, .inl (sI S a))).slots.getD (sp.toNatClampNeg + i) .null = .int (sI S a (sp.toNatClampNeg + i)) := by
        show (arrV (G.2 10) (ln a) (fun j => .int (sI S a j))).slots.getD _ _ = _
        rw [Array.getD_eq_getD_getElem?, arrV_read _ _ (by omega)]
        rfl
      refine ⟨?_, ?_⟩
      · rw [e]
        rfl
      · rw [e]
        exact trivial)
    (g := F0 m pc ls (.int n :: .int dp :: .ref (b0 + b) :: .int sp :: .ref (b0 + a) :: rest)) rfl (by rw [hC.2.2.1]; exact hlv) (rest := rest) rfl (by rw [hC.2.1]; exact hdg) hframes (by show 2 * 0 + _ + _ ≤ _; omega)
  have e1 : copied (vp_cell (G.2 10) (ln a, .inl (sI S a))) (vp_cell (G.2 10) (ln b, .inl (sI S b))) sp dp n = vp_cell (G.2 10) (ln b, .inl (va_cpy (sI S a) (sI S b) sp.toNatClampNeg dp.toNatClampNeg n.toNatClampNeg)) := va_copied (fun z => .int z) (G.2 10) (G.2 10) (sI S a) (sI S b) h4
  rw [e1] at X' step
  have hl : b0 + b < H.size := (Array.getElem?_eq_some_iff.mp c1).1
  have hheap : ((T.setVm vm').setCell (b0 + b) (vp_cell (G.2 10) (ln b, .inl (va_cpy (sI S a) (sI S b) sp.toNatClampNeg dp.toNatClampNeg n.toNatClampNeg)))).heap = H.setIfInBounds (b0 + b) (vp_cell (G.2 10) (ln b, .inl (va_cpy (sI S a) (sI S b) sp.toNatClampNeg dp.toNatClampNeg n.toNatClampNeg))) := by rw [← hT]; rfl
  have oq : ∀ q : Nat, q ≠ b0 + b → (H.setIfInBounds (b0 + b) (vp_cell (G.2 10) (ln b, .inl (va_cpy (sI S a) (sI S b) sp.toNatClampNeg dp.toNatClampNeg n.toNatClampNeg))))[q]? = H[q]? := fun q hq => by simp [Array.getElem?_setIfInBounds, Ne.symm hq]
  obtain ⟨t, a1, b1⟩ := kk _ _ _ rfl (hM.upd (S' := pCp S a sp b dp n) (e := .inl (G.2 10, ln b, .inl (va_cpy (sI S a) (sI S b) sp.toNatClampNeg dp.toNatClampNeg n.toNatClampNeg))) ob.1 ob.2.1 rfl (by rw [ce_int ob.2.2]; unfold pCp; rw [sI_pA]) (fun j hj => pA_o hj) (g4.set hD hb (show (H.setIfInBounds (b0 + b) _)[b0 + b]? = some _ by simp [Array.getElem?_setIfInBounds, hl]) oq) (by simp) ⟨by simp; exact g7.1, fun q z1 z2 => by
      rw [oq q (fun e => z2 (by rw [e]; exact hD.2 (b - 1) _ hb))]
      exact g7.2.1 q z1 z2, fun q hq => by
      rcases List.mem_append.mp hq with h | h
      · exact g7.2.2 q h
      · obtain ⟨z, -, hz⟩ := List.mem_map.mp h
        rw [← hz]
        exact hD.2 (b - 1) _ hb⟩) _ hheap X'
  exact ⟨t, step t a1, b1⟩
theorem mm_sw (hexec : p.tables.exec = Jvm.exec) (hb : c.code = cc) {dflt lo hi : Int} {offs : Array Int} {len : Nat} {x : Int32} (hdg : decode cc pc = .ok (.tableswitch dflt lo hi offs, len)) (hsz : hi = lo + offs.size - 1)
    (kd : x.toInt < lo ∨ hi < x.toInt → ∃ tgt : Nat, (pc : Int) + dflt = (tgt : Int) ∧ W p l e R s m args below meth c H locs cells slots Q (F0 m tgt ls rest))
    (kc : ∀ i : Nat, i < offs.size → x.toInt = lo + (i : Int) → ∃ tgt : Nat, offs[i]?.map (fun o => (pc : Int) + o) = some (tgt : Int) ∧ W p l e R s m args below meth c H locs cells slots Q (F0 m tgt ls rest)) : W p l e R s m args below meth c H locs cells slots Q (F0 m pc ls (.int x :: rest)) := by
  by_cases h : x.toInt < lo ∨ hi < x.toInt
  · obtain ⟨tgt, h1, h2⟩ := kd h
    exact lv_tableOut hexec hb hdg h h1 h2
  · have h1 : ¬ x.toInt < lo := fun z => h (Or.inl z)
    have h2 : ¬ hi < x.toInt := fun z => h (Or.inr z)
    obtain ⟨tgt, h3, h4⟩ := kc (x.toInt - lo).toNat (by omega) (by omega)
    cases ho : offs[(x.toInt - lo).toNat]? with
    | none => rw [ho] at h3; cases h3
    | some off =>
      rw [ho] at h3
      exact lv_tableIn hexec hb hdg h1 h2 ho (Option.some.inj h3) h4
end MMX
