/-- new int[n][k]: the outer row, then its n inner ones -/
def pMN (S : St) (n : Nat) : St := (S.1 + 1 + n, fun k => if S.1 < k then fun _ => 0 else S.2.1 k, fun k => if k = S.1 + 1 then (fun j => if j < n then S.1 + 2 + j else 0) else if S.1 < k then fun _ => 0 else S.2.2.1 k, fun k => if S.1 < k then fun _ => 0 else S.2.2.2 k)
def okMN (S : St) (n k : Nat) : Prop := kc (S.1 + 1) = 14 ∧ ln (S.1 + 1) = n ∧ ∀ i, i < n → kc (S.1 + 2 + i) = 10 ∧ ln (S.1 + 2 + i) = k
theorem mn_outer (c : ClassId) (N h0 : Nat) : ∀ i : Nat, Jvm.Free.Multi.outerC c N h0 i = arrV c N (fun j => va_rf (if j < i then some (h0 + 1 + j) else none))
  | 0 => by
    show ({ cls := c, slots := Array.replicate N .null, vm := .none } : Cell) = _
    rw [arrV_new]
    exact congrArg (arrV c N) (funext fun j => by simp [va_rf])
  | i + 1 => by
    show (Jvm.Free.Multi.outerC c N h0 i).setSlot i (.ref (h0 + 1 + i)) = _
    rw [mn_outer c N h0 i, arrV_store]
    refine congrArg (arrV c N) (funext fun j => ?_)
    by_cases e : j = i
    · subst e
      simp [updV, va_rf]
    · by_cases h : j < i
      · simp [updV, e, h, Nat.lt_succ_of_lt h]
      · simp [updV, e, h, show ¬ j < i + 1 by omega]
section MMM
variable {p : Program} {l : Launch} {e : Env} {R : Room} {s : State} {m : MethodId} {args : Array Value} {below : List Frame} {meth : Method} {c : Code} {H : Heap} {locs : List Loc} {cells slots : Nat} {Q : State → Prop}
variable {cc : ByteArray} {pc nL : Nat} {ls : Array Slot} {rest : List Value} {own : String} {G : Gt} {b0 : Nat} {S : St}
theorem mm_mna (hC : CallFix p m c cc nL s args lw_g own) (hM : MM G b0 s S H locs) {idx : Nat} {n k : Int32} {N K : Nat} (ok : okMN S N K) (w1 : Cond.classLink own idx "[[I" ∈ lw_g) (hn : ¬ n < 0) (hk : ¬ k < 0) (hN : n.toNatClampNeg = N) (hK : k.toNatClampNeg = K) (hb1 : N * 4 ≤ 536870912) (hb2 : K * 4 ≤ 536870912) (hcells : cells + (1 + N) ≤ R.cells) (hslots : slots + (N + N * K) ≤ R.slots) (hdg : decode cc pc = .ok (.multianewarray idx 2, 4))
    (kk : ∀ (S1 : St) (H1 : Heap), S1 = pMN S N → MM G b0 s S1 H1 locs → W p l e R s m args below meth c H1 locs (cells + 1 + N) (slots + N + N * K) Q (F0 m (pc + 4) ls (.ref (b0 + (S.1 + 1)) :: rest))) : W p l e R s m args below meth c H locs cells slots Q (F0 m pc ls (.int k :: .int n :: rest)) := by
  subst hN
  subst hK
  have hs : H.size = b0 + (S.1 + 1) := by have := hM.2.2.2.2.1; omega
  intro T hT Xs
  obtain ⟨vm₁, cA, comp, -, fA, fC, hO, -, X', step⟩ := Xs.multianewarray2F (ty := .int) hC.1 hC.2.2.2.1 (hC.2.2.2.2 _ w1) (AOI.any hM.2.1.2.2.2) (hC.2.2.2.2 _ tw_81) (g := F0 m pc ls (.int k :: .int n :: rest)) rfl (by rw [hC.2.1]; exact hdg) rfl hn hk hb1 hb2 (by omega) rfl rfl hcells hslots
  have ec : comp = G.2 10 := Option.some.inj (fC.symm.trans (show s.vm.findClass ("[" ++ (FieldType.int).toString) = some (G.2 10) from (hM.1.2 0 _ rfl).2))
  have ea : cA = G.2 14 := Option.some.inj (fA.symm.trans (show s.vm.findClass ("[" ++ (FieldType.array .int).toString) = some (G.2 14) from (hM.1.2 4 _ rfl).2))
  subst ec
  subst ea
  generalize hF : Jvm.Free.Multi.fill (T.setVm vm₁) (G.2 14) (G.2 10) n.toNatClampNeg k.toNatClampNeg (defaultValue .int) n.toNatClampNeg = F at X' step
  have hTh : (T.setVm vm₁).heap = H := hT
  obtain ⟨f1, f2, -, -⟩ := Jvm.Free.Multi.fill_facts (T.setVm vm₁) (G.2 14) (G.2 10) n.toNatClampNeg k.toNatClampNeg (defaultValue .int) n.toNatClampNeg
  rw [hF, hTh] at f1 f2
  have hold : ∀ x : Nat, x < H.size → F.heap[x]? = H[x]? := fun x hx => by
    have := Jvm.Free.Multi.fill_old (T.setVm vm₁) (G.2 14) (G.2 10) n.toNatClampNeg k.toNatClampNeg (defaultValue .int) (a := x) (by rw [hTh]; exact hx) n.toNatClampNeg
    rw [hF, hTh] at this
    exact this
  have hrow : ∀ j : Nat, j < n.toNatClampNeg → F.heap[H.size + 1 + j]? = some (vp_cell (G.2 10) (k.toNatClampNeg, .inl (fun _ => 0))) := fun j hj => by
    have := Jvm.Free.Multi.fill_inner (T.setVm vm₁) (G.2 14) (G.2 10) n.toNatClampNeg k.toNatClampNeg (defaultValue .int) n.toNatClampNeg j hj
    rw [hF, hTh] at this
    rw [this, vp_cell_i]
    show some ({ cls := G.2 10, slots := Array.replicate k.toNatClampNeg (defaultValue .int), vm := .none } : Cell) = _
    rw [arrV_new]
    rfl
  rw [mn_outer] at f2
  have hMM : MM G b0 s (pMN S n.toNatClampNeg) F.heap locs := by
    obtain ⟨g1, g2, g3, g4, g5, g6, g7⟩ := id hM
    refine ⟨g1, g2, g3, fun i q hq => ?_, ?_, g6, ⟨by have := g7.1; omega, fun x h1 h2 => (hold x (Nat.lt_of_lt_of_le h1 g7.1)).trans (g7.2.1 x h1 h2), g7.2.2⟩⟩
    · obtain ⟨hi, rfl⟩ := cs_at hq
      have hi : i < S.1 + 1 + n.toNatClampNeg := hi
      by_cases h1 : i < S.1
      · have hc := g4 i (b0 + (i + 1), ce G b0 S (i + 1)) (by have := cs_get (G := G) (b0 := b0) (S := S) (k := i + 1) (by omega) (by omega); rw [Nat.add_sub_cancel] at this; exact this)
        have he : ce G b0 (pMN S n.toNatClampNeg) (i + 1) = ce G b0 S (i + 1) := ce_o (by show (if _ then _ else _) = _; rw [if_neg (by omega)]) (by show (if _ then _ else _) = _; rw [if_neg (by omega), if_neg (by omega)]) (by show (if _ then _ else _) = _; rw [if_neg (by omega)])
        rw [he]
        exact hc.kept (hold _ hc.lt)
      · by_cases h2 : i = S.1
        · subst h2
          rw [ce_ref ok.1 (by decide), ok.2.1]
          show F.heap[b0 + (S.1 + 1)]? = some (vp_cell _ _)
          rw [← hs, f2, vp_cell_q]
          refine congrArg (fun f => some (arrV (G.2 14) n.toNatClampNeg f)) (funext fun j => ?_)
          have : sR (pMN S n.toNatClampNeg) (S.1 + 1) j = if j < n.toNatClampNeg then S.1 + 2 + j else 0 := by show (if _ then _ else _ : Nat → Nat) j = _; rw [if_pos rfl]
          show va_rf _ = va_rf (ro b0 _)
          rw [this]
          unfold ro
          by_cases hj : j < n.toNatClampNeg
          · rw [if_pos hj, if_pos hj, if_neg (by omega), hs]
            congr 2
            omega
          · rw [if_neg hj, if_neg hj, if_pos rfl]
        · obtain ⟨k1, k2⟩ := ok.2.2 (i - S.1 - 1) (by omega)
          rw [show S.1 + 2 + (i - S.1 - 1) = i + 1 by omega] at k1 k2
          rw [ce_int k1, k2]
          have hz : sI (pMN S n.toNatClampNeg) (i + 1) = fun _ => 0 := by show (if _ then _ else _) = _; rw [if_pos (by omega)]
          rw [hz]
          have := hrow (i - S.1 - 1) (by omega)
          rw [show H.size + 1 + (i - S.1 - 1) = b0 + (i + 1) by omega] at this
          exact this
    · show F.heap.size = b0 + 1 + (S.1 + 1 + n.toNatClampNeg)
      omega
  obtain ⟨t, a1, b1⟩ := kk _ F.heap rfl hMM F rfl X'
  refine ⟨t, step t ?_, b1⟩
  rw [show T.heap.size = b0 + (S.1 + 1) by rw [hT]; exact hs]
  exact a1
end MMM
