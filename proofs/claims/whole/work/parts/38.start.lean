theorem mmN_in : ∀ q ∈ mmN, Cond.methodLinkNest q.1 q.2.1 q.2.2.1 q.2.2.2 ∈ lw_tbl := by
  intro q hq
  simp only [mmN, List.mem_cons, List.not_mem_nil, or_false] at hq
  rcases hq with rfl | rfl | rfl | rfl | rfl | rfl | rfl | rfl | rfl | rfl | rfl | rfl | rfl
  · exact tw_25
  · exact tw_84
  · exact tw_141
  · exact tw_164
  · exact tw_226
  · exact tw_250
  · exact tw_282
  · exact tw_439
  · exact tw_456
  · exact tw_501
  · exact tw_613
  · exact tw_658
  · exact tw_735
def S00 : St := (0, fun _ _ => 0, fun _ _ => 0, fun _ _ => 0)
theorem arr_cls {s : State} {args : Array Value} {ty : FieldType} (hra : ∀ c : ClassId, s.vm.findClass ("[" ++ ty.toString) = some c → va_RA s c ty) (h : (Cond.arrayClass ty).before args s = true) : ∃ c : ClassId, ArrOfT s c ty ∧ va_RA s c ty := by
  obtain ⟨c, k, comp, h1, h2, h3⟩ := Cond.arrayClass_spec h
  exact ⟨c, fun n z => ⟨fun k h => (by cases h), k, h2, comp, h3⟩, hra c h1⟩
theorem obj_cls {s : State} {C : String} (h : va_AO C s) : ∃ c : ClassId, ArrOfT s c (.object C) ∧ va_RA s c (.object C) := by
  obtain ⟨comp, c, k, h1, h2, h3, h4, h5⟩ := Cond.arrayOver_spec h
  exact ⟨c, fun n z => ⟨fun k h => (by cases h), k, h3, comp, h4⟩, k, comp, h3, h4, h1, h5⟩
theorem stat_row {args : Array Value} {s : State} {n : String} {b0 : Nat} (v0 v1 v2 v3 : Int32) (hsz : s.heap.size = b0 + 1) (hl : (Cond.laysStatic "LeastRue" n "[I").before args s = true) (hi : (Cond.initialized "LeastRue").before args s = true) (ha : (Cond.arrayOf (.static "LeastRue" n "[I") .int).before args s = true) (hn : (Cond.eq (.length (.static "LeastRue" n "[I")) (.int 4)).before args s = true)
    (h0 : (Cond.eq (.elem (.static "LeastRue" n "[I") (.int 0)) (.int v0)).before args s = true) (h1 : (Cond.eq (.elem (.static "LeastRue" n "[I") (.int 1)) (.int v1)).before args s = true) (h2 : (Cond.eq (.elem (.static "LeastRue" n "[I") (.int 2)) (.int v2)).before args s = true) (h3 : (Cond.eq (.elem (.static "LeastRue" n "[I") (.int 3)) (.int v3)).before args s = true) :
    ∃ t : Nat, va_Z "LeastRue" n "[I" (.ref t) (AB b0) s s.heap ∧ va_T .int t 4 (fun j => .int ([v0, v1, v2, v3].getD j 0)) (AB b0) s s.heap := by
  have hA : ∀ a : Nat, a < s.heap.size → ¬ AB b0 a := fun a h z => by have z : b0 < a := z; omega
  obtain ⟨t, ht, hT⟩ := va_Tof (args := args) (s := s) (tm := .static "LeastRue" n "[I") (ty := .int) (N := 4) (f := fun j => .int ([v0, v1, v2, v3].getD j 0)) (A := AB b0) (by decide) ha (va_eqt hn) (fun j hj => by
    match j, hj with
    | 0, _ => exact va_eqt h0
    | 1, _ => exact va_eqt h1
    | 2, _ => exact va_eqt h2
    | 3, _ => exact va_eqt h3
    | k + 4, h => exact absurd h (by omega)) hA
  exact ⟨t, va_Zof hl hi ht hA, hT⟩
set_option maxHeartbeats 4000000 in
set_option maxRecDepth 100000 in
theorem whole_start_open (pure : ∀ (L : Nat) (xs : Nat → Int32), L ≤ 2048 → wL_law L xs S00) {p : Program} {e : Env} {s : State} {m : MethodId} {below : List Frame} {meth : Method} {c : Code} (l : Launch) {b L : Nat} {xs : Nat → Int32} (hL : L ≤ 2048) (C0 : lw_At p s m meth c b L xs) : W p l e room_1 s m #[Value.ref b] below meth c s.heap [] 0 0 (lw_Z below #[Value.ref b] s) (entryFrame m ([Value.ref b] : List Value).toArray 4) := by
  obtain ⟨hx, hb, hr, hml, hown, hts, hX, hbl, hlk, hgv⟩ := id C0
  have hg := flat_of_before _ hgv
  have hC : CallFix p m c cL_law 4 s #[Value.ref b] lw_g R_law := ⟨hx, hb, hml, hown, fun w hw => hts w (List.mem_filter.mp hw).1⟩
  have hs : s.heap.size = (s.heap.size - 1) + 1 := by omega
  generalize s.heap.size - 1 = b0 at hs
  have hbA : ¬ AB b0 b := fun z => by have z : b0 < b := z; omega
  have hT := hC.2.2.2.2
  obtain ⟨c0, i0, k0⟩ := u_known (C := RX0) (T := TX0) (N := 10) hT inX0 (hT _ tw_24)
  obtain ⟨c1, i1, k1⟩ := u_known (C := RX1) (T := TX1) (N := 14) hT inX1 (hT _ tw_157)
  obtain ⟨c2, i2, k2⟩ := u_known (C := RX2) (T := TX2) (N := 5) hT inX2 (hT _ tw_220)
  obtain ⟨c3, i3, k3⟩ := u_known (C := RX3) (T := TX3) (N := 3) hT inX3 (hT _ tw_83)
  obtain ⟨c4, i4, k4⟩ := u_known (C := RX4) (T := TX4) (N := 3) hT inX4 (hT _ tw_140)
  obtain ⟨c5, i5, k5⟩ := u_known (C := RX5) (T := TX5) (N := 2) hT inX5 (hT _ tw_163)
  obtain ⟨c6, i6, k6⟩ := u_known (C := RX6) (T := TX6) (N := 6) hT inX6 (hT _ tw_276)
  obtain ⟨c7, i7, k7⟩ := u_known (C := RX7) (T := TX7) (N := 7) hT inX7 (hT _ tw_244)
  obtain ⟨c8, i8, k8⟩ := u_known (C := RX8) (T := TX8) (N := 10) hT inX8 (hT _ tw_16)
  obtain ⟨c9, i9, k9⟩ := u_known (C := RX9) (T := TX9) (N := 23) hT inX9 (hT _ tw_756)
  have aS : va_AO "LeastRue$Sheet" s := va_AO.of (hts _ tw_139)
  have aB : va_AO "LeastRue$Bench" s := va_AO.of (hts _ tw_155)
  have aI : AOI s := AOI.of (hts _ tw_30)
  obtain ⟨a10, r10⟩ := arr_cls (ty := .int) (fun c h => h) (hT _ tw_81)
  obtain ⟨a11, r11⟩ := arr_cls (ty := .boolean) (fun c h => h) (hT _ tw_175)
  obtain ⟨a12, r12⟩ := obj_cls aB
  obtain ⟨a13, r13⟩ := obj_cls aS
  obtain ⟨a14, r14⟩ := aI.cls
  obtain ⟨G, hK⟩ : ∃ G : Gt, va_K G.1 vwCl (tyG G) s := by
    refine ⟨((fun k => if k = 0 then c0 else if k = 1 then c1 else if k = 2 then c2 else if k = 3 then c3 else if k = 4 then c4 else if k = 5 then c5 else if k = 6 then c6 else if k = 7 then c7 else if k = 8 then c8 else c9, fun k => if k = 0 then i0 else if k = 1 then i1 else if k = 2 then i2 else if k = 3 then i3 else if k = 4 then i4 else if k = 5 then i5 else if k = 6 then i6 else if k = 7 then i7 else if k = 8 then i8 else i9), fun k => if k = 10 then a10 else if k = 11 then a11 else if k = 12 then a12 else if k = 13 then a13 else a14), ?_, ?_⟩
    · intro k q hq
      match k, hq with
      | 0, hq => cases hq; exact k0
      | 1, hq => cases hq; exact k1
      | 2, hq => cases hq; exact k2
      | 3, hq => cases hq; exact k3
      | 4, hq => cases hq; exact k4
      | 5, hq => cases hq; exact k5
      | 6, hq => cases hq; exact k6
      | 7, hq => cases hq; exact k7
      | 8, hq => cases hq; exact k8
      | 9, hq => cases hq; exact k9
      | k + 10, hq => simp [vwCl] at hq
    · intro k q hq
      match k, hq with
      | 0, hq => cases hq; exact r10
      | 1, hq => cases hq; exact r11
      | 2, hq => cases hq; exact r12
      | 3, hq => cases hq; exact r13
      | 4, hq => cases hq; exact r14
      | k + 5, hq => simp [tyG] at hq
  have hN : NS s := by
    refine ⟨fun q hq => va_Nw.of rfl (A := #[Value.ref b]) ?_, aS, aB, aI⟩
    exact hts _ (mmN_in q hq)
  obtain ⟨t1, z1, z2⟩ := stat_row (n := "LEAST_K") 0 1 1 0 hs (hts _ tw_383) (hT _ tw_1) (hg _ (by decide +kernel)) (hg _ (by decide +kernel)) (hg _ (by decide +kernel)) (hg _ (by decide +kernel)) (hg _ (by decide +kernel)) (hg _ (by decide +kernel))
  obtain ⟨t2, z3, z4⟩ := stat_row (n := "MOST_K") 12 5 6 6 hs (hts _ tw_385) (hT _ tw_1) (hg _ (by decide +kernel)) (hg _ (by decide +kernel)) (hg _ (by decide +kernel)) (hg _ (by decide +kernel)) (hg _ (by decide +kernel)) (hg _ (by decide +kernel))
  have hM : MM G b0 s S00 s.heap [] := ⟨hK, hN, ⟨t1, t2, z1, z2, z3, z4⟩, fun k q h => by simp [cs, S00] at h, by show s.heap.size = b0 + 1 + 0; omega, by omega, va_S.rf⟩
  refine en_lv [.ref b] (Nat.le_of_ble_eq_true rfl) rfl (fun ls hl => ?_)
  exact qL_law hC hr hlk hX hbl hbA hs S00 s.heap [] ls (pure L xs hL) hM hl
