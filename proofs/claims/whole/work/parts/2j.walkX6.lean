set_option maxHeartbeats 4000000 in
set_option maxRecDepth 100000 in
theorem qX6_leastLater_22 {p : Program} {l : Launch} {e : Env} {s : State} {m : MethodId} {args : Array Value} {below : List Frame} {meth : Method} {c : Code} {G : Gt} {b0 : Nat} (hC : CallFix p m c cX6_leastLater 5 s args lw_g RX6) (hr : meth.sig.returnType = (some .int)) (hlk : meth.locks = false) {K : Int32 → St → Prop} : ∀ (n : Nat) (x0 : Nat) (x2 : Int32) (x3 : Int32) (x4 : Int32) (S : St) (H : Heap) (locs : List Loc) (ls : Array Slot), wX6_leastLater_22 K n x0 x2 x3 x4 S → MM G b0 s S H locs → lv_has ls 5 [(0, .ref (b0 + x0)), (2, .int x2), (3, .int x3), (4, .int x4)] → W p l e rmX6_leastLater s m args below meth c H locs 0 0 (MQ below (va_Qi K (ME G b0) (AB b0)) args s 0 0 (AB b0)) (F0 m 22 ls []) := by
  intro n
  induction n with
  | zero =>
    intro x0 x2 x3 x4 S H locs ls h
    exact False.elim h
  | succ n ih =>
    intro x0 x2 x3 x4 S H locs ls h hM hl
    rw [wX6_leastLater_22] at h
    refine lv_iload hC.1 hC.2.1 dX6_leastLater_22 (lv_at hl 3 rfl) ?_
    refine lv_aload_n hC.1 hC.2.1 dX6_leastLater_24 rfl (lv_at hl 0 rfl) ?_
    obtain ⟨ok_1, h⟩ := h
    refine mm_gr hC hM (ci := 6) (j := 1) ok_1 rfl (by decide) (by decide) tw_284 rfl dX6_leastLater_25 ?_
    obtain ⟨ok_2, h⟩ := h
    refine mm_gi hC hM (ci := 3) (j := 0) ok_2 rfl (by decide) (by decide) tw_91 rfl dX6_leastLater_28 ?_
    refine lv_icmp_ge (tgt := 66) hC.1 hC.2.1 dX6_leastLater_31 (by decide) (fun c_3 => ?_) (fun c_3 => ?_)
    · have h := h.1 c_3
      refine lv_iload_n hC.1 hC.2.1 dX6_leastLater_66 rfl (lv_at hl 2 rfl) ?_
      exact mm_iret hC hr hlk hM h dX6_leastLater_67
    · have h := h.2 c_3
      refine lv_iload_n hC.1 hC.2.1 dX6_leastLater_34 rfl (lv_at hl 2 rfl) ?_
      refine lv_aload_n hC.1 hC.2.1 dX6_leastLater_35 rfl (lv_at hl 0 rfl) ?_
      obtain ⟨ok_4, h⟩ := h
      refine mm_gr hC hM (ci := 6) (j := 2) ⟨ok_1.1, ok_4⟩ rfl (by decide) (by decide) tw_285 rfl dX6_leastLater_36 ?_
      refine lv_aload_n hC.1 hC.2.1 dX6_leastLater_39 rfl (lv_at hl 0 rfl) ?_
      refine mm_gr hC hM (ci := 6) (j := 1) ok_1 rfl (by decide) (by decide) tw_284 rfl dX6_leastLater_40 ?_
      obtain ⟨ok_5, h⟩ := h
      refine mm_gr hC hM (ci := 3) (j := 1) ⟨ok_2, ok_5⟩ rfl (by decide) (by decide) tw_97 rfl dX6_leastLater_43 ?_
      refine lv_iload hC.1 hC.2.1 dX6_leastLater_46 (lv_at hl 3 rfl) ?_
      obtain ⟨ok_6, h⟩ := h
      refine mm_il hC hM ok_6 dX6_leastLater_48 ?_
      refine lv_iload_n hC.1 hC.2.1 dX6_leastLater_49 rfl (lv_at hl 1 rfl) ?_
      refine lv_iconst (v := (-1)) hC.1 hC.2.1 dX6_leastLater_50 (by decide) ?_
      refine lv_ixor hC.1 hC.2.1 dX6_leastLater_51 ?_
      refine lv_iand hC.1 hC.2.1 dX6_leastLater_52 ?_
      obtain ⟨ok_9, h⟩ := h
      refine mm_ri hM (mm_V (As := [.int ((sI S (sR S (sR S x0 1) 1) (x4 : Int32).toNatClampNeg) &&& (x2 ^^^ (-1)))]) (rest := [.int x3]) hC hM hl.1 (mX5_total l G b0 S (sR S x0 2) ((sI S (sR S (sR S x0 1) 1) (x4 : Int32).toNatClampNeg) &&& (x2 ^^^ (-1))) _) h (ci := 5) ok_9 rfl rfl kX5_total tw_716 rfl (by decide) rfl (Nat.le_of_ble_eq_true rfl) dX6_leastLater_53 (by decide)) (fun r_8 S_7 H locs h hM => ?_)
      refine va_mmin hC.1 hC.2.1 (hC.2.2.1.trans hl.1.symm) hC.2.2.2.1 (hC.2.2.2.2 _ tw_717) (hC.2.2.2.2 _ tw_517) (hC.2.2.2.2 _ tw_13) (hC.2.2.2.2 _ tw_518) (by decide) (Nat.le_of_ble_eq_true rfl) (by decide) (by decide) dX6_leastLater_56 ?_
      refine lv_topi (fun x3_10 ex3_10 => ?_)
      have h := h x3_10 ex3_10
      refine lv_istore_n (lv' := [(3, .int x3_10), (0, .ref (b0 + x0)), (2, .int x2), (4, .int x4)]) hC.1 hC.2.1 dX6_leastLater_59 rfl hl (by decide) rfl (fun ls hl => ?_)
      obtain ⟨x4_11, ex4_11⟩ : ∃ y : Int32, y = x4 + 1 := ⟨_, rfl⟩
      have h := h x4_11 ex4_11
      refine lv_iinc (v := x4_11) (lv' := [(4, .int x4_11), (3, .int x3_10), (0, .ref (b0 + x0)), (2, .int x2)]) hC.1 hC.2.1 dX6_leastLater_60 hl (k := 3) rfl (by rw [ex4_11]; rfl) (by decide) rfl (fun ls hl => ?_)
      refine lv_goto (tgt := 22) hC.1 hC.2.1 dX6_leastLater_63 (by decide) ?_
      exact ih _ _ _ _ _ H locs ls h hM (lv_sub hl [2, 3, 1, 0] rfl)
set_option maxHeartbeats 4000000 in
set_option maxRecDepth 100000 in
theorem mX6_leastLater (l : Launch) (G : Gt) (b0 : Nat) (S : St) (o : Nat) (x1 : Int32) (x2 : Int32) (K : Int32 → St → Prop) : CI l G b0 S yX6_leastLater cX6_leastLater 5 (some .int) rmX6_leastLater [.ref (b0 + o), .int x1, .int x2] (wX6_leastLater S o x1 x2 K) K := by
  refine met_of (by decide) (Nat.le_of_ble_eq_true rfl) rfl ?_
  intro p e s m below meth c hC hr hlk hin h H locs ls hM hl
  unfold wX6_leastLater at h
  refine lv_aload_n hC.1 hC.2.1 dX6_leastLater_0 rfl (lv_at hl 0 rfl) ?_
  obtain ⟨ok_12, h⟩ := h
  refine mm_gr hC hM (ci := 6) (j := 2) ok_12 rfl (by decide) (by decide) tw_285 rfl dX6_leastLater_1 ?_
  refine lv_aload_n hC.1 hC.2.1 dX6_leastLater_4 rfl (lv_at hl 0 rfl) ?_
  obtain ⟨ok_13, h⟩ := h
  refine mm_gr hC hM (ci := 6) (j := 0) ⟨ok_12.1, ok_13⟩ rfl (by decide) (by decide) tw_283 rfl dX6_leastLater_5 ?_
  obtain ⟨ok_14, h⟩ := h
  refine mm_gr hC hM (ci := 0) (j := 9) ok_14 rfl (by decide) (by decide) tw_57 rfl dX6_leastLater_8 ?_
  refine lv_iload_n hC.1 hC.2.1 dX6_leastLater_11 rfl (lv_at hl 1 rfl) ?_
  obtain ⟨ok_15, h⟩ := h
  refine mm_al hC hM (t0 := 4) ok_15 (by decide) rfl rfl dX6_leastLater_12 ?_
  obtain ⟨ok_18, h⟩ := h
  refine mm_rv hM (mm_V (As := [.ref (b0 + (sR S (sR S (sR S o 0) 9) (x1 : Int32).toNatClampNeg))]) (rest := []) hC hM hl.1 (mX5_fill l G b0 S (sR S o 2) (sR S (sR S (sR S o 0) 9) (x1 : Int32).toNatClampNeg) _) h (ci := 5) ok_18 rfl rfl kX5_fill tw_714 rfl (by decide) rfl (Nat.le_of_ble_eq_true rfl) dX6_leastLater_13 (by decide)) (fun S_16 H locs h hM => ?_)
  refine lv_ldc (v := 1000000) hC.1 hC.2.1 hC.2.2.2.1 (hC.2.2.2.2 _ tw_715) dX6_leastLater_16 ?_
  refine lv_istore_n (lv' := [(3, .int 1000000), (0, .ref (b0 + o)), (1, .int x1), (2, .int x2)]) hC.1 hC.2.1 dX6_leastLater_18 rfl hl (by decide) rfl (fun ls hl => ?_)
  refine lv_iconst (v := 0) hC.1 hC.2.1 dX6_leastLater_19 (by decide) ?_
  refine lv_istore (lv' := [(4, .int 0), (3, .int 1000000), (0, .ref (b0 + o)), (1, .int x1), (2, .int x2)]) hC.1 hC.2.1 dX6_leastLater_20 hl (by decide) rfl (fun ls hl => ?_)
  obtain ⟨n1, h⟩ := h
  exact qX6_leastLater_22 hC hr hlk n1 _ _ _ _ _ H locs ls h hM (lv_sub hl [2, 4, 1, 0] rfl)
set_option maxHeartbeats 4000000 in
set_option maxRecDepth 100000 in
theorem qX6_dearestWith_32 {p : Program} {l : Launch} {e : Env} {s : State} {m : MethodId} {args : Array Value} {below : List Frame} {meth : Method} {c : Code} {G : Gt} {b0 : Nat} (hC : CallFix p m c cX6_dearestWith 4 s args lw_g RX6) (hr : meth.sig.returnType = (some .int)) (hlk : meth.locks = false) {K : Int32 → St → Prop} {B4 : Nat → Int32 → Int32 → Int32 → St → Prop} (hB4 : ∀ (x0 : Nat) (x1 : Int32) (x2 : Int32) (x3 : Int32) (S : St) (H : Heap) (locs : List Loc) (ls : Array Slot), B4 x0 x1 x2 x3 S → MM G b0 s S H locs → lv_has ls 4 [(0, .ref (b0 + x0)), (1, .int x1), (2, .int x2), (3, .int x3)] → W p l e rmX6_dearestWith s m args below meth c H locs 0 0 (MQ below (va_Qi K (ME G b0) (AB b0)) args s 0 0 (AB b0)) (F0 m 4 ls [])) : ∀ (x0 : Nat) (x1 : Int32) (x2 : Int32) (x3 : Int32) (S : St) (H : Heap) (locs : List Loc) (ls : Array Slot), wX6_dearestWith_32 K B4 x0 x1 x2 x3 S → MM G b0 s S H locs → lv_has ls 4 [(0, .ref (b0 + x0)), (1, .int x1), (2, .int x2), (3, .int x3)] → W p l e rmX6_dearestWith s m args below meth c H locs 0 0 (MQ below (va_Qi K (ME G b0) (AB b0)) args s 0 0 (AB b0)) (F0 m 32 ls []) := by
  intro x0 x1 x2 x3 S H locs ls h hM hl
  unfold wX6_dearestWith_32 at h
  obtain ⟨x3_1, ex3_1⟩ : ∃ y : Int32, y = x3 + 1 := ⟨_, rfl⟩
  have h := h x3_1 ex3_1
  refine lv_iinc (v := x3_1) (lv' := [(3, .int x3_1), (0, .ref (b0 + x0)), (1, .int x1), (2, .int x2)]) hC.1 hC.2.1 dX6_dearestWith_32 hl (k := 3) rfl (by rw [ex3_1]; rfl) (by decide) rfl (fun ls hl => ?_)
  refine lv_goto (tgt := 4) hC.1 hC.2.1 dX6_dearestWith_35 (by decide) ?_
  exact hB4 _ _ _ _ _ H locs ls h hM (lv_sub hl [1, 2, 3, 0] rfl)
set_option maxHeartbeats 4000000 in
set_option maxRecDepth 100000 in
theorem qX6_dearestWith_38 {p : Program} {l : Launch} {e : Env} {s : State} {m : MethodId} {args : Array Value} {below : List Frame} {meth : Method} {c : Code} {G : Gt} {b0 : Nat} (hC : CallFix p m c cX6_dearestWith 4 s args lw_g RX6) (hr : meth.sig.returnType = (some .int)) (hlk : meth.locks = false) {K : Int32 → St → Prop} : ∀ (x0 : Nat) (x1 : Int32) (x2 : Int32) (S : St) (H : Heap) (locs : List Loc) (ls : Array Slot), wX6_dearestWith_38 K x0 x1 x2 S → MM G b0 s S H locs → lv_has ls 4 [(0, .ref (b0 + x0)), (1, .int x1), (2, .int x2)] → W p l e rmX6_dearestWith s m args below meth c H locs 0 0 (MQ below (va_Qi K (ME G b0) (AB b0)) args s 0 0 (AB b0)) (F0 m 38 ls []) := by
  intro x0 x1 x2 S H locs ls h hM hl
  unfold wX6_dearestWith_38 at h
  refine lv_aload_n hC.1 hC.2.1 dX6_dearestWith_38 rfl (lv_at hl 0 rfl) ?_
  obtain ⟨ok_2, h⟩ := h
  refine mm_gr hC hM (ci := 6) (j := 3) ok_2 rfl (by decide) (by decide) tw_286 rfl dX6_dearestWith_39 ?_
  refine lv_aload_n hC.1 hC.2.1 dX6_dearestWith_42 rfl (lv_at hl 0 rfl) ?_
  obtain ⟨ok_3, h⟩ := h
  refine mm_gr hC hM (ci := 6) (j := 0) ⟨ok_2.1, ok_3⟩ rfl (by decide) (by decide) tw_283 rfl dX6_dearestWith_43 ?_
  obtain ⟨ok_4, h⟩ := h
  refine mm_gr hC hM (ci := 0) (j := 8) ok_4 rfl (by decide) (by decide) tw_53 rfl dX6_dearestWith_46 ?_
  obtain ⟨ok_7, h⟩ := h
  refine mm_rv hM (mm_V (As := [.ref (b0 + (sR S (sR S x0 0) 8))]) (rest := []) hC hM hl.1 (mX5_fill l G b0 S (sR S x0 3) (sR S (sR S x0 0) 8) _) h (ci := 5) ok_7 rfl rfl kX5_fill tw_714 rfl (by decide) rfl (Nat.le_of_ble_eq_true rfl) dX6_dearestWith_49 (by decide)) (fun S_5 H locs h hM => ?_)
  refine lv_aload_n hC.1 hC.2.1 dX6_dearestWith_52 rfl (lv_at hl 0 rfl) ?_
  obtain ⟨ok_8, h⟩ := h
  refine mm_gr hC hM (ci := 6) (j := 3) ok_8 rfl (by decide) (by decide) tw_286 rfl dX6_dearestWith_53 ?_
  refine lv_iload_n hC.1 hC.2.1 dX6_dearestWith_56 rfl (lv_at hl 1 rfl) ?_
  obtain ⟨ok_11, h⟩ := h
  refine mm_ri hM (mm_V (As := [.int x1]) (rest := []) hC hM hl.1 (mX5_total l G b0 S_5 (sR S_5 x0 3) x1 _) h (ci := 5) ok_11 rfl rfl kX5_total tw_716 rfl (by decide) rfl (Nat.le_of_ble_eq_true rfl) dX6_dearestWith_57 (by decide)) (fun r_10 S_9 H locs h hM => ?_)
  refine lv_iload_n hC.1 hC.2.1 dX6_dearestWith_60 rfl (lv_at hl 2 rfl) ?_
  refine lv_iadd hC.1 hC.2.1 dX6_dearestWith_61 ?_
  exact mm_iret hC hr hlk hM h dX6_dearestWith_62
set_option maxHeartbeats 4000000 in
set_option maxRecDepth 100000 in
theorem qX6_dearestWith_4 {p : Program} {l : Launch} {e : Env} {s : State} {m : MethodId} {args : Array Value} {below : List Frame} {meth : Method} {c : Code} {G : Gt} {b0 : Nat} (hC : CallFix p m c cX6_dearestWith 4 s args lw_g RX6) (hr : meth.sig.returnType = (some .int)) (hlk : meth.locks = false) {K : Int32 → St → Prop} : ∀ (n : Nat) (x0 : Nat) (x1 : Int32) (x2 : Int32) (x3 : Int32) (S : St) (H : Heap) (locs : List Loc) (ls : Array Slot), wX6_dearestWith_4 K n x0 x1 x2 x3 S → MM G b0 s S H locs → lv_has ls 4 [(0, .ref (b0 + x0)), (1, .int x1), (2, .int x2), (3, .int x3)] → W p l e rmX6_dearestWith s m args below meth c H locs 0 0 (MQ below (va_Qi K (ME G b0) (AB b0)) args s 0 0 (AB b0)) (F0 m 4 ls []) := by
  intro n
  induction n with
  | zero =>
    intro x0 x1 x2 x3 S H locs ls h
    exact False.elim h
  | succ n ih =>
    intro x0 x1 x2 x3 S H locs ls h hM hl
    rw [wX6_dearestWith_4] at h
    refine lv_iload_n hC.1 hC.2.1 dX6_dearestWith_4 rfl (lv_at hl 3 rfl) ?_
    refine lv_bipush (v := 8) hC.1 hC.2.1 dX6_dearestWith_5 (by decide) ?_
    refine lv_icmp_ge (tgt := 38) hC.1 hC.2.1 dX6_dearestWith_7 (by decide) (fun c_12 => ?_) (fun c_12 => ?_)
    · have h := h.1 c_12
      exact qX6_dearestWith_38 hC hr hlk _ _ _ _ H locs ls h hM (lv_sub hl [0, 1, 2] rfl)
    · have h := h.2 c_12
      refine lv_aload_n hC.1 hC.2.1 dX6_dearestWith_10 rfl (lv_at hl 0 rfl) ?_
      obtain ⟨ok_13, h⟩ := h
      refine mm_gr hC hM (ci := 6) (j := 0) ok_13 rfl (by decide) (by decide) tw_283 rfl dX6_dearestWith_11 ?_
      refine lv_iload_n hC.1 hC.2.1 dX6_dearestWith_14 rfl (lv_at hl 3 rfl) ?_
      obtain ⟨ok_16, h⟩ := h
      refine mm_ri hM (mm_V (As := [.int x3]) (rest := []) hC hM hl.1 (mX0_hasWorld l G b0 S (sR S x0 0) x3 _) h (ci := 0) ok_16 rfl rfl kX0_hasWorld tw_709 rfl (by decide) rfl (Nat.le_of_ble_eq_true rfl) dX6_dearestWith_15 (by decide)) (fun r_15 S_14 H locs h hM => ?_)
      refine lv_if_eq (tgt := 32) hC.1 hC.2.1 dX6_dearestWith_18 (by decide) (fun c_17 => ?_) (fun c_17 => ?_)
      · have h := h.1 c_17
        exact qX6_dearestWith_32 hC hr hlk ih _ _ _ _ _ H locs ls h hM (lv_sub hl [0, 1, 2, 3] rfl)
      · have h := h.2 c_17
        refine lv_iload_n hC.1 hC.2.1 dX6_dearestWith_21 rfl (lv_at hl 2 rfl) ?_
        refine lv_aload_n hC.1 hC.2.1 dX6_dearestWith_22 rfl (lv_at hl 0 rfl) ?_
        refine lv_iload_n hC.1 hC.2.1 dX6_dearestWith_23 rfl (lv_at hl 3 rfl) ?_
        refine lv_iload_n hC.1 hC.2.1 dX6_dearestWith_24 rfl (lv_at hl 1 rfl) ?_
        obtain ⟨ok_20, h⟩ := h
        refine mm_ri hM (mm_V (As := [.int x3, .int x1]) (rest := [.int x2]) hC hM hl.1 (mX6_leastLater l G b0 S_14 x0 x3 x1 _) h (ci := 6) ok_20 rfl rfl kX6_leastLater tw_710 rfl (by decide) rfl (Nat.le_of_ble_eq_true rfl) dX6_dearestWith_25 (by decide)) (fun r_19 S_18 H locs h hM => ?_)
        refine va_mmax hC.1 hC.2.1 (hC.2.2.1.trans hl.1.symm) hC.2.2.2.1 (hC.2.2.2.2 _ tw_718) (hC.2.2.2.2 _ tw_634) (hC.2.2.2.2 _ tw_13) (hC.2.2.2.2 _ tw_635) (by decide) (Nat.le_of_ble_eq_true rfl) (by decide) (by decide) dX6_dearestWith_28 ?_
        refine lv_topi (fun x2_21 ex2_21 => ?_)
        have h := h x2_21 ex2_21
        refine lv_istore_n (lv' := [(2, .int x2_21), (0, .ref (b0 + x0)), (1, .int x1), (3, .int x3)]) hC.1 hC.2.1 dX6_dearestWith_31 rfl hl (by decide) rfl (fun ls hl => ?_)
        exact qX6_dearestWith_32 hC hr hlk ih _ _ _ _ _ H locs ls h hM (lv_sub hl [1, 2, 0, 3] rfl)
set_option maxHeartbeats 4000000 in
set_option maxRecDepth 100000 in
theorem mX6_dearestWith (l : Launch) (G : Gt) (b0 : Nat) (S : St) (o : Nat) (x1 : Int32) (K : Int32 → St → Prop) : CI l G b0 S yX6_dearestWith cX6_dearestWith 4 (some .int) rmX6_dearestWith [.ref (b0 + o), .int x1] (wX6_dearestWith S o x1 K) K := by
  refine met_of (by decide) (Nat.le_of_ble_eq_true rfl) rfl ?_
  intro p e s m below meth c hC hr hlk hin h H locs ls hM hl
  unfold wX6_dearestWith at h
  refine lv_iconst (v := 0) hC.1 hC.2.1 dX6_dearestWith_0 (by decide) ?_
  refine lv_istore_n (lv' := [(2, .int 0), (0, .ref (b0 + o)), (1, .int x1)]) hC.1 hC.2.1 dX6_dearestWith_1 rfl hl (by decide) rfl (fun ls hl => ?_)
  refine lv_iconst (v := 0) hC.1 hC.2.1 dX6_dearestWith_2 (by decide) ?_
  refine lv_istore_n (lv' := [(3, .int 0), (2, .int 0), (0, .ref (b0 + o)), (1, .int x1)]) hC.1 hC.2.1 dX6_dearestWith_3 rfl hl (by decide) rfl (fun ls hl => ?_)
  obtain ⟨n1, h⟩ := h
  exact qX6_dearestWith_4 hC hr hlk n1 _ _ _ _ _ H locs ls h hM (lv_sub hl [2, 3, 1, 0] rfl)
set_option maxHeartbeats 4000000 in
set_option maxRecDepth 100000 in
theorem qX6_settle_91 {p : Program} {l : Launch} {e : Env} {s : State} {m : MethodId} {args : Array Value} {below : List Frame} {meth : Method} {c : Code} {G : Gt} {b0 : Nat} (hC : CallFix p m c cX6_settle 9 s args lw_g RX6) (hr : meth.sig.returnType = none) (hlk : meth.locks = false) {K : St → Prop} {B18 : Nat → Int32 → Int32 → Int32 → Int32 → Int32 → St → Prop} (hB18 : ∀ (x0 : Nat) (x2 : Int32) (x3 : Int32) (x4 : Int32) (x5 : Int32) (x6 : Int32) (S : St) (H : Heap) (locs : List Loc) (ls : Array Slot), B18 x0 x2 x3 x4 x5 x6 S → MM G b0 s S H locs → lv_has ls 9 [(0, .ref (b0 + x0)), (2, .int x2), (3, .int x3), (4, .int x4), (5, .int x5), (6, .int x6)] → W p l e rmX6_settle s m args below meth c H locs 0 0 (MQ below (va_Qv K (ME G b0) (AB b0)) args s 0 0 (AB b0)) (F0 m 18 ls [])) : ∀ (x0 : Nat) (x2 : Int32) (x3 : Int32) (x4 : Int32) (x5 : Int32) (x6 : Int32) (S : St) (H : Heap) (locs : List Loc) (ls : Array Slot), wX6_settle_91 K B18 x0 x2 x3 x4 x5 x6 S → MM G b0 s S H locs → lv_has ls 9 [(0, .ref (b0 + x0)), (2, .int x2), (3, .int x3), (4, .int x4), (5, .int x5), (6, .int x6)] → W p l e rmX6_settle s m args below meth c H locs 0 0 (MQ below (va_Qv K (ME G b0) (AB b0)) args s 0 0 (AB b0)) (F0 m 91 ls []) := by
  intro x0 x2 x3 x4 x5 x6 S H locs ls h hM hl
  unfold wX6_settle_91 at h
  obtain ⟨x6_1, ex6_1⟩ : ∃ y : Int32, y = x6 + 1 := ⟨_, rfl⟩
  have h := h x6_1 ex6_1
  refine lv_iinc (v := x6_1) (lv' := [(6, .int x6_1), (0, .ref (b0 + x0)), (2, .int x2), (3, .int x3), (4, .int x4), (5, .int x5)]) hC.1 hC.2.1 dX6_settle_91 hl (k := 5) rfl (by rw [ex6_1]; rfl) (by decide) rfl (fun ls hl => ?_)
  refine lv_goto (tgt := 18) hC.1 hC.2.1 dX6_settle_94 (by decide) ?_
  exact hB18 _ _ _ _ _ _ _ H locs ls h hM (lv_sub hl [1, 2, 3, 4, 5, 0] rfl)
set_option maxHeartbeats 4000000 in
set_option maxRecDepth 100000 in
theorem qX6_settle_97 {p : Program} {l : Launch} {e : Env} {s : State} {m : MethodId} {args : Array Value} {below : List Frame} {meth : Method} {c : Code} {G : Gt} {b0 : Nat} (hC : CallFix p m c cX6_settle 9 s args lw_g RX6) (hr : meth.sig.returnType = none) (hlk : meth.locks = false) {K : St → Prop} {B8 : Nat → Int32 → Int32 → Int32 → Int32 → St → Prop} (hB8 : ∀ (x0 : Nat) (x2 : Int32) (x3 : Int32) (x4 : Int32) (x5 : Int32) (S : St) (H : Heap) (locs : List Loc) (ls : Array Slot), B8 x0 x2 x3 x4 x5 S → MM G b0 s S H locs → lv_has ls 9 [(0, .ref (b0 + x0)), (2, .int x2), (3, .int x3), (4, .int x4), (5, .int x5)] → W p l e rmX6_settle s m args below meth c H locs 0 0 (MQ below (va_Qv K (ME G b0) (AB b0)) args s 0 0 (AB b0)) (F0 m 8 ls [])) : ∀ (x0 : Nat) (x2 : Int32) (x3 : Int32) (x4 : Int32) (x5 : Int32) (S : St) (H : Heap) (locs : List Loc) (ls : Array Slot), wX6_settle_97 K B8 x0 x2 x3 x4 x5 S → MM G b0 s S H locs → lv_has ls 9 [(0, .ref (b0 + x0)), (2, .int x2), (3, .int x3), (4, .int x4), (5, .int x5)] → W p l e rmX6_settle s m args below meth c H locs 0 0 (MQ below (va_Qv K (ME G b0) (AB b0)) args s 0 0 (AB b0)) (F0 m 97 ls []) := by
  intro x0 x2 x3 x4 x5 S H locs ls h hM hl
  unfold wX6_settle_97 at h
  refine lv_iload hC.1 hC.2.1 dX6_settle_97 (lv_at hl 4 rfl) ?_
  refine lv_iconst (v := 2) hC.1 hC.2.1 dX6_settle_99 (by decide) ?_
  refine lv_iload hC.1 hC.2.1 dX6_settle_100 (lv_at hl 3 rfl) ?_
  refine lv_imul hC.1 hC.2.1 dX6_settle_102 ?_
  refine lv_iadd hC.1 hC.2.1 dX6_settle_103 ?_
  refine lv_topi (fun x5_2 ex5_2 => ?_)
  have h := h x5_2 ex5_2
  refine lv_istore (lv' := [(5, .int x5_2), (0, .ref (b0 + x0)), (2, .int x2), (3, .int x3), (4, .int x4)]) hC.1 hC.2.1 dX6_settle_104 hl (by decide) rfl (fun ls hl => ?_)
  refine lv_goto (tgt := 8) hC.1 hC.2.1 dX6_settle_106 (by decide) ?_
  exact hB8 _ _ _ _ _ _ H locs ls h hM (lv_sub hl [1, 2, 3, 4, 0] rfl)
set_option maxHeartbeats 4000000 in
set_option maxRecDepth 100000 in
theorem qX6_settle_18 {p : Program} {l : Launch} {e : Env} {s : State} {m : MethodId} {args : Array Value} {below : List Frame} {meth : Method} {c : Code} {G : Gt} {b0 : Nat} (hC : CallFix p m c cX6_settle 9 s args lw_g RX6) (hr : meth.sig.returnType = none) (hlk : meth.locks = false) {K : St → Prop} {B8 : Nat → Int32 → Int32 → Int32 → Int32 → St → Prop} (hB8 : ∀ (x0 : Nat) (x2 : Int32) (x3 : Int32) (x4 : Int32) (x5 : Int32) (S : St) (H : Heap) (locs : List Loc) (ls : Array Slot), B8 x0 x2 x3 x4 x5 S → MM G b0 s S H locs → lv_has ls 9 [(0, .ref (b0 + x0)), (2, .int x2), (3, .int x3), (4, .int x4), (5, .int x5)] → W p l e rmX6_settle s m args below meth c H locs 0 0 (MQ below (va_Qv K (ME G b0) (AB b0)) args s 0 0 (AB b0)) (F0 m 8 ls [])) : ∀ (n : Nat) (x0 : Nat) (x2 : Int32) (x3 : Int32) (x4 : Int32) (x5 : Int32) (x6 : Int32) (S : St) (H : Heap) (locs : List Loc) (ls : Array Slot), wX6_settle_18 K B8 n x0 x2 x3 x4 x5 x6 S → MM G b0 s S H locs → lv_has ls 9 [(0, .ref (b0 + x0)), (2, .int x2), (3, .int x3), (4, .int x4), (5, .int x5), (6, .int x6)] → W p l e rmX6_settle s m args below meth c H locs 0 0 (MQ below (va_Qv K (ME G b0) (AB b0)) args s 0 0 (AB b0)) (F0 m 18 ls []) := by
  intro n
  induction n with
  | zero =>
    intro x0 x2 x3 x4 x5 x6 S H locs ls h
    exact False.elim h
  | succ n ih =>
    intro x0 x2 x3 x4 x5 x6 S H locs ls h hM hl
    rw [wX6_settle_18] at h
    refine lv_iload hC.1 hC.2.1 dX6_settle_18 (lv_at hl 5 rfl) ?_
    refine lv_iload hC.1 hC.2.1 dX6_settle_20 (lv_at hl 4 rfl) ?_
    refine lv_iload hC.1 hC.2.1 dX6_settle_22 (lv_at hl 3 rfl) ?_
    refine lv_iadd hC.1 hC.2.1 dX6_settle_24 ?_
    refine lv_icmp_ge (tgt := 97) hC.1 hC.2.1 dX6_settle_25 (by decide) (fun c_3 => ?_) (fun c_3 => ?_)
    · have h := h.1 c_3
      exact qX6_settle_97 hC hr hlk hB8 _ _ _ _ _ _ H locs ls h hM (lv_sub hl [0, 1, 2, 3, 4] rfl)
    · have h := h.2 c_3
      refine lv_aload_n hC.1 hC.2.1 dX6_settle_28 rfl (lv_at hl 0 rfl) ?_
      obtain ⟨ok_4, h⟩ := h
      refine mm_gr hC hM (ci := 6) (j := 4) ok_4 rfl (by decide) (by decide) tw_287 rfl dX6_settle_29 ?_
      refine lv_iload hC.1 hC.2.1 dX6_settle_32 (lv_at hl 5 rfl) ?_
      obtain ⟨ok_5, h⟩ := h
      refine mm_il hC hM ok_5 dX6_settle_34 ?_
      refine lv_topi (fun x7_6 ex7_6 => ?_)
      have h := h x7_6 ex7_6
      refine lv_istore (lv' := [(7, .int x7_6), (0, .ref (b0 + x0)), (2, .int x2), (3, .int x3), (4, .int x4), (5, .int x5), (6, .int x6)]) hC.1 hC.2.1 dX6_settle_35 hl (by decide) rfl (fun ls hl => ?_)
      refine lv_aload_n hC.1 hC.2.1 dX6_settle_37 rfl (lv_at hl 1 rfl) ?_
      refine mm_gr hC hM (ci := 6) (j := 4) ok_4 rfl (by decide) (by decide) tw_287 rfl dX6_settle_38 ?_
      refine lv_iload hC.1 hC.2.1 dX6_settle_41 (lv_at hl 6 rfl) ?_
      refine lv_iload hC.1 hC.2.1 dX6_settle_43 (lv_at hl 4 rfl) ?_
      refine lv_ior hC.1 hC.2.1 dX6_settle_45 ?_
      obtain ⟨ok_7, h⟩ := h
      refine mm_il hC hM ok_7 dX6_settle_46 ?_
      refine lv_topi (fun x8_8 ex8_8 => ?_)
      have h := h x8_8 ex8_8
      refine lv_istore (lv' := [(8, .int x8_8), (7, .int x7_6), (0, .ref (b0 + x0)), (2, .int x2), (3, .int x3), (4, .int x4), (5, .int x5), (6, .int x6)]) hC.1 hC.2.1 dX6_settle_47 hl (by decide) rfl (fun ls hl => ?_)
      refine lv_iload hC.1 hC.2.1 dX6_settle_49 (lv_at hl 0 rfl) ?_
      refine lv_iload hC.1 hC.2.1 dX6_settle_51 (lv_at hl 1 rfl) ?_
      refine lv_icmp_lt (tgt := 71) hC.1 hC.2.1 dX6_settle_53 (by decide) (fun c_9 => ?_) (fun c_9 => ?_)
      · have h := h.1 c_9
        refine lv_iload hC.1 hC.2.1 dX6_settle_71 (lv_at hl 0 rfl) ?_
        refine lv_iload_n hC.1 hC.2.1 dX6_settle_73 rfl (lv_at hl 3 rfl) ?_
        refine lv_iadd hC.1 hC.2.1 dX6_settle_74 ?_
        refine lv_iload hC.1 hC.2.1 dX6_settle_75 (lv_at hl 1 rfl) ?_
        refine lv_icmp_ge (tgt := 91) hC.1 hC.2.1 dX6_settle_77 (by decide) (fun c_10 => ?_) (fun c_10 => ?_)
        · have h := h.1 c_10
          exact qX6_settle_91 hC hr hlk ih _ _ _ _ _ _ _ H locs ls h hM (lv_sub hl [2, 3, 4, 5, 6, 7] rfl)
        · have h := h.2 c_10
          refine lv_aload_n hC.1 hC.2.1 dX6_settle_80 rfl (lv_at hl 2 rfl) ?_
          refine mm_gr hC hM (ci := 6) (j := 4) ok_4 rfl (by decide) (by decide) tw_287 rfl dX6_settle_81 ?_
          refine lv_iload hC.1 hC.2.1 dX6_settle_84 (lv_at hl 7 rfl) ?_
          refine lv_iload hC.1 hC.2.1 dX6_settle_86 (lv_at hl 0 rfl) ?_
          refine lv_iload_n hC.1 hC.2.1 dX6_settle_88 rfl (lv_at hl 3 rfl) ?_
          refine lv_iadd hC.1 hC.2.1 dX6_settle_89 ?_
          refine mm_is hC hM ok_5 dX6_settle_90 (fun S_11 H locs eS_11 hM => ?_)
          have h := h S_11 eS_11
          exact qX6_settle_91 hC hr hlk ih _ _ _ _ _ _ _ H locs ls h hM (lv_sub hl [2, 3, 4, 5, 6, 7] rfl)
      · have h := h.2 c_9
        refine lv_aload_n hC.1 hC.2.1 dX6_settle_56 rfl (lv_at hl 2 rfl) ?_
        refine mm_gr hC hM (ci := 6) (j := 4) ok_4 rfl (by decide) (by decide) tw_287 rfl dX6_settle_57 ?_
        refine lv_iload hC.1 hC.2.1 dX6_settle_60 (lv_at hl 7 rfl) ?_
        refine lv_iload hC.1 hC.2.1 dX6_settle_62 (lv_at hl 5 rfl) ?_
        refine lv_ior hC.1 hC.2.1 dX6_settle_64 ?_
        refine lv_iload hC.1 hC.2.1 dX6_settle_65 (lv_at hl 1 rfl) ?_
        refine mm_is hC hM ok_7 dX6_settle_67 (fun S_12 H locs eS_12 hM => ?_)
        have h := h S_12 eS_12
        refine lv_goto (tgt := 91) hC.1 hC.2.1 dX6_settle_68 (by decide) ?_
        exact qX6_settle_91 hC hr hlk ih _ _ _ _ _ _ _ H locs ls h hM (lv_sub hl [2, 3, 4, 5, 6, 7] rfl)
set_option maxHeartbeats 4000000 in
set_option maxRecDepth 100000 in
theorem qX6_settle_8 {p : Program} {l : Launch} {e : Env} {s : State} {m : MethodId} {args : Array Value} {below : List Frame} {meth : Method} {c : Code} {G : Gt} {b0 : Nat} (hC : CallFix p m c cX6_settle 9 s args lw_g RX6) (hr : meth.sig.returnType = none) (hlk : meth.locks = false) {K : St → Prop} : ∀ (n : Nat) (x0 : Nat) (x2 : Int32) (x3 : Int32) (x4 : Int32) (x5 : Int32) (S : St) (H : Heap) (locs : List Loc) (ls : Array Slot), wX6_settle_8 K n x0 x2 x3 x4 x5 S → MM G b0 s S H locs → lv_has ls 9 [(0, .ref (b0 + x0)), (2, .int x2), (3, .int x3), (4, .int x4), (5, .int x5)] → W p l e rmX6_settle s m args below meth c H locs 0 0 (MQ below (va_Qv K (ME G b0) (AB b0)) args s 0 0 (AB b0)) (F0 m 8 ls []) := by
  intro n
  induction n with
  | zero =>
    intro x0 x2 x3 x4 x5 S H locs ls h
    exact False.elim h
  | succ n ih =>
    intro x0 x2 x3 x4 x5 S H locs ls h hM hl
    rw [wX6_settle_8] at h
    refine lv_iload hC.1 hC.2.1 dX6_settle_8 (lv_at hl 4 rfl) ?_
    refine lv_iload_n hC.1 hC.2.1 dX6_settle_10 rfl (lv_at hl 2 rfl) ?_
    refine lv_icmp_ge (tgt := 109) hC.1 hC.2.1 dX6_settle_11 (by decide) (fun c_13 => ?_) (fun c_13 => ?_)
    · have h := h.1 c_13
      exact mm_vret hC hr hlk hM h dX6_settle_109
    · have h := h.2 c_13
      refine lv_iload hC.1 hC.2.1 dX6_settle_14 (lv_at hl 4 rfl) ?_
      refine lv_istore (lv' := [(6, .int x5), (0, .ref (b0 + x0)), (2, .int x2), (3, .int x3), (4, .int x4), (5, .int x5)]) hC.1 hC.2.1 dX6_settle_16 hl (by decide) rfl (fun ls hl => ?_)
      obtain ⟨n1, h⟩ := h
      exact qX6_settle_18 hC hr hlk ih n1 _ _ _ _ _ _ _ H locs ls h hM (lv_sub hl [1, 2, 3, 4, 5, 0] rfl)
set_option maxHeartbeats 4000000 in
set_option maxRecDepth 100000 in
theorem mX6_settle (l : Launch) (G : Gt) (b0 : Nat) (S : St) (o : Nat) (x1 : Int32) (x2 : Int32) (x3 : Int32) (K : St → Prop) : CV l G b0 S yX6_settle cX6_settle 9 none rmX6_settle [.ref (b0 + o), .int x1, .int x2, .int x3] (wX6_settle S o x1 x2 x3 K) K := by
  refine met_of (by decide) (Nat.le_of_ble_eq_true rfl) rfl ?_
  intro p e s m below meth c hC hr hlk hin h H locs ls hM hl
  unfold wX6_settle at h
  refine lv_iconst (v := 1) hC.1 hC.2.1 dX6_settle_0 (by decide) ?_
  refine lv_iload_n hC.1 hC.2.1 dX6_settle_1 rfl (lv_at hl 1 rfl) ?_
  refine lv_ishl hC.1 hC.2.1 dX6_settle_2 ?_
  refine lv_topi (fun x4_14 ex4_14 => ?_)
  have h := h x4_14 ex4_14
  refine lv_istore (lv' := [(4, .int x4_14), (0, .ref (b0 + o)), (1, .int x1), (2, .int x2), (3, .int x3)]) hC.1 hC.2.1 dX6_settle_3 hl (by decide) rfl (fun ls hl => ?_)
  refine lv_iconst (v := 0) hC.1 hC.2.1 dX6_settle_5 (by decide) ?_
  refine lv_istore (lv' := [(5, .int 0), (4, .int x4_14), (0, .ref (b0 + o)), (1, .int x1), (2, .int x2), (3, .int x3)]) hC.1 hC.2.1 dX6_settle_6 hl (by decide) rfl (fun ls hl => ?_)
  obtain ⟨n1, h⟩ := h
  exact qX6_settle_8 hC hr hlk n1 _ _ _ _ _ _ H locs ls h hM (lv_sub hl [2, 4, 5, 1, 0] rfl)
set_option maxHeartbeats 4000000 in
set_option maxRecDepth 100000 in
theorem qX6_spreadLeast_57 {p : Program} {l : Launch} {e : Env} {s : State} {m : MethodId} {args : Array Value} {below : List Frame} {meth : Method} {c : Code} {G : Gt} {b0 : Nat} (hC : CallFix p m c cX6_spreadLeast 4 s args lw_g RX6) (hr : meth.sig.returnType = none) (hlk : meth.locks = false) {K : St → Prop} : ∀ (n : Nat) (x0 : Nat) (x1 : Nat) (x2 : Int32) (x3 : Int32) (S : St) (H : Heap) (locs : List Loc) (ls : Array Slot), wX6_spreadLeast_57 K n x0 x1 x2 x3 S → MM G b0 s S H locs → lv_has ls 4 [(0, .ref (b0 + x0)), (1, .ref (b0 + x1)), (2, .int x2), (3, .int x3)] → W p l e rmX6_spreadLeast s m args below meth c H locs 0 0 (MQ below (va_Qv K (ME G b0) (AB b0)) args s 0 0 (AB b0)) (F0 m 57 ls []) := by
  intro n
  induction n with
  | zero =>
    intro x0 x1 x2 x3 S H locs ls h
    exact False.elim h
  | succ n ih =>
    intro x0 x1 x2 x3 S H locs ls h hM hl
    rw [wX6_spreadLeast_57] at h
    refine lv_iload_n hC.1 hC.2.1 dX6_spreadLeast_57 rfl (lv_at hl 3 rfl) ?_
    refine lv_aload_n hC.1 hC.2.1 dX6_spreadLeast_58 rfl (lv_at hl 0 rfl) ?_
    obtain ⟨ok_1, h⟩ := h
    refine mm_gr hC hM (ci := 6) (j := 0) ok_1 rfl (by decide) (by decide) tw_283 rfl dX6_spreadLeast_59 ?_
    obtain ⟨ok_2, h⟩ := h
    refine mm_gi hC hM (ci := 0) (j := 0) ok_2 rfl (by decide) (by decide) tw_34 rfl dX6_spreadLeast_62 ?_
    refine lv_icmp_ge (tgt := 83) hC.1 hC.2.1 dX6_spreadLeast_65 (by decide) (fun c_3 => ?_) (fun c_3 => ?_)
    · have h := h.1 c_3
      exact mm_vret hC hr hlk hM h dX6_spreadLeast_83
    · have h := h.2 c_3
      refine lv_aload_n hC.1 hC.2.1 dX6_spreadLeast_68 rfl (lv_at hl 0 rfl) ?_
      refine lv_iload_n hC.1 hC.2.1 dX6_spreadLeast_69 rfl (lv_at hl 3 rfl) ?_
      refine lv_aload_n hC.1 hC.2.1 dX6_spreadLeast_70 rfl (lv_at hl 1 rfl) ?_
      refine lv_iload_n hC.1 hC.2.1 dX6_spreadLeast_71 rfl (lv_at hl 3 rfl) ?_
      obtain ⟨ok_4, h⟩ := h
      refine mm_il hC hM ok_4 dX6_spreadLeast_72 ?_
      refine lv_iload_n hC.1 hC.2.1 dX6_spreadLeast_73 rfl (lv_at hl 2 rfl) ?_
      refine mm_rv hM (mm_V (As := [.int x3, .int (sI S x1 (x3 : Int32).toNatClampNeg), .int x2]) (rest := []) hC hM hl.1 (mX6_settle l G b0 S x0 x3 (sI S x1 (x3 : Int32).toNatClampNeg) x2 _) h (ci := 6) ok_1.1 rfl rfl kX6_settle tw_731 rfl (by decide) rfl (Nat.le_of_ble_eq_true rfl) dX6_spreadLeast_74 (by decide)) (fun S_5 H locs h hM => ?_)
      obtain ⟨x3_7, ex3_7⟩ : ∃ y : Int32, y = x3 + 1 := ⟨_, rfl⟩
      have h := h x3_7 ex3_7
      refine lv_iinc (v := x3_7) (lv' := [(3, .int x3_7), (0, .ref (b0 + x0)), (1, .ref (b0 + x1)), (2, .int x2)]) hC.1 hC.2.1 dX6_spreadLeast_77 hl (k := 3) rfl (by rw [ex3_7]; rfl) (by decide) rfl (fun ls hl => ?_)
      refine lv_goto (tgt := 57) hC.1 hC.2.1 dX6_spreadLeast_80 (by decide) ?_
      exact ih _ _ _ _ _ H locs ls h hM (lv_sub hl [1, 2, 3, 0] rfl)
set_option maxHeartbeats 4000000 in
set_option maxRecDepth 100000 in
theorem qX6_spreadLeast_55 {p : Program} {l : Launch} {e : Env} {s : State} {m : MethodId} {args : Array Value} {below : List Frame} {meth : Method} {c : Code} {G : Gt} {b0 : Nat} (hC : CallFix p m c cX6_spreadLeast 4 s args lw_g RX6) (hr : meth.sig.returnType = none) (hlk : meth.locks = false) {K : St → Prop} : ∀ (x0 : Nat) (x1 : Nat) (x2 : Int32) (S : St) (H : Heap) (locs : List Loc) (ls : Array Slot), wX6_spreadLeast_55 K x0 x1 x2 S → MM G b0 s S H locs → lv_has ls 4 [(0, .ref (b0 + x0)), (1, .ref (b0 + x1)), (2, .int x2)] → W p l e rmX6_spreadLeast s m args below meth c H locs 0 0 (MQ below (va_Qv K (ME G b0) (AB b0)) args s 0 0 (AB b0)) (F0 m 55 ls []) := by
  intro x0 x1 x2 S H locs ls h hM hl
  unfold wX6_spreadLeast_55 at h
  refine lv_iconst (v := 0) hC.1 hC.2.1 dX6_spreadLeast_55 (by decide) ?_
  refine lv_istore_n (lv' := [(3, .int 0), (0, .ref (b0 + x0)), (1, .ref (b0 + x1)), (2, .int x2)]) hC.1 hC.2.1 dX6_spreadLeast_56 rfl hl (by decide) rfl (fun ls hl => ?_)
  obtain ⟨n1, h⟩ := h
  exact qX6_spreadLeast_57 hC hr hlk n1 _ _ _ _ _ H locs ls h hM (lv_sub hl [1, 2, 3, 0] rfl)
set_option maxHeartbeats 4000000 in
set_option maxRecDepth 100000 in
theorem qX6_spreadLeast_23 {p : Program} {l : Launch} {e : Env} {s : State} {m : MethodId} {args : Array Value} {below : List Frame} {meth : Method} {c : Code} {G : Gt} {b0 : Nat} (hC : CallFix p m c cX6_spreadLeast 4 s args lw_g RX6) (hr : meth.sig.returnType = none) (hlk : meth.locks = false) {K : St → Prop} : ∀ (n : Nat) (x0 : Nat) (x1 : Nat) (x2 : Int32) (x3 : Int32) (S : St) (H : Heap) (locs : List Loc) (ls : Array Slot), wX6_spreadLeast_23 K n x0 x1 x2 x3 S → MM G b0 s S H locs → lv_has ls 4 [(0, .ref (b0 + x0)), (1, .ref (b0 + x1)), (2, .int x2), (3, .int x3)] → W p l e rmX6_spreadLeast s m args below meth c H locs 0 0 (MQ below (va_Qv K (ME G b0) (AB b0)) args s 0 0 (AB b0)) (F0 m 23 ls []) := by
  intro n
  induction n with
  | zero =>
    intro x0 x1 x2 x3 S H locs ls h
    exact False.elim h
  | succ n ih =>
    intro x0 x1 x2 x3 S H locs ls h hM hl
    rw [wX6_spreadLeast_23] at h
    refine lv_iload_n hC.1 hC.2.1 dX6_spreadLeast_23 rfl (lv_at hl 3 rfl) ?_
    refine lv_aload_n hC.1 hC.2.1 dX6_spreadLeast_24 rfl (lv_at hl 0 rfl) ?_
    obtain ⟨ok_8, h⟩ := h
    refine mm_gr hC hM (ci := 6) (j := 1) ok_8 rfl (by decide) (by decide) tw_284 rfl dX6_spreadLeast_25 ?_
    obtain ⟨ok_9, h⟩ := h
    refine mm_gi hC hM (ci := 3) (j := 0) ok_9 rfl (by decide) (by decide) tw_91 rfl dX6_spreadLeast_28 ?_
    refine lv_icmp_ge (tgt := 55) hC.1 hC.2.1 dX6_spreadLeast_31 (by decide) (fun c_10 => ?_) (fun c_10 => ?_)
    · have h := h.1 c_10
      exact qX6_spreadLeast_55 hC hr hlk _ _ _ _ H locs ls h hM (lv_sub hl [0, 1, 2] rfl)
    · have h := h.2 c_10
      refine lv_aload_n hC.1 hC.2.1 dX6_spreadLeast_34 rfl (lv_at hl 0 rfl) ?_
      obtain ⟨ok_11, h⟩ := h
      refine mm_gr hC hM (ci := 6) (j := 4) ⟨ok_8.1, ok_11⟩ rfl (by decide) (by decide) tw_287 rfl dX6_spreadLeast_35 ?_
      refine lv_aload_n hC.1 hC.2.1 dX6_spreadLeast_38 rfl (lv_at hl 0 rfl) ?_
      refine mm_gr hC hM (ci := 6) (j := 1) ok_8 rfl (by decide) (by decide) tw_284 rfl dX6_spreadLeast_39 ?_
      obtain ⟨ok_12, h⟩ := h
      refine mm_gr hC hM (ci := 3) (j := 1) ⟨ok_9, ok_12⟩ rfl (by decide) (by decide) tw_97 rfl dX6_spreadLeast_42 ?_
      refine lv_iload_n hC.1 hC.2.1 dX6_spreadLeast_45 rfl (lv_at hl 3 rfl) ?_
      obtain ⟨ok_13, h⟩ := h
      refine mm_il hC hM ok_13 dX6_spreadLeast_46 ?_
      refine lv_iconst (v := 0) hC.1 hC.2.1 dX6_spreadLeast_47 (by decide) ?_
      obtain ⟨ok_14, h⟩ := h
      refine mm_is hC hM ok_14 dX6_spreadLeast_48 (fun S_15 H locs eS_15 hM => ?_)
      have h := h S_15 eS_15
      obtain ⟨x3_16, ex3_16⟩ : ∃ y : Int32, y = x3 + 1 := ⟨_, rfl⟩
      have h := h x3_16 ex3_16
      refine lv_iinc (v := x3_16) (lv' := [(3, .int x3_16), (0, .ref (b0 + x0)), (1, .ref (b0 + x1)), (2, .int x2)]) hC.1 hC.2.1 dX6_spreadLeast_49 hl (k := 3) rfl (by rw [ex3_16]; rfl) (by decide) rfl (fun ls hl => ?_)
      refine lv_goto (tgt := 23) hC.1 hC.2.1 dX6_spreadLeast_52 (by decide) ?_
      exact ih _ _ _ _ _ H locs ls h hM (lv_sub hl [1, 2, 3, 0] rfl)
set_option maxHeartbeats 4000000 in
set_option maxRecDepth 100000 in
theorem qX6_spreadLeast_21 {p : Program} {l : Launch} {e : Env} {s : State} {m : MethodId} {args : Array Value} {below : List Frame} {meth : Method} {c : Code} {G : Gt} {b0 : Nat} (hC : CallFix p m c cX6_spreadLeast 4 s args lw_g RX6) (hr : meth.sig.returnType = none) (hlk : meth.locks = false) {K : St → Prop} : ∀ (x0 : Nat) (x1 : Nat) (x2 : Int32) (S : St) (H : Heap) (locs : List Loc) (ls : Array Slot), wX6_spreadLeast_21 K x0 x1 x2 S → MM G b0 s S H locs → lv_has ls 4 [(0, .ref (b0 + x0)), (1, .ref (b0 + x1)), (2, .int x2)] → W p l e rmX6_spreadLeast s m args below meth c H locs 0 0 (MQ below (va_Qv K (ME G b0) (AB b0)) args s 0 0 (AB b0)) (F0 m 21 ls []) := by
  intro x0 x1 x2 S H locs ls h hM hl
  unfold wX6_spreadLeast_21 at h
  refine lv_iconst (v := 0) hC.1 hC.2.1 dX6_spreadLeast_21 (by decide) ?_
  refine lv_istore_n (lv' := [(3, .int 0), (0, .ref (b0 + x0)), (1, .ref (b0 + x1)), (2, .int x2)]) hC.1 hC.2.1 dX6_spreadLeast_22 rfl hl (by decide) rfl (fun ls hl => ?_)
  obtain ⟨n1, h⟩ := h
  exact qX6_spreadLeast_23 hC hr hlk n1 _ _ _ _ _ H locs ls h hM (lv_sub hl [1, 2, 3, 0] rfl)
set_option maxHeartbeats 4000000 in
set_option maxRecDepth 100000 in
theorem qX6_spreadLeast_2 {p : Program} {l : Launch} {e : Env} {s : State} {m : MethodId} {args : Array Value} {below : List Frame} {meth : Method} {c : Code} {G : Gt} {b0 : Nat} (hC : CallFix p m c cX6_spreadLeast 4 s args lw_g RX6) (hr : meth.sig.returnType = none) (hlk : meth.locks = false) {K : St → Prop} : ∀ (n : Nat) (x0 : Nat) (x1 : Nat) (x2 : Int32) (x3 : Int32) (S : St) (H : Heap) (locs : List Loc) (ls : Array Slot), wX6_spreadLeast_2 K n x0 x1 x2 x3 S → MM G b0 s S H locs → lv_has ls 4 [(0, .ref (b0 + x0)), (1, .ref (b0 + x1)), (2, .int x2), (3, .int x3)] → W p l e rmX6_spreadLeast s m args below meth c H locs 0 0 (MQ below (va_Qv K (ME G b0) (AB b0)) args s 0 0 (AB b0)) (F0 m 2 ls []) := by
  intro n
  induction n with
  | zero =>
    intro x0 x1 x2 x3 S H locs ls h
    exact False.elim h
  | succ n ih =>
    intro x0 x1 x2 x3 S H locs ls h hM hl
    rw [wX6_spreadLeast_2] at h
    refine lv_iload_n hC.1 hC.2.1 dX6_spreadLeast_2 rfl (lv_at hl 3 rfl) ?_
    refine lv_iload_n hC.1 hC.2.1 dX6_spreadLeast_3 rfl (lv_at hl 2 rfl) ?_
    refine lv_icmp_ge (tgt := 21) hC.1 hC.2.1 dX6_spreadLeast_4 (by decide) (fun c_17 => ?_) (fun c_17 => ?_)
    · have h := h.1 c_17
      exact qX6_spreadLeast_21 hC hr hlk _ _ _ _ H locs ls h hM (lv_sub hl [0, 1, 2] rfl)
    · have h := h.2 c_17
      refine lv_aload_n hC.1 hC.2.1 dX6_spreadLeast_7 rfl (lv_at hl 0 rfl) ?_
      obtain ⟨ok_18, h⟩ := h
      refine mm_gr hC hM (ci := 6) (j := 4) ok_18 rfl (by decide) (by decide) tw_287 rfl dX6_spreadLeast_8 ?_
      refine lv_iload_n hC.1 hC.2.1 dX6_spreadLeast_11 rfl (lv_at hl 3 rfl) ?_
      refine lv_ldc (v := 1000000) hC.1 hC.2.1 hC.2.2.2.1 (hC.2.2.2.2 _ tw_715) dX6_spreadLeast_12 ?_
      obtain ⟨ok_19, h⟩ := h
      refine mm_is hC hM ok_19 dX6_spreadLeast_14 (fun S_20 H locs eS_20 hM => ?_)
      have h := h S_20 eS_20
      obtain ⟨x3_21, ex3_21⟩ : ∃ y : Int32, y = x3 + 1 := ⟨_, rfl⟩
      have h := h x3_21 ex3_21
      refine lv_iinc (v := x3_21) (lv' := [(3, .int x3_21), (0, .ref (b0 + x0)), (1, .ref (b0 + x1)), (2, .int x2)]) hC.1 hC.2.1 dX6_spreadLeast_15 hl (k := 3) rfl (by rw [ex3_21]; rfl) (by decide) rfl (fun ls hl => ?_)
      refine lv_goto (tgt := 2) hC.1 hC.2.1 dX6_spreadLeast_18 (by decide) ?_
      exact ih _ _ _ _ _ H locs ls h hM (lv_sub hl [1, 2, 3, 0] rfl)
set_option maxHeartbeats 4000000 in
set_option maxRecDepth 100000 in
theorem mX6_spreadLeast (l : Launch) (G : Gt) (b0 : Nat) (S : St) (o : Nat) (x1 : Nat) (x2 : Int32) (K : St → Prop) : CV l G b0 S yX6_spreadLeast cX6_spreadLeast 4 none rmX6_spreadLeast [.ref (b0 + o), .ref (b0 + x1), .int x2] (wX6_spreadLeast S o x1 x2 K) K := by
  refine met_of (by decide) (Nat.le_of_ble_eq_true rfl) rfl ?_
  intro p e s m below meth c hC hr hlk hin h H locs ls hM hl
  unfold wX6_spreadLeast at h
  refine lv_iconst (v := 0) hC.1 hC.2.1 dX6_spreadLeast_0 (by decide) ?_
  refine lv_istore_n (lv' := [(3, .int 0), (0, .ref (b0 + o)), (1, .ref (b0 + x1)), (2, .int x2)]) hC.1 hC.2.1 dX6_spreadLeast_1 rfl hl (by decide) rfl (fun ls hl => ?_)
  obtain ⟨n1, h⟩ := h
  exact qX6_spreadLeast_2 hC hr hlk n1 _ _ _ _ _ H locs ls h hM (lv_sub hl [1, 2, 3, 0] rfl)
set_option maxHeartbeats 4000000 in
set_option maxRecDepth 100000 in
theorem qX6_leastDearSet_97 {p : Program} {l : Launch} {e : Env} {s : State} {m : MethodId} {args : Array Value} {below : List Frame} {meth : Method} {c : Code} {G : Gt} {b0 : Nat} (hC : CallFix p m c cX6_leastDearSet 4 s args lw_g RX6) (hr : meth.sig.returnType = (some .int)) (hlk : meth.locks = false) {K : Int32 → St → Prop} {B32 : Nat → Int32 → Int32 → St → Prop} (hB32 : ∀ (x0 : Nat) (x1 : Int32) (x2 : Int32) (S : St) (H : Heap) (locs : List Loc) (ls : Array Slot), B32 x0 x1 x2 S → MM G b0 s S H locs → lv_has ls 4 [(0, .ref (b0 + x0)), (1, .int x1), (2, .int x2)] → W p l e rmX6_leastDearSet s m args below meth c H locs 0 0 (MQ below (va_Qi K (ME G b0) (AB b0)) args s 0 0 (AB b0)) (F0 m 32 ls [])) : ∀ (x0 : Nat) (x1 : Int32) (x2 : Int32) (S : St) (H : Heap) (locs : List Loc) (ls : Array Slot), wX6_leastDearSet_97 K B32 x0 x1 x2 S → MM G b0 s S H locs → lv_has ls 4 [(0, .ref (b0 + x0)), (1, .int x1), (2, .int x2)] → W p l e rmX6_leastDearSet s m args below meth c H locs 0 0 (MQ below (va_Qi K (ME G b0) (AB b0)) args s 0 0 (AB b0)) (F0 m 97 ls []) := by
  intro x0 x1 x2 S H locs ls h hM hl
  unfold wX6_leastDearSet_97 at h
  obtain ⟨x2_1, ex2_1⟩ : ∃ y : Int32, y = x2 + 1 := ⟨_, rfl⟩
  have h := h x2_1 ex2_1
  refine lv_iinc (v := x2_1) (lv' := [(2, .int x2_1), (0, .ref (b0 + x0)), (1, .int x1)]) hC.1 hC.2.1 dX6_leastDearSet_97 hl (k := 2) rfl (by rw [ex2_1]; rfl) (by decide) rfl (fun ls hl => ?_)
  refine lv_goto (tgt := 32) hC.1 hC.2.1 dX6_leastDearSet_100 (by decide) ?_
  exact hB32 _ _ _ _ H locs ls h hM (lv_sub hl [1, 2, 0] rfl)
set_option maxHeartbeats 4000000 in
set_option maxRecDepth 100000 in
theorem qX6_leastDearSet_65 {p : Program} {l : Launch} {e : Env} {s : State} {m : MethodId} {args : Array Value} {below : List Frame} {meth : Method} {c : Code} {G : Gt} {b0 : Nat} (hC : CallFix p m c cX6_leastDearSet 4 s args lw_g RX6) (hr : meth.sig.returnType = (some .int)) (hlk : meth.locks = false) {K : Int32 → St → Prop} {B32 : Nat → Int32 → Int32 → St → Prop} (hB32 : ∀ (x0 : Nat) (x1 : Int32) (x2 : Int32) (S : St) (H : Heap) (locs : List Loc) (ls : Array Slot), B32 x0 x1 x2 S → MM G b0 s S H locs → lv_has ls 4 [(0, .ref (b0 + x0)), (1, .int x1), (2, .int x2)] → W p l e rmX6_leastDearSet s m args below meth c H locs 0 0 (MQ below (va_Qi K (ME G b0) (AB b0)) args s 0 0 (AB b0)) (F0 m 32 ls [])) : ∀ (n : Nat) (x0 : Nat) (x1 : Int32) (x2 : Int32) (x3 : Int32) (S : St) (H : Heap) (locs : List Loc) (ls : Array Slot), wX6_leastDearSet_65 K B32 n x0 x1 x2 x3 S → MM G b0 s S H locs → lv_has ls 4 [(0, .ref (b0 + x0)), (1, .int x1), (2, .int x2), (3, .int x3)] → W p l e rmX6_leastDearSet s m args below meth c H locs 0 0 (MQ below (va_Qi K (ME G b0) (AB b0)) args s 0 0 (AB b0)) (F0 m 65 ls []) := by
  intro n
  induction n with
  | zero =>
    intro x0 x1 x2 x3 S H locs ls h
    exact False.elim h
  | succ n ih =>
    intro x0 x1 x2 x3 S H locs ls h hM hl
    rw [wX6_leastDearSet_65] at h
    refine lv_iload_n hC.1 hC.2.1 dX6_leastDearSet_65 rfl (lv_at hl 3 rfl) ?_
    refine lv_iload_n hC.1 hC.2.1 dX6_leastDearSet_66 rfl (lv_at hl 1 rfl) ?_
    refine lv_icmp_ge (tgt := 97) hC.1 hC.2.1 dX6_leastDearSet_67 (by decide) (fun c_2 => ?_) (fun c_2 => ?_)
    · have h := h.1 c_2
      exact qX6_leastDearSet_97 hC hr hlk hB32 _ _ _ _ H locs ls h hM (lv_sub hl [0, 1, 2] rfl)
    · have h := h.2 c_2
      refine lv_aload_n hC.1 hC.2.1 dX6_leastDearSet_70 rfl (lv_at hl 0 rfl) ?_
      obtain ⟨ok_3, h⟩ := h
      refine mm_gr hC hM (ci := 6) (j := 5) ok_3 rfl (by decide) (by decide) tw_288 rfl dX6_leastDearSet_71 ?_
      refine lv_iload_n hC.1 hC.2.1 dX6_leastDearSet_74 rfl (lv_at hl 3 rfl) ?_
      refine lv_aload_n hC.1 hC.2.1 dX6_leastDearSet_75 rfl (lv_at hl 0 rfl) ?_
      refine mm_gr hC hM (ci := 6) (j := 5) ok_3 rfl (by decide) (by decide) tw_288 rfl dX6_leastDearSet_76 ?_
      refine lv_iload_n hC.1 hC.2.1 dX6_leastDearSet_79 rfl (lv_at hl 3 rfl) ?_
      obtain ⟨ok_4, h⟩ := h
      refine mm_il hC hM ok_4 dX6_leastDearSet_80 ?_
      refine lv_aload_n hC.1 hC.2.1 dX6_leastDearSet_81 rfl (lv_at hl 0 rfl) ?_
      obtain ⟨ok_5, h⟩ := h
      refine mm_gr hC hM (ci := 6) (j := 4) ⟨ok_3.1, ok_5⟩ rfl (by decide) (by decide) tw_287 rfl dX6_leastDearSet_82 ?_
      refine lv_iload_n hC.1 hC.2.1 dX6_leastDearSet_85 rfl (lv_at hl 3 rfl) ?_
      obtain ⟨ok_6, h⟩ := h
      refine mm_il hC hM ok_6 dX6_leastDearSet_86 ?_
      refine va_mmax hC.1 hC.2.1 (hC.2.2.1.trans hl.1.symm) hC.2.2.2.1 (hC.2.2.2.2 _ tw_718) (hC.2.2.2.2 _ tw_634) (hC.2.2.2.2 _ tw_13) (hC.2.2.2.2 _ tw_635) (by decide) (Nat.le_of_ble_eq_true rfl) (by decide) (by decide) dX6_leastDearSet_87 ?_
      refine mm_is hC hM ok_4 dX6_leastDearSet_90 (fun S_7 H locs eS_7 hM => ?_)
      have h := h S_7 eS_7
      obtain ⟨x3_8, ex3_8⟩ : ∃ y : Int32, y = x3 + 1 := ⟨_, rfl⟩
      have h := h x3_8 ex3_8
      refine lv_iinc (v := x3_8) (lv' := [(3, .int x3_8), (0, .ref (b0 + x0)), (1, .int x1), (2, .int x2)]) hC.1 hC.2.1 dX6_leastDearSet_91 hl (k := 3) rfl (by rw [ex3_8]; rfl) (by decide) rfl (fun ls hl => ?_)
      refine lv_goto (tgt := 65) hC.1 hC.2.1 dX6_leastDearSet_94 (by decide) ?_
      exact ih _ _ _ _ _ H locs ls h hM (lv_sub hl [1, 2, 3, 0] rfl)
set_option maxHeartbeats 4000000 in
set_option maxRecDepth 100000 in
theorem qX6_leastDearSet_147 {p : Program} {l : Launch} {e : Env} {s : State} {m : MethodId} {args : Array Value} {below : List Frame} {meth : Method} {c : Code} {G : Gt} {b0 : Nat} (hC : CallFix p m c cX6_leastDearSet 4 s args lw_g RX6) (hr : meth.sig.returnType = (some .int)) (hlk : meth.locks = false) {K : Int32 → St → Prop} : ∀ (x0 : Nat) (x1 : Int32) (S : St) (H : Heap) (locs : List Loc) (ls : Array Slot), wX6_leastDearSet_147 K x0 x1 S → MM G b0 s S H locs → lv_has ls 4 [(0, .ref (b0 + x0)), (1, .int x1)] → W p l e rmX6_leastDearSet s m args below meth c H locs 0 0 (MQ below (va_Qi K (ME G b0) (AB b0)) args s 0 0 (AB b0)) (F0 m 147 ls []) := by
  intro x0 x1 S H locs ls h hM hl
  unfold wX6_leastDearSet_147 at h
  refine lv_aload_n hC.1 hC.2.1 dX6_leastDearSet_147 rfl (lv_at hl 0 rfl) ?_
  obtain ⟨ok_9, h⟩ := h
  refine mm_gr hC hM (ci := 6) (j := 5) ok_9 rfl (by decide) (by decide) tw_288 rfl dX6_leastDearSet_148 ?_
  refine lv_iload_n hC.1 hC.2.1 dX6_leastDearSet_151 rfl (lv_at hl 1 rfl) ?_
  refine mm_ri hM (mm_SN (As := [.ref (b0 + (sR S x0 5)), .int x1]) (rest := []) hC hM hl.1 (mX8_firstLeast l G b0 S (sR S x0 5) x1 _) h kX8_firstLeast nn_12 rfl (by decide) rfl (Nat.le_of_ble_eq_true rfl) dX6_leastDearSet_152 (by decide)) (fun r_11 S_10 H locs h hM => ?_)
  exact mm_iret hC hr hlk hM h dX6_leastDearSet_155
set_option maxHeartbeats 4000000 in
set_option maxRecDepth 100000 in
theorem qX6_leastDearSet_119 {p : Program} {l : Launch} {e : Env} {s : State} {m : MethodId} {args : Array Value} {below : List Frame} {meth : Method} {c : Code} {G : Gt} {b0 : Nat} (hC : CallFix p m c cX6_leastDearSet 4 s args lw_g RX6) (hr : meth.sig.returnType = (some .int)) (hlk : meth.locks = false) {K : Int32 → St → Prop} : ∀ (n : Nat) (x0 : Nat) (x1 : Int32) (x2 : Int32) (S : St) (H : Heap) (locs : List Loc) (ls : Array Slot), wX6_leastDearSet_119 K n x0 x1 x2 S → MM G b0 s S H locs → lv_has ls 4 [(0, .ref (b0 + x0)), (1, .int x1), (2, .int x2)] → W p l e rmX6_leastDearSet s m args below meth c H locs 0 0 (MQ below (va_Qi K (ME G b0) (AB b0)) args s 0 0 (AB b0)) (F0 m 119 ls []) := by
  intro n
  induction n with
  | zero =>
    intro x0 x1 x2 S H locs ls h
    exact False.elim h
  | succ n ih =>
    intro x0 x1 x2 S H locs ls h hM hl
    rw [wX6_leastDearSet_119] at h
    refine lv_iload_n hC.1 hC.2.1 dX6_leastDearSet_119 rfl (lv_at hl 2 rfl) ?_
    refine lv_iload_n hC.1 hC.2.1 dX6_leastDearSet_120 rfl (lv_at hl 1 rfl) ?_
    refine lv_icmp_ge (tgt := 147) hC.1 hC.2.1 dX6_leastDearSet_121 (by decide) (fun c_12 => ?_) (fun c_12 => ?_)
    · have h := h.1 c_12
      exact qX6_leastDearSet_147 hC hr hlk _ _ _ H locs ls h hM (lv_sub hl [0, 1] rfl)
    · have h := h.2 c_12
      refine lv_aload_n hC.1 hC.2.1 dX6_leastDearSet_124 rfl (lv_at hl 0 rfl) ?_
      obtain ⟨ok_13, h⟩ := h
      refine mm_gr hC hM (ci := 6) (j := 5) ok_13 rfl (by decide) (by decide) tw_288 rfl dX6_leastDearSet_125 ?_
      refine lv_iload_n hC.1 hC.2.1 dX6_leastDearSet_128 rfl (lv_at hl 2 rfl) ?_
      refine lv_dup2_11 hC.1 hC.2.1 dX6_leastDearSet_129 rfl rfl ?_
      obtain ⟨ok_14, h⟩ := h
      refine mm_il hC hM ok_14 dX6_leastDearSet_130 ?_
      refine lv_aload_n hC.1 hC.2.1 dX6_leastDearSet_131 rfl (lv_at hl 0 rfl) ?_
      obtain ⟨ok_15, h⟩ := h
      refine mm_gr hC hM (ci := 6) (j := 3) ⟨ok_13.1, ok_15⟩ rfl (by decide) (by decide) tw_286 rfl dX6_leastDearSet_132 ?_
      refine lv_iload_n hC.1 hC.2.1 dX6_leastDearSet_135 rfl (lv_at hl 2 rfl) ?_
      obtain ⟨ok_18, h⟩ := h
      refine mm_ri hM (mm_V (As := [.int x2]) (rest := [.int (sI S (sR S x0 5) (x2 : Int32).toNatClampNeg), .int x2, .ref (b0 + (sR S x0 5))]) hC hM hl.1 (mX5_total l G b0 S (sR S x0 3) x2 _) h (ci := 5) ok_18 rfl rfl kX5_total tw_716 rfl (by decide) rfl (Nat.le_of_ble_eq_true rfl) dX6_leastDearSet_136 (by decide)) (fun r_17 S_16 H locs h hM => ?_)
      refine lv_iadd hC.1 hC.2.1 dX6_leastDearSet_139 ?_
      obtain ⟨ok_19, h⟩ := h
      refine mm_is hC hM ok_19 dX6_leastDearSet_140 (fun S_20 H locs eS_20 hM => ?_)
      have h := h S_20 eS_20
      obtain ⟨x2_21, ex2_21⟩ : ∃ y : Int32, y = x2 + 1 := ⟨_, rfl⟩
      have h := h x2_21 ex2_21
      refine lv_iinc (v := x2_21) (lv' := [(2, .int x2_21), (0, .ref (b0 + x0)), (1, .int x1)]) hC.1 hC.2.1 dX6_leastDearSet_141 hl (k := 2) rfl (by rw [ex2_21]; rfl) (by decide) rfl (fun ls hl => ?_)
      refine lv_goto (tgt := 119) hC.1 hC.2.1 dX6_leastDearSet_144 (by decide) ?_
      exact ih _ _ _ _ H locs ls h hM (lv_sub hl [1, 2, 0] rfl)
set_option maxHeartbeats 4000000 in
set_option maxRecDepth 100000 in
theorem qX6_leastDearSet_103 {p : Program} {l : Launch} {e : Env} {s : State} {m : MethodId} {args : Array Value} {below : List Frame} {meth : Method} {c : Code} {G : Gt} {b0 : Nat} (hC : CallFix p m c cX6_leastDearSet 4 s args lw_g RX6) (hr : meth.sig.returnType = (some .int)) (hlk : meth.locks = false) {K : Int32 → St → Prop} : ∀ (x0 : Nat) (x1 : Int32) (S : St) (H : Heap) (locs : List Loc) (ls : Array Slot), wX6_leastDearSet_103 K x0 x1 S → MM G b0 s S H locs → lv_has ls 4 [(0, .ref (b0 + x0)), (1, .int x1)] → W p l e rmX6_leastDearSet s m args below meth c H locs 0 0 (MQ below (va_Qi K (ME G b0) (AB b0)) args s 0 0 (AB b0)) (F0 m 103 ls []) := by
  intro x0 x1 S H locs ls h hM hl
  unfold wX6_leastDearSet_103 at h
  refine lv_aload_n hC.1 hC.2.1 dX6_leastDearSet_103 rfl (lv_at hl 0 rfl) ?_
  obtain ⟨ok_22, h⟩ := h
  refine mm_gr hC hM (ci := 6) (j := 3) ok_22 rfl (by decide) (by decide) tw_286 rfl dX6_leastDearSet_104 ?_
  refine lv_aload_n hC.1 hC.2.1 dX6_leastDearSet_107 rfl (lv_at hl 0 rfl) ?_
  obtain ⟨ok_23, h⟩ := h
  refine mm_gr hC hM (ci := 6) (j := 0) ⟨ok_22.1, ok_23⟩ rfl (by decide) (by decide) tw_283 rfl dX6_leastDearSet_108 ?_
  obtain ⟨ok_24, h⟩ := h
  refine mm_gr hC hM (ci := 0) (j := 8) ok_24 rfl (by decide) (by decide) tw_53 rfl dX6_leastDearSet_111 ?_
  obtain ⟨ok_27, h⟩ := h
  refine mm_rv hM (mm_V (As := [.ref (b0 + (sR S (sR S x0 0) 8))]) (rest := []) hC hM hl.1 (mX5_fill l G b0 S (sR S x0 3) (sR S (sR S x0 0) 8) _) h (ci := 5) ok_27 rfl rfl kX5_fill tw_714 rfl (by decide) rfl (Nat.le_of_ble_eq_true rfl) dX6_leastDearSet_114 (by decide)) (fun S_25 H locs h hM => ?_)
  refine lv_iconst (v := 0) hC.1 hC.2.1 dX6_leastDearSet_117 (by decide) ?_
  refine lv_istore_n (lv' := [(2, .int 0), (0, .ref (b0 + x0)), (1, .int x1)]) hC.1 hC.2.1 dX6_leastDearSet_118 rfl hl (by decide) rfl (fun ls hl => ?_)
  obtain ⟨n1, h⟩ := h
  exact qX6_leastDearSet_119 hC hr hlk n1 _ _ _ _ H locs ls h hM (lv_sub hl [1, 2, 0] rfl)
set_option maxHeartbeats 4000000 in
set_option maxRecDepth 100000 in
theorem qX6_leastDearSet_32 {p : Program} {l : Launch} {e : Env} {s : State} {m : MethodId} {args : Array Value} {below : List Frame} {meth : Method} {c : Code} {G : Gt} {b0 : Nat} (hC : CallFix p m c cX6_leastDearSet 4 s args lw_g RX6) (hr : meth.sig.returnType = (some .int)) (hlk : meth.locks = false) {K : Int32 → St → Prop} : ∀ (n : Nat) (x0 : Nat) (x1 : Int32) (x2 : Int32) (S : St) (H : Heap) (locs : List Loc) (ls : Array Slot), wX6_leastDearSet_32 K n x0 x1 x2 S → MM G b0 s S H locs → lv_has ls 4 [(0, .ref (b0 + x0)), (1, .int x1), (2, .int x2)] → W p l e rmX6_leastDearSet s m args below meth c H locs 0 0 (MQ below (va_Qi K (ME G b0) (AB b0)) args s 0 0 (AB b0)) (F0 m 32 ls []) := by
  intro n
  induction n with
  | zero =>
    intro x0 x1 x2 S H locs ls h
    exact False.elim h
  | succ n ih =>
    intro x0 x1 x2 S H locs ls h hM hl
    rw [wX6_leastDearSet_32] at h
    refine lv_iload_n hC.1 hC.2.1 dX6_leastDearSet_32 rfl (lv_at hl 2 rfl) ?_
    refine lv_bipush (v := 8) hC.1 hC.2.1 dX6_leastDearSet_33 (by decide) ?_
    refine lv_icmp_ge (tgt := 103) hC.1 hC.2.1 dX6_leastDearSet_35 (by decide) (fun c_28 => ?_) (fun c_28 => ?_)
    · have h := h.1 c_28
      exact qX6_leastDearSet_103 hC hr hlk _ _ _ H locs ls h hM (lv_sub hl [0, 1] rfl)
    · have h := h.2 c_28
      refine lv_aload_n hC.1 hC.2.1 dX6_leastDearSet_38 rfl (lv_at hl 0 rfl) ?_
      obtain ⟨ok_29, h⟩ := h
      refine mm_gr hC hM (ci := 6) (j := 0) ok_29 rfl (by decide) (by decide) tw_283 rfl dX6_leastDearSet_39 ?_
      refine lv_iload_n hC.1 hC.2.1 dX6_leastDearSet_42 rfl (lv_at hl 2 rfl) ?_
      obtain ⟨ok_32, h⟩ := h
      refine mm_ri hM (mm_V (As := [.int x2]) (rest := []) hC hM hl.1 (mX0_hasWorld l G b0 S (sR S x0 0) x2 _) h (ci := 0) ok_32 rfl rfl kX0_hasWorld tw_709 rfl (by decide) rfl (Nat.le_of_ble_eq_true rfl) dX6_leastDearSet_43 (by decide)) (fun r_31 S_30 H locs h hM => ?_)
      refine lv_if_eq (tgt := 97) hC.1 hC.2.1 dX6_leastDearSet_46 (by decide) (fun c_33 => ?_) (fun c_33 => ?_)
      · have h := h.1 c_33
        exact qX6_leastDearSet_97 hC hr hlk ih _ _ _ _ H locs ls h hM (lv_sub hl [0, 1, 2] rfl)
      · have h := h.2 c_33
        refine lv_aload_n hC.1 hC.2.1 dX6_leastDearSet_49 rfl (lv_at hl 0 rfl) ?_
        refine lv_aload_n hC.1 hC.2.1 dX6_leastDearSet_50 rfl (lv_at hl 0 rfl) ?_
        obtain ⟨ok_34, h⟩ := h
        refine mm_gr hC hM (ci := 6) (j := 0) ok_34 rfl (by decide) (by decide) tw_283 rfl dX6_leastDearSet_51 ?_
        obtain ⟨ok_35, h⟩ := h
        refine mm_gr hC hM (ci := 0) (j := 9) ok_35 rfl (by decide) (by decide) tw_57 rfl dX6_leastDearSet_54 ?_
        refine lv_iload_n hC.1 hC.2.1 dX6_leastDearSet_57 rfl (lv_at hl 2 rfl) ?_
        obtain ⟨ok_36, h⟩ := h
        refine mm_al hC hM (t0 := 4) ok_36 (by decide) rfl rfl dX6_leastDearSet_58 ?_
        refine lv_iload_n hC.1 hC.2.1 dX6_leastDearSet_59 rfl (lv_at hl 1 rfl) ?_
        refine mm_rv hM (mm_V (As := [.ref (b0 + (sR S_30 (sR S_30 (sR S_30 x0 0) 9) (x2 : Int32).toNatClampNeg)), .int x1]) (rest := []) hC hM hl.1 (mX6_spreadLeast l G b0 S_30 x0 (sR S_30 (sR S_30 (sR S_30 x0 0) 9) (x2 : Int32).toNatClampNeg) x1 _) h (ci := 6) ok_34.1 rfl rfl kX6_spreadLeast tw_727 rfl (by decide) rfl (Nat.le_of_ble_eq_true rfl) dX6_leastDearSet_60 (by decide)) (fun S_37 H locs h hM => ?_)
        refine lv_iconst (v := 0) hC.1 hC.2.1 dX6_leastDearSet_63 (by decide) ?_
        refine lv_istore_n (lv' := [(3, .int 0), (0, .ref (b0 + x0)), (1, .int x1), (2, .int x2)]) hC.1 hC.2.1 dX6_leastDearSet_64 rfl hl (by decide) rfl (fun ls hl => ?_)
        obtain ⟨n1, h⟩ := h
        exact qX6_leastDearSet_65 hC hr hlk ih n1 _ _ _ _ _ H locs ls h hM (lv_sub hl [1, 2, 3, 0] rfl)
set_option maxHeartbeats 4000000 in
set_option maxRecDepth 100000 in
theorem qX6_leastDearSet_30 {p : Program} {l : Launch} {e : Env} {s : State} {m : MethodId} {args : Array Value} {below : List Frame} {meth : Method} {c : Code} {G : Gt} {b0 : Nat} (hC : CallFix p m c cX6_leastDearSet 4 s args lw_g RX6) (hr : meth.sig.returnType = (some .int)) (hlk : meth.locks = false) {K : Int32 → St → Prop} : ∀ (x0 : Nat) (x1 : Int32) (S : St) (H : Heap) (locs : List Loc) (ls : Array Slot), wX6_leastDearSet_30 K x0 x1 S → MM G b0 s S H locs → lv_has ls 4 [(0, .ref (b0 + x0)), (1, .int x1)] → W p l e rmX6_leastDearSet s m args below meth c H locs 0 0 (MQ below (va_Qi K (ME G b0) (AB b0)) args s 0 0 (AB b0)) (F0 m 30 ls []) := by
  intro x0 x1 S H locs ls h hM hl
  unfold wX6_leastDearSet_30 at h
  refine lv_iconst (v := 0) hC.1 hC.2.1 dX6_leastDearSet_30 (by decide) ?_
  refine lv_istore_n (lv' := [(2, .int 0), (0, .ref (b0 + x0)), (1, .int x1)]) hC.1 hC.2.1 dX6_leastDearSet_31 rfl hl (by decide) rfl (fun ls hl => ?_)
  obtain ⟨n1, h⟩ := h
  exact qX6_leastDearSet_32 hC hr hlk n1 _ _ _ _ H locs ls h hM (lv_sub hl [1, 2, 0] rfl)
set_option maxHeartbeats 4000000 in
set_option maxRecDepth 100000 in
theorem qX6_leastDearSet_12 {p : Program} {l : Launch} {e : Env} {s : State} {m : MethodId} {args : Array Value} {below : List Frame} {meth : Method} {c : Code} {G : Gt} {b0 : Nat} (hC : CallFix p m c cX6_leastDearSet 4 s args lw_g RX6) (hr : meth.sig.returnType = (some .int)) (hlk : meth.locks = false) {K : Int32 → St → Prop} : ∀ (n : Nat) (x0 : Nat) (x1 : Int32) (x2 : Int32) (S : St) (H : Heap) (locs : List Loc) (ls : Array Slot), wX6_leastDearSet_12 K n x0 x1 x2 S → MM G b0 s S H locs → lv_has ls 4 [(0, .ref (b0 + x0)), (1, .int x1), (2, .int x2)] → W p l e rmX6_leastDearSet s m args below meth c H locs 0 0 (MQ below (va_Qi K (ME G b0) (AB b0)) args s 0 0 (AB b0)) (F0 m 12 ls []) := by
  intro n
  induction n with
  | zero =>
    intro x0 x1 x2 S H locs ls h
    exact False.elim h
  | succ n ih =>
    intro x0 x1 x2 S H locs ls h hM hl
    rw [wX6_leastDearSet_12] at h
    refine lv_iload_n hC.1 hC.2.1 dX6_leastDearSet_12 rfl (lv_at hl 2 rfl) ?_
    refine lv_iload_n hC.1 hC.2.1 dX6_leastDearSet_13 rfl (lv_at hl 1 rfl) ?_
    refine lv_icmp_ge (tgt := 30) hC.1 hC.2.1 dX6_leastDearSet_14 (by decide) (fun c_39 => ?_) (fun c_39 => ?_)
    · have h := h.1 c_39
      exact qX6_leastDearSet_30 hC hr hlk _ _ _ H locs ls h hM (lv_sub hl [0, 1] rfl)
    · have h := h.2 c_39
      refine lv_aload_n hC.1 hC.2.1 dX6_leastDearSet_17 rfl (lv_at hl 0 rfl) ?_
      obtain ⟨ok_40, h⟩ := h
      refine mm_gr hC hM (ci := 6) (j := 5) ok_40 rfl (by decide) (by decide) tw_288 rfl dX6_leastDearSet_18 ?_
      refine lv_iload_n hC.1 hC.2.1 dX6_leastDearSet_21 rfl (lv_at hl 2 rfl) ?_
      refine lv_iconst (v := 0) hC.1 hC.2.1 dX6_leastDearSet_22 (by decide) ?_
      obtain ⟨ok_41, h⟩ := h
      refine mm_is hC hM ok_41 dX6_leastDearSet_23 (fun S_42 H locs eS_42 hM => ?_)
      have h := h S_42 eS_42
      obtain ⟨x2_43, ex2_43⟩ : ∃ y : Int32, y = x2 + 1 := ⟨_, rfl⟩
      have h := h x2_43 ex2_43
      refine lv_iinc (v := x2_43) (lv' := [(2, .int x2_43), (0, .ref (b0 + x0)), (1, .int x1)]) hC.1 hC.2.1 dX6_leastDearSet_24 hl (k := 2) rfl (by rw [ex2_43]; rfl) (by decide) rfl (fun ls hl => ?_)
      refine lv_goto (tgt := 12) hC.1 hC.2.1 dX6_leastDearSet_27 (by decide) ?_
      exact ih _ _ _ _ H locs ls h hM (lv_sub hl [1, 2, 0] rfl)
set_option maxHeartbeats 4000000 in
set_option maxRecDepth 100000 in
theorem mX6_leastDearSet (l : Launch) (G : Gt) (b0 : Nat) (S : St) (o : Nat) (K : Int32 → St → Prop) : CI l G b0 S yX6_leastDearSet cX6_leastDearSet 4 (some .int) rmX6_leastDearSet [.ref (b0 + o)] (wX6_leastDearSet S o K) K := by
  refine met_of (by decide) (Nat.le_of_ble_eq_true rfl) rfl ?_
  intro p e s m below meth c hC hr hlk hin h H locs ls hM hl
  unfold wX6_leastDearSet at h
  refine lv_iconst (v := 1) hC.1 hC.2.1 dX6_leastDearSet_0 (by decide) ?_
  refine lv_aload_n hC.1 hC.2.1 dX6_leastDearSet_1 rfl (lv_at hl 0 rfl) ?_
  obtain ⟨ok_44, h⟩ := h
  refine mm_gr hC hM (ci := 6) (j := 0) ok_44 rfl (by decide) (by decide) tw_283 rfl dX6_leastDearSet_2 ?_
  obtain ⟨ok_45, h⟩ := h
  refine mm_gi hC hM (ci := 0) (j := 0) ok_45 rfl (by decide) (by decide) tw_34 rfl dX6_leastDearSet_5 ?_
  refine lv_ishl hC.1 hC.2.1 dX6_leastDearSet_8 ?_
  refine lv_topi (fun x1_46 ex1_46 => ?_)
  have h := h x1_46 ex1_46
  refine lv_istore_n (lv' := [(1, .int x1_46), (0, .ref (b0 + o))]) hC.1 hC.2.1 dX6_leastDearSet_9 rfl hl (by decide) rfl (fun ls hl => ?_)
  refine lv_iconst (v := 0) hC.1 hC.2.1 dX6_leastDearSet_10 (by decide) ?_
  refine lv_istore_n (lv' := [(2, .int 0), (1, .int x1_46), (0, .ref (b0 + o))]) hC.1 hC.2.1 dX6_leastDearSet_11 rfl hl (by decide) rfl (fun ls hl => ?_)
  obtain ⟨n1, h⟩ := h
  exact qX6_leastDearSet_12 hC hr hlk n1 _ _ _ _ H locs ls h hM (lv_sub hl [2, 1, 0] rfl)
