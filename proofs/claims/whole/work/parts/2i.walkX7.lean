set_option maxHeartbeats 4000000 in
set_option maxRecDepth 100000 in
theorem mX7_comesBefore (l : Launch) (G : Gt) (b0 : Nat) (S : St) (x0 : Int32) (x1 : Int32) (x2 : Nat) (x3 : Nat) (K : Int32 → St → Prop) : CI l G b0 S yX7_comesBefore cX7_comesBefore 4 (some .boolean) rmX7_comesBefore [.int x0, .int x1, .ref (b0 + x2), .ref (b0 + x3)] (wX7_comesBefore S x0 x1 x2 x3 K) K := by
  refine met_of (by decide) (Nat.le_of_ble_eq_true rfl) rfl ?_
  intro p e s m below meth c hC hr hlk hin h H locs ls hM hl
  unfold wX7_comesBefore at h
  refine lv_aload_n hC.1 hC.2.1 dX7_comesBefore_0 rfl (lv_at hl 2 rfl) ?_
  refine lv_iload_n hC.1 hC.2.1 dX7_comesBefore_1 rfl (lv_at hl 0 rfl) ?_
  obtain ⟨ok_1, h⟩ := h
  refine mm_il hC hM ok_1 dX7_comesBefore_2 ?_
  refine lv_aload_n hC.1 hC.2.1 dX7_comesBefore_3 rfl (lv_at hl 2 rfl) ?_
  refine lv_iload_n hC.1 hC.2.1 dX7_comesBefore_4 rfl (lv_at hl 1 rfl) ?_
  obtain ⟨ok_2, h⟩ := h
  refine mm_il hC hM ok_2 dX7_comesBefore_5 ?_
  refine lv_icmp_lt (tgt := 27) hC.1 hC.2.1 dX7_comesBefore_6 (by decide) (fun c_3 => ?_) (fun c_3 => ?_)
  · have h := h.1 c_3
    refine lv_iconst (v := 1) hC.1 hC.2.1 dX7_comesBefore_27 (by decide) ?_
    refine lv_goto (tgt := 32) hC.1 hC.2.1 dX7_comesBefore_28 (by decide) ?_
    exact mm_zret hC hr hlk hM rfl h dX7_comesBefore_32
  · have h := h.2 c_3
    refine lv_aload_n hC.1 hC.2.1 dX7_comesBefore_9 rfl (lv_at hl 2 rfl) ?_
    refine lv_iload_n hC.1 hC.2.1 dX7_comesBefore_10 rfl (lv_at hl 0 rfl) ?_
    refine mm_il hC hM ok_1 dX7_comesBefore_11 ?_
    refine lv_aload_n hC.1 hC.2.1 dX7_comesBefore_12 rfl (lv_at hl 2 rfl) ?_
    refine lv_iload_n hC.1 hC.2.1 dX7_comesBefore_13 rfl (lv_at hl 1 rfl) ?_
    refine mm_il hC hM ok_2 dX7_comesBefore_14 ?_
    refine lv_icmp_ne (tgt := 31) hC.1 hC.2.1 dX7_comesBefore_15 (by decide) (fun c_4 => ?_) (fun c_4 => ?_)
    · have h := h.2 c_4
      refine lv_iconst (v := 0) hC.1 hC.2.1 dX7_comesBefore_31 (by decide) ?_
      exact mm_zret hC hr hlk hM rfl h dX7_comesBefore_32
    · have h := h.1 c_4
      refine lv_aload_n hC.1 hC.2.1 dX7_comesBefore_18 rfl (lv_at hl 3 rfl) ?_
      refine lv_iload_n hC.1 hC.2.1 dX7_comesBefore_19 rfl (lv_at hl 0 rfl) ?_
      obtain ⟨ok_5, h⟩ := h
      refine mm_il hC hM ok_5 dX7_comesBefore_20 ?_
      refine lv_aload_n hC.1 hC.2.1 dX7_comesBefore_21 rfl (lv_at hl 3 rfl) ?_
      refine lv_iload_n hC.1 hC.2.1 dX7_comesBefore_22 rfl (lv_at hl 1 rfl) ?_
      obtain ⟨ok_6, h⟩ := h
      refine mm_il hC hM ok_6 dX7_comesBefore_23 ?_
      refine lv_icmp_ge (tgt := 31) hC.1 hC.2.1 dX7_comesBefore_24 (by decide) (fun c_7 => ?_) (fun c_7 => ?_)
      · have h := h.1 c_7
        refine lv_iconst (v := 0) hC.1 hC.2.1 dX7_comesBefore_31 (by decide) ?_
        exact mm_zret hC hr hlk hM rfl h dX7_comesBefore_32
      · have h := h.2 c_7
        refine lv_iconst (v := 1) hC.1 hC.2.1 dX7_comesBefore_27 (by decide) ?_
        refine lv_goto (tgt := 32) hC.1 hC.2.1 dX7_comesBefore_28 (by decide) ?_
        exact mm_zret hC hr hlk hM rfl h dX7_comesBefore_32
set_option maxHeartbeats 4000000 in
set_option maxRecDepth 100000 in
theorem qX7_commonDivisor_9 {p : Program} {l : Launch} {e : Env} {s : State} {m : MethodId} {args : Array Value} {below : List Frame} {meth : Method} {c : Code} {G : Gt} {b0 : Nat} (hC : CallFix p m c cX7_commonDivisor 11 s args lw_g RX7) (hr : meth.sig.returnType = (some .long)) (hlk : meth.locks = false) {K : Int64 → St → Prop} : ∀ (n : Nat) (x4 : Int64) (x6 : Int64) (x8 : Int32) (S : St) (H : Heap) (locs : List Loc) (ls : Array Slot), wX7_commonDivisor_9 K n x4 x6 x8 S → MM G b0 s S H locs → lv_has ls 11 [(4, .long x4), (6, .long x6), (8, .int x8)] → W p l e rmX7_commonDivisor s m args below meth c H locs 0 0 (MQ below (va_Ql K (ME G b0) (AB b0)) args s 0 0 (AB b0)) (F0 m 9 ls []) := by
  intro n
  induction n with
  | zero =>
    intro x4 x6 x8 S H locs ls h
    exact False.elim h
  | succ n ih =>
    intro x4 x6 x8 S H locs ls h hM hl
    rw [wX7_commonDivisor_9] at h
    refine lv_iload hC.1 hC.2.1 dX7_commonDivisor_9 (lv_at hl 2 rfl) ?_
    refine lv_bipush (v := 100) hC.1 hC.2.1 dX7_commonDivisor_11 (by decide) ?_
    refine lv_icmp_ge (tgt := 44) hC.1 hC.2.1 dX7_commonDivisor_13 (by decide) (fun c_1 => ?_) (fun c_1 => ?_)
    · have h := h.1 c_1
      refine lv_lload hC.1 hC.2.1 dX7_commonDivisor_44 (lv_at hl 0 rfl) ?_
      exact mm_lret hC hr hlk hM h dX7_commonDivisor_46
    · have h := h.2 c_1
      refine lv_lload hC.1 hC.2.1 dX7_commonDivisor_16 (lv_at hl 1 rfl) ?_
      refine lv_lconst (v := 0) hC.1 hC.2.1 dX7_commonDivisor_18 (by decide) ?_
      refine W.lcmp hC.1 hC.2.1 dX7_commonDivisor_19 ?_
      refine lv_if_eq (tgt := 44) hC.1 hC.2.1 dX7_commonDivisor_20 (by decide) (fun c_2 => ?_) (fun c_2 => ?_)
      · have h := h.1 c_2
        refine lv_lload hC.1 hC.2.1 dX7_commonDivisor_44 (lv_at hl 0 rfl) ?_
        exact mm_lret hC hr hlk hM h dX7_commonDivisor_46
      · have h := h.2 c_2
        refine lv_lload hC.1 hC.2.1 dX7_commonDivisor_23 (lv_at hl 0 rfl) ?_
        refine lv_lload hC.1 hC.2.1 dX7_commonDivisor_25 (lv_at hl 1 rfl) ?_
        obtain ⟨nz_3, h⟩ := h
        refine lv_lrem hC.1 hC.2.1 dX7_commonDivisor_27 nz_3 ?_
        refine lv_topl (fun x9_4 ex9_4 => ?_)
        have h := h x9_4 ex9_4
        refine lv_lstore (lv' := [(9, .long x9_4), (4, .long x4), (6, .long x6), (8, .int x8)]) hC.1 hC.2.1 dX7_commonDivisor_28 hl (by decide) rfl (fun ls hl => ?_)
        refine lv_lload hC.1 hC.2.1 dX7_commonDivisor_30 (lv_at hl 2 rfl) ?_
        refine lv_lstore (lv' := [(4, .long x6), (9, .long x9_4), (6, .long x6), (8, .int x8)]) hC.1 hC.2.1 dX7_commonDivisor_32 hl (by decide) rfl (fun ls hl => ?_)
        refine lv_lload hC.1 hC.2.1 dX7_commonDivisor_34 (lv_at hl 1 rfl) ?_
        refine lv_lstore (lv' := [(6, .long x9_4), (4, .long x6), (9, .long x9_4), (8, .int x8)]) hC.1 hC.2.1 dX7_commonDivisor_36 hl (by decide) rfl (fun ls hl => ?_)
        obtain ⟨x8_5, ex8_5⟩ : ∃ y : Int32, y = x8 + 1 := ⟨_, rfl⟩
        have h := h x8_5 ex8_5
        refine lv_iinc (v := x8_5) (lv' := [(8, .int x8_5), (6, .long x9_4), (4, .long x6), (9, .long x9_4)]) hC.1 hC.2.1 dX7_commonDivisor_38 hl (k := 3) rfl (by rw [ex8_5]; rfl) (by decide) rfl (fun ls hl => ?_)
        refine lv_goto (tgt := 9) hC.1 hC.2.1 dX7_commonDivisor_41 (by decide) ?_
        exact ih _ _ _ _ H locs ls h hM (lv_sub hl [2, 1, 0] rfl)
set_option maxHeartbeats 4000000 in
set_option maxRecDepth 100000 in
theorem mX7_commonDivisor (l : Launch) (G : Gt) (b0 : Nat) (S : St) (x0 : Int64) (x2 : Int64) (K : Int64 → St → Prop) : CL l G b0 S yX7_commonDivisor cX7_commonDivisor 11 (some .long) rmX7_commonDivisor [.long x0, .long x2] (wX7_commonDivisor S x0 x2 K) K := by
  refine met_of (by decide) (Nat.le_of_ble_eq_true rfl) rfl ?_
  intro p e s m below meth c hC hr hlk hin h H locs ls hM hl
  unfold wX7_commonDivisor at h
  refine lv_lload_n hC.1 hC.2.1 dX7_commonDivisor_0 rfl (lv_at hl 0 rfl) ?_
  refine lv_lstore (lv' := [(4, .long x0), (0, .long x0), (2, .long x2)]) hC.1 hC.2.1 dX7_commonDivisor_1 hl (by decide) rfl (fun ls hl => ?_)
  refine lv_lload_n hC.1 hC.2.1 dX7_commonDivisor_3 rfl (lv_at hl 2 rfl) ?_
  refine lv_lstore (lv' := [(6, .long x2), (4, .long x0), (0, .long x0), (2, .long x2)]) hC.1 hC.2.1 dX7_commonDivisor_4 hl (by decide) rfl (fun ls hl => ?_)
  refine lv_iconst (v := 0) hC.1 hC.2.1 dX7_commonDivisor_6 (by decide) ?_
  refine lv_istore (lv' := [(8, .int 0), (6, .long x2), (4, .long x0), (0, .long x0), (2, .long x2)]) hC.1 hC.2.1 dX7_commonDivisor_7 hl (by decide) rfl (fun ls hl => ?_)
  obtain ⟨n1, h⟩ := h
  exact qX7_commonDivisor_9 hC hr hlk n1 _ _ _ _ H locs ls h hM (lv_sub hl [2, 1, 0] rfl)
set_option maxHeartbeats 4000000 in
set_option maxRecDepth 100000 in
theorem qX7_leastBy_31 {p : Program} {l : Launch} {e : Env} {s : State} {m : MethodId} {args : Array Value} {below : List Frame} {meth : Method} {c : Code} {G : Gt} {b0 : Nat} (hC : CallFix p m c cX7_leastBy 5 s args lw_g RX7) (hr : meth.sig.returnType = (some .int)) (hlk : meth.locks = false) {K : Int32 → St → Prop} {B5 : Nat → Nat → Nat → Int32 → Int32 → St → Prop} (hB5 : ∀ (x0 : Nat) (x1 : Nat) (x2 : Nat) (x3 : Int32) (x4 : Int32) (S : St) (H : Heap) (locs : List Loc) (ls : Array Slot), B5 x0 x1 x2 x3 x4 S → MM G b0 s S H locs → lv_has ls 5 [(0, .ref (b0 + x0)), (1, .ref (b0 + x1)), (2, .ref (b0 + x2)), (3, .int x3), (4, .int x4)] → W p l e rmX7_leastBy s m args below meth c H locs 0 0 (MQ below (va_Qi K (ME G b0) (AB b0)) args s 0 0 (AB b0)) (F0 m 5 ls [])) : ∀ (x0 : Nat) (x1 : Nat) (x2 : Nat) (x3 : Int32) (x4 : Int32) (S : St) (H : Heap) (locs : List Loc) (ls : Array Slot), wX7_leastBy_31 K B5 x0 x1 x2 x3 x4 S → MM G b0 s S H locs → lv_has ls 5 [(0, .ref (b0 + x0)), (1, .ref (b0 + x1)), (2, .ref (b0 + x2)), (3, .int x3), (4, .int x4)] → W p l e rmX7_leastBy s m args below meth c H locs 0 0 (MQ below (va_Qi K (ME G b0) (AB b0)) args s 0 0 (AB b0)) (F0 m 31 ls []) := by
  intro x0 x1 x2 x3 x4 S H locs ls h hM hl
  unfold wX7_leastBy_31 at h
  obtain ⟨x4_1, ex4_1⟩ : ∃ y : Int32, y = x4 + 1 := ⟨_, rfl⟩
  have h := h x4_1 ex4_1
  refine lv_iinc (v := x4_1) (lv' := [(4, .int x4_1), (0, .ref (b0 + x0)), (1, .ref (b0 + x1)), (2, .ref (b0 + x2)), (3, .int x3)]) hC.1 hC.2.1 dX7_leastBy_31 hl (k := 4) rfl (by rw [ex4_1]; rfl) (by decide) rfl (fun ls hl => ?_)
  refine lv_goto (tgt := 5) hC.1 hC.2.1 dX7_leastBy_34 (by decide) ?_
  exact hB5 _ _ _ _ _ _ H locs ls h hM (lv_sub hl [1, 2, 3, 4, 0] rfl)
set_option maxHeartbeats 4000000 in
set_option maxRecDepth 100000 in
theorem qX7_leastBy_5 {p : Program} {l : Launch} {e : Env} {s : State} {m : MethodId} {args : Array Value} {below : List Frame} {meth : Method} {c : Code} {G : Gt} {b0 : Nat} (hC : CallFix p m c cX7_leastBy 5 s args lw_g RX7) (hr : meth.sig.returnType = (some .int)) (hlk : meth.locks = false) {K : Int32 → St → Prop} : ∀ (n : Nat) (x0 : Nat) (x1 : Nat) (x2 : Nat) (x3 : Int32) (x4 : Int32) (S : St) (H : Heap) (locs : List Loc) (ls : Array Slot), wX7_leastBy_5 K n x0 x1 x2 x3 x4 S → MM G b0 s S H locs → lv_has ls 5 [(0, .ref (b0 + x0)), (1, .ref (b0 + x1)), (2, .ref (b0 + x2)), (3, .int x3), (4, .int x4)] → W p l e rmX7_leastBy s m args below meth c H locs 0 0 (MQ below (va_Qi K (ME G b0) (AB b0)) args s 0 0 (AB b0)) (F0 m 5 ls []) := by
  intro n
  induction n with
  | zero =>
    intro x0 x1 x2 x3 x4 S H locs ls h
    exact False.elim h
  | succ n ih =>
    intro x0 x1 x2 x3 x4 S H locs ls h hM hl
    rw [wX7_leastBy_5] at h
    refine lv_iload hC.1 hC.2.1 dX7_leastBy_5 (lv_at hl 4 rfl) ?_
    refine lv_aload_n hC.1 hC.2.1 dX7_leastBy_7 rfl (lv_at hl 0 rfl) ?_
    obtain ⟨ok_2, h⟩ := h
    refine mm_gr hC hM (ci := 7) (j := 1) ok_2 rfl (by decide) (by decide) tw_252 rfl dX7_leastBy_8 ?_
    obtain ⟨ok_3, h⟩ := h
    refine mm_gi hC hM (ci := 3) (j := 0) ok_3 rfl (by decide) (by decide) tw_92 rfl dX7_leastBy_11 ?_
    refine lv_icmp_ge (tgt := 37) hC.1 hC.2.1 dX7_leastBy_14 (by decide) (fun c_4 => ?_) (fun c_4 => ?_)
    · have h := h.1 c_4
      refine lv_iload_n hC.1 hC.2.1 dX7_leastBy_37 rfl (lv_at hl 3 rfl) ?_
      exact mm_iret hC hr hlk hM h dX7_leastBy_38
    · have h := h.2 c_4
      refine lv_iload hC.1 hC.2.1 dX7_leastBy_17 (lv_at hl 4 rfl) ?_
      refine lv_iload_n hC.1 hC.2.1 dX7_leastBy_19 rfl (lv_at hl 3 rfl) ?_
      refine lv_aload_n hC.1 hC.2.1 dX7_leastBy_20 rfl (lv_at hl 1 rfl) ?_
      refine lv_aload_n hC.1 hC.2.1 dX7_leastBy_21 rfl (lv_at hl 2 rfl) ?_
      refine mm_ri hM (mm_S (As := [.int x4, .int x3, .ref (b0 + x1), .ref (b0 + x2)]) (rest := []) hC hM hl.1 (mX7_comesBefore l G b0 S x4 x3 x1 x2 _) h kX7_comesBefore tw_668 rfl (by decide) rfl (Nat.le_of_ble_eq_true rfl) dX7_leastBy_22 (by decide)) (fun r_6 S_5 H locs h hM => ?_)
      refine lv_if_eq (tgt := 31) hC.1 hC.2.1 dX7_leastBy_25 (by decide) (fun c_7 => ?_) (fun c_7 => ?_)
      · have h := h.1 c_7
        exact qX7_leastBy_31 hC hr hlk ih _ _ _ _ _ _ H locs ls h hM (lv_sub hl [0, 1, 2, 3, 4] rfl)
      · have h := h.2 c_7
        refine lv_iload hC.1 hC.2.1 dX7_leastBy_28 (lv_at hl 4 rfl) ?_
        refine lv_istore_n (lv' := [(3, .int x4), (0, .ref (b0 + x0)), (1, .ref (b0 + x1)), (2, .ref (b0 + x2)), (4, .int x4)]) hC.1 hC.2.1 dX7_leastBy_30 rfl hl (by decide) rfl (fun ls hl => ?_)
        exact qX7_leastBy_31 hC hr hlk ih _ _ _ _ _ _ H locs ls h hM (lv_sub hl [1, 2, 3, 0, 4] rfl)
set_option maxHeartbeats 4000000 in
set_option maxRecDepth 100000 in
theorem mX7_leastBy (l : Launch) (G : Gt) (b0 : Nat) (S : St) (o : Nat) (x1 : Nat) (x2 : Nat) (K : Int32 → St → Prop) : CI l G b0 S yX7_leastBy cX7_leastBy 5 (some .int) rmX7_leastBy [.ref (b0 + o), .ref (b0 + x1), .ref (b0 + x2)] (wX7_leastBy S o x1 x2 K) K := by
  refine met_of (by decide) (Nat.le_of_ble_eq_true rfl) rfl ?_
  intro p e s m below meth c hC hr hlk hin h H locs ls hM hl
  unfold wX7_leastBy at h
  refine lv_iconst (v := 0) hC.1 hC.2.1 dX7_leastBy_0 (by decide) ?_
  refine lv_istore_n (lv' := [(3, .int 0), (0, .ref (b0 + o)), (1, .ref (b0 + x1)), (2, .ref (b0 + x2))]) hC.1 hC.2.1 dX7_leastBy_1 rfl hl (by decide) rfl (fun ls hl => ?_)
  refine lv_iconst (v := 1) hC.1 hC.2.1 dX7_leastBy_2 (by decide) ?_
  refine lv_istore (lv' := [(4, .int 1), (3, .int 0), (0, .ref (b0 + o)), (1, .ref (b0 + x1)), (2, .ref (b0 + x2))]) hC.1 hC.2.1 dX7_leastBy_3 hl (by decide) rfl (fun ls hl => ?_)
  obtain ⟨n1, h⟩ := h
  exact qX7_leastBy_5 hC hr hlk n1 _ _ _ _ _ _ H locs ls h hM (lv_sub hl [2, 3, 4, 1, 0] rfl)
set_option maxHeartbeats 4000000 in
set_option maxRecDepth 100000 in
theorem qX7_lowestUnder_111 {p : Program} {l : Launch} {e : Env} {s : State} {m : MethodId} {args : Array Value} {below : List Frame} {meth : Method} {c : Code} {G : Gt} {b0 : Nat} (hC : CallFix p m c cX7_lowestUnder 13 s args lw_g RX7) (hr : meth.sig.returnType = (some .int)) (hlk : meth.locks = false) {K : Int32 → St → Prop} {B59 : Nat → Int64 → Int64 → Int64 → Int32 → Int32 → St → Prop} (hB59 : ∀ (x0 : Nat) (x3 : Int64) (x5 : Int64) (x7 : Int64) (x9 : Int32) (x10 : Int32) (S : St) (H : Heap) (locs : List Loc) (ls : Array Slot), B59 x0 x3 x5 x7 x9 x10 S → MM G b0 s S H locs → lv_has ls 13 [(0, .ref (b0 + x0)), (3, .long x3), (5, .long x5), (7, .long x7), (9, .int x9), (10, .int x10)] → W p l e rmX7_lowestUnder s m args below meth c H locs 0 0 (MQ below (va_Qi K (ME G b0) (AB b0)) args s 0 0 (AB b0)) (F0 m 59 ls [])) : ∀ (x0 : Nat) (x3 : Int64) (x5 : Int64) (x7 : Int64) (x9 : Int32) (x10 : Int32) (S : St) (H : Heap) (locs : List Loc) (ls : Array Slot), wX7_lowestUnder_111 K B59 x0 x3 x5 x7 x9 x10 S → MM G b0 s S H locs → lv_has ls 13 [(0, .ref (b0 + x0)), (3, .long x3), (5, .long x5), (7, .long x7), (9, .int x9), (10, .int x10)] → W p l e rmX7_lowestUnder s m args below meth c H locs 0 0 (MQ below (va_Qi K (ME G b0) (AB b0)) args s 0 0 (AB b0)) (F0 m 111 ls []) := by
  intro x0 x3 x5 x7 x9 x10 S H locs ls h hM hl
  unfold wX7_lowestUnder_111 at h
  obtain ⟨x10_1, ex10_1⟩ : ∃ y : Int32, y = x10 + 1 := ⟨_, rfl⟩
  have h := h x10_1 ex10_1
  refine lv_iinc (v := x10_1) (lv' := [(10, .int x10_1), (0, .ref (b0 + x0)), (3, .long x3), (5, .long x5), (7, .long x7), (9, .int x9)]) hC.1 hC.2.1 dX7_lowestUnder_111 hl (k := 5) rfl (by rw [ex10_1]; rfl) (by decide) rfl (fun ls hl => ?_)
  refine lv_goto (tgt := 59) hC.1 hC.2.1 dX7_lowestUnder_114 (by decide) ?_
  exact hB59 _ _ _ _ _ _ _ H locs ls h hM (lv_sub hl [1, 2, 3, 4, 5, 0] rfl)
set_option maxHeartbeats 4000000 in
set_option maxRecDepth 100000 in
theorem qX7_lowestUnder_59 {p : Program} {l : Launch} {e : Env} {s : State} {m : MethodId} {args : Array Value} {below : List Frame} {meth : Method} {c : Code} {G : Gt} {b0 : Nat} (hC : CallFix p m c cX7_lowestUnder 13 s args lw_g RX7) (hr : meth.sig.returnType = (some .int)) (hlk : meth.locks = false) {K : Int32 → St → Prop} : ∀ (n : Nat) (x0 : Nat) (x3 : Int64) (x5 : Int64) (x7 : Int64) (x9 : Int32) (x10 : Int32) (S : St) (H : Heap) (locs : List Loc) (ls : Array Slot), wX7_lowestUnder_59 K n x0 x3 x5 x7 x9 x10 S → MM G b0 s S H locs → lv_has ls 13 [(0, .ref (b0 + x0)), (3, .long x3), (5, .long x5), (7, .long x7), (9, .int x9), (10, .int x10)] → W p l e rmX7_lowestUnder s m args below meth c H locs 0 0 (MQ below (va_Qi K (ME G b0) (AB b0)) args s 0 0 (AB b0)) (F0 m 59 ls []) := by
  intro n
  induction n with
  | zero =>
    intro x0 x3 x5 x7 x9 x10 S H locs ls h
    exact False.elim h
  | succ n ih =>
    intro x0 x3 x5 x7 x9 x10 S H locs ls h hM hl
    rw [wX7_lowestUnder_59] at h
    refine lv_iload hC.1 hC.2.1 dX7_lowestUnder_59 (lv_at hl 5 rfl) ?_
    refine lv_aload_n hC.1 hC.2.1 dX7_lowestUnder_61 rfl (lv_at hl 0 rfl) ?_
    obtain ⟨ok_2, h⟩ := h
    refine mm_gr hC hM (ci := 7) (j := 1) ok_2 rfl (by decide) (by decide) tw_252 rfl dX7_lowestUnder_62 ?_
    obtain ⟨ok_3, h⟩ := h
    refine mm_gi hC hM (ci := 3) (j := 0) ok_3 rfl (by decide) (by decide) tw_92 rfl dX7_lowestUnder_65 ?_
    refine lv_icmp_ge (tgt := 117) hC.1 hC.2.1 dX7_lowestUnder_68 (by decide) (fun c_4 => ?_) (fun c_4 => ?_)
    · have h := h.1 c_4
      refine lv_iload hC.1 hC.2.1 dX7_lowestUnder_117 (lv_at hl 4 rfl) ?_
      exact mm_iret hC hr hlk hM h dX7_lowestUnder_119
    · have h := h.2 c_4
      refine lv_lload_n hC.1 hC.2.1 dX7_lowestUnder_71 rfl (lv_at hl 1 rfl) ?_
      refine lv_aload_n hC.1 hC.2.1 dX7_lowestUnder_72 rfl (lv_at hl 0 rfl) ?_
      obtain ⟨ok_5, h⟩ := h
      refine mm_gr hC hM (ci := 7) (j := 3) ⟨ok_2.1, ok_5⟩ rfl (by decide) (by decide) tw_254 rfl dX7_lowestUnder_73 ?_
      refine lv_iload hC.1 hC.2.1 dX7_lowestUnder_76 (lv_at hl 5 rfl) ?_
      obtain ⟨ok_6, h⟩ := h
      refine mm_il hC hM ok_6 dX7_lowestUnder_78 ?_
      refine lv_i2l hC.1 hC.2.1 dX7_lowestUnder_79 rfl ?_
      refine lv_lmul hC.1 hC.2.1 dX7_lowestUnder_80 ?_
      refine lv_lload hC.1 hC.2.1 dX7_lowestUnder_81 (lv_at hl 2 rfl) ?_
      refine lv_aload_n hC.1 hC.2.1 dX7_lowestUnder_83 rfl (lv_at hl 0 rfl) ?_
      obtain ⟨ok_7, h⟩ := h
      refine mm_gr hC hM (ci := 7) (j := 4) ⟨ok_2.1, ok_7⟩ rfl (by decide) (by decide) tw_255 rfl dX7_lowestUnder_84 ?_
      refine lv_iload hC.1 hC.2.1 dX7_lowestUnder_87 (lv_at hl 5 rfl) ?_
      obtain ⟨ok_8, h⟩ := h
      refine mm_il hC hM ok_8 dX7_lowestUnder_89 ?_
      refine lv_i2l hC.1 hC.2.1 dX7_lowestUnder_90 rfl ?_
      refine lv_lmul hC.1 hC.2.1 dX7_lowestUnder_91 ?_
      refine lv_ladd hC.1 hC.2.1 dX7_lowestUnder_92 ?_
      refine lv_topl (fun x11_9 ex11_9 => ?_)
      have h := h x11_9 ex11_9
      refine lv_lstore (lv' := [(11, .long x11_9), (0, .ref (b0 + x0)), (3, .long x3), (5, .long x5), (7, .long x7), (9, .int x9), (10, .int x10)]) hC.1 hC.2.1 dX7_lowestUnder_93 hl (by decide) rfl (fun ls hl => ?_)
      refine lv_lload hC.1 hC.2.1 dX7_lowestUnder_95 (lv_at hl 0 rfl) ?_
      refine lv_lload hC.1 hC.2.1 dX7_lowestUnder_97 (lv_at hl 4 rfl) ?_
      refine W.lcmp hC.1 hC.2.1 dX7_lowestUnder_99 ?_
      refine lv_if_ge (tgt := 111) hC.1 hC.2.1 dX7_lowestUnder_100 (by decide) (fun c_10 => ?_) (fun c_10 => ?_)
      · have h := h.1 c_10
        exact qX7_lowestUnder_111 hC hr hlk ih _ _ _ _ _ _ _ H locs ls h hM (lv_sub hl [1, 2, 3, 4, 5, 6] rfl)
      · have h := h.2 c_10
        refine lv_lload hC.1 hC.2.1 dX7_lowestUnder_103 (lv_at hl 0 rfl) ?_
        refine lv_lstore (lv' := [(7, .long x11_9), (11, .long x11_9), (0, .ref (b0 + x0)), (3, .long x3), (5, .long x5), (9, .int x9), (10, .int x10)]) hC.1 hC.2.1 dX7_lowestUnder_105 hl (by decide) rfl (fun ls hl => ?_)
        refine lv_iload hC.1 hC.2.1 dX7_lowestUnder_107 (lv_at hl 6 rfl) ?_
        refine lv_istore (lv' := [(9, .int x10), (7, .long x11_9), (11, .long x11_9), (0, .ref (b0 + x0)), (3, .long x3), (5, .long x5), (10, .int x10)]) hC.1 hC.2.1 dX7_lowestUnder_109 hl (by decide) rfl (fun ls hl => ?_)
        exact qX7_lowestUnder_111 hC hr hlk ih _ _ _ _ _ _ _ H locs ls h hM (lv_sub hl [3, 4, 5, 1, 0, 6] rfl)
set_option maxHeartbeats 4000000 in
set_option maxRecDepth 100000 in
theorem mX7_lowestUnder (l : Launch) (G : Gt) (b0 : Nat) (S : St) (o : Nat) (x1 : Int32) (x2 : Int32) (K : Int32 → St → Prop) : CI l G b0 S yX7_lowestUnder cX7_lowestUnder 13 (some .int) rmX7_lowestUnder [.ref (b0 + o), .int x1, .int x2] (wX7_lowestUnder S o x1 x2 K) K := by
  refine met_of (by decide) (Nat.le_of_ble_eq_true rfl) rfl ?_
  intro p e s m below meth c hC hr hlk hin h H locs ls hM hl
  unfold wX7_lowestUnder at h
  refine lv_aload_n hC.1 hC.2.1 dX7_lowestUnder_0 rfl (lv_at hl 0 rfl) ?_
  obtain ⟨ok_11, h⟩ := h
  refine mm_gr hC hM (ci := 7) (j := 4) ok_11 rfl (by decide) (by decide) tw_255 rfl dX7_lowestUnder_1 ?_
  refine lv_iload_n hC.1 hC.2.1 dX7_lowestUnder_4 rfl (lv_at hl 1 rfl) ?_
  obtain ⟨ok_12, h⟩ := h
  refine mm_il hC hM ok_12 dX7_lowestUnder_5 ?_
  refine lv_aload_n hC.1 hC.2.1 dX7_lowestUnder_6 rfl (lv_at hl 0 rfl) ?_
  refine mm_gr hC hM (ci := 7) (j := 4) ok_11 rfl (by decide) (by decide) tw_255 rfl dX7_lowestUnder_7 ?_
  refine lv_iload_n hC.1 hC.2.1 dX7_lowestUnder_10 rfl (lv_at hl 2 rfl) ?_
  obtain ⟨ok_13, h⟩ := h
  refine mm_il hC hM ok_13 dX7_lowestUnder_11 ?_
  refine lv_isub hC.1 hC.2.1 dX7_lowestUnder_12 ?_
  refine lv_i2l hC.1 hC.2.1 dX7_lowestUnder_13 rfl ?_
  refine lv_topl (fun x3_14 ex3_14 => ?_)
  have h := h x3_14 ex3_14
  refine lv_lstore_n (lv' := [(3, .long x3_14), (0, .ref (b0 + o)), (1, .int x1), (2, .int x2)]) hC.1 hC.2.1 dX7_lowestUnder_14 rfl hl (by decide) rfl (fun ls hl => ?_)
  refine lv_aload_n hC.1 hC.2.1 dX7_lowestUnder_15 rfl (lv_at hl 1 rfl) ?_
  obtain ⟨ok_15, h⟩ := h
  refine mm_gr hC hM (ci := 7) (j := 3) ⟨ok_11.1, ok_15⟩ rfl (by decide) (by decide) tw_254 rfl dX7_lowestUnder_16 ?_
  refine lv_iload_n hC.1 hC.2.1 dX7_lowestUnder_19 rfl (lv_at hl 3 rfl) ?_
  obtain ⟨ok_16, h⟩ := h
  refine mm_il hC hM ok_16 dX7_lowestUnder_20 ?_
  refine lv_aload_n hC.1 hC.2.1 dX7_lowestUnder_21 rfl (lv_at hl 1 rfl) ?_
  refine mm_gr hC hM (ci := 7) (j := 3) ⟨ok_11.1, ok_15⟩ rfl (by decide) (by decide) tw_254 rfl dX7_lowestUnder_22 ?_
  refine lv_iload_n hC.1 hC.2.1 dX7_lowestUnder_25 rfl (lv_at hl 2 rfl) ?_
  obtain ⟨ok_17, h⟩ := h
  refine mm_il hC hM ok_17 dX7_lowestUnder_26 ?_
  refine lv_isub hC.1 hC.2.1 dX7_lowestUnder_27 ?_
  refine lv_i2l hC.1 hC.2.1 dX7_lowestUnder_28 rfl ?_
  refine lv_topl (fun x5_18 ex5_18 => ?_)
  have h := h x5_18 ex5_18
  refine lv_lstore (lv' := [(5, .long x5_18), (3, .long x3_14), (0, .ref (b0 + o)), (1, .int x1), (2, .int x2)]) hC.1 hC.2.1 dX7_lowestUnder_29 hl (by decide) rfl (fun ls hl => ?_)
  refine lv_lload_n hC.1 hC.2.1 dX7_lowestUnder_31 rfl (lv_at hl 1 rfl) ?_
  refine lv_aload_n hC.1 hC.2.1 dX7_lowestUnder_32 rfl (lv_at hl 2 rfl) ?_
  refine mm_gr hC hM (ci := 7) (j := 3) ⟨ok_11.1, ok_15⟩ rfl (by decide) (by decide) tw_254 rfl dX7_lowestUnder_33 ?_
  refine lv_iload_n hC.1 hC.2.1 dX7_lowestUnder_36 rfl (lv_at hl 3 rfl) ?_
  refine mm_il hC hM ok_17 dX7_lowestUnder_37 ?_
  refine lv_i2l hC.1 hC.2.1 dX7_lowestUnder_38 rfl ?_
  refine lv_lmul hC.1 hC.2.1 dX7_lowestUnder_39 ?_
  refine lv_lload hC.1 hC.2.1 dX7_lowestUnder_40 (lv_at hl 0 rfl) ?_
  refine lv_aload_n hC.1 hC.2.1 dX7_lowestUnder_42 rfl (lv_at hl 2 rfl) ?_
  refine mm_gr hC hM (ci := 7) (j := 4) ok_11 rfl (by decide) (by decide) tw_255 rfl dX7_lowestUnder_43 ?_
  refine lv_iload_n hC.1 hC.2.1 dX7_lowestUnder_46 rfl (lv_at hl 3 rfl) ?_
  refine mm_il hC hM ok_12 dX7_lowestUnder_47 ?_
  refine lv_i2l hC.1 hC.2.1 dX7_lowestUnder_48 rfl ?_
  refine lv_lmul hC.1 hC.2.1 dX7_lowestUnder_49 ?_
  refine lv_ladd hC.1 hC.2.1 dX7_lowestUnder_50 ?_
  refine lv_topl (fun x7_19 ex7_19 => ?_)
  have h := h x7_19 ex7_19
  refine lv_lstore (lv' := [(7, .long x7_19), (5, .long x5_18), (3, .long x3_14), (0, .ref (b0 + o)), (1, .int x1), (2, .int x2)]) hC.1 hC.2.1 dX7_lowestUnder_51 hl (by decide) rfl (fun ls hl => ?_)
  refine lv_iconst (v := (-1)) hC.1 hC.2.1 dX7_lowestUnder_53 (by decide) ?_
  refine lv_istore (lv' := [(9, .int (-1)), (7, .long x7_19), (5, .long x5_18), (3, .long x3_14), (0, .ref (b0 + o)), (1, .int x1), (2, .int x2)]) hC.1 hC.2.1 dX7_lowestUnder_54 hl (by decide) rfl (fun ls hl => ?_)
  refine lv_iconst (v := 0) hC.1 hC.2.1 dX7_lowestUnder_56 (by decide) ?_
  refine lv_istore (lv' := [(10, .int 0), (9, .int (-1)), (7, .long x7_19), (5, .long x5_18), (3, .long x3_14), (0, .ref (b0 + o)), (1, .int x1), (2, .int x2)]) hC.1 hC.2.1 dX7_lowestUnder_57 hl (by decide) rfl (fun ls hl => ?_)
  obtain ⟨n1, h⟩ := h
  exact qX7_lowestUnder_59 hC hr hlk n1 _ _ _ _ _ _ _ H locs ls h hM (lv_sub hl [5, 4, 3, 2, 1, 0] rfl)
set_option maxHeartbeats 4000000 in
set_option maxRecDepth 100000 in
theorem mX7_meet (l : Launch) (G : Gt) (b0 : Nat) (S : St) (o : Nat) (x1 : Int32) (x2 : Int32) (K : St → Prop) : CV l G b0 S yX7_meet cX7_meet 9 none rmX7_meet [.ref (b0 + o), .int x1, .int x2] (wX7_meet S o x1 x2 K) K := by
  refine met_of (by decide) (Nat.le_of_ble_eq_true rfl) rfl ?_
  intro p e s m below meth c hC hr hlk hin h H locs ls hM hl
  unfold wX7_meet at h
  refine lv_aload_n hC.1 hC.2.1 dX7_meet_0 rfl (lv_at hl 0 rfl) ?_
  obtain ⟨ok_1, h⟩ := h
  refine mm_gr hC hM (ci := 7) (j := 4) ok_1 rfl (by decide) (by decide) tw_255 rfl dX7_meet_1 ?_
  refine lv_iload_n hC.1 hC.2.1 dX7_meet_4 rfl (lv_at hl 1 rfl) ?_
  obtain ⟨ok_2, h⟩ := h
  refine mm_il hC hM ok_2 dX7_meet_5 ?_
  refine lv_i2l hC.1 hC.2.1 dX7_meet_6 rfl ?_
  refine lv_aload_n hC.1 hC.2.1 dX7_meet_7 rfl (lv_at hl 0 rfl) ?_
  obtain ⟨ok_3, h⟩ := h
  refine mm_gr hC hM (ci := 7) (j := 3) ⟨ok_1.1, ok_3⟩ rfl (by decide) (by decide) tw_254 rfl dX7_meet_8 ?_
  refine lv_iload_n hC.1 hC.2.1 dX7_meet_11 rfl (lv_at hl 2 rfl) ?_
  obtain ⟨ok_4, h⟩ := h
  refine mm_il hC hM ok_4 dX7_meet_12 ?_
  refine lv_i2l hC.1 hC.2.1 dX7_meet_13 rfl ?_
  refine lv_lmul hC.1 hC.2.1 dX7_meet_14 ?_
  refine lv_aload_n hC.1 hC.2.1 dX7_meet_15 rfl (lv_at hl 0 rfl) ?_
  refine mm_gr hC hM (ci := 7) (j := 3) ⟨ok_1.1, ok_3⟩ rfl (by decide) (by decide) tw_254 rfl dX7_meet_16 ?_
  refine lv_iload_n hC.1 hC.2.1 dX7_meet_19 rfl (lv_at hl 1 rfl) ?_
  obtain ⟨ok_5, h⟩ := h
  refine mm_il hC hM ok_5 dX7_meet_20 ?_
  refine lv_i2l hC.1 hC.2.1 dX7_meet_21 rfl ?_
  refine lv_aload_n hC.1 hC.2.1 dX7_meet_22 rfl (lv_at hl 0 rfl) ?_
  refine mm_gr hC hM (ci := 7) (j := 4) ok_1 rfl (by decide) (by decide) tw_255 rfl dX7_meet_23 ?_
  refine lv_iload_n hC.1 hC.2.1 dX7_meet_26 rfl (lv_at hl 2 rfl) ?_
  obtain ⟨ok_6, h⟩ := h
  refine mm_il hC hM ok_6 dX7_meet_27 ?_
  refine lv_i2l hC.1 hC.2.1 dX7_meet_28 rfl ?_
  refine lv_lmul hC.1 hC.2.1 dX7_meet_29 ?_
  refine lv_lsub hC.1 hC.2.1 dX7_meet_30 ?_
  refine lv_topl (fun x3_7 ex3_7 => ?_)
  have h := h x3_7 ex3_7
  refine lv_lstore_n (lv' := [(3, .long x3_7), (0, .ref (b0 + o)), (1, .int x1), (2, .int x2)]) hC.1 hC.2.1 dX7_meet_31 rfl hl (by decide) rfl (fun ls hl => ?_)
  refine lv_aload_n hC.1 hC.2.1 dX7_meet_32 rfl (lv_at hl 1 rfl) ?_
  refine mm_gr hC hM (ci := 7) (j := 4) ok_1 rfl (by decide) (by decide) tw_255 rfl dX7_meet_33 ?_
  refine lv_iload_n hC.1 hC.2.1 dX7_meet_36 rfl (lv_at hl 2 rfl) ?_
  refine mm_il hC hM ok_2 dX7_meet_37 ?_
  refine lv_i2l hC.1 hC.2.1 dX7_meet_38 rfl ?_
  refine lv_aload_n hC.1 hC.2.1 dX7_meet_39 rfl (lv_at hl 1 rfl) ?_
  refine mm_gr hC hM (ci := 7) (j := 3) ⟨ok_1.1, ok_3⟩ rfl (by decide) (by decide) tw_254 rfl dX7_meet_40 ?_
  refine lv_iload_n hC.1 hC.2.1 dX7_meet_43 rfl (lv_at hl 2 rfl) ?_
  refine mm_il hC hM ok_5 dX7_meet_44 ?_
  refine lv_i2l hC.1 hC.2.1 dX7_meet_45 rfl ?_
  refine lv_lsub hC.1 hC.2.1 dX7_meet_46 ?_
  refine lv_aload_n hC.1 hC.2.1 dX7_meet_47 rfl (lv_at hl 1 rfl) ?_
  refine mm_gr hC hM (ci := 7) (j := 3) ⟨ok_1.1, ok_3⟩ rfl (by decide) (by decide) tw_254 rfl dX7_meet_48 ?_
  refine lv_iload_n hC.1 hC.2.1 dX7_meet_51 rfl (lv_at hl 3 rfl) ?_
  refine mm_il hC hM ok_4 dX7_meet_52 ?_
  refine lv_i2l hC.1 hC.2.1 dX7_meet_53 rfl ?_
  refine lv_ladd hC.1 hC.2.1 dX7_meet_54 ?_
  refine lv_aload_n hC.1 hC.2.1 dX7_meet_55 rfl (lv_at hl 1 rfl) ?_
  refine mm_gr hC hM (ci := 7) (j := 4) ok_1 rfl (by decide) (by decide) tw_255 rfl dX7_meet_56 ?_
  refine lv_iload_n hC.1 hC.2.1 dX7_meet_59 rfl (lv_at hl 3 rfl) ?_
  refine mm_il hC hM ok_6 dX7_meet_60 ?_
  refine lv_i2l hC.1 hC.2.1 dX7_meet_61 rfl ?_
  refine lv_lsub hC.1 hC.2.1 dX7_meet_62 ?_
  refine lv_topl (fun x5_8 ex5_8 => ?_)
  have h := h x5_8 ex5_8
  refine lv_lstore (lv' := [(5, .long x5_8), (3, .long x3_7), (0, .ref (b0 + o)), (1, .int x1), (2, .int x2)]) hC.1 hC.2.1 dX7_meet_63 hl (by decide) rfl (fun ls hl => ?_)
  refine lv_lload_n hC.1 hC.2.1 dX7_meet_65 rfl (lv_at hl 1 rfl) ?_
  refine lv_lload hC.1 hC.2.1 dX7_meet_66 (lv_at hl 0 rfl) ?_
  refine mm_rl hM (mm_S (As := [.long x3_7, .long x5_8]) (rest := []) hC hM hl.1 (mX7_commonDivisor l G b0 S x3_7 x5_8 _) h kX7_commonDivisor tw_698 rfl (by decide) rfl (Nat.le_of_ble_eq_true rfl) dX7_meet_68 (by decide)) (fun r_10 S_9 H locs h hM => ?_)
  refine lv_lstore (lv' := [(7, .long r_10), (5, .long x5_8), (3, .long x3_7), (0, .ref (b0 + o)), (1, .int x1), (2, .int x2)]) hC.1 hC.2.1 dX7_meet_71 hl (by decide) rfl (fun ls hl => ?_)
  refine lv_lload hC.1 hC.2.1 dX7_meet_73 (lv_at hl 0 rfl) ?_
  refine lv_lconst (v := 0) hC.1 hC.2.1 dX7_meet_75 (by decide) ?_
  refine W.lcmp hC.1 hC.2.1 dX7_meet_76 ?_
  refine lv_if_le (tgt := 97) hC.1 hC.2.1 dX7_meet_77 (by decide) (fun c_11 => ?_) (fun c_11 => ?_)
  · have h := h.1 c_11
    exact mm_vret hC hr hlk hM h dX7_meet_97
  · have h := h.2 c_11
    refine lv_aload_n hC.1 hC.2.1 dX7_meet_80 rfl (lv_at hl 3 rfl) ?_
    refine lv_lload_n hC.1 hC.2.1 dX7_meet_81 rfl (lv_at hl 2 rfl) ?_
    refine lv_lload hC.1 hC.2.1 dX7_meet_82 (lv_at hl 0 rfl) ?_
    obtain ⟨nz_12, h⟩ := h
    refine lv_ldiv hC.1 hC.2.1 dX7_meet_84 nz_12 ?_
    obtain ⟨ok_13, h⟩ := h
    refine mm_pl hC hM (ci := 7) (j := 5) (ty := .long) ok_13 rfl (by decide) (by decide) tw_256 rfl rfl (by decide +kernel) rfl rfl dX7_meet_85 (fun S_14 H locs eS_14 hM => ?_)
    have h := h S_14 eS_14
    refine lv_aload_n hC.1 hC.2.1 dX7_meet_88 rfl (lv_at hl 3 rfl) ?_
    refine lv_lload hC.1 hC.2.1 dX7_meet_89 (lv_at hl 1 rfl) ?_
    refine lv_lload hC.1 hC.2.1 dX7_meet_91 (lv_at hl 0 rfl) ?_
    obtain ⟨nz_15, h⟩ := h
    refine lv_ldiv hC.1 hC.2.1 dX7_meet_93 nz_15 ?_
    obtain ⟨ok_16, h⟩ := h
    refine mm_pl hC hM (ci := 7) (j := 6) (ty := .long) ok_16 rfl (by decide) (by decide) tw_258 rfl rfl (by decide +kernel) rfl rfl dX7_meet_94 (fun S_17 H locs eS_17 hM => ?_)
    have h := h S_17 eS_17
    exact mm_vret hC hr hlk hM h dX7_meet_97
set_option maxHeartbeats 4000000 in
set_option maxRecDepth 100000 in
theorem qX7_draw_108 {p : Program} {l : Launch} {e : Env} {s : State} {m : MethodId} {args : Array Value} {below : List Frame} {meth : Method} {c : Code} {G : Gt} {b0 : Nat} (hC : CallFix p m c cX7_draw 5 s args lw_g RX7) (hr : meth.sig.returnType = none) (hlk : meth.locks = false) {K : St → Prop} : ∀ (x0 : Nat) (x1 : Int32) (x2 : Int32) (S : St) (H : Heap) (locs : List Loc) (ls : Array Slot), wX7_draw_108 K x0 x1 x2 S → MM G b0 s S H locs → lv_has ls 5 [(0, .ref (b0 + x0)), (1, .int x1), (2, .int x2)] → W p l e rmX7_draw s m args below meth c H locs 0 0 (MQ below (va_Qv K (ME G b0) (AB b0)) args s 0 0 (AB b0)) (F0 m 108 ls []) := by
  intro x0 x1 x2 S H locs ls h hM hl
  unfold wX7_draw_108 at h
  refine lv_aload_n hC.1 hC.2.1 dX7_draw_108 rfl (lv_at hl 0 rfl) ?_
  refine lv_iload_n hC.1 hC.2.1 dX7_draw_109 rfl (lv_at hl 1 rfl) ?_
  refine lv_iload_n hC.1 hC.2.1 dX7_draw_110 rfl (lv_at hl 2 rfl) ?_
  obtain ⟨ok_3, h⟩ := h
  refine mm_rv hM (mm_V (As := [.int x1, .int x2]) (rest := []) hC hM hl.1 (mX7_meet l G b0 S x0 x1 x2 _) h (ci := 7) ok_3 rfl rfl kX7_meet tw_694 rfl (by decide) rfl (Nat.le_of_ble_eq_true rfl) dX7_draw_111 (by decide)) (fun S_1 H locs h hM => ?_)
  exact mm_vret hC hr hlk hM h dX7_draw_114
set_option maxHeartbeats 4000000 in
set_option maxRecDepth 100000 in
theorem qX7_draw_73 {p : Program} {l : Launch} {e : Env} {s : State} {m : MethodId} {args : Array Value} {below : List Frame} {meth : Method} {c : Code} {G : Gt} {b0 : Nat} (hC : CallFix p m c cX7_draw 5 s args lw_g RX7) (hr : meth.sig.returnType = none) (hlk : meth.locks = false) {K : St → Prop} : ∀ (x0 : Nat) (x1 : Int32) (x2 : Int32) (S : St) (H : Heap) (locs : List Loc) (ls : Array Slot), wX7_draw_73 K x0 x1 x2 S → MM G b0 s S H locs → lv_has ls 5 [(0, .ref (b0 + x0)), (1, .int x1), (2, .int x2)] → W p l e rmX7_draw s m args below meth c H locs 0 0 (MQ below (va_Qv K (ME G b0) (AB b0)) args s 0 0 (AB b0)) (F0 m 73 ls []) := by
  intro x0 x1 x2 S H locs ls h hM hl
  unfold wX7_draw_73 at h
  refine lv_goto (tgt := 108) hC.1 hC.2.1 dX7_draw_73 (by decide) ?_
  exact qX7_draw_108 hC hr hlk _ _ _ _ H locs ls h hM (lv_sub hl [0, 1, 2] rfl)
set_option maxHeartbeats 4000000 in
set_option maxRecDepth 100000 in
theorem qX7_draw_102 {p : Program} {l : Launch} {e : Env} {s : State} {m : MethodId} {args : Array Value} {below : List Frame} {meth : Method} {c : Code} {G : Gt} {b0 : Nat} (hC : CallFix p m c cX7_draw 5 s args lw_g RX7) (hr : meth.sig.returnType = none) (hlk : meth.locks = false) {K : St → Prop} {B48 : Nat → Int32 → Int32 → Int32 → St → Prop} (hB48 : ∀ (x0 : Nat) (x1 : Int32) (x2 : Int32) (x3 : Int32) (S : St) (H : Heap) (locs : List Loc) (ls : Array Slot), B48 x0 x1 x2 x3 S → MM G b0 s S H locs → lv_has ls 5 [(0, .ref (b0 + x0)), (1, .int x1), (2, .int x2), (3, .int x3)] → W p l e rmX7_draw s m args below meth c H locs 0 0 (MQ below (va_Qv K (ME G b0) (AB b0)) args s 0 0 (AB b0)) (F0 m 48 ls [])) : ∀ (x0 : Nat) (x1 : Int32) (x2 : Int32) (x3 : Int32) (S : St) (H : Heap) (locs : List Loc) (ls : Array Slot), wX7_draw_102 K B48 x0 x1 x2 x3 S → MM G b0 s S H locs → lv_has ls 5 [(0, .ref (b0 + x0)), (1, .int x1), (2, .int x2), (3, .int x3)] → W p l e rmX7_draw s m args below meth c H locs 0 0 (MQ below (va_Qv K (ME G b0) (AB b0)) args s 0 0 (AB b0)) (F0 m 102 ls []) := by
  intro x0 x1 x2 x3 S H locs ls h hM hl
  unfold wX7_draw_102 at h
  obtain ⟨x3_4, ex3_4⟩ : ∃ y : Int32, y = x3 + 1 := ⟨_, rfl⟩
  have h := h x3_4 ex3_4
  refine lv_iinc (v := x3_4) (lv' := [(3, .int x3_4), (0, .ref (b0 + x0)), (1, .int x1), (2, .int x2)]) hC.1 hC.2.1 dX7_draw_102 hl (k := 3) rfl (by rw [ex3_4]; rfl) (by decide) rfl (fun ls hl => ?_)
  refine lv_goto (tgt := 48) hC.1 hC.2.1 dX7_draw_105 (by decide) ?_
  exact hB48 _ _ _ _ _ H locs ls h hM (lv_sub hl [1, 2, 3, 0] rfl)
set_option maxHeartbeats 4000000 in
set_option maxRecDepth 100000 in
theorem qX7_draw_48 {p : Program} {l : Launch} {e : Env} {s : State} {m : MethodId} {args : Array Value} {below : List Frame} {meth : Method} {c : Code} {G : Gt} {b0 : Nat} (hC : CallFix p m c cX7_draw 5 s args lw_g RX7) (hr : meth.sig.returnType = none) (hlk : meth.locks = false) {K : St → Prop} : ∀ (n : Nat) (x0 : Nat) (x1 : Int32) (x2 : Int32) (x3 : Int32) (S : St) (H : Heap) (locs : List Loc) (ls : Array Slot), wX7_draw_48 K n x0 x1 x2 x3 S → MM G b0 s S H locs → lv_has ls 5 [(0, .ref (b0 + x0)), (1, .int x1), (2, .int x2), (3, .int x3)] → W p l e rmX7_draw s m args below meth c H locs 0 0 (MQ below (va_Qv K (ME G b0) (AB b0)) args s 0 0 (AB b0)) (F0 m 48 ls []) := by
  intro n
  induction n with
  | zero =>
    intro x0 x1 x2 x3 S H locs ls h
    exact False.elim h
  | succ n ih =>
    intro x0 x1 x2 x3 S H locs ls h hM hl
    rw [wX7_draw_48] at h
    refine lv_iload_n hC.1 hC.2.1 dX7_draw_48 rfl (lv_at hl 3 rfl) ?_
    refine lv_aload_n hC.1 hC.2.1 dX7_draw_49 rfl (lv_at hl 0 rfl) ?_
    obtain ⟨ok_5, h⟩ := h
    refine mm_gr hC hM (ci := 7) (j := 1) ok_5 rfl (by decide) (by decide) tw_252 rfl dX7_draw_50 ?_
    obtain ⟨ok_6, h⟩ := h
    refine mm_gi hC hM (ci := 3) (j := 0) ok_6 rfl (by decide) (by decide) tw_92 rfl dX7_draw_53 ?_
    refine lv_icmp_ge (tgt := 108) hC.1 hC.2.1 dX7_draw_56 (by decide) (fun c_7 => ?_) (fun c_7 => ?_)
    · have h := h.1 c_7
      exact qX7_draw_108 hC hr hlk _ _ _ _ H locs ls h hM (lv_sub hl [0, 1, 2] rfl)
    · have h := h.2 c_7
      refine lv_aload_n hC.1 hC.2.1 dX7_draw_59 rfl (lv_at hl 0 rfl) ?_
      refine lv_iload_n hC.1 hC.2.1 dX7_draw_60 rfl (lv_at hl 1 rfl) ?_
      refine lv_iload_n hC.1 hC.2.1 dX7_draw_61 rfl (lv_at hl 2 rfl) ?_
      refine mm_ri hM (mm_V (As := [.int x1, .int x2]) (rest := []) hC hM hl.1 (mX7_lowestUnder l G b0 S x0 x1 x2 _) h (ci := 7) ok_5.1 rfl rfl kX7_lowestUnder tw_690 rfl (by decide) rfl (Nat.le_of_ble_eq_true rfl) dX7_draw_62 (by decide)) (fun r_9 S_8 H locs h hM => ?_)
      refine lv_istore (lv' := [(4, .int r_9), (0, .ref (b0 + x0)), (1, .int x1), (2, .int x2), (3, .int x3)]) hC.1 hC.2.1 dX7_draw_65 hl (by decide) rfl (fun ls hl => ?_)
      refine lv_iload hC.1 hC.2.1 dX7_draw_67 (lv_at hl 0 rfl) ?_
      refine lv_iconst (v := (-1)) hC.1 hC.2.1 dX7_draw_69 (by decide) ?_
      refine lv_icmp_ne (tgt := 76) hC.1 hC.2.1 dX7_draw_70 (by decide) (fun c_10 => ?_) (fun c_10 => ?_)
      · have h := h.2 c_10
        refine lv_aload_n hC.1 hC.2.1 dX7_draw_76 rfl (lv_at hl 1 rfl) ?_
        obtain ⟨ok_11, h⟩ := h
        refine mm_gr hC hM (ci := 7) (j := 3) ok_11 rfl (by decide) (by decide) tw_254 rfl dX7_draw_77 ?_
        refine lv_iload hC.1 hC.2.1 dX7_draw_80 (lv_at hl 0 rfl) ?_
        obtain ⟨ok_12, h⟩ := h
        refine mm_il hC hM ok_12 dX7_draw_82 ?_
        refine lv_aload_n hC.1 hC.2.1 dX7_draw_83 rfl (lv_at hl 1 rfl) ?_
        obtain ⟨ok_13, h⟩ := h
        refine mm_gr hC hM (ci := 7) (j := 4) ⟨ok_11.1, ok_13⟩ rfl (by decide) (by decide) tw_255 rfl dX7_draw_84 ?_
        refine lv_iload hC.1 hC.2.1 dX7_draw_87 (lv_at hl 0 rfl) ?_
        obtain ⟨ok_14, h⟩ := h
        refine mm_il hC hM ok_14 dX7_draw_89 ?_
        refine lv_icmp_le (tgt := 99) hC.1 hC.2.1 dX7_draw_90 (by decide) (fun c_15 => ?_) (fun c_15 => ?_)
        · have h := h.1 c_15
          refine lv_iload hC.1 hC.2.1 dX7_draw_99 (lv_at hl 0 rfl) ?_
          refine lv_istore_n (lv' := [(1, .int r_9), (4, .int r_9), (0, .ref (b0 + x0)), (2, .int x2), (3, .int x3)]) hC.1 hC.2.1 dX7_draw_101 rfl hl (by decide) rfl (fun ls hl => ?_)
          exact qX7_draw_102 hC hr hlk ih _ _ _ _ _ H locs ls h hM (lv_sub hl [2, 0, 3, 4] rfl)
        · have h := h.2 c_15
          refine lv_iload hC.1 hC.2.1 dX7_draw_93 (lv_at hl 0 rfl) ?_
          refine lv_istore_n (lv' := [(2, .int r_9), (4, .int r_9), (0, .ref (b0 + x0)), (1, .int x1), (3, .int x3)]) hC.1 hC.2.1 dX7_draw_95 rfl hl (by decide) rfl (fun ls hl => ?_)
          refine lv_goto (tgt := 102) hC.1 hC.2.1 dX7_draw_96 (by decide) ?_
          exact qX7_draw_102 hC hr hlk ih _ _ _ _ _ H locs ls h hM (lv_sub hl [2, 3, 0, 4] rfl)
      · have h := h.1 c_10
        exact qX7_draw_73 hC hr hlk _ _ _ _ H locs ls h hM (lv_sub hl [1, 2, 3] rfl)
set_option maxHeartbeats 4000000 in
set_option maxRecDepth 100000 in
theorem mX7_draw (l : Launch) (G : Gt) (b0 : Nat) (S : St) (o : Nat) (K : St → Prop) : CV l G b0 S yX7_draw cX7_draw 5 none rmX7_draw [.ref (b0 + o)] (wX7_draw S o K) K := by
  refine met_of (by decide) (Nat.le_of_ble_eq_true rfl) rfl ?_
  intro p e s m below meth c hC hr hlk hin h H locs ls hM hl
  unfold wX7_draw at h
  refine lv_aload_n hC.1 hC.2.1 dX7_draw_0 rfl (lv_at hl 0 rfl) ?_
  refine lv_aload_n hC.1 hC.2.1 dX7_draw_1 rfl (lv_at hl 0 rfl) ?_
  obtain ⟨ok_16, h⟩ := h
  refine mm_gr hC hM (ci := 7) (j := 3) ok_16 rfl (by decide) (by decide) tw_254 rfl dX7_draw_2 ?_
  refine lv_aload_n hC.1 hC.2.1 dX7_draw_5 rfl (lv_at hl 0 rfl) ?_
  obtain ⟨ok_17, h⟩ := h
  refine mm_gr hC hM (ci := 7) (j := 4) ⟨ok_16.1, ok_17⟩ rfl (by decide) (by decide) tw_255 rfl dX7_draw_6 ?_
  refine mm_ri hM (mm_V (As := [.ref (b0 + (sR S o 3)), .ref (b0 + (sR S o 4))]) (rest := []) hC hM hl.1 (mX7_leastBy l G b0 S o (sR S o 3) (sR S o 4) _) h (ci := 7) ok_16.1 rfl rfl kX7_leastBy tw_686 rfl (by decide) rfl (Nat.le_of_ble_eq_true rfl) dX7_draw_9 (by decide)) (fun r_19 S_18 H locs h hM => ?_)
  refine lv_istore_n (lv' := [(1, .int r_19), (0, .ref (b0 + o))]) hC.1 hC.2.1 dX7_draw_12 rfl hl (by decide) rfl (fun ls hl => ?_)
  refine lv_aload_n hC.1 hC.2.1 dX7_draw_13 rfl (lv_at hl 1 rfl) ?_
  refine lv_aload_n hC.1 hC.2.1 dX7_draw_14 rfl (lv_at hl 1 rfl) ?_
  obtain ⟨ok_20, h⟩ := h
  refine mm_gr hC hM (ci := 7) (j := 4) ok_20 rfl (by decide) (by decide) tw_255 rfl dX7_draw_15 ?_
  refine lv_aload_n hC.1 hC.2.1 dX7_draw_18 rfl (lv_at hl 1 rfl) ?_
  obtain ⟨ok_21, h⟩ := h
  refine mm_gr hC hM (ci := 7) (j := 3) ⟨ok_20.1, ok_21⟩ rfl (by decide) (by decide) tw_254 rfl dX7_draw_19 ?_
  refine mm_ri hM (mm_V (As := [.ref (b0 + (sR S_18 o 4)), .ref (b0 + (sR S_18 o 3))]) (rest := []) hC hM hl.1 (mX7_leastBy l G b0 S_18 o (sR S_18 o 4) (sR S_18 o 3) _) h (ci := 7) ok_20.1 rfl rfl kX7_leastBy tw_686 rfl (by decide) rfl (Nat.le_of_ble_eq_true rfl) dX7_draw_22 (by decide)) (fun r_23 S_22 H locs h hM => ?_)
  refine lv_istore_n (lv' := [(2, .int r_23), (1, .int r_19), (0, .ref (b0 + o))]) hC.1 hC.2.1 dX7_draw_25 rfl hl (by decide) rfl (fun ls hl => ?_)
  refine lv_aload_n hC.1 hC.2.1 dX7_draw_26 rfl (lv_at hl 2 rfl) ?_
  obtain ⟨ok_24, h⟩ := h
  refine mm_gr hC hM (ci := 7) (j := 4) ok_24 rfl (by decide) (by decide) tw_255 rfl dX7_draw_27 ?_
  refine lv_iload_n hC.1 hC.2.1 dX7_draw_30 rfl (lv_at hl 1 rfl) ?_
  obtain ⟨ok_25, h⟩ := h
  refine mm_il hC hM ok_25 dX7_draw_31 ?_
  refine lv_if_ne (tgt := 46) hC.1 hC.2.1 dX7_draw_32 (by decide) (fun c_26 => ?_) (fun c_26 => ?_)
  · have h := h.2 c_26
    refine lv_iconst (v := 0) hC.1 hC.2.1 dX7_draw_46 (by decide) ?_
    refine lv_istore_n (lv' := [(3, .int 0), (2, .int r_23), (1, .int r_19), (0, .ref (b0 + o))]) hC.1 hC.2.1 dX7_draw_47 rfl hl (by decide) rfl (fun ls hl => ?_)
    obtain ⟨n1, h⟩ := h
    exact qX7_draw_48 hC hr hlk n1 _ _ _ _ _ H locs ls h hM (lv_sub hl [3, 2, 1, 0] rfl)
  · have h := h.1 c_26
    refine lv_aload_n hC.1 hC.2.1 dX7_draw_35 rfl (lv_at hl 2 rfl) ?_
    refine lv_lconst (v := 0) hC.1 hC.2.1 dX7_draw_36 (by decide) ?_
    refine mm_pl hC hM (ci := 7) (j := 5) (ty := .long) ok_24.1 rfl (by decide) (by decide) tw_256 rfl rfl (by decide +kernel) rfl rfl dX7_draw_37 (fun S_27 H locs eS_27 hM => ?_)
    have h := h S_27 eS_27
    refine lv_aload_n hC.1 hC.2.1 dX7_draw_40 rfl (lv_at hl 2 rfl) ?_
    refine lv_lconst (v := 1) hC.1 hC.2.1 dX7_draw_41 (by decide) ?_
    obtain ⟨ok_28, h⟩ := h
    refine mm_pl hC hM (ci := 7) (j := 6) (ty := .long) ok_28 rfl (by decide) (by decide) tw_258 rfl rfl (by decide +kernel) rfl rfl dX7_draw_42 (fun S_29 H locs eS_29 hM => ?_)
    have h := h S_29 eS_29
    exact mm_vret hC hr hlk hM h dX7_draw_45
set_option maxHeartbeats 4000000 in
set_option maxRecDepth 100000 in
theorem qX7_fillRues_83 {p : Program} {l : Launch} {e : Env} {s : State} {m : MethodId} {args : Array Value} {below : List Frame} {meth : Method} {c : Code} {G : Gt} {b0 : Nat} (hC : CallFix p m c cX7_fillRues 6 s args lw_g RX7) (hr : meth.sig.returnType = none) (hlk : meth.locks = false) {K : St → Prop} : ∀ (n : Nat) (x0 : Nat) (x1 : Nat) (x4 : Int32) (x5 : Int32) (S : St) (H : Heap) (locs : List Loc) (ls : Array Slot), wX7_fillRues_83 K n x0 x1 x4 x5 S → MM G b0 s S H locs → lv_has ls 6 [(0, .ref (b0 + x0)), (1, .ref (b0 + x1)), (4, .int x4), (5, .int x5)] → W p l e rmX7_fillRues s m args below meth c H locs 0 0 (MQ below (va_Qv K (ME G b0) (AB b0)) args s 0 0 (AB b0)) (F0 m 83 ls []) := by
  intro n
  induction n with
  | zero =>
    intro x0 x1 x4 x5 S H locs ls h
    exact False.elim h
  | succ n ih =>
    intro x0 x1 x4 x5 S H locs ls h hM hl
    rw [wX7_fillRues_83] at h
    refine lv_iload hC.1 hC.2.1 dX7_fillRues_83 (lv_at hl 3 rfl) ?_
    refine lv_aload_n hC.1 hC.2.1 dX7_fillRues_85 rfl (lv_at hl 0 rfl) ?_
    obtain ⟨ok_1, h⟩ := h
    refine mm_gr hC hM (ci := 7) (j := 1) ok_1 rfl (by decide) (by decide) tw_252 rfl dX7_fillRues_86 ?_
    obtain ⟨ok_2, h⟩ := h
    refine mm_gi hC hM (ci := 3) (j := 0) ok_2 rfl (by decide) (by decide) tw_92 rfl dX7_fillRues_89 ?_
    refine lv_icmp_ge (tgt := 110) hC.1 hC.2.1 dX7_fillRues_92 (by decide) (fun c_3 => ?_) (fun c_3 => ?_)
    · have h := h.1 c_3
      exact mm_vret hC hr hlk hM h dX7_fillRues_110
    · have h := h.2 c_3
      refine lv_aload_n hC.1 hC.2.1 dX7_fillRues_95 rfl (lv_at hl 1 rfl) ?_
      refine lv_iload hC.1 hC.2.1 dX7_fillRues_96 (lv_at hl 3 rfl) ?_
      refine lv_dup2_11 hC.1 hC.2.1 dX7_fillRues_98 rfl rfl ?_
      obtain ⟨ok_4, h⟩ := h
      refine mm_il hC hM ok_4 dX7_fillRues_99 ?_
      refine lv_iload hC.1 hC.2.1 dX7_fillRues_100 (lv_at hl 2 rfl) ?_
      refine lv_isub hC.1 hC.2.1 dX7_fillRues_102 ?_
      refine mm_is hC hM ok_4 dX7_fillRues_103 (fun S_5 H locs eS_5 hM => ?_)
      have h := h S_5 eS_5
      obtain ⟨x5_6, ex5_6⟩ : ∃ y : Int32, y = x5 + 1 := ⟨_, rfl⟩
      have h := h x5_6 ex5_6
      refine lv_iinc (v := x5_6) (lv' := [(5, .int x5_6), (0, .ref (b0 + x0)), (1, .ref (b0 + x1)), (4, .int x4)]) hC.1 hC.2.1 dX7_fillRues_104 hl (k := 3) rfl (by rw [ex5_6]; rfl) (by decide) rfl (fun ls hl => ?_)
      refine lv_goto (tgt := 83) hC.1 hC.2.1 dX7_fillRues_107 (by decide) ?_
      exact ih _ _ _ _ _ H locs ls h hM (lv_sub hl [1, 2, 3, 0] rfl)
set_option maxHeartbeats 4000000 in
set_option maxRecDepth 100000 in
theorem qX7_fillRues_78 {p : Program} {l : Launch} {e : Env} {s : State} {m : MethodId} {args : Array Value} {below : List Frame} {meth : Method} {c : Code} {G : Gt} {b0 : Nat} (hC : CallFix p m c cX7_fillRues 6 s args lw_g RX7) (hr : meth.sig.returnType = none) (hlk : meth.locks = false) {K : St → Prop} : ∀ (x0 : Nat) (x1 : Nat) (t0 : Int32) (S : St) (H : Heap) (locs : List Loc) (ls : Array Slot), wX7_fillRues_78 K x0 x1 t0 S → MM G b0 s S H locs → lv_has ls 6 [(0, .ref (b0 + x0)), (1, .ref (b0 + x1))] → W p l e rmX7_fillRues s m args below meth c H locs 0 0 (MQ below (va_Qv K (ME G b0) (AB b0)) args s 0 0 (AB b0)) (F0 m 78 ls [.int t0]) := by
  intro x0 x1 t0 S H locs ls h hM hl
  unfold wX7_fillRues_78 at h
  refine lv_istore (lv' := [(4, .int t0), (0, .ref (b0 + x0)), (1, .ref (b0 + x1))]) hC.1 hC.2.1 dX7_fillRues_78 hl (by decide) rfl (fun ls hl => ?_)
  refine lv_iconst (v := 0) hC.1 hC.2.1 dX7_fillRues_80 (by decide) ?_
  refine lv_istore (lv' := [(5, .int 0), (4, .int t0), (0, .ref (b0 + x0)), (1, .ref (b0 + x1))]) hC.1 hC.2.1 dX7_fillRues_81 hl (by decide) rfl (fun ls hl => ?_)
  obtain ⟨n1, h⟩ := h
  exact qX7_fillRues_83 hC hr hlk n1 _ _ _ _ _ H locs ls h hM (lv_sub hl [2, 3, 1, 0] rfl)
set_option maxHeartbeats 4000000 in
set_option maxRecDepth 100000 in
theorem qX7_fillRues_54 {p : Program} {l : Launch} {e : Env} {s : State} {m : MethodId} {args : Array Value} {below : List Frame} {meth : Method} {c : Code} {G : Gt} {b0 : Nat} (hC : CallFix p m c cX7_fillRues 6 s args lw_g RX7) (hr : meth.sig.returnType = none) (hlk : meth.locks = false) {K : St → Prop} : ∀ (x0 : Nat) (x1 : Nat) (S : St) (H : Heap) (locs : List Loc) (ls : Array Slot), wX7_fillRues_54 K x0 x1 S → MM G b0 s S H locs → lv_has ls 6 [(0, .ref (b0 + x0)), (1, .ref (b0 + x1))] → W p l e rmX7_fillRues s m args below meth c H locs 0 0 (MQ below (va_Qv K (ME G b0) (AB b0)) args s 0 0 (AB b0)) (F0 m 54 ls []) := by
  intro x0 x1 S H locs ls h hM hl
  unfold wX7_fillRues_54 at h
  refine lv_aload_n hC.1 hC.2.1 dX7_fillRues_54 rfl (lv_at hl 1 rfl) ?_
  refine lv_aload_n hC.1 hC.2.1 dX7_fillRues_55 rfl (lv_at hl 0 rfl) ?_
  obtain ⟨ok_7, h⟩ := h
  refine mm_gr hC hM (ci := 7) (j := 1) ok_7 rfl (by decide) (by decide) tw_252 rfl dX7_fillRues_56 ?_
  obtain ⟨ok_8, h⟩ := h
  refine mm_gi hC hM (ci := 3) (j := 0) ok_8 rfl (by decide) (by decide) tw_92 rfl dX7_fillRues_59 ?_
  refine mm_ri hM (mm_SN (As := [.ref (b0 + x1), .int (sI S (sR S x0 1) 0)]) (rest := []) hC hM hl.1 (mX8_firstLeast l G b0 S x1 (sI S (sR S x0 1) 0) _) h kX8_firstLeast nn_11 rfl (by decide) rfl (Nat.le_of_ble_eq_true rfl) dX7_fillRues_62 (by decide)) (fun r_10 S_9 H locs h hM => ?_)
  refine lv_istore_n (lv' := [(3, .int r_10), (0, .ref (b0 + x0)), (1, .ref (b0 + x1))]) hC.1 hC.2.1 dX7_fillRues_65 rfl hl (by decide) rfl (fun ls hl => ?_)
  refine lv_iload_n hC.1 hC.2.1 dX7_fillRues_66 rfl (lv_at hl 0 rfl) ?_
  refine lv_iconst (v := (-1)) hC.1 hC.2.1 dX7_fillRues_67 (by decide) ?_
  refine lv_icmp_ne (tgt := 75) hC.1 hC.2.1 dX7_fillRues_68 (by decide) (fun c_11 => ?_) (fun c_11 => ?_)
  · have h := h.2 c_11
    refine lv_aload_n hC.1 hC.2.1 dX7_fillRues_75 rfl (lv_at hl 2 rfl) ?_
    refine lv_iload_n hC.1 hC.2.1 dX7_fillRues_76 rfl (lv_at hl 0 rfl) ?_
    obtain ⟨ok_12, h⟩ := h
    refine mm_il hC hM ok_12 dX7_fillRues_77 ?_
    exact qX7_fillRues_78 hC hr hlk _ _ _ _ H locs ls h hM (lv_sub hl [1, 2] rfl)
  · have h := h.1 c_11
    refine lv_iconst (v := 0) hC.1 hC.2.1 dX7_fillRues_71 (by decide) ?_
    refine lv_goto (tgt := 78) hC.1 hC.2.1 dX7_fillRues_72 (by decide) ?_
    exact qX7_fillRues_78 hC hr hlk _ _ _ _ H locs ls h hM (lv_sub hl [1, 2] rfl)
set_option maxHeartbeats 4000000 in
set_option maxRecDepth 100000 in
theorem qX7_fillRues_18 {p : Program} {l : Launch} {e : Env} {s : State} {m : MethodId} {args : Array Value} {below : List Frame} {meth : Method} {c : Code} {G : Gt} {b0 : Nat} (hC : CallFix p m c cX7_fillRues 6 s args lw_g RX7) (hr : meth.sig.returnType = none) (hlk : meth.locks = false) {K : St → Prop} : ∀ (n : Nat) (x0 : Nat) (x1 : Nat) (x3 : Int32) (S : St) (H : Heap) (locs : List Loc) (ls : Array Slot), wX7_fillRues_18 K n x0 x1 x3 S → MM G b0 s S H locs → lv_has ls 6 [(0, .ref (b0 + x0)), (1, .ref (b0 + x1)), (3, .int x3)] → W p l e rmX7_fillRues s m args below meth c H locs 0 0 (MQ below (va_Qv K (ME G b0) (AB b0)) args s 0 0 (AB b0)) (F0 m 18 ls []) := by
  intro n
  induction n with
  | zero =>
    intro x0 x1 x3 S H locs ls h
    exact False.elim h
  | succ n ih =>
    intro x0 x1 x3 S H locs ls h hM hl
    rw [wX7_fillRues_18] at h
    refine lv_iload_n hC.1 hC.2.1 dX7_fillRues_18 rfl (lv_at hl 2 rfl) ?_
    refine lv_aload_n hC.1 hC.2.1 dX7_fillRues_19 rfl (lv_at hl 0 rfl) ?_
    obtain ⟨ok_13, h⟩ := h
    refine mm_gr hC hM (ci := 7) (j := 1) ok_13 rfl (by decide) (by decide) tw_252 rfl dX7_fillRues_20 ?_
    obtain ⟨ok_14, h⟩ := h
    refine mm_gi hC hM (ci := 3) (j := 0) ok_14 rfl (by decide) (by decide) tw_92 rfl dX7_fillRues_23 ?_
    refine lv_icmp_ge (tgt := 54) hC.1 hC.2.1 dX7_fillRues_26 (by decide) (fun c_15 => ?_) (fun c_15 => ?_)
    · have h := h.1 c_15
      exact qX7_fillRues_54 hC hr hlk _ _ _ H locs ls h hM (lv_sub hl [0, 1] rfl)
    · have h := h.2 c_15
      refine lv_aload_n hC.1 hC.2.1 dX7_fillRues_29 rfl (lv_at hl 1 rfl) ?_
      refine lv_iload_n hC.1 hC.2.1 dX7_fillRues_30 rfl (lv_at hl 2 rfl) ?_
      refine lv_aload_n hC.1 hC.2.1 dX7_fillRues_31 rfl (lv_at hl 0 rfl) ?_
      obtain ⟨ok_16, h⟩ := h
      refine mm_gr hC hM (ci := 7) (j := 2) ⟨ok_13.1, ok_16⟩ rfl (by decide) (by decide) tw_253 rfl dX7_fillRues_32 ?_
      refine lv_aload_n hC.1 hC.2.1 dX7_fillRues_35 rfl (lv_at hl 0 rfl) ?_
      refine mm_gr hC hM (ci := 7) (j := 1) ok_13 rfl (by decide) (by decide) tw_252 rfl dX7_fillRues_36 ?_
      obtain ⟨ok_17, h⟩ := h
      refine mm_gr hC hM (ci := 3) (j := 1) ⟨ok_14, ok_17⟩ rfl (by decide) (by decide) tw_98 rfl dX7_fillRues_39 ?_
      refine lv_iload_n hC.1 hC.2.1 dX7_fillRues_42 rfl (lv_at hl 2 rfl) ?_
      obtain ⟨ok_18, h⟩ := h
      refine mm_il hC hM ok_18 dX7_fillRues_43 ?_
      obtain ⟨ok_21, h⟩ := h
      refine mm_ri hM (mm_V (As := [.int (sI S (sR S (sR S x0 1) 1) (x3 : Int32).toNatClampNeg)]) (rest := [.int x3, .ref (b0 + x1)]) hC hM hl.1 (mX5_total l G b0 S (sR S x0 2) (sI S (sR S (sR S x0 1) 1) (x3 : Int32).toNatClampNeg) _) h (ci := 5) ok_21 rfl rfl kX5_total tw_657 rfl (by decide) rfl (Nat.le_of_ble_eq_true rfl) dX7_fillRues_44 (by decide)) (fun r_20 S_19 H locs h hM => ?_)
      obtain ⟨ok_22, h⟩ := h
      refine mm_is hC hM ok_22 dX7_fillRues_47 (fun S_23 H locs eS_23 hM => ?_)
      have h := h S_23 eS_23
      obtain ⟨x3_24, ex3_24⟩ : ∃ y : Int32, y = x3 + 1 := ⟨_, rfl⟩
      have h := h x3_24 ex3_24
      refine lv_iinc (v := x3_24) (lv' := [(3, .int x3_24), (0, .ref (b0 + x0)), (1, .ref (b0 + x1))]) hC.1 hC.2.1 dX7_fillRues_48 hl (k := 2) rfl (by rw [ex3_24]; rfl) (by decide) rfl (fun ls hl => ?_)
      refine lv_goto (tgt := 18) hC.1 hC.2.1 dX7_fillRues_51 (by decide) ?_
      exact ih _ _ _ _ H locs ls h hM (lv_sub hl [1, 2, 0] rfl)
set_option maxHeartbeats 4000000 in
set_option maxRecDepth 100000 in
theorem mX7_fillRues (l : Launch) (G : Gt) (b0 : Nat) (S : St) (o : Nat) (x1 : Nat) (x2 : Int32) (K : St → Prop) : CV l G b0 S yX7_fillRues cX7_fillRues 6 none rmX7_fillRues [.ref (b0 + o), .ref (b0 + x1), .int x2] (wX7_fillRues S o x1 x2 K) K := by
  refine met_of (by decide) (Nat.le_of_ble_eq_true rfl) rfl ?_
  intro p e s m below meth c hC hr hlk hin h H locs ls hM hl
  unfold wX7_fillRues at h
  refine lv_aload_n hC.1 hC.2.1 dX7_fillRues_0 rfl (lv_at hl 0 rfl) ?_
  obtain ⟨ok_25, h⟩ := h
  refine mm_gr hC hM (ci := 7) (j := 2) ok_25 rfl (by decide) (by decide) tw_253 rfl dX7_fillRues_1 ?_
  refine lv_aload_n hC.1 hC.2.1 dX7_fillRues_4 rfl (lv_at hl 0 rfl) ?_
  obtain ⟨ok_26, h⟩ := h
  refine mm_gr hC hM (ci := 7) (j := 0) ⟨ok_25.1, ok_26⟩ rfl (by decide) (by decide) tw_251 rfl dX7_fillRues_5 ?_
  obtain ⟨ok_27, h⟩ := h
  refine mm_gr hC hM (ci := 0) (j := 9) ok_27 rfl (by decide) (by decide) tw_58 rfl dX7_fillRues_8 ?_
  refine lv_iload_n hC.1 hC.2.1 dX7_fillRues_11 rfl (lv_at hl 2 rfl) ?_
  obtain ⟨ok_28, h⟩ := h
  refine mm_al hC hM (t0 := 4) ok_28 (by decide) rfl rfl dX7_fillRues_12 ?_
  obtain ⟨ok_31, h⟩ := h
  refine mm_rv hM (mm_V (As := [.ref (b0 + (sR S (sR S (sR S o 0) 9) (x2 : Int32).toNatClampNeg))]) (rest := []) hC hM hl.1 (mX5_fill l G b0 S (sR S o 2) (sR S (sR S (sR S o 0) 9) (x2 : Int32).toNatClampNeg) _) h (ci := 5) ok_31 rfl rfl kX5_fill tw_656 rfl (by decide) rfl (Nat.le_of_ble_eq_true rfl) dX7_fillRues_13 (by decide)) (fun S_29 H locs h hM => ?_)
  refine lv_iconst (v := 0) hC.1 hC.2.1 dX7_fillRues_16 (by decide) ?_
  refine lv_istore_n (lv' := [(3, .int 0), (0, .ref (b0 + o)), (1, .ref (b0 + x1)), (2, .int x2)]) hC.1 hC.2.1 dX7_fillRues_17 rfl hl (by decide) rfl (fun ls hl => ?_)
  obtain ⟨n1, h⟩ := h
  exact qX7_fillRues_18 hC hr hlk n1 _ _ _ _ H locs ls h hM (lv_sub hl [1, 2, 0] rfl)
set_option maxHeartbeats 4000000 in
set_option maxRecDepth 100000 in
theorem qX7_leftmostBelow_48 {p : Program} {l : Launch} {e : Env} {s : State} {m : MethodId} {args : Array Value} {below : List Frame} {meth : Method} {c : Code} {G : Gt} {b0 : Nat} (hC : CallFix p m c cX7_leftmostBelow 4 s args lw_g RX7) (hr : meth.sig.returnType = (some .int)) (hlk : meth.locks = false) {K : Int32 → St → Prop} {B4 : Nat → Int32 → Int32 → Int32 → St → Prop} (hB4 : ∀ (x0 : Nat) (x1 : Int32) (x2 : Int32) (x3 : Int32) (S : St) (H : Heap) (locs : List Loc) (ls : Array Slot), B4 x0 x1 x2 x3 S → MM G b0 s S H locs → lv_has ls 4 [(0, .ref (b0 + x0)), (1, .int x1), (2, .int x2), (3, .int x3)] → W p l e rmX7_leftmostBelow s m args below meth c H locs 0 0 (MQ below (va_Qi K (ME G b0) (AB b0)) args s 0 0 (AB b0)) (F0 m 4 ls [])) : ∀ (x0 : Nat) (x1 : Int32) (x2 : Int32) (x3 : Int32) (S : St) (H : Heap) (locs : List Loc) (ls : Array Slot), wX7_leftmostBelow_48 K B4 x0 x1 x2 x3 S → MM G b0 s S H locs → lv_has ls 4 [(0, .ref (b0 + x0)), (1, .int x1), (2, .int x2), (3, .int x3)] → W p l e rmX7_leftmostBelow s m args below meth c H locs 0 0 (MQ below (va_Qi K (ME G b0) (AB b0)) args s 0 0 (AB b0)) (F0 m 48 ls []) := by
  intro x0 x1 x2 x3 S H locs ls h hM hl
  unfold wX7_leftmostBelow_48 at h
  obtain ⟨x3_1, ex3_1⟩ : ∃ y : Int32, y = x3 + 1 := ⟨_, rfl⟩
  have h := h x3_1 ex3_1
  refine lv_iinc (v := x3_1) (lv' := [(3, .int x3_1), (0, .ref (b0 + x0)), (1, .int x1), (2, .int x2)]) hC.1 hC.2.1 dX7_leftmostBelow_48 hl (k := 3) rfl (by rw [ex3_1]; rfl) (by decide) rfl (fun ls hl => ?_)
  refine lv_goto (tgt := 4) hC.1 hC.2.1 dX7_leftmostBelow_51 (by decide) ?_
  exact hB4 _ _ _ _ _ H locs ls h hM (lv_sub hl [1, 2, 3, 0] rfl)
set_option maxHeartbeats 4000000 in
set_option maxRecDepth 100000 in
theorem qX7_leftmostBelow_46 {p : Program} {l : Launch} {e : Env} {s : State} {m : MethodId} {args : Array Value} {below : List Frame} {meth : Method} {c : Code} {G : Gt} {b0 : Nat} (hC : CallFix p m c cX7_leftmostBelow 4 s args lw_g RX7) (hr : meth.sig.returnType = (some .int)) (hlk : meth.locks = false) {K : Int32 → St → Prop} {B4 : Nat → Int32 → Int32 → Int32 → St → Prop} (hB4 : ∀ (x0 : Nat) (x1 : Int32) (x2 : Int32) (x3 : Int32) (S : St) (H : Heap) (locs : List Loc) (ls : Array Slot), B4 x0 x1 x2 x3 S → MM G b0 s S H locs → lv_has ls 4 [(0, .ref (b0 + x0)), (1, .int x1), (2, .int x2), (3, .int x3)] → W p l e rmX7_leftmostBelow s m args below meth c H locs 0 0 (MQ below (va_Qi K (ME G b0) (AB b0)) args s 0 0 (AB b0)) (F0 m 4 ls [])) : ∀ (x0 : Nat) (x1 : Int32) (x3 : Int32) (S : St) (H : Heap) (locs : List Loc) (ls : Array Slot), wX7_leftmostBelow_46 K B4 x0 x1 x3 S → MM G b0 s S H locs → lv_has ls 4 [(0, .ref (b0 + x0)), (1, .int x1), (3, .int x3)] → W p l e rmX7_leftmostBelow s m args below meth c H locs 0 0 (MQ below (va_Qi K (ME G b0) (AB b0)) args s 0 0 (AB b0)) (F0 m 46 ls []) := by
  intro x0 x1 x3 S H locs ls h hM hl
  unfold wX7_leftmostBelow_46 at h
  refine lv_iload_n hC.1 hC.2.1 dX7_leftmostBelow_46 rfl (lv_at hl 2 rfl) ?_
  refine lv_istore_n (lv' := [(2, .int x3), (0, .ref (b0 + x0)), (1, .int x1), (3, .int x3)]) hC.1 hC.2.1 dX7_leftmostBelow_47 rfl hl (by decide) rfl (fun ls hl => ?_)
  exact qX7_leftmostBelow_48 hC hr hlk hB4 _ _ _ _ _ H locs ls h hM (lv_sub hl [1, 2, 0, 3] rfl)
set_option maxHeartbeats 4000000 in
set_option maxRecDepth 100000 in
theorem qX7_leftmostBelow_4 {p : Program} {l : Launch} {e : Env} {s : State} {m : MethodId} {args : Array Value} {below : List Frame} {meth : Method} {c : Code} {G : Gt} {b0 : Nat} (hC : CallFix p m c cX7_leftmostBelow 4 s args lw_g RX7) (hr : meth.sig.returnType = (some .int)) (hlk : meth.locks = false) {K : Int32 → St → Prop} : ∀ (n : Nat) (x0 : Nat) (x1 : Int32) (x2 : Int32) (x3 : Int32) (S : St) (H : Heap) (locs : List Loc) (ls : Array Slot), wX7_leftmostBelow_4 K n x0 x1 x2 x3 S → MM G b0 s S H locs → lv_has ls 4 [(0, .ref (b0 + x0)), (1, .int x1), (2, .int x2), (3, .int x3)] → W p l e rmX7_leftmostBelow s m args below meth c H locs 0 0 (MQ below (va_Qi K (ME G b0) (AB b0)) args s 0 0 (AB b0)) (F0 m 4 ls []) := by
  intro n
  induction n with
  | zero =>
    intro x0 x1 x2 x3 S H locs ls h
    exact False.elim h
  | succ n ih =>
    intro x0 x1 x2 x3 S H locs ls h hM hl
    rw [wX7_leftmostBelow_4] at h
    refine lv_iload_n hC.1 hC.2.1 dX7_leftmostBelow_4 rfl (lv_at hl 3 rfl) ?_
    refine lv_aload_n hC.1 hC.2.1 dX7_leftmostBelow_5 rfl (lv_at hl 0 rfl) ?_
    obtain ⟨ok_2, h⟩ := h
    refine mm_gr hC hM (ci := 7) (j := 1) ok_2 rfl (by decide) (by decide) tw_252 rfl dX7_leftmostBelow_6 ?_
    obtain ⟨ok_3, h⟩ := h
    refine mm_gi hC hM (ci := 3) (j := 0) ok_3 rfl (by decide) (by decide) tw_92 rfl dX7_leftmostBelow_9 ?_
    refine lv_icmp_ge (tgt := 54) hC.1 hC.2.1 dX7_leftmostBelow_12 (by decide) (fun c_4 => ?_) (fun c_4 => ?_)
    · have h := h.1 c_4
      refine lv_iload_n hC.1 hC.2.1 dX7_leftmostBelow_54 rfl (lv_at hl 2 rfl) ?_
      exact mm_iret hC hr hlk hM h dX7_leftmostBelow_55
    · have h := h.2 c_4
      refine lv_aload_n hC.1 hC.2.1 dX7_leftmostBelow_15 rfl (lv_at hl 0 rfl) ?_
      obtain ⟨ok_5, h⟩ := h
      refine mm_gr hC hM (ci := 7) (j := 4) ⟨ok_2.1, ok_5⟩ rfl (by decide) (by decide) tw_255 rfl dX7_leftmostBelow_16 ?_
      refine lv_iload_n hC.1 hC.2.1 dX7_leftmostBelow_19 rfl (lv_at hl 3 rfl) ?_
      obtain ⟨ok_6, h⟩ := h
      refine mm_il hC hM ok_6 dX7_leftmostBelow_20 ?_
      refine lv_iload_n hC.1 hC.2.1 dX7_leftmostBelow_21 rfl (lv_at hl 1 rfl) ?_
      refine lv_icmp_ge (tgt := 48) hC.1 hC.2.1 dX7_leftmostBelow_22 (by decide) (fun c_7 => ?_) (fun c_7 => ?_)
      · have h := h.1 c_7
        exact qX7_leftmostBelow_48 hC hr hlk ih _ _ _ _ _ H locs ls h hM (lv_sub hl [0, 1, 2, 3] rfl)
      · have h := h.2 c_7
        refine lv_iload_n hC.1 hC.2.1 dX7_leftmostBelow_25 rfl (lv_at hl 2 rfl) ?_
        refine lv_iconst (v := (-1)) hC.1 hC.2.1 dX7_leftmostBelow_26 (by decide) ?_
        refine lv_icmp_eq (tgt := 46) hC.1 hC.2.1 dX7_leftmostBelow_27 (by decide) (fun c_8 => ?_) (fun c_8 => ?_)
        · have h := h.1 c_8
          exact qX7_leftmostBelow_46 hC hr hlk ih _ _ _ _ H locs ls h hM (lv_sub hl [0, 1, 3] rfl)
        · have h := h.2 c_8
          refine lv_iload_n hC.1 hC.2.1 dX7_leftmostBelow_30 rfl (lv_at hl 3 rfl) ?_
          refine lv_iload_n hC.1 hC.2.1 dX7_leftmostBelow_31 rfl (lv_at hl 2 rfl) ?_
          refine lv_aload_n hC.1 hC.2.1 dX7_leftmostBelow_32 rfl (lv_at hl 0 rfl) ?_
          obtain ⟨ok_9, h⟩ := h
          refine mm_gr hC hM (ci := 7) (j := 3) ⟨ok_2.1, ok_9⟩ rfl (by decide) (by decide) tw_254 rfl dX7_leftmostBelow_33 ?_
          refine lv_aload_n hC.1 hC.2.1 dX7_leftmostBelow_36 rfl (lv_at hl 0 rfl) ?_
          refine mm_gr hC hM (ci := 7) (j := 4) ⟨ok_2.1, ok_5⟩ rfl (by decide) (by decide) tw_255 rfl dX7_leftmostBelow_37 ?_
          refine mm_ri hM (mm_S (As := [.int x3, .int x2, .ref (b0 + (sR S x0 3)), .ref (b0 + (sR S x0 4))]) (rest := []) hC hM hl.1 (mX7_comesBefore l G b0 S x3 x2 (sR S x0 3) (sR S x0 4) _) h kX7_comesBefore tw_668 rfl (by decide) rfl (Nat.le_of_ble_eq_true rfl) dX7_leftmostBelow_40 (by decide)) (fun r_11 S_10 H locs h hM => ?_)
          refine lv_if_eq (tgt := 48) hC.1 hC.2.1 dX7_leftmostBelow_43 (by decide) (fun c_12 => ?_) (fun c_12 => ?_)
          · have h := h.1 c_12
            exact qX7_leftmostBelow_48 hC hr hlk ih _ _ _ _ _ H locs ls h hM (lv_sub hl [0, 1, 2, 3] rfl)
          · have h := h.2 c_12
            exact qX7_leftmostBelow_46 hC hr hlk ih _ _ _ _ H locs ls h hM (lv_sub hl [0, 1, 3] rfl)
set_option maxHeartbeats 4000000 in
set_option maxRecDepth 100000 in
theorem mX7_leftmostBelow (l : Launch) (G : Gt) (b0 : Nat) (S : St) (o : Nat) (x1 : Int32) (K : Int32 → St → Prop) : CI l G b0 S yX7_leftmostBelow cX7_leftmostBelow 4 (some .int) rmX7_leftmostBelow [.ref (b0 + o), .int x1] (wX7_leftmostBelow S o x1 K) K := by
  refine met_of (by decide) (Nat.le_of_ble_eq_true rfl) rfl ?_
  intro p e s m below meth c hC hr hlk hin h H locs ls hM hl
  unfold wX7_leftmostBelow at h
  refine lv_iconst (v := (-1)) hC.1 hC.2.1 dX7_leftmostBelow_0 (by decide) ?_
  refine lv_istore_n (lv' := [(2, .int (-1)), (0, .ref (b0 + o)), (1, .int x1)]) hC.1 hC.2.1 dX7_leftmostBelow_1 rfl hl (by decide) rfl (fun ls hl => ?_)
  refine lv_iconst (v := 0) hC.1 hC.2.1 dX7_leftmostBelow_2 (by decide) ?_
  refine lv_istore_n (lv' := [(3, .int 0), (2, .int (-1)), (0, .ref (b0 + o)), (1, .int x1)]) hC.1 hC.2.1 dX7_leftmostBelow_3 rfl hl (by decide) rfl (fun ls hl => ?_)
  obtain ⟨n1, h⟩ := h
  exact qX7_leftmostBelow_4 hC hr hlk n1 _ _ _ _ _ H locs ls h hM (lv_sub hl [2, 3, 1, 0] rfl)
set_option maxHeartbeats 4000000 in
set_option maxRecDepth 100000 in
theorem mX7_look (l : Launch) (G : Gt) (b0 : Nat) (S : St) (o : Nat) (x1 : Int32) (x2 : Int32) (K : St → Prop) : CV l G b0 S yX7_look cX7_look 3 none rmX7_look [.ref (b0 + o), .int x1, .int x2] (wX7_look S o x1 x2 K) K := by
  refine met_of (by decide) (Nat.le_of_ble_eq_true rfl) rfl ?_
  intro p e s m below meth c hC hr hlk hin h H locs ls hM hl
  unfold wX7_look at h
  refine lv_aload_n hC.1 hC.2.1 dX7_look_0 rfl (lv_at hl 0 rfl) ?_
  refine lv_aload_n hC.1 hC.2.1 dX7_look_1 rfl (lv_at hl 0 rfl) ?_
  obtain ⟨ok_1, h⟩ := h
  refine mm_gr hC hM (ci := 7) (j := 3) ok_1 rfl (by decide) (by decide) tw_254 rfl dX7_look_2 ?_
  refine lv_iload_n hC.1 hC.2.1 dX7_look_5 rfl (lv_at hl 1 rfl) ?_
  refine mm_rv hM (mm_V (As := [.ref (b0 + (sR S o 3)), .int x1]) (rest := []) hC hM hl.1 (mX7_fillRues l G b0 S o (sR S o 3) x1 _) h (ci := 7) ok_1.1 rfl rfl kX7_fillRues tw_652 rfl (by decide) rfl (Nat.le_of_ble_eq_true rfl) dX7_look_6 (by decide)) (fun S_2 H locs h hM => ?_)
  refine lv_aload_n hC.1 hC.2.1 dX7_look_9 rfl (lv_at hl 0 rfl) ?_
  refine lv_aload_n hC.1 hC.2.1 dX7_look_10 rfl (lv_at hl 0 rfl) ?_
  obtain ⟨ok_4, h⟩ := h
  refine mm_gr hC hM (ci := 7) (j := 4) ok_4 rfl (by decide) (by decide) tw_255 rfl dX7_look_11 ?_
  refine lv_iload_n hC.1 hC.2.1 dX7_look_14 rfl (lv_at hl 2 rfl) ?_
  refine mm_rv hM (mm_V (As := [.ref (b0 + (sR S_2 o 4)), .int x2]) (rest := []) hC hM hl.1 (mX7_fillRues l G b0 S_2 o (sR S_2 o 4) x2 _) h (ci := 7) ok_4.1 rfl rfl kX7_fillRues tw_652 rfl (by decide) rfl (Nat.le_of_ble_eq_true rfl) dX7_look_15 (by decide)) (fun S_5 H locs h hM => ?_)
  exact mm_vret hC hr hlk hM h dX7_look_18
set_option maxHeartbeats 4000000 in
set_option maxRecDepth 100000 in
theorem qX7_pairOnFront_9 {p : Program} {l : Launch} {e : Env} {s : State} {m : MethodId} {args : Array Value} {below : List Frame} {meth : Method} {c : Code} {G : Gt} {b0 : Nat} (hC : CallFix p m c cX7_pairOnFront 4 s args lw_g RX7) (hr : meth.sig.returnType = (some .int)) (hlk : meth.locks = false) {K : Int32 → St → Prop} : ∀ (n : Nat) (x0 : Nat) (x1 : Int32) (x2 : Int32) (x3 : Int32) (S : St) (H : Heap) (locs : List Loc) (ls : Array Slot), wX7_pairOnFront_9 K n x0 x1 x2 x3 S → MM G b0 s S H locs → lv_has ls 4 [(0, .ref (b0 + x0)), (1, .int x1), (2, .int x2), (3, .int x3)] → W p l e rmX7_pairOnFront s m args below meth c H locs 0 0 (MQ below (va_Qi K (ME G b0) (AB b0)) args s 0 0 (AB b0)) (F0 m 9 ls []) := by
  intro n
  induction n with
  | zero =>
    intro x0 x1 x2 x3 S H locs ls h
    exact False.elim h
  | succ n ih =>
    intro x0 x1 x2 x3 S H locs ls h hM hl
    rw [wX7_pairOnFront_9] at h
    refine lv_iload_n hC.1 hC.2.1 dX7_pairOnFront_9 rfl (lv_at hl 3 rfl) ?_
    refine lv_iload_n hC.1 hC.2.1 dX7_pairOnFront_10 rfl (lv_at hl 1 rfl) ?_
    refine lv_icmp_ge (tgt := 36) hC.1 hC.2.1 dX7_pairOnFront_11 (by decide) (fun c_1 => ?_) (fun c_1 => ?_)
    · have h := h.1 c_1
      refine lv_iload_n hC.1 hC.2.1 dX7_pairOnFront_36 rfl (lv_at hl 2 rfl) ?_
      exact mm_iret hC hr hlk hM h dX7_pairOnFront_37
    · have h := h.2 c_1
      refine lv_iload_n hC.1 hC.2.1 dX7_pairOnFront_14 rfl (lv_at hl 2 rfl) ?_
      refine lv_iconst (v := (-1)) hC.1 hC.2.1 dX7_pairOnFront_15 (by decide) ?_
      refine lv_icmp_eq (tgt := 36) hC.1 hC.2.1 dX7_pairOnFront_16 (by decide) (fun c_2 => ?_) (fun c_2 => ?_)
      · have h := h.1 c_2
        refine lv_iload_n hC.1 hC.2.1 dX7_pairOnFront_36 rfl (lv_at hl 2 rfl) ?_
        exact mm_iret hC hr hlk hM h dX7_pairOnFront_37
      · have h := h.2 c_2
        refine lv_aload_n hC.1 hC.2.1 dX7_pairOnFront_19 rfl (lv_at hl 0 rfl) ?_
        refine lv_aload_n hC.1 hC.2.1 dX7_pairOnFront_20 rfl (lv_at hl 0 rfl) ?_
        obtain ⟨ok_3, h⟩ := h
        refine mm_gr hC hM (ci := 7) (j := 4) ok_3 rfl (by decide) (by decide) tw_255 rfl dX7_pairOnFront_21 ?_
        refine lv_iload_n hC.1 hC.2.1 dX7_pairOnFront_24 rfl (lv_at hl 2 rfl) ?_
        obtain ⟨ok_4, h⟩ := h
        refine mm_il hC hM ok_4 dX7_pairOnFront_25 ?_
        refine mm_ri hM (mm_V (As := [.int (sI S (sR S x0 4) (x2 : Int32).toNatClampNeg)]) (rest := []) hC hM hl.1 (mX7_leftmostBelow l G b0 S x0 (sI S (sR S x0 4) (x2 : Int32).toNatClampNeg) _) h (ci := 7) ok_3.1 rfl rfl kX7_leftmostBelow tw_664 rfl (by decide) rfl (Nat.le_of_ble_eq_true rfl) dX7_pairOnFront_26 (by decide)) (fun r_6 S_5 H locs h hM => ?_)
        refine lv_istore_n (lv' := [(2, .int r_6), (0, .ref (b0 + x0)), (1, .int x1), (3, .int x3)]) hC.1 hC.2.1 dX7_pairOnFront_29 rfl hl (by decide) rfl (fun ls hl => ?_)
        obtain ⟨x3_7, ex3_7⟩ : ∃ y : Int32, y = x3 + 1 := ⟨_, rfl⟩
        have h := h x3_7 ex3_7
        refine lv_iinc (v := x3_7) (lv' := [(3, .int x3_7), (2, .int r_6), (0, .ref (b0 + x0)), (1, .int x1)]) hC.1 hC.2.1 dX7_pairOnFront_30 hl (k := 3) rfl (by rw [ex3_7]; rfl) (by decide) rfl (fun ls hl => ?_)
        refine lv_goto (tgt := 9) hC.1 hC.2.1 dX7_pairOnFront_33 (by decide) ?_
        exact ih _ _ _ _ _ H locs ls h hM (lv_sub hl [2, 3, 1, 0] rfl)
set_option maxHeartbeats 4000000 in
set_option maxRecDepth 100000 in
theorem mX7_pairOnFront (l : Launch) (G : Gt) (b0 : Nat) (S : St) (o : Nat) (x1 : Int32) (K : Int32 → St → Prop) : CI l G b0 S yX7_pairOnFront cX7_pairOnFront 4 (some .int) rmX7_pairOnFront [.ref (b0 + o), .int x1] (wX7_pairOnFront S o x1 K) K := by
  refine met_of (by decide) (Nat.le_of_ble_eq_true rfl) rfl ?_
  intro p e s m below meth c hC hr hlk hin h H locs ls hM hl
  unfold wX7_pairOnFront at h
  refine lv_aload_n hC.1 hC.2.1 dX7_pairOnFront_0 rfl (lv_at hl 0 rfl) ?_
  refine lv_ldc (v := 2147483647) hC.1 hC.2.1 hC.2.2.2.1 (hC.2.2.2.2 _ tw_663) dX7_pairOnFront_1 ?_
  obtain ⟨ok_10, h⟩ := h
  refine mm_ri hM (mm_V (As := [.int 2147483647]) (rest := []) hC hM hl.1 (mX7_leftmostBelow l G b0 S o 2147483647 _) h (ci := 7) ok_10 rfl rfl kX7_leftmostBelow tw_664 rfl (by decide) rfl (Nat.le_of_ble_eq_true rfl) dX7_pairOnFront_3 (by decide)) (fun r_9 S_8 H locs h hM => ?_)
  refine lv_istore_n (lv' := [(2, .int r_9), (0, .ref (b0 + o)), (1, .int x1)]) hC.1 hC.2.1 dX7_pairOnFront_6 rfl hl (by decide) rfl (fun ls hl => ?_)
  refine lv_iconst (v := 0) hC.1 hC.2.1 dX7_pairOnFront_7 (by decide) ?_
  refine lv_istore_n (lv' := [(3, .int 0), (2, .int r_9), (0, .ref (b0 + o)), (1, .int x1)]) hC.1 hC.2.1 dX7_pairOnFront_8 rfl hl (by decide) rfl (fun ls hl => ?_)
  obtain ⟨n1, h⟩ := h
  exact qX7_pairOnFront_9 hC hr hlk n1 _ _ _ _ _ H locs ls h hM (lv_sub hl [2, 3, 1, 0] rfl)
set_option maxHeartbeats 4000000 in
set_option maxRecDepth 100000 in
theorem qX7_pairsOnFront_9 {p : Program} {l : Launch} {e : Env} {s : State} {m : MethodId} {args : Array Value} {below : List Frame} {meth : Method} {c : Code} {G : Gt} {b0 : Nat} (hC : CallFix p m c cX7_pairsOnFront 3 s args lw_g RX7) (hr : meth.sig.returnType = (some .int)) (hlk : meth.locks = false) {K : Int32 → St → Prop} : ∀ (n : Nat) (x0 : Nat) (x1 : Int32) (x2 : Int32) (S : St) (H : Heap) (locs : List Loc) (ls : Array Slot), wX7_pairsOnFront_9 K n x0 x1 x2 S → MM G b0 s S H locs → lv_has ls 3 [(0, .ref (b0 + x0)), (1, .int x1), (2, .int x2)] → W p l e rmX7_pairsOnFront s m args below meth c H locs 0 0 (MQ below (va_Qi K (ME G b0) (AB b0)) args s 0 0 (AB b0)) (F0 m 9 ls []) := by
  intro n
  induction n with
  | zero =>
    intro x0 x1 x2 S H locs ls h
    exact False.elim h
  | succ n ih =>
    intro x0 x1 x2 S H locs ls h hM hl
    rw [wX7_pairsOnFront_9] at h
    refine lv_iload_n hC.1 hC.2.1 dX7_pairsOnFront_9 rfl (lv_at hl 2 rfl) ?_
    refine lv_iconst (v := (-1)) hC.1 hC.2.1 dX7_pairsOnFront_10 (by decide) ?_
    refine lv_icmp_eq (tgt := 38) hC.1 hC.2.1 dX7_pairsOnFront_11 (by decide) (fun c_1 => ?_) (fun c_1 => ?_)
    · have h := h.1 c_1
      refine lv_iload_n hC.1 hC.2.1 dX7_pairsOnFront_38 rfl (lv_at hl 1 rfl) ?_
      exact mm_iret hC hr hlk hM h dX7_pairsOnFront_39
    · have h := h.2 c_1
      refine lv_iload_n hC.1 hC.2.1 dX7_pairsOnFront_14 rfl (lv_at hl 1 rfl) ?_
      refine lv_sipush (v := 500) hC.1 hC.2.1 dX7_pairsOnFront_15 (by decide) ?_
      refine lv_icmp_ge (tgt := 38) hC.1 hC.2.1 dX7_pairsOnFront_18 (by decide) (fun c_2 => ?_) (fun c_2 => ?_)
      · have h := h.1 c_2
        refine lv_iload_n hC.1 hC.2.1 dX7_pairsOnFront_38 rfl (lv_at hl 1 rfl) ?_
        exact mm_iret hC hr hlk hM h dX7_pairsOnFront_39
      · have h := h.2 c_2
        obtain ⟨x1_3, ex1_3⟩ : ∃ y : Int32, y = x1 + 1 := ⟨_, rfl⟩
        have h := h x1_3 ex1_3
        refine lv_iinc (v := x1_3) (lv' := [(1, .int x1_3), (0, .ref (b0 + x0)), (2, .int x2)]) hC.1 hC.2.1 dX7_pairsOnFront_21 hl (k := 1) rfl (by rw [ex1_3]; rfl) (by decide) rfl (fun ls hl => ?_)
        refine lv_aload_n hC.1 hC.2.1 dX7_pairsOnFront_24 rfl (lv_at hl 1 rfl) ?_
        refine lv_aload_n hC.1 hC.2.1 dX7_pairsOnFront_25 rfl (lv_at hl 1 rfl) ?_
        obtain ⟨ok_4, h⟩ := h
        refine mm_gr hC hM (ci := 7) (j := 4) ok_4 rfl (by decide) (by decide) tw_255 rfl dX7_pairsOnFront_26 ?_
        refine lv_iload_n hC.1 hC.2.1 dX7_pairsOnFront_29 rfl (lv_at hl 2 rfl) ?_
        obtain ⟨ok_5, h⟩ := h
        refine mm_il hC hM ok_5 dX7_pairsOnFront_30 ?_
        refine mm_ri hM (mm_V (As := [.int (sI S (sR S x0 4) (x2 : Int32).toNatClampNeg)]) (rest := []) hC hM hl.1 (mX7_leftmostBelow l G b0 S x0 (sI S (sR S x0 4) (x2 : Int32).toNatClampNeg) _) h (ci := 7) ok_4.1 rfl rfl kX7_leftmostBelow tw_664 rfl (by decide) rfl (Nat.le_of_ble_eq_true rfl) dX7_pairsOnFront_31 (by decide)) (fun r_7 S_6 H locs h hM => ?_)
        refine lv_istore_n (lv' := [(2, .int r_7), (1, .int x1_3), (0, .ref (b0 + x0))]) hC.1 hC.2.1 dX7_pairsOnFront_34 rfl hl (by decide) rfl (fun ls hl => ?_)
        refine lv_goto (tgt := 9) hC.1 hC.2.1 dX7_pairsOnFront_35 (by decide) ?_
        exact ih _ _ _ _ H locs ls h hM (lv_sub hl [2, 1, 0] rfl)
set_option maxHeartbeats 4000000 in
set_option maxRecDepth 100000 in
theorem mX7_pairsOnFront (l : Launch) (G : Gt) (b0 : Nat) (S : St) (o : Nat) (K : Int32 → St → Prop) : CI l G b0 S yX7_pairsOnFront cX7_pairsOnFront 3 (some .int) rmX7_pairsOnFront [.ref (b0 + o)] (wX7_pairsOnFront S o K) K := by
  refine met_of (by decide) (Nat.le_of_ble_eq_true rfl) rfl ?_
  intro p e s m below meth c hC hr hlk hin h H locs ls hM hl
  unfold wX7_pairsOnFront at h
  refine lv_iconst (v := 0) hC.1 hC.2.1 dX7_pairsOnFront_0 (by decide) ?_
  refine lv_istore_n (lv' := [(1, .int 0), (0, .ref (b0 + o))]) hC.1 hC.2.1 dX7_pairsOnFront_1 rfl hl (by decide) rfl (fun ls hl => ?_)
  refine lv_aload_n hC.1 hC.2.1 dX7_pairsOnFront_2 rfl (lv_at hl 1 rfl) ?_
  refine lv_ldc (v := 2147483647) hC.1 hC.2.1 hC.2.2.2.1 (hC.2.2.2.2 _ tw_663) dX7_pairsOnFront_3 ?_
  obtain ⟨ok_10, h⟩ := h
  refine mm_ri hM (mm_V (As := [.int 2147483647]) (rest := []) hC hM hl.1 (mX7_leftmostBelow l G b0 S o 2147483647 _) h (ci := 7) ok_10 rfl rfl kX7_leftmostBelow tw_664 rfl (by decide) rfl (Nat.le_of_ble_eq_true rfl) dX7_pairsOnFront_5 (by decide)) (fun r_9 S_8 H locs h hM => ?_)
  refine lv_istore_n (lv' := [(2, .int r_9), (1, .int 0), (0, .ref (b0 + o))]) hC.1 hC.2.1 dX7_pairsOnFront_8 rfl hl (by decide) rfl (fun ls hl => ?_)
  obtain ⟨n1, h⟩ := h
  exact qX7_pairsOnFront_9 hC hr hlk n1 _ _ _ _ H locs ls h hM (lv_sub hl [2, 1, 0] rfl)
