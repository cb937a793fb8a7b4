set_option maxHeartbeats 4000000 in
set_option maxRecDepth 100000 in
theorem mX8_isWithin (l : Launch) (G : Gt) (b0 : Nat) (S : St) (x0 : Int32) (x1 : Int32) (K : Int32 → St → Prop) : CI l G b0 S yX8_isWithin cX8_isWithin 2 (some .boolean) rmX8_isWithin [.int x0, .int x1] (wX8_isWithin S x0 x1 K) K := by
  refine met_of (by decide) (Nat.le_of_ble_eq_true rfl) rfl ?_
  intro p e s m below meth c hC hr hlk hin h H locs ls hM hl
  unfold wX8_isWithin at h
  refine lv_iload_n hC.1 hC.2.1 dX8_isWithin_0 rfl (lv_at hl 0 rfl) ?_
  refine lv_if_lt (tgt := 13) hC.1 hC.2.1 dX8_isWithin_1 (by decide) (fun c_1 => ?_) (fun c_1 => ?_)
  · have h := h.1 c_1
    refine lv_iconst (v := 0) hC.1 hC.2.1 dX8_isWithin_13 (by decide) ?_
    exact mm_zret hC hr hlk hM rfl h dX8_isWithin_14
  · have h := h.2 c_1
    refine lv_iload_n hC.1 hC.2.1 dX8_isWithin_4 rfl (lv_at hl 0 rfl) ?_
    refine lv_iload_n hC.1 hC.2.1 dX8_isWithin_5 rfl (lv_at hl 1 rfl) ?_
    refine lv_icmp_ge (tgt := 13) hC.1 hC.2.1 dX8_isWithin_6 (by decide) (fun c_2 => ?_) (fun c_2 => ?_)
    · have h := h.1 c_2
      refine lv_iconst (v := 0) hC.1 hC.2.1 dX8_isWithin_13 (by decide) ?_
      exact mm_zret hC hr hlk hM rfl h dX8_isWithin_14
    · have h := h.2 c_2
      refine lv_iconst (v := 1) hC.1 hC.2.1 dX8_isWithin_9 (by decide) ?_
      refine lv_goto (tgt := 14) hC.1 hC.2.1 dX8_isWithin_10 (by decide) ?_
      exact mm_zret hC hr hlk hM rfl h dX8_isWithin_14
set_option maxHeartbeats 4000000 in
set_option maxRecDepth 100000 in
theorem qX8_firstLeast_25 {p : Program} {l : Launch} {e : Env} {s : State} {m : MethodId} {args : Array Value} {below : List Frame} {meth : Method} {c : Code} {G : Gt} {b0 : Nat} (hC : CallFix p m c cX8_firstLeast 4 s args lw_g RX8) (hr : meth.sig.returnType = (some .int)) (hlk : meth.locks = false) {K : Int32 → St → Prop} {B4 : Nat → Int32 → Int32 → Int32 → St → Prop} (hB4 : ∀ (x0 : Nat) (x1 : Int32) (x2 : Int32) (x3 : Int32) (S : St) (H : Heap) (locs : List Loc) (ls : Array Slot), B4 x0 x1 x2 x3 S → MM G b0 s S H locs → lv_has ls 4 [(0, .ref (b0 + x0)), (1, .int x1), (2, .int x2), (3, .int x3)] → W p l e rmX8_firstLeast s m args below meth c H locs 0 0 (MQ below (va_Qi K (ME G b0) (AB b0)) args s 0 0 (AB b0)) (F0 m 4 ls [])) : ∀ (x0 : Nat) (x1 : Int32) (x2 : Int32) (x3 : Int32) (S : St) (H : Heap) (locs : List Loc) (ls : Array Slot), wX8_firstLeast_25 K B4 x0 x1 x2 x3 S → MM G b0 s S H locs → lv_has ls 4 [(0, .ref (b0 + x0)), (1, .int x1), (2, .int x2), (3, .int x3)] → W p l e rmX8_firstLeast s m args below meth c H locs 0 0 (MQ below (va_Qi K (ME G b0) (AB b0)) args s 0 0 (AB b0)) (F0 m 25 ls []) := by
  intro x0 x1 x2 x3 S H locs ls h hM hl
  unfold wX8_firstLeast_25 at h
  obtain ⟨x3_1, ex3_1⟩ : ∃ y : Int32, y = x3 + 1 := ⟨_, rfl⟩
  have h := h x3_1 ex3_1
  refine lv_iinc (v := x3_1) (lv' := [(3, .int x3_1), (0, .ref (b0 + x0)), (1, .int x1), (2, .int x2)]) hC.1 hC.2.1 dX8_firstLeast_25 hl (k := 3) rfl (by rw [ex3_1]; rfl) (by decide) rfl (fun ls hl => ?_)
  refine lv_goto (tgt := 4) hC.1 hC.2.1 dX8_firstLeast_28 (by decide) ?_
  exact hB4 _ _ _ _ _ H locs ls h hM (lv_sub hl [1, 2, 3, 0] rfl)
set_option maxHeartbeats 4000000 in
set_option maxRecDepth 100000 in
theorem qX8_firstLeast_23 {p : Program} {l : Launch} {e : Env} {s : State} {m : MethodId} {args : Array Value} {below : List Frame} {meth : Method} {c : Code} {G : Gt} {b0 : Nat} (hC : CallFix p m c cX8_firstLeast 4 s args lw_g RX8) (hr : meth.sig.returnType = (some .int)) (hlk : meth.locks = false) {K : Int32 → St → Prop} {B4 : Nat → Int32 → Int32 → Int32 → St → Prop} (hB4 : ∀ (x0 : Nat) (x1 : Int32) (x2 : Int32) (x3 : Int32) (S : St) (H : Heap) (locs : List Loc) (ls : Array Slot), B4 x0 x1 x2 x3 S → MM G b0 s S H locs → lv_has ls 4 [(0, .ref (b0 + x0)), (1, .int x1), (2, .int x2), (3, .int x3)] → W p l e rmX8_firstLeast s m args below meth c H locs 0 0 (MQ below (va_Qi K (ME G b0) (AB b0)) args s 0 0 (AB b0)) (F0 m 4 ls [])) : ∀ (x0 : Nat) (x1 : Int32) (x3 : Int32) (S : St) (H : Heap) (locs : List Loc) (ls : Array Slot), wX8_firstLeast_23 K B4 x0 x1 x3 S → MM G b0 s S H locs → lv_has ls 4 [(0, .ref (b0 + x0)), (1, .int x1), (3, .int x3)] → W p l e rmX8_firstLeast s m args below meth c H locs 0 0 (MQ below (va_Qi K (ME G b0) (AB b0)) args s 0 0 (AB b0)) (F0 m 23 ls []) := by
  intro x0 x1 x3 S H locs ls h hM hl
  unfold wX8_firstLeast_23 at h
  refine lv_iload_n hC.1 hC.2.1 dX8_firstLeast_23 rfl (lv_at hl 2 rfl) ?_
  refine lv_istore_n (lv' := [(2, .int x3), (0, .ref (b0 + x0)), (1, .int x1), (3, .int x3)]) hC.1 hC.2.1 dX8_firstLeast_24 rfl hl (by decide) rfl (fun ls hl => ?_)
  exact qX8_firstLeast_25 hC hr hlk hB4 _ _ _ _ _ H locs ls h hM (lv_sub hl [1, 2, 0, 3] rfl)
set_option maxHeartbeats 4000000 in
set_option maxRecDepth 100000 in
theorem qX8_firstLeast_4 {p : Program} {l : Launch} {e : Env} {s : State} {m : MethodId} {args : Array Value} {below : List Frame} {meth : Method} {c : Code} {G : Gt} {b0 : Nat} (hC : CallFix p m c cX8_firstLeast 4 s args lw_g RX8) (hr : meth.sig.returnType = (some .int)) (hlk : meth.locks = false) {K : Int32 → St → Prop} : ∀ (n : Nat) (x0 : Nat) (x1 : Int32) (x2 : Int32) (x3 : Int32) (S : St) (H : Heap) (locs : List Loc) (ls : Array Slot), wX8_firstLeast_4 K n x0 x1 x2 x3 S → MM G b0 s S H locs → lv_has ls 4 [(0, .ref (b0 + x0)), (1, .int x1), (2, .int x2), (3, .int x3)] → W p l e rmX8_firstLeast s m args below meth c H locs 0 0 (MQ below (va_Qi K (ME G b0) (AB b0)) args s 0 0 (AB b0)) (F0 m 4 ls []) := by
  intro n
  induction n with
  | zero =>
    intro x0 x1 x2 x3 S H locs ls h
    exact False.elim h
  | succ n ih =>
    intro x0 x1 x2 x3 S H locs ls h hM hl
    rw [wX8_firstLeast_4] at h
    refine lv_iload_n hC.1 hC.2.1 dX8_firstLeast_4 rfl (lv_at hl 3 rfl) ?_
    refine lv_iload_n hC.1 hC.2.1 dX8_firstLeast_5 rfl (lv_at hl 1 rfl) ?_
    refine lv_icmp_ge (tgt := 31) hC.1 hC.2.1 dX8_firstLeast_6 (by decide) (fun c_2 => ?_) (fun c_2 => ?_)
    · have h := h.1 c_2
      refine lv_iload_n hC.1 hC.2.1 dX8_firstLeast_31 rfl (lv_at hl 2 rfl) ?_
      exact mm_iret hC hr hlk hM h dX8_firstLeast_32
    · have h := h.2 c_2
      refine lv_iload_n hC.1 hC.2.1 dX8_firstLeast_9 rfl (lv_at hl 2 rfl) ?_
      refine lv_iconst (v := (-1)) hC.1 hC.2.1 dX8_firstLeast_10 (by decide) ?_
      refine lv_icmp_eq (tgt := 23) hC.1 hC.2.1 dX8_firstLeast_11 (by decide) (fun c_3 => ?_) (fun c_3 => ?_)
      · have h := h.1 c_3
        exact qX8_firstLeast_23 hC hr hlk ih _ _ _ _ H locs ls h hM (lv_sub hl [0, 1, 3] rfl)
      · have h := h.2 c_3
        refine lv_aload_n hC.1 hC.2.1 dX8_firstLeast_14 rfl (lv_at hl 0 rfl) ?_
        refine lv_iload_n hC.1 hC.2.1 dX8_firstLeast_15 rfl (lv_at hl 3 rfl) ?_
        obtain ⟨ok_4, h⟩ := h
        refine mm_il hC hM ok_4 dX8_firstLeast_16 ?_
        refine lv_aload_n hC.1 hC.2.1 dX8_firstLeast_17 rfl (lv_at hl 0 rfl) ?_
        refine lv_iload_n hC.1 hC.2.1 dX8_firstLeast_18 rfl (lv_at hl 2 rfl) ?_
        obtain ⟨ok_5, h⟩ := h
        refine mm_il hC hM ok_5 dX8_firstLeast_19 ?_
        refine lv_icmp_ge (tgt := 25) hC.1 hC.2.1 dX8_firstLeast_20 (by decide) (fun c_6 => ?_) (fun c_6 => ?_)
        · have h := h.1 c_6
          exact qX8_firstLeast_25 hC hr hlk ih _ _ _ _ _ H locs ls h hM (lv_sub hl [0, 1, 2, 3] rfl)
        · have h := h.2 c_6
          exact qX8_firstLeast_23 hC hr hlk ih _ _ _ _ H locs ls h hM (lv_sub hl [0, 1, 3] rfl)
set_option maxHeartbeats 4000000 in
set_option maxRecDepth 100000 in
theorem mX8_firstLeast (l : Launch) (G : Gt) (b0 : Nat) (S : St) (x0 : Nat) (x1 : Int32) (K : Int32 → St → Prop) : CI l G b0 S yX8_firstLeast cX8_firstLeast 4 (some .int) rmX8_firstLeast [.ref (b0 + x0), .int x1] (wX8_firstLeast S x0 x1 K) K := by
  refine met_of (by decide) (Nat.le_of_ble_eq_true rfl) rfl ?_
  intro p e s m below meth c hC hr hlk hin h H locs ls hM hl
  unfold wX8_firstLeast at h
  refine lv_iconst (v := (-1)) hC.1 hC.2.1 dX8_firstLeast_0 (by decide) ?_
  refine lv_istore_n (lv' := [(2, .int (-1)), (0, .ref (b0 + x0)), (1, .int x1)]) hC.1 hC.2.1 dX8_firstLeast_1 rfl hl (by decide) rfl (fun ls hl => ?_)
  refine lv_iconst (v := 0) hC.1 hC.2.1 dX8_firstLeast_2 (by decide) ?_
  refine lv_istore_n (lv' := [(3, .int 0), (2, .int (-1)), (0, .ref (b0 + x0)), (1, .int x1)]) hC.1 hC.2.1 dX8_firstLeast_3 rfl hl (by decide) rfl (fun ls hl => ?_)
  obtain ⟨n1, h⟩ := h
  exact qX8_firstLeast_4 hC hr hlk n1 _ _ _ _ _ H locs ls h hM (lv_sub hl [2, 3, 1, 0] rfl)
set_option maxHeartbeats 4000000 in
set_option maxRecDepth 100000 in
theorem mX8_isCost (l : Launch) (G : Gt) (b0 : Nat) (S : St) (x0 : Int32) (K : Int32 → St → Prop) : CI l G b0 S yX8_isCost cX8_isCost 1 (some .boolean) rmX8_isCost [.int x0] (wX8_isCost S x0 K) K := by
  refine met_of (by decide) (Nat.le_of_ble_eq_true rfl) rfl ?_
  intro p e s m below meth c hC hr hlk hin h H locs ls hM hl
  unfold wX8_isCost at h
  refine lv_iload_n hC.1 hC.2.1 dX8_isCost_0 rfl (lv_at hl 0 rfl) ?_
  refine lv_if_lt (tgt := 15) hC.1 hC.2.1 dX8_isCost_1 (by decide) (fun c_1 => ?_) (fun c_1 => ?_)
  · have h := h.1 c_1
    refine lv_iconst (v := 0) hC.1 hC.2.1 dX8_isCost_15 (by decide) ?_
    exact mm_zret hC hr hlk hM rfl h dX8_isCost_16
  · have h := h.2 c_1
    refine lv_iload_n hC.1 hC.2.1 dX8_isCost_4 rfl (lv_at hl 0 rfl) ?_
    refine lv_sipush (v := 1000) hC.1 hC.2.1 dX8_isCost_5 (by decide) ?_
    refine lv_icmp_gt (tgt := 15) hC.1 hC.2.1 dX8_isCost_8 (by decide) (fun c_2 => ?_) (fun c_2 => ?_)
    · have h := h.1 c_2
      refine lv_iconst (v := 0) hC.1 hC.2.1 dX8_isCost_15 (by decide) ?_
      exact mm_zret hC hr hlk hM rfl h dX8_isCost_16
    · have h := h.2 c_2
      refine lv_iconst (v := 1) hC.1 hC.2.1 dX8_isCost_11 (by decide) ?_
      refine lv_goto (tgt := 16) hC.1 hC.2.1 dX8_isCost_12 (by decide) ?_
      exact mm_zret hC hr hlk hM rfl h dX8_isCost_16
set_option maxHeartbeats 4000000 in
set_option maxRecDepth 100000 in
theorem mX8_areEnds (l : Launch) (G : Gt) (b0 : Nat) (S : St) (x0 : Int32) (x1 : Int32) (K : Int32 → St → Prop) : CI l G b0 S yX8_areEnds cX8_areEnds 2 (some .boolean) rmX8_areEnds [.int x0, .int x1] (wX8_areEnds S x0 x1 K) K := by
  refine met_of (by decide) (Nat.le_of_ble_eq_true rfl) rfl ?_
  intro p e s m below meth c hC hr hlk hin h H locs ls hM hl
  unfold wX8_areEnds at h
  refine lv_iload_n hC.1 hC.2.1 dX8_areEnds_0 rfl (lv_at hl 0 rfl) ?_
  refine mm_ri hM (mm_S (As := [.int x0]) (rest := []) hC hM hl.1 (mX8_isCost l G b0 S x0 _) h kX8_isCost tw_340 rfl (by decide) rfl (Nat.le_of_ble_eq_true rfl) dX8_areEnds_1 (by decide)) (fun r_2 S_1 H locs h hM => ?_)
  refine lv_if_eq (tgt := 23) hC.1 hC.2.1 dX8_areEnds_4 (by decide) (fun c_3 => ?_) (fun c_3 => ?_)
  · have h := h.1 c_3
    refine lv_iconst (v := 0) hC.1 hC.2.1 dX8_areEnds_23 (by decide) ?_
    exact mm_zret hC hr hlk hM rfl h dX8_areEnds_24
  · have h := h.2 c_3
    refine lv_iload_n hC.1 hC.2.1 dX8_areEnds_7 rfl (lv_at hl 1 rfl) ?_
    refine mm_ri hM (mm_S (As := [.int x1]) (rest := []) hC hM hl.1 (mX8_isCost l G b0 S_1 x1 _) h kX8_isCost tw_340 rfl (by decide) rfl (Nat.le_of_ble_eq_true rfl) dX8_areEnds_8 (by decide)) (fun r_5 S_4 H locs h hM => ?_)
    refine lv_if_eq (tgt := 23) hC.1 hC.2.1 dX8_areEnds_11 (by decide) (fun c_6 => ?_) (fun c_6 => ?_)
    · have h := h.1 c_6
      refine lv_iconst (v := 0) hC.1 hC.2.1 dX8_areEnds_23 (by decide) ?_
      exact mm_zret hC hr hlk hM rfl h dX8_areEnds_24
    · have h := h.2 c_6
      refine lv_iload_n hC.1 hC.2.1 dX8_areEnds_14 rfl (lv_at hl 0 rfl) ?_
      refine lv_iload_n hC.1 hC.2.1 dX8_areEnds_15 rfl (lv_at hl 1 rfl) ?_
      refine lv_icmp_gt (tgt := 23) hC.1 hC.2.1 dX8_areEnds_16 (by decide) (fun c_7 => ?_) (fun c_7 => ?_)
      · have h := h.1 c_7
        refine lv_iconst (v := 0) hC.1 hC.2.1 dX8_areEnds_23 (by decide) ?_
        exact mm_zret hC hr hlk hM rfl h dX8_areEnds_24
      · have h := h.2 c_7
        refine lv_iconst (v := 1) hC.1 hC.2.1 dX8_areEnds_19 (by decide) ?_
        refine lv_goto (tgt := 24) hC.1 hC.2.1 dX8_areEnds_20 (by decide) ?_
        exact mm_zret hC hr hlk hM rfl h dX8_areEnds_24
set_option maxHeartbeats 4000000 in
set_option maxRecDepth 100000 in
theorem mX8_isFew (l : Launch) (G : Gt) (b0 : Nat) (S : St) (x0 : Int32) (K : Int32 → St → Prop) : CI l G b0 S yX8_isFew cX8_isFew 1 (some .boolean) rmX8_isFew [.int x0] (wX8_isFew S x0 K) K := by
  refine met_of (by decide) (Nat.le_of_ble_eq_true rfl) rfl ?_
  intro p e s m below meth c hC hr hlk hin h H locs ls hM hl
  unfold wX8_isFew at h
  refine lv_iload_n hC.1 hC.2.1 dX8_isFew_0 rfl (lv_at hl 0 rfl) ?_
  refine lv_if_lt (tgt := 14) hC.1 hC.2.1 dX8_isFew_1 (by decide) (fun c_1 => ?_) (fun c_1 => ?_)
  · have h := h.1 c_1
    refine lv_iconst (v := 0) hC.1 hC.2.1 dX8_isFew_14 (by decide) ?_
    exact mm_zret hC hr hlk hM rfl h dX8_isFew_15
  · have h := h.2 c_1
    refine lv_iload_n hC.1 hC.2.1 dX8_isFew_4 rfl (lv_at hl 0 rfl) ?_
    refine lv_bipush (v := 12) hC.1 hC.2.1 dX8_isFew_5 (by decide) ?_
    refine lv_icmp_gt (tgt := 14) hC.1 hC.2.1 dX8_isFew_7 (by decide) (fun c_2 => ?_) (fun c_2 => ?_)
    · have h := h.1 c_2
      refine lv_iconst (v := 0) hC.1 hC.2.1 dX8_isFew_14 (by decide) ?_
      exact mm_zret hC hr hlk hM rfl h dX8_isFew_15
    · have h := h.2 c_2
      refine lv_iconst (v := 1) hC.1 hC.2.1 dX8_isFew_10 (by decide) ?_
      refine lv_goto (tgt := 15) hC.1 hC.2.1 dX8_isFew_11 (by decide) ?_
      exact mm_zret hC hr hlk hM rfl h dX8_isFew_15
