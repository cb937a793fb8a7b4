set_option maxHeartbeats 4000000 in
set_option maxRecDepth 100000 in
theorem qX9_brings_3 {p : Program} {l : Launch} {e : Env} {s : State} {m : MethodId} {args : Array Value} {below : List Frame} {meth : Method} {c : Code} {G : Gt} {b0 : Nat} (hC : CallFix p m c cX9_brings 5 s args lw_g RX9) (hr : meth.sig.returnType = none) (hlk : meth.locks = false) {K : St → Prop} : ∀ (n : Nat) (x0 : Nat) (x1 : Int32) (x2 : Nat) (x3 : Int32) (x4 : Int32) (S : St) (H : Heap) (locs : List Loc) (ls : Array Slot), wX9_brings_3 K n x0 x1 x2 x3 x4 S → MM G b0 s S H locs → lv_has ls 5 [(0, .ref (b0 + x0)), (1, .int x1), (2, .ref (b0 + x2)), (3, .int x3), (4, .int x4)] → W p l e rmX9_brings s m args below meth c H locs 0 0 (MQ below (va_Qv K (ME G b0) (AB b0)) args s 0 0 (AB b0)) (F0 m 3 ls []) := by
  intro n
  induction n with
  | zero =>
    intro x0 x1 x2 x3 x4 S H locs ls h
    exact False.elim h
  | succ n ih =>
    intro x0 x1 x2 x3 x4 S H locs ls h hM hl
    rw [wX9_brings_3] at h
    refine lv_iload hC.1 hC.2.1 dX9_brings_3 (lv_at hl 4 rfl) ?_
    refine lv_iload_n hC.1 hC.2.1 dX9_brings_5 rfl (lv_at hl 3 rfl) ?_
    refine lv_icmp_ge (tgt := 28) hC.1 hC.2.1 dX9_brings_6 (by decide) (fun c_1 => ?_) (fun c_1 => ?_)
    · have h := h.1 c_1
      exact mm_vret hC hr hlk hM h dX9_brings_28
    · have h := h.2 c_1
      refine lv_aload_n hC.1 hC.2.1 dX9_brings_9 rfl (lv_at hl 2 rfl) ?_
      refine lv_iload hC.1 hC.2.1 dX9_brings_10 (lv_at hl 4 rfl) ?_
      refine lv_aload_n hC.1 hC.2.1 dX9_brings_12 rfl (lv_at hl 0 rfl) ?_
      obtain ⟨ok_2, h⟩ := h
      refine mm_gr hC hM (ci := 9) (j := 22) ok_2 rfl (by decide) (by decide) tw_813 rfl dX9_brings_13 ?_
      refine lv_iload_n hC.1 hC.2.1 dX9_brings_16 rfl (lv_at hl 1 rfl) ?_
      refine lv_iload hC.1 hC.2.1 dX9_brings_17 (lv_at hl 4 rfl) ?_
      refine lv_iadd hC.1 hC.2.1 dX9_brings_19 ?_
      obtain ⟨ok_3, h⟩ := h
      refine mm_il hC hM ok_3 dX9_brings_20 ?_
      obtain ⟨ok_4, h⟩ := h
      refine mm_is hC hM ok_4 dX9_brings_21 (fun S_5 H locs eS_5 hM => ?_)
      have h := h S_5 eS_5
      obtain ⟨x4_6, ex4_6⟩ : ∃ y : Int32, y = x4 + 1 := ⟨_, rfl⟩
      have h := h x4_6 ex4_6
      refine lv_iinc (v := x4_6) (lv' := [(4, .int x4_6), (0, .ref (b0 + x0)), (1, .int x1), (2, .ref (b0 + x2)), (3, .int x3)]) hC.1 hC.2.1 dX9_brings_22 hl (k := 4) rfl (by rw [ex4_6]; rfl) (by decide) rfl (fun ls hl => ?_)
      refine lv_goto (tgt := 3) hC.1 hC.2.1 dX9_brings_25 (by decide) ?_
      exact ih _ _ _ _ _ _ H locs ls h hM (lv_sub hl [1, 2, 3, 4, 0] rfl)
set_option maxHeartbeats 4000000 in
set_option maxRecDepth 100000 in
theorem mX9_brings (l : Launch) (G : Gt) (b0 : Nat) (S : St) (o : Nat) (x1 : Int32) (x2 : Nat) (x3 : Int32) (K : St → Prop) : CV l G b0 S yX9_brings cX9_brings 5 none rmX9_brings [.ref (b0 + o), .int x1, .ref (b0 + x2), .int x3] (wX9_brings S o x1 x2 x3 K) K := by
  refine met_of (by decide) (Nat.le_of_ble_eq_true rfl) rfl ?_
  intro p e s m below meth c hC hr hlk hin h H locs ls hM hl
  unfold wX9_brings at h
  refine lv_iconst (v := 0) hC.1 hC.2.1 dX9_brings_0 (by decide) ?_
  refine lv_istore (lv' := [(4, .int 0), (0, .ref (b0 + o)), (1, .int x1), (2, .ref (b0 + x2)), (3, .int x3)]) hC.1 hC.2.1 dX9_brings_1 hl (by decide) rfl (fun ls hl => ?_)
  obtain ⟨n1, h⟩ := h
  exact qX9_brings_3 hC hr hlk n1 _ _ _ _ _ _ H locs ls h hM (lv_sub hl [1, 2, 3, 4, 0] rfl)
set_option maxHeartbeats 4000000 in
set_option maxRecDepth 100000 in
theorem mX9_has (l : Launch) (G : Gt) (b0 : Nat) (S : St) (x0 : Int32) (x1 : Int32) (K : Int32 → St → Prop) : CI l G b0 S yX9_has cX9_has 2 (some .boolean) rmX9_has [.int x0, .int x1] (wX9_has S x0 x1 K) K := by
  refine met_of (by decide) (Nat.le_of_ble_eq_true rfl) rfl ?_
  intro p e s m below meth c hC hr hlk hin h H locs ls hM hl
  unfold wX9_has at h
  refine lv_iload_n hC.1 hC.2.1 dX9_has_0 rfl (lv_at hl 0 rfl) ?_
  refine lv_iload_n hC.1 hC.2.1 dX9_has_1 rfl (lv_at hl 1 rfl) ?_
  refine lv_ishr hC.1 hC.2.1 dX9_has_2 ?_
  refine lv_iconst (v := 1) hC.1 hC.2.1 dX9_has_3 (by decide) ?_
  refine lv_iand hC.1 hC.2.1 dX9_has_4 ?_
  refine lv_iconst (v := 1) hC.1 hC.2.1 dX9_has_5 (by decide) ?_
  refine lv_icmp_ne (tgt := 13) hC.1 hC.2.1 dX9_has_6 (by decide) (fun c_1 => ?_) (fun c_1 => ?_)
  · have h := h.2 c_1
    refine lv_iconst (v := 0) hC.1 hC.2.1 dX9_has_13 (by decide) ?_
    exact mm_zret hC hr hlk hM rfl h dX9_has_14
  · have h := h.1 c_1
    refine lv_iconst (v := 1) hC.1 hC.2.1 dX9_has_9 (by decide) ?_
    refine lv_goto (tgt := 14) hC.1 hC.2.1 dX9_has_10 (by decide) ?_
    exact mm_zret hC hr hlk hM rfl h dX9_has_14
set_option maxHeartbeats 4000000 in
set_option maxRecDepth 100000 in
theorem qX9_size_24 {p : Program} {l : Launch} {e : Env} {s : State} {m : MethodId} {args : Array Value} {below : List Frame} {meth : Method} {c : Code} {G : Gt} {b0 : Nat} (hC : CallFix p m c cX9_size 3 s args lw_g RX9) (hr : meth.sig.returnType = (some .int)) (hlk : meth.locks = false) {K : Int32 → St → Prop} {B4 : Int32 → Int32 → Int32 → St → Prop} (hB4 : ∀ (x0 : Int32) (x1 : Int32) (x2 : Int32) (S : St) (H : Heap) (locs : List Loc) (ls : Array Slot), B4 x0 x1 x2 S → MM G b0 s S H locs → lv_has ls 3 [(0, .int x0), (1, .int x1), (2, .int x2)] → W p l e rmX9_size s m args below meth c H locs 0 0 (MQ below (va_Qi K (ME G b0) (AB b0)) args s 0 0 (AB b0)) (F0 m 4 ls [])) : ∀ (x0 : Int32) (x2 : Int32) (t0 : Int32) (t1 : Int32) (S : St) (H : Heap) (locs : List Loc) (ls : Array Slot), wX9_size_24 K B4 x0 x2 t0 t1 S → MM G b0 s S H locs → lv_has ls 3 [(0, .int x0), (2, .int x2)] → W p l e rmX9_size s m args below meth c H locs 0 0 (MQ below (va_Qi K (ME G b0) (AB b0)) args s 0 0 (AB b0)) (F0 m 24 ls [.int t1, .int t0]) := by
  intro x0 x2 t0 t1 S H locs ls h hM hl
  unfold wX9_size_24 at h
  refine lv_iadd hC.1 hC.2.1 dX9_size_24 ?_
  refine lv_topi (fun x1_1 ex1_1 => ?_)
  have h := h x1_1 ex1_1
  refine lv_istore_n (lv' := [(1, .int x1_1), (0, .int x0), (2, .int x2)]) hC.1 hC.2.1 dX9_size_25 rfl hl (by decide) rfl (fun ls hl => ?_)
  obtain ⟨x2_2, ex2_2⟩ : ∃ y : Int32, y = x2 + 1 := ⟨_, rfl⟩
  have h := h x2_2 ex2_2
  refine lv_iinc (v := x2_2) (lv' := [(2, .int x2_2), (1, .int x1_1), (0, .int x0)]) hC.1 hC.2.1 dX9_size_26 hl (k := 2) rfl (by rw [ex2_2]; rfl) (by decide) rfl (fun ls hl => ?_)
  refine lv_goto (tgt := 4) hC.1 hC.2.1 dX9_size_29 (by decide) ?_
  exact hB4 _ _ _ _ H locs ls h hM (lv_sub hl [2, 1, 0] rfl)
set_option maxHeartbeats 4000000 in
set_option maxRecDepth 100000 in
theorem qX9_size_4 {p : Program} {l : Launch} {e : Env} {s : State} {m : MethodId} {args : Array Value} {below : List Frame} {meth : Method} {c : Code} {G : Gt} {b0 : Nat} (hC : CallFix p m c cX9_size 3 s args lw_g RX9) (hr : meth.sig.returnType = (some .int)) (hlk : meth.locks = false) {K : Int32 → St → Prop} : ∀ (n : Nat) (x0 : Int32) (x1 : Int32) (x2 : Int32) (S : St) (H : Heap) (locs : List Loc) (ls : Array Slot), wX9_size_4 K n x0 x1 x2 S → MM G b0 s S H locs → lv_has ls 3 [(0, .int x0), (1, .int x1), (2, .int x2)] → W p l e rmX9_size s m args below meth c H locs 0 0 (MQ below (va_Qi K (ME G b0) (AB b0)) args s 0 0 (AB b0)) (F0 m 4 ls []) := by
  intro n
  induction n with
  | zero =>
    intro x0 x1 x2 S H locs ls h
    exact False.elim h
  | succ n ih =>
    intro x0 x1 x2 S H locs ls h hM hl
    rw [wX9_size_4] at h
    refine lv_iload_n hC.1 hC.2.1 dX9_size_4 rfl (lv_at hl 2 rfl) ?_
    refine lv_bipush (v := 12) hC.1 hC.2.1 dX9_size_5 (by decide) ?_
    refine lv_icmp_ge (tgt := 32) hC.1 hC.2.1 dX9_size_7 (by decide) (fun c_3 => ?_) (fun c_3 => ?_)
    · have h := h.1 c_3
      refine lv_iload_n hC.1 hC.2.1 dX9_size_32 rfl (lv_at hl 1 rfl) ?_
      exact mm_iret hC hr hlk hM h dX9_size_33
    · have h := h.2 c_3
      refine lv_iload_n hC.1 hC.2.1 dX9_size_10 rfl (lv_at hl 1 rfl) ?_
      refine lv_iload_n hC.1 hC.2.1 dX9_size_11 rfl (lv_at hl 0 rfl) ?_
      refine lv_iload_n hC.1 hC.2.1 dX9_size_12 rfl (lv_at hl 2 rfl) ?_
      refine mm_ri hM (mm_S (As := [.int x0, .int x2]) (rest := [.int x1]) hC hM hl.1 (mX9_has l G b0 S x0 x2 _) h kX9_has tw_772 rfl (by decide) rfl (Nat.le_of_ble_eq_true rfl) dX9_size_13 (by decide)) (fun r_5 S_4 H locs h hM => ?_)
      refine lv_if_eq (tgt := 23) hC.1 hC.2.1 dX9_size_16 (by decide) (fun c_6 => ?_) (fun c_6 => ?_)
      · have h := h.1 c_6
        refine lv_iconst (v := 0) hC.1 hC.2.1 dX9_size_23 (by decide) ?_
        exact qX9_size_24 hC hr hlk ih _ _ _ _ _ H locs ls h hM (lv_sub hl [0, 2] rfl)
      · have h := h.2 c_6
        refine lv_iconst (v := 1) hC.1 hC.2.1 dX9_size_19 (by decide) ?_
        refine lv_goto (tgt := 24) hC.1 hC.2.1 dX9_size_20 (by decide) ?_
        exact qX9_size_24 hC hr hlk ih _ _ _ _ _ H locs ls h hM (lv_sub hl [0, 2] rfl)
set_option maxHeartbeats 4000000 in
set_option maxRecDepth 100000 in
theorem mX9_size (l : Launch) (G : Gt) (b0 : Nat) (S : St) (x0 : Int32) (K : Int32 → St → Prop) : CI l G b0 S yX9_size cX9_size 3 (some .int) rmX9_size [.int x0] (wX9_size S x0 K) K := by
  refine met_of (by decide) (Nat.le_of_ble_eq_true rfl) rfl ?_
  intro p e s m below meth c hC hr hlk hin h H locs ls hM hl
  unfold wX9_size at h
  refine lv_iconst (v := 0) hC.1 hC.2.1 dX9_size_0 (by decide) ?_
  refine lv_istore_n (lv' := [(1, .int 0), (0, .int x0)]) hC.1 hC.2.1 dX9_size_1 rfl hl (by decide) rfl (fun ls hl => ?_)
  refine lv_iconst (v := 0) hC.1 hC.2.1 dX9_size_2 (by decide) ?_
  refine lv_istore_n (lv' := [(2, .int 0), (1, .int 0), (0, .int x0)]) hC.1 hC.2.1 dX9_size_3 rfl hl (by decide) rfl (fun ls hl => ?_)
  obtain ⟨n1, h⟩ := h
  exact qX9_size_4 hC hr hlk n1 _ _ _ _ H locs ls h hM (lv_sub hl [2, 1, 0] rfl)
set_option maxHeartbeats 4000000 in
set_option maxRecDepth 100000 in
theorem qX9_isPairs_92 {p : Program} {l : Launch} {e : Env} {s : State} {m : MethodId} {args : Array Value} {below : List Frame} {meth : Method} {c : Code} {G : Gt} {b0 : Nat} (hC : CallFix p m c cX9_isPairs 6 s args lw_g RX9) (hr : meth.sig.returnType = (some .boolean)) (hlk : meth.locks = false) {K : Int32 → St → Prop} {B31 : Nat → Int32 → Int32 → Int32 → Int32 → Int32 → St → Prop} (hB31 : ∀ (x0 : Nat) (x1 : Int32) (x2 : Int32) (x3 : Int32) (x4 : Int32) (x5 : Int32) (S : St) (H : Heap) (locs : List Loc) (ls : Array Slot), B31 x0 x1 x2 x3 x4 x5 S → MM G b0 s S H locs → lv_has ls 6 [(0, .ref (b0 + x0)), (1, .int x1), (2, .int x2), (3, .int x3), (4, .int x4), (5, .int x5)] → W p l e rmX9_isPairs s m args below meth c H locs 0 0 (MQ below (va_Qi K (ME G b0) (AB b0)) args s 0 0 (AB b0)) (F0 m 31 ls [])) : ∀ (x0 : Nat) (x1 : Int32) (x2 : Int32) (x3 : Int32) (x4 : Int32) (x5 : Int32) (S : St) (H : Heap) (locs : List Loc) (ls : Array Slot), wX9_isPairs_92 K B31 x0 x1 x2 x3 x4 x5 S → MM G b0 s S H locs → lv_has ls 6 [(0, .ref (b0 + x0)), (1, .int x1), (2, .int x2), (3, .int x3), (4, .int x4), (5, .int x5)] → W p l e rmX9_isPairs s m args below meth c H locs 0 0 (MQ below (va_Qi K (ME G b0) (AB b0)) args s 0 0 (AB b0)) (F0 m 92 ls []) := by
  intro x0 x1 x2 x3 x4 x5 S H locs ls h hM hl
  unfold wX9_isPairs_92 at h
  obtain ⟨x5_1, ex5_1⟩ : ∃ y : Int32, y = x5 + 1 := ⟨_, rfl⟩
  have h := h x5_1 ex5_1
  refine lv_iinc (v := x5_1) (lv' := [(5, .int x5_1), (0, .ref (b0 + x0)), (1, .int x1), (2, .int x2), (3, .int x3), (4, .int x4)]) hC.1 hC.2.1 dX9_isPairs_92 hl (k := 5) rfl (by rw [ex5_1]; rfl) (by decide) rfl (fun ls hl => ?_)
  refine lv_goto (tgt := 31) hC.1 hC.2.1 dX9_isPairs_95 (by decide) ?_
  exact hB31 _ _ _ _ _ _ _ H locs ls h hM (lv_sub hl [1, 2, 3, 4, 5, 0] rfl)
set_option maxHeartbeats 4000000 in
set_option maxRecDepth 100000 in
theorem qX9_isPairs_89 {p : Program} {l : Launch} {e : Env} {s : State} {m : MethodId} {args : Array Value} {below : List Frame} {meth : Method} {c : Code} {G : Gt} {b0 : Nat} (hC : CallFix p m c cX9_isPairs 6 s args lw_g RX9) (hr : meth.sig.returnType = (some .boolean)) (hlk : meth.locks = false) {K : Int32 → St → Prop} {B31 : Nat → Int32 → Int32 → Int32 → Int32 → Int32 → St → Prop} (hB31 : ∀ (x0 : Nat) (x1 : Int32) (x2 : Int32) (x3 : Int32) (x4 : Int32) (x5 : Int32) (S : St) (H : Heap) (locs : List Loc) (ls : Array Slot), B31 x0 x1 x2 x3 x4 x5 S → MM G b0 s S H locs → lv_has ls 6 [(0, .ref (b0 + x0)), (1, .int x1), (2, .int x2), (3, .int x3), (4, .int x4), (5, .int x5)] → W p l e rmX9_isPairs s m args below meth c H locs 0 0 (MQ below (va_Qi K (ME G b0) (AB b0)) args s 0 0 (AB b0)) (F0 m 31 ls [])) : ∀ (x0 : Nat) (x1 : Int32) (x2 : Int32) (x3 : Int32) (x5 : Int32) (t0 : Int32) (t1 : Int32) (S : St) (H : Heap) (locs : List Loc) (ls : Array Slot), wX9_isPairs_89 K B31 x0 x1 x2 x3 x5 t0 t1 S → MM G b0 s S H locs → lv_has ls 6 [(0, .ref (b0 + x0)), (1, .int x1), (2, .int x2), (3, .int x3), (5, .int x5)] → W p l e rmX9_isPairs s m args below meth c H locs 0 0 (MQ below (va_Qi K (ME G b0) (AB b0)) args s 0 0 (AB b0)) (F0 m 89 ls [.int t1, .int t0]) := by
  intro x0 x1 x2 x3 x5 t0 t1 S H locs ls h hM hl
  unfold wX9_isPairs_89 at h
  refine lv_iadd hC.1 hC.2.1 dX9_isPairs_89 ?_
  refine lv_topi (fun x4_2 ex4_2 => ?_)
  have h := h x4_2 ex4_2
  refine lv_istore (lv' := [(4, .int x4_2), (0, .ref (b0 + x0)), (1, .int x1), (2, .int x2), (3, .int x3), (5, .int x5)]) hC.1 hC.2.1 dX9_isPairs_90 hl (by decide) rfl (fun ls hl => ?_)
  exact qX9_isPairs_92 hC hr hlk hB31 _ _ _ _ _ _ _ H locs ls h hM (lv_sub hl [1, 2, 3, 4, 0, 5] rfl)
set_option maxHeartbeats 4000000 in
set_option maxRecDepth 100000 in
theorem qX9_isPairs_69 {p : Program} {l : Launch} {e : Env} {s : State} {m : MethodId} {args : Array Value} {below : List Frame} {meth : Method} {c : Code} {G : Gt} {b0 : Nat} (hC : CallFix p m c cX9_isPairs 6 s args lw_g RX9) (hr : meth.sig.returnType = (some .boolean)) (hlk : meth.locks = false) {K : Int32 → St → Prop} {B31 : Nat → Int32 → Int32 → Int32 → Int32 → Int32 → St → Prop} (hB31 : ∀ (x0 : Nat) (x1 : Int32) (x2 : Int32) (x3 : Int32) (x4 : Int32) (x5 : Int32) (S : St) (H : Heap) (locs : List Loc) (ls : Array Slot), B31 x0 x1 x2 x3 x4 x5 S → MM G b0 s S H locs → lv_has ls 6 [(0, .ref (b0 + x0)), (1, .int x1), (2, .int x2), (3, .int x3), (4, .int x4), (5, .int x5)] → W p l e rmX9_isPairs s m args below meth c H locs 0 0 (MQ below (va_Qi K (ME G b0) (AB b0)) args s 0 0 (AB b0)) (F0 m 31 ls [])) : ∀ (x0 : Nat) (x1 : Int32) (x2 : Int32) (x4 : Int32) (x5 : Int32) (t0 : Int32) (t1 : Int32) (S : St) (H : Heap) (locs : List Loc) (ls : Array Slot), wX9_isPairs_69 K B31 x0 x1 x2 x4 x5 t0 t1 S → MM G b0 s S H locs → lv_has ls 6 [(0, .ref (b0 + x0)), (1, .int x1), (2, .int x2), (4, .int x4), (5, .int x5)] → W p l e rmX9_isPairs s m args below meth c H locs 0 0 (MQ below (va_Qi K (ME G b0) (AB b0)) args s 0 0 (AB b0)) (F0 m 69 ls [.int t1, .int t0]) := by
  intro x0 x1 x2 x4 x5 t0 t1 S H locs ls h hM hl
  unfold wX9_isPairs_69 at h
  refine lv_iadd hC.1 hC.2.1 dX9_isPairs_69 ?_
  refine lv_topi (fun x3_3 ex3_3 => ?_)
  have h := h x3_3 ex3_3
  refine lv_istore_n (lv' := [(3, .int x3_3), (0, .ref (b0 + x0)), (1, .int x1), (2, .int x2), (4, .int x4), (5, .int x5)]) hC.1 hC.2.1 dX9_isPairs_70 rfl hl (by decide) rfl (fun ls hl => ?_)
  refine lv_iload hC.1 hC.2.1 dX9_isPairs_71 (lv_at hl 4 rfl) ?_
  refine lv_aload_n hC.1 hC.2.1 dX9_isPairs_73 rfl (lv_at hl 1 rfl) ?_
  obtain ⟨ok_4, h⟩ := h
  refine mm_gr hC hM (ci := 9) (j := 7) ok_4 rfl (by decide) (by decide) tw_798 rfl dX9_isPairs_74 ?_
  refine lv_iload hC.1 hC.2.1 dX9_isPairs_77 (lv_at hl 5 rfl) ?_
  obtain ⟨ok_5, h⟩ := h
  refine mm_il hC hM ok_5 dX9_isPairs_79 ?_
  refine lv_iload_n hC.1 hC.2.1 dX9_isPairs_80 rfl (lv_at hl 3 rfl) ?_
  refine lv_icmp_ne (tgt := 88) hC.1 hC.2.1 dX9_isPairs_81 (by decide) (fun c_6 => ?_) (fun c_6 => ?_)
  · have h := h.2 c_6
    refine lv_iconst (v := 0) hC.1 hC.2.1 dX9_isPairs_88 (by decide) ?_
    exact qX9_isPairs_89 hC hr hlk hB31 _ _ _ _ _ _ _ _ H locs ls h hM (lv_sub hl [1, 2, 3, 0, 5] rfl)
  · have h := h.1 c_6
    refine lv_iconst (v := 1) hC.1 hC.2.1 dX9_isPairs_84 (by decide) ?_
    refine lv_goto (tgt := 89) hC.1 hC.2.1 dX9_isPairs_85 (by decide) ?_
    exact qX9_isPairs_89 hC hr hlk hB31 _ _ _ _ _ _ _ _ H locs ls h hM (lv_sub hl [1, 2, 3, 0, 5] rfl)
set_option maxHeartbeats 4000000 in
set_option maxRecDepth 100000 in
theorem qX9_isPairs_98 {p : Program} {l : Launch} {e : Env} {s : State} {m : MethodId} {args : Array Value} {below : List Frame} {meth : Method} {c : Code} {G : Gt} {b0 : Nat} (hC : CallFix p m c cX9_isPairs 6 s args lw_g RX9) (hr : meth.sig.returnType = (some .boolean)) (hlk : meth.locks = false) {K : Int32 → St → Prop} {B15 : Nat → Int32 → Int32 → St → Prop} (hB15 : ∀ (x0 : Nat) (x1 : Int32) (x2 : Int32) (S : St) (H : Heap) (locs : List Loc) (ls : Array Slot), B15 x0 x1 x2 S → MM G b0 s S H locs → lv_has ls 6 [(0, .ref (b0 + x0)), (1, .int x1), (2, .int x2)] → W p l e rmX9_isPairs s m args below meth c H locs 0 0 (MQ below (va_Qi K (ME G b0) (AB b0)) args s 0 0 (AB b0)) (F0 m 15 ls [])) : ∀ (x0 : Nat) (x1 : Int32) (x2 : Int32) (x3 : Int32) (x4 : Int32) (S : St) (H : Heap) (locs : List Loc) (ls : Array Slot), wX9_isPairs_98 K B15 x0 x1 x2 x3 x4 S → MM G b0 s S H locs → lv_has ls 6 [(0, .ref (b0 + x0)), (1, .int x1), (2, .int x2), (3, .int x3), (4, .int x4)] → W p l e rmX9_isPairs s m args below meth c H locs 0 0 (MQ below (va_Qi K (ME G b0) (AB b0)) args s 0 0 (AB b0)) (F0 m 98 ls []) := by
  intro x0 x1 x2 x3 x4 S H locs ls h hM hl
  unfold wX9_isPairs_98 at h
  refine lv_iload_n hC.1 hC.2.1 dX9_isPairs_98 rfl (lv_at hl 3 rfl) ?_
  refine lv_iconst (v := 1) hC.1 hC.2.1 dX9_isPairs_99 (by decide) ?_
  refine lv_icmp_ne (tgt := 109) hC.1 hC.2.1 dX9_isPairs_100 (by decide) (fun c_7 => ?_) (fun c_7 => ?_)
  · have h := h.2 c_7
    refine lv_iconst (v := 0) hC.1 hC.2.1 dX9_isPairs_109 (by decide) ?_
    exact mm_zret hC hr hlk hM rfl h dX9_isPairs_110
  · have h := h.1 c_7
    refine lv_iload hC.1 hC.2.1 dX9_isPairs_103 (lv_at hl 4 rfl) ?_
    refine lv_iconst (v := 1) hC.1 hC.2.1 dX9_isPairs_105 (by decide) ?_
    refine lv_icmp_eq (tgt := 111) hC.1 hC.2.1 dX9_isPairs_106 (by decide) (fun c_8 => ?_) (fun c_8 => ?_)
    · have h := h.1 c_8
      obtain ⟨x2_9, ex2_9⟩ : ∃ y : Int32, y = x2 + 1 := ⟨_, rfl⟩
      have h := h x2_9 ex2_9
      refine lv_iinc (v := x2_9) (lv' := [(2, .int x2_9), (0, .ref (b0 + x0)), (1, .int x1), (3, .int x3), (4, .int x4)]) hC.1 hC.2.1 dX9_isPairs_111 hl (k := 2) rfl (by rw [ex2_9]; rfl) (by decide) rfl (fun ls hl => ?_)
      refine lv_goto (tgt := 15) hC.1 hC.2.1 dX9_isPairs_114 (by decide) ?_
      exact hB15 _ _ _ _ H locs ls h hM (lv_sub hl [1, 2, 0] rfl)
    · have h := h.2 c_8
      refine lv_iconst (v := 0) hC.1 hC.2.1 dX9_isPairs_109 (by decide) ?_
      exact mm_zret hC hr hlk hM rfl h dX9_isPairs_110
set_option maxHeartbeats 4000000 in
set_option maxRecDepth 100000 in
theorem qX9_isPairs_31 {p : Program} {l : Launch} {e : Env} {s : State} {m : MethodId} {args : Array Value} {below : List Frame} {meth : Method} {c : Code} {G : Gt} {b0 : Nat} (hC : CallFix p m c cX9_isPairs 6 s args lw_g RX9) (hr : meth.sig.returnType = (some .boolean)) (hlk : meth.locks = false) {K : Int32 → St → Prop} {B15 : Nat → Int32 → Int32 → St → Prop} (hB15 : ∀ (x0 : Nat) (x1 : Int32) (x2 : Int32) (S : St) (H : Heap) (locs : List Loc) (ls : Array Slot), B15 x0 x1 x2 S → MM G b0 s S H locs → lv_has ls 6 [(0, .ref (b0 + x0)), (1, .int x1), (2, .int x2)] → W p l e rmX9_isPairs s m args below meth c H locs 0 0 (MQ below (va_Qi K (ME G b0) (AB b0)) args s 0 0 (AB b0)) (F0 m 15 ls [])) : ∀ (n : Nat) (x0 : Nat) (x1 : Int32) (x2 : Int32) (x3 : Int32) (x4 : Int32) (x5 : Int32) (S : St) (H : Heap) (locs : List Loc) (ls : Array Slot), wX9_isPairs_31 K B15 n x0 x1 x2 x3 x4 x5 S → MM G b0 s S H locs → lv_has ls 6 [(0, .ref (b0 + x0)), (1, .int x1), (2, .int x2), (3, .int x3), (4, .int x4), (5, .int x5)] → W p l e rmX9_isPairs s m args below meth c H locs 0 0 (MQ below (va_Qi K (ME G b0) (AB b0)) args s 0 0 (AB b0)) (F0 m 31 ls []) := by
  intro n
  induction n with
  | zero =>
    intro x0 x1 x2 x3 x4 x5 S H locs ls h
    exact False.elim h
  | succ n ih =>
    intro x0 x1 x2 x3 x4 x5 S H locs ls h hM hl
    rw [wX9_isPairs_31] at h
    refine lv_iload hC.1 hC.2.1 dX9_isPairs_31 (lv_at hl 5 rfl) ?_
    refine lv_aload_n hC.1 hC.2.1 dX9_isPairs_33 rfl (lv_at hl 0 rfl) ?_
    obtain ⟨ok_10, h⟩ := h
    refine mm_gi hC hM (ci := 9) (j := 1) ok_10 rfl (by decide) (by decide) tw_792 rfl dX9_isPairs_34 ?_
    refine lv_icmp_ge (tgt := 98) hC.1 hC.2.1 dX9_isPairs_37 (by decide) (fun c_11 => ?_) (fun c_11 => ?_)
    · have h := h.1 c_11
      exact qX9_isPairs_98 hC hr hlk hB15 _ _ _ _ _ _ H locs ls h hM (lv_sub hl [0, 1, 2, 3, 4] rfl)
    · have h := h.2 c_11
      refine lv_iload_n hC.1 hC.2.1 dX9_isPairs_40 rfl (lv_at hl 1 rfl) ?_
      refine lv_iload hC.1 hC.2.1 dX9_isPairs_41 (lv_at hl 5 rfl) ?_
      refine mm_ri hM (mm_S (As := [.int x1, .int x5]) (rest := []) hC hM hl.1 (mX9_has l G b0 S x1 x5 _) h kX9_has tw_772 rfl (by decide) rfl (Nat.le_of_ble_eq_true rfl) dX9_isPairs_43 (by decide)) (fun r_13 S_12 H locs h hM => ?_)
      refine lv_if_ne (tgt := 52) hC.1 hC.2.1 dX9_isPairs_46 (by decide) (fun c_14 => ?_) (fun c_14 => ?_)
      · have h := h.2 c_14
        refine lv_iload_n hC.1 hC.2.1 dX9_isPairs_52 rfl (lv_at hl 3 rfl) ?_
        refine lv_aload_n hC.1 hC.2.1 dX9_isPairs_53 rfl (lv_at hl 0 rfl) ?_
        obtain ⟨ok_15, h⟩ := h
        refine mm_gr hC hM (ci := 9) (j := 6) ok_15 rfl (by decide) (by decide) tw_797 rfl dX9_isPairs_54 ?_
        refine lv_iload hC.1 hC.2.1 dX9_isPairs_57 (lv_at hl 5 rfl) ?_
        obtain ⟨ok_16, h⟩ := h
        refine mm_il hC hM ok_16 dX9_isPairs_59 ?_
        refine lv_iload_n hC.1 hC.2.1 dX9_isPairs_60 rfl (lv_at hl 2 rfl) ?_
        refine lv_icmp_ne (tgt := 68) hC.1 hC.2.1 dX9_isPairs_61 (by decide) (fun c_17 => ?_) (fun c_17 => ?_)
        · have h := h.2 c_17
          refine lv_iconst (v := 0) hC.1 hC.2.1 dX9_isPairs_68 (by decide) ?_
          exact qX9_isPairs_69 hC hr hlk ih _ _ _ _ _ _ _ _ H locs ls h hM (lv_sub hl [0, 1, 2, 4, 5] rfl)
        · have h := h.1 c_17
          refine lv_iconst (v := 1) hC.1 hC.2.1 dX9_isPairs_64 (by decide) ?_
          refine lv_goto (tgt := 69) hC.1 hC.2.1 dX9_isPairs_65 (by decide) ?_
          exact qX9_isPairs_69 hC hr hlk ih _ _ _ _ _ _ _ _ H locs ls h hM (lv_sub hl [0, 1, 2, 4, 5] rfl)
      · have h := h.1 c_14
        refine lv_goto (tgt := 92) hC.1 hC.2.1 dX9_isPairs_49 (by decide) ?_
        exact qX9_isPairs_92 hC hr hlk ih _ _ _ _ _ _ _ H locs ls h hM (lv_sub hl [0, 1, 2, 3, 4, 5] rfl)
set_option maxHeartbeats 4000000 in
set_option maxRecDepth 100000 in
theorem qX9_isPairs_15 {p : Program} {l : Launch} {e : Env} {s : State} {m : MethodId} {args : Array Value} {below : List Frame} {meth : Method} {c : Code} {G : Gt} {b0 : Nat} (hC : CallFix p m c cX9_isPairs 6 s args lw_g RX9) (hr : meth.sig.returnType = (some .boolean)) (hlk : meth.locks = false) {K : Int32 → St → Prop} : ∀ (n : Nat) (x0 : Nat) (x1 : Int32) (x2 : Int32) (S : St) (H : Heap) (locs : List Loc) (ls : Array Slot), wX9_isPairs_15 K n x0 x1 x2 S → MM G b0 s S H locs → lv_has ls 6 [(0, .ref (b0 + x0)), (1, .int x1), (2, .int x2)] → W p l e rmX9_isPairs s m args below meth c H locs 0 0 (MQ below (va_Qi K (ME G b0) (AB b0)) args s 0 0 (AB b0)) (F0 m 15 ls []) := by
  intro n
  induction n with
  | zero =>
    intro x0 x1 x2 S H locs ls h
    exact False.elim h
  | succ n ih =>
    intro x0 x1 x2 S H locs ls h hM hl
    rw [wX9_isPairs_15] at h
    refine lv_iload_n hC.1 hC.2.1 dX9_isPairs_15 rfl (lv_at hl 2 rfl) ?_
    refine lv_aload_n hC.1 hC.2.1 dX9_isPairs_16 rfl (lv_at hl 0 rfl) ?_
    obtain ⟨ok_18, h⟩ := h
    refine mm_gi hC hM (ci := 9) (j := 3) ok_18 rfl (by decide) (by decide) tw_794 rfl dX9_isPairs_17 ?_
    refine lv_icmp_ge (tgt := 117) hC.1 hC.2.1 dX9_isPairs_20 (by decide) (fun c_19 => ?_) (fun c_19 => ?_)
    · have h := h.1 c_19
      refine lv_iconst (v := 1) hC.1 hC.2.1 dX9_isPairs_117 (by decide) ?_
      exact mm_zret hC hr hlk hM rfl h dX9_isPairs_118
    · have h := h.2 c_19
      refine lv_iconst (v := 0) hC.1 hC.2.1 dX9_isPairs_23 (by decide) ?_
      refine lv_istore_n (lv' := [(3, .int 0), (0, .ref (b0 + x0)), (1, .int x1), (2, .int x2)]) hC.1 hC.2.1 dX9_isPairs_24 rfl hl (by decide) rfl (fun ls hl => ?_)
      refine lv_iconst (v := 0) hC.1 hC.2.1 dX9_isPairs_25 (by decide) ?_
      refine lv_istore (lv' := [(4, .int 0), (3, .int 0), (0, .ref (b0 + x0)), (1, .int x1), (2, .int x2)]) hC.1 hC.2.1 dX9_isPairs_26 hl (by decide) rfl (fun ls hl => ?_)
      refine lv_iconst (v := 0) hC.1 hC.2.1 dX9_isPairs_28 (by decide) ?_
      refine lv_istore (lv' := [(5, .int 0), (4, .int 0), (3, .int 0), (0, .ref (b0 + x0)), (1, .int x1), (2, .int x2)]) hC.1 hC.2.1 dX9_isPairs_29 hl (by decide) rfl (fun ls hl => ?_)
      obtain ⟨n1, h⟩ := h
      exact qX9_isPairs_31 hC hr hlk ih n1 _ _ _ _ _ _ _ H locs ls h hM (lv_sub hl [3, 4, 5, 2, 1, 0] rfl)
set_option maxHeartbeats 4000000 in
set_option maxRecDepth 100000 in
theorem mX9_isPairs (l : Launch) (G : Gt) (b0 : Nat) (S : St) (o : Nat) (x1 : Int32) (K : Int32 → St → Prop) : CI l G b0 S yX9_isPairs cX9_isPairs 6 (some .boolean) rmX9_isPairs [.ref (b0 + o), .int x1] (wX9_isPairs S o x1 K) K := by
  refine met_of (by decide) (Nat.le_of_ble_eq_true rfl) rfl ?_
  intro p e s m below meth c hC hr hlk hin h H locs ls hM hl
  unfold wX9_isPairs at h
  refine lv_iload_n hC.1 hC.2.1 dX9_isPairs_0 rfl (lv_at hl 1 rfl) ?_
  refine mm_ri hM (mm_S (As := [.int x1]) (rest := []) hC hM hl.1 (mX9_size l G b0 S x1 _) h kX9_size tw_769 rfl (by decide) rfl (Nat.le_of_ble_eq_true rfl) dX9_isPairs_1 (by decide)) (fun r_21 S_20 H locs h hM => ?_)
  refine lv_aload_n hC.1 hC.2.1 dX9_isPairs_4 rfl (lv_at hl 0 rfl) ?_
  obtain ⟨ok_22, h⟩ := h
  refine mm_gi hC hM (ci := 9) (j := 3) ok_22 rfl (by decide) (by decide) tw_794 rfl dX9_isPairs_5 ?_
  refine lv_icmp_eq (tgt := 13) hC.1 hC.2.1 dX9_isPairs_8 (by decide) (fun c_23 => ?_) (fun c_23 => ?_)
  · have h := h.1 c_23
    refine lv_iconst (v := 0) hC.1 hC.2.1 dX9_isPairs_13 (by decide) ?_
    refine lv_istore_n (lv' := [(2, .int 0), (0, .ref (b0 + o)), (1, .int x1)]) hC.1 hC.2.1 dX9_isPairs_14 rfl hl (by decide) rfl (fun ls hl => ?_)
    obtain ⟨n1, h⟩ := h
    exact qX9_isPairs_15 hC hr hlk n1 _ _ _ _ H locs ls h hM (lv_sub hl [1, 2, 0] rfl)
  · have h := h.2 c_23
    refine lv_iconst (v := 0) hC.1 hC.2.1 dX9_isPairs_11 (by decide) ?_
    exact mm_zret hC hr hlk hM rfl h dX9_isPairs_12
set_option maxHeartbeats 4000000 in
set_option maxRecDepth 100000 in
theorem qX9_reached_84 {p : Program} {l : Launch} {e : Env} {s : State} {m : MethodId} {args : Array Value} {below : List Frame} {meth : Method} {c : Code} {G : Gt} {b0 : Nat} (hC : CallFix p m c cX9_reached 5 s args lw_g RX9) (hr : meth.sig.returnType = (some .int)) (hlk : meth.locks = false) {K : Int32 → St → Prop} {B13 : Nat → Int32 → Int32 → Int32 → Int32 → St → Prop} (hB13 : ∀ (x0 : Nat) (x1 : Int32) (x2 : Int32) (x3 : Int32) (x4 : Int32) (S : St) (H : Heap) (locs : List Loc) (ls : Array Slot), B13 x0 x1 x2 x3 x4 S → MM G b0 s S H locs → lv_has ls 5 [(0, .ref (b0 + x0)), (1, .int x1), (2, .int x2), (3, .int x3), (4, .int x4)] → W p l e rmX9_reached s m args below meth c H locs 0 0 (MQ below (va_Qi K (ME G b0) (AB b0)) args s 0 0 (AB b0)) (F0 m 13 ls [])) : ∀ (x0 : Nat) (x1 : Int32) (x2 : Int32) (x3 : Int32) (x4 : Int32) (S : St) (H : Heap) (locs : List Loc) (ls : Array Slot), wX9_reached_84 K B13 x0 x1 x2 x3 x4 S → MM G b0 s S H locs → lv_has ls 5 [(0, .ref (b0 + x0)), (1, .int x1), (2, .int x2), (3, .int x3), (4, .int x4)] → W p l e rmX9_reached s m args below meth c H locs 0 0 (MQ below (va_Qi K (ME G b0) (AB b0)) args s 0 0 (AB b0)) (F0 m 84 ls []) := by
  intro x0 x1 x2 x3 x4 S H locs ls h hM hl
  unfold wX9_reached_84 at h
  obtain ⟨x4_1, ex4_1⟩ : ∃ y : Int32, y = x4 + 1 := ⟨_, rfl⟩
  have h := h x4_1 ex4_1
  refine lv_iinc (v := x4_1) (lv' := [(4, .int x4_1), (0, .ref (b0 + x0)), (1, .int x1), (2, .int x2), (3, .int x3)]) hC.1 hC.2.1 dX9_reached_84 hl (k := 4) rfl (by rw [ex4_1]; rfl) (by decide) rfl (fun ls hl => ?_)
  refine lv_goto (tgt := 13) hC.1 hC.2.1 dX9_reached_87 (by decide) ?_
  exact hB13 _ _ _ _ _ _ H locs ls h hM (lv_sub hl [1, 2, 3, 4, 0] rfl)
set_option maxHeartbeats 4000000 in
set_option maxRecDepth 100000 in
theorem qX9_reached_62 {p : Program} {l : Launch} {e : Env} {s : State} {m : MethodId} {args : Array Value} {below : List Frame} {meth : Method} {c : Code} {G : Gt} {b0 : Nat} (hC : CallFix p m c cX9_reached 5 s args lw_g RX9) (hr : meth.sig.returnType = (some .int)) (hlk : meth.locks = false) {K : Int32 → St → Prop} {B13 : Nat → Int32 → Int32 → Int32 → Int32 → St → Prop} (hB13 : ∀ (x0 : Nat) (x1 : Int32) (x2 : Int32) (x3 : Int32) (x4 : Int32) (S : St) (H : Heap) (locs : List Loc) (ls : Array Slot), B13 x0 x1 x2 x3 x4 S → MM G b0 s S H locs → lv_has ls 5 [(0, .ref (b0 + x0)), (1, .int x1), (2, .int x2), (3, .int x3), (4, .int x4)] → W p l e rmX9_reached s m args below meth c H locs 0 0 (MQ below (va_Qi K (ME G b0) (AB b0)) args s 0 0 (AB b0)) (F0 m 13 ls [])) : ∀ (x0 : Nat) (x1 : Int32) (x2 : Int32) (x3 : Int32) (x4 : Int32) (S : St) (H : Heap) (locs : List Loc) (ls : Array Slot), wX9_reached_62 K B13 x0 x1 x2 x3 x4 S → MM G b0 s S H locs → lv_has ls 5 [(0, .ref (b0 + x0)), (1, .int x1), (2, .int x2), (3, .int x3), (4, .int x4)] → W p l e rmX9_reached s m args below meth c H locs 0 0 (MQ below (va_Qi K (ME G b0) (AB b0)) args s 0 0 (AB b0)) (F0 m 62 ls []) := by
  intro x0 x1 x2 x3 x4 S H locs ls h hM hl
  unfold wX9_reached_62 at h
  refine lv_iload_n hC.1 hC.2.1 dX9_reached_62 rfl (lv_at hl 2 rfl) ?_
  refine lv_iconst (v := 1) hC.1 hC.2.1 dX9_reached_63 (by decide) ?_
  refine lv_aload_n hC.1 hC.2.1 dX9_reached_64 rfl (lv_at hl 0 rfl) ?_
  obtain ⟨ok_2, h⟩ := h
  refine mm_gr hC hM (ci := 9) (j := 6) ok_2 rfl (by decide) (by decide) tw_797 rfl dX9_reached_65 ?_
  refine lv_iload hC.1 hC.2.1 dX9_reached_68 (lv_at hl 4 rfl) ?_
  obtain ⟨ok_3, h⟩ := h
  refine mm_il hC hM ok_3 dX9_reached_70 ?_
  refine lv_ishl hC.1 hC.2.1 dX9_reached_71 ?_
  refine lv_iconst (v := 1) hC.1 hC.2.1 dX9_reached_72 (by decide) ?_
  refine lv_aload_n hC.1 hC.2.1 dX9_reached_73 rfl (lv_at hl 0 rfl) ?_
  obtain ⟨ok_4, h⟩ := h
  refine mm_gr hC hM (ci := 9) (j := 7) ⟨ok_2.1, ok_4⟩ rfl (by decide) (by decide) tw_798 rfl dX9_reached_74 ?_
  refine lv_iload hC.1 hC.2.1 dX9_reached_77 (lv_at hl 4 rfl) ?_
  obtain ⟨ok_5, h⟩ := h
  refine mm_il hC hM ok_5 dX9_reached_79 ?_
  refine lv_ishl hC.1 hC.2.1 dX9_reached_80 ?_
  refine lv_ior hC.1 hC.2.1 dX9_reached_81 ?_
  refine lv_ior hC.1 hC.2.1 dX9_reached_82 ?_
  refine lv_topi (fun x2_6 ex2_6 => ?_)
  have h := h x2_6 ex2_6
  refine lv_istore_n (lv' := [(2, .int x2_6), (0, .ref (b0 + x0)), (1, .int x1), (3, .int x3), (4, .int x4)]) hC.1 hC.2.1 dX9_reached_83 rfl hl (by decide) rfl (fun ls hl => ?_)
  exact qX9_reached_84 hC hr hlk hB13 _ _ _ _ _ _ H locs ls h hM (lv_sub hl [1, 2, 0, 3, 4] rfl)
set_option maxHeartbeats 4000000 in
set_option maxRecDepth 100000 in
theorem qX9_reached_90 {p : Program} {l : Launch} {e : Env} {s : State} {m : MethodId} {args : Array Value} {below : List Frame} {meth : Method} {c : Code} {G : Gt} {b0 : Nat} (hC : CallFix p m c cX9_reached 5 s args lw_g RX9) (hr : meth.sig.returnType = (some .int)) (hlk : meth.locks = false) {K : Int32 → St → Prop} {B4 : Nat → Int32 → Int32 → Int32 → St → Prop} (hB4 : ∀ (x0 : Nat) (x1 : Int32) (x2 : Int32) (x3 : Int32) (S : St) (H : Heap) (locs : List Loc) (ls : Array Slot), B4 x0 x1 x2 x3 S → MM G b0 s S H locs → lv_has ls 5 [(0, .ref (b0 + x0)), (1, .int x1), (2, .int x2), (3, .int x3)] → W p l e rmX9_reached s m args below meth c H locs 0 0 (MQ below (va_Qi K (ME G b0) (AB b0)) args s 0 0 (AB b0)) (F0 m 4 ls [])) : ∀ (x0 : Nat) (x1 : Int32) (x2 : Int32) (x3 : Int32) (S : St) (H : Heap) (locs : List Loc) (ls : Array Slot), wX9_reached_90 K B4 x0 x1 x2 x3 S → MM G b0 s S H locs → lv_has ls 5 [(0, .ref (b0 + x0)), (1, .int x1), (2, .int x2), (3, .int x3)] → W p l e rmX9_reached s m args below meth c H locs 0 0 (MQ below (va_Qi K (ME G b0) (AB b0)) args s 0 0 (AB b0)) (F0 m 90 ls []) := by
  intro x0 x1 x2 x3 S H locs ls h hM hl
  unfold wX9_reached_90 at h
  obtain ⟨x3_7, ex3_7⟩ : ∃ y : Int32, y = x3 + 1 := ⟨_, rfl⟩
  have h := h x3_7 ex3_7
  refine lv_iinc (v := x3_7) (lv' := [(3, .int x3_7), (0, .ref (b0 + x0)), (1, .int x1), (2, .int x2)]) hC.1 hC.2.1 dX9_reached_90 hl (k := 3) rfl (by rw [ex3_7]; rfl) (by decide) rfl (fun ls hl => ?_)
  refine lv_goto (tgt := 4) hC.1 hC.2.1 dX9_reached_93 (by decide) ?_
  exact hB4 _ _ _ _ _ H locs ls h hM (lv_sub hl [1, 2, 3, 0] rfl)
set_option maxHeartbeats 4000000 in
set_option maxRecDepth 100000 in
theorem qX9_reached_13 {p : Program} {l : Launch} {e : Env} {s : State} {m : MethodId} {args : Array Value} {below : List Frame} {meth : Method} {c : Code} {G : Gt} {b0 : Nat} (hC : CallFix p m c cX9_reached 5 s args lw_g RX9) (hr : meth.sig.returnType = (some .int)) (hlk : meth.locks = false) {K : Int32 → St → Prop} {B4 : Nat → Int32 → Int32 → Int32 → St → Prop} (hB4 : ∀ (x0 : Nat) (x1 : Int32) (x2 : Int32) (x3 : Int32) (S : St) (H : Heap) (locs : List Loc) (ls : Array Slot), B4 x0 x1 x2 x3 S → MM G b0 s S H locs → lv_has ls 5 [(0, .ref (b0 + x0)), (1, .int x1), (2, .int x2), (3, .int x3)] → W p l e rmX9_reached s m args below meth c H locs 0 0 (MQ below (va_Qi K (ME G b0) (AB b0)) args s 0 0 (AB b0)) (F0 m 4 ls [])) : ∀ (n : Nat) (x0 : Nat) (x1 : Int32) (x2 : Int32) (x3 : Int32) (x4 : Int32) (S : St) (H : Heap) (locs : List Loc) (ls : Array Slot), wX9_reached_13 K B4 n x0 x1 x2 x3 x4 S → MM G b0 s S H locs → lv_has ls 5 [(0, .ref (b0 + x0)), (1, .int x1), (2, .int x2), (3, .int x3), (4, .int x4)] → W p l e rmX9_reached s m args below meth c H locs 0 0 (MQ below (va_Qi K (ME G b0) (AB b0)) args s 0 0 (AB b0)) (F0 m 13 ls []) := by
  intro n
  induction n with
  | zero =>
    intro x0 x1 x2 x3 x4 S H locs ls h
    exact False.elim h
  | succ n ih =>
    intro x0 x1 x2 x3 x4 S H locs ls h hM hl
    rw [wX9_reached_13] at h
    refine lv_iload hC.1 hC.2.1 dX9_reached_13 (lv_at hl 4 rfl) ?_
    refine lv_aload_n hC.1 hC.2.1 dX9_reached_15 rfl (lv_at hl 0 rfl) ?_
    obtain ⟨ok_8, h⟩ := h
    refine mm_gi hC hM (ci := 9) (j := 1) ok_8 rfl (by decide) (by decide) tw_792 rfl dX9_reached_16 ?_
    refine lv_icmp_ge (tgt := 90) hC.1 hC.2.1 dX9_reached_19 (by decide) (fun c_9 => ?_) (fun c_9 => ?_)
    · have h := h.1 c_9
      exact qX9_reached_90 hC hr hlk hB4 _ _ _ _ _ H locs ls h hM (lv_sub hl [0, 1, 2, 3] rfl)
    · have h := h.2 c_9
      refine lv_iload_n hC.1 hC.2.1 dX9_reached_22 rfl (lv_at hl 1 rfl) ?_
      refine lv_iload hC.1 hC.2.1 dX9_reached_23 (lv_at hl 4 rfl) ?_
      refine mm_ri hM (mm_S (As := [.int x1, .int x4]) (rest := []) hC hM hl.1 (mX9_has l G b0 S x1 x4 _) h kX9_has tw_772 rfl (by decide) rfl (Nat.le_of_ble_eq_true rfl) dX9_reached_25 (by decide)) (fun r_11 S_10 H locs h hM => ?_)
      refine lv_if_ne (tgt := 34) hC.1 hC.2.1 dX9_reached_28 (by decide) (fun c_12 => ?_) (fun c_12 => ?_)
      · have h := h.2 c_12
        refine lv_iload_n hC.1 hC.2.1 dX9_reached_34 rfl (lv_at hl 2 rfl) ?_
        refine lv_aload_n hC.1 hC.2.1 dX9_reached_35 rfl (lv_at hl 0 rfl) ?_
        obtain ⟨ok_13, h⟩ := h
        refine mm_gr hC hM (ci := 9) (j := 6) ok_13 rfl (by decide) (by decide) tw_797 rfl dX9_reached_36 ?_
        refine lv_iload hC.1 hC.2.1 dX9_reached_39 (lv_at hl 4 rfl) ?_
        obtain ⟨ok_14, h⟩ := h
        refine mm_il hC hM ok_14 dX9_reached_41 ?_
        refine mm_ri hM (mm_S (As := [.int x2, .int (sI S_10 (sR S_10 x0 6) (x4 : Int32).toNatClampNeg)]) (rest := []) hC hM hl.1 (mX9_has l G b0 S_10 x2 (sI S_10 (sR S_10 x0 6) (x4 : Int32).toNatClampNeg) _) h kX9_has tw_772 rfl (by decide) rfl (Nat.le_of_ble_eq_true rfl) dX9_reached_42 (by decide)) (fun r_16 S_15 H locs h hM => ?_)
        refine lv_if_ne (tgt := 62) hC.1 hC.2.1 dX9_reached_45 (by decide) (fun c_17 => ?_) (fun c_17 => ?_)
        · have h := h.2 c_17
          exact qX9_reached_62 hC hr hlk ih _ _ _ _ _ _ H locs ls h hM (lv_sub hl [0, 1, 2, 3, 4] rfl)
        · have h := h.1 c_17
          refine lv_iload_n hC.1 hC.2.1 dX9_reached_48 rfl (lv_at hl 2 rfl) ?_
          refine lv_aload_n hC.1 hC.2.1 dX9_reached_49 rfl (lv_at hl 0 rfl) ?_
          obtain ⟨ok_18, h⟩ := h
          refine mm_gr hC hM (ci := 9) (j := 7) ok_18 rfl (by decide) (by decide) tw_798 rfl dX9_reached_50 ?_
          refine lv_iload hC.1 hC.2.1 dX9_reached_53 (lv_at hl 4 rfl) ?_
          obtain ⟨ok_19, h⟩ := h
          refine mm_il hC hM ok_19 dX9_reached_55 ?_
          refine mm_ri hM (mm_S (As := [.int x2, .int (sI S_15 (sR S_15 x0 7) (x4 : Int32).toNatClampNeg)]) (rest := []) hC hM hl.1 (mX9_has l G b0 S_15 x2 (sI S_15 (sR S_15 x0 7) (x4 : Int32).toNatClampNeg) _) h kX9_has tw_772 rfl (by decide) rfl (Nat.le_of_ble_eq_true rfl) dX9_reached_56 (by decide)) (fun r_21 S_20 H locs h hM => ?_)
          refine lv_if_eq (tgt := 84) hC.1 hC.2.1 dX9_reached_59 (by decide) (fun c_22 => ?_) (fun c_22 => ?_)
          · have h := h.1 c_22
            exact qX9_reached_84 hC hr hlk ih _ _ _ _ _ _ H locs ls h hM (lv_sub hl [0, 1, 2, 3, 4] rfl)
          · have h := h.2 c_22
            exact qX9_reached_62 hC hr hlk ih _ _ _ _ _ _ H locs ls h hM (lv_sub hl [0, 1, 2, 3, 4] rfl)
      · have h := h.1 c_12
        refine lv_goto (tgt := 84) hC.1 hC.2.1 dX9_reached_31 (by decide) ?_
        exact qX9_reached_84 hC hr hlk ih _ _ _ _ _ _ H locs ls h hM (lv_sub hl [0, 1, 2, 3, 4] rfl)
set_option maxHeartbeats 4000000 in
set_option maxRecDepth 100000 in
theorem qX9_reached_4 {p : Program} {l : Launch} {e : Env} {s : State} {m : MethodId} {args : Array Value} {below : List Frame} {meth : Method} {c : Code} {G : Gt} {b0 : Nat} (hC : CallFix p m c cX9_reached 5 s args lw_g RX9) (hr : meth.sig.returnType = (some .int)) (hlk : meth.locks = false) {K : Int32 → St → Prop} : ∀ (n : Nat) (x0 : Nat) (x1 : Int32) (x2 : Int32) (x3 : Int32) (S : St) (H : Heap) (locs : List Loc) (ls : Array Slot), wX9_reached_4 K n x0 x1 x2 x3 S → MM G b0 s S H locs → lv_has ls 5 [(0, .ref (b0 + x0)), (1, .int x1), (2, .int x2), (3, .int x3)] → W p l e rmX9_reached s m args below meth c H locs 0 0 (MQ below (va_Qi K (ME G b0) (AB b0)) args s 0 0 (AB b0)) (F0 m 4 ls []) := by
  intro n
  induction n with
  | zero =>
    intro x0 x1 x2 x3 S H locs ls h
    exact False.elim h
  | succ n ih =>
    intro x0 x1 x2 x3 S H locs ls h hM hl
    rw [wX9_reached_4] at h
    refine lv_iload_n hC.1 hC.2.1 dX9_reached_4 rfl (lv_at hl 3 rfl) ?_
    refine lv_bipush (v := 6) hC.1 hC.2.1 dX9_reached_5 (by decide) ?_
    refine lv_icmp_ge (tgt := 96) hC.1 hC.2.1 dX9_reached_7 (by decide) (fun c_23 => ?_) (fun c_23 => ?_)
    · have h := h.1 c_23
      refine lv_iload_n hC.1 hC.2.1 dX9_reached_96 rfl (lv_at hl 2 rfl) ?_
      exact mm_iret hC hr hlk hM h dX9_reached_97
    · have h := h.2 c_23
      refine lv_iconst (v := 0) hC.1 hC.2.1 dX9_reached_10 (by decide) ?_
      refine lv_istore (lv' := [(4, .int 0), (0, .ref (b0 + x0)), (1, .int x1), (2, .int x2), (3, .int x3)]) hC.1 hC.2.1 dX9_reached_11 hl (by decide) rfl (fun ls hl => ?_)
      obtain ⟨n1, h⟩ := h
      exact qX9_reached_13 hC hr hlk ih n1 _ _ _ _ _ _ H locs ls h hM (lv_sub hl [1, 2, 3, 4, 0] rfl)
set_option maxHeartbeats 4000000 in
set_option maxRecDepth 100000 in
theorem mX9_reached (l : Launch) (G : Gt) (b0 : Nat) (S : St) (o : Nat) (x1 : Int32) (K : Int32 → St → Prop) : CI l G b0 S yX9_reached cX9_reached 5 (some .int) rmX9_reached [.ref (b0 + o), .int x1] (wX9_reached S o x1 K) K := by
  refine met_of (by decide) (Nat.le_of_ble_eq_true rfl) rfl ?_
  intro p e s m below meth c hC hr hlk hin h H locs ls hM hl
  unfold wX9_reached at h
  refine lv_iconst (v := 1) hC.1 hC.2.1 dX9_reached_0 (by decide) ?_
  refine lv_istore_n (lv' := [(2, .int 1), (0, .ref (b0 + o)), (1, .int x1)]) hC.1 hC.2.1 dX9_reached_1 rfl hl (by decide) rfl (fun ls hl => ?_)
  refine lv_iconst (v := 0) hC.1 hC.2.1 dX9_reached_2 (by decide) ?_
  refine lv_istore_n (lv' := [(3, .int 0), (2, .int 1), (0, .ref (b0 + o)), (1, .int x1)]) hC.1 hC.2.1 dX9_reached_3 rfl hl (by decide) rfl (fun ls hl => ?_)
  obtain ⟨n1, h⟩ := h
  exact qX9_reached_4 hC hr hlk n1 _ _ _ _ _ H locs ls h hM (lv_sub hl [2, 3, 1, 0] rfl)
set_option maxHeartbeats 4000000 in
set_option maxRecDepth 100000 in
theorem qX9_isTree_61 {p : Program} {l : Launch} {e : Env} {s : State} {m : MethodId} {args : Array Value} {below : List Frame} {meth : Method} {c : Code} {G : Gt} {b0 : Nat} (hC : CallFix p m c cX9_isTree 3 s args lw_g RX9) (hr : meth.sig.returnType = (some .boolean)) (hlk : meth.locks = false) {K : Int32 → St → Prop} {B17 : Nat → Int32 → Int32 → St → Prop} (hB17 : ∀ (x0 : Nat) (x1 : Int32) (x2 : Int32) (S : St) (H : Heap) (locs : List Loc) (ls : Array Slot), B17 x0 x1 x2 S → MM G b0 s S H locs → lv_has ls 3 [(0, .ref (b0 + x0)), (1, .int x1), (2, .int x2)] → W p l e rmX9_isTree s m args below meth c H locs 0 0 (MQ below (va_Qi K (ME G b0) (AB b0)) args s 0 0 (AB b0)) (F0 m 17 ls [])) : ∀ (x0 : Nat) (x1 : Int32) (x2 : Int32) (S : St) (H : Heap) (locs : List Loc) (ls : Array Slot), wX9_isTree_61 K B17 x0 x1 x2 S → MM G b0 s S H locs → lv_has ls 3 [(0, .ref (b0 + x0)), (1, .int x1), (2, .int x2)] → W p l e rmX9_isTree s m args below meth c H locs 0 0 (MQ below (va_Qi K (ME G b0) (AB b0)) args s 0 0 (AB b0)) (F0 m 61 ls []) := by
  intro x0 x1 x2 S H locs ls h hM hl
  unfold wX9_isTree_61 at h
  obtain ⟨x2_1, ex2_1⟩ : ∃ y : Int32, y = x2 + 1 := ⟨_, rfl⟩
  have h := h x2_1 ex2_1
  refine lv_iinc (v := x2_1) (lv' := [(2, .int x2_1), (0, .ref (b0 + x0)), (1, .int x1)]) hC.1 hC.2.1 dX9_isTree_61 hl (k := 2) rfl (by rw [ex2_1]; rfl) (by decide) rfl (fun ls hl => ?_)
  refine lv_goto (tgt := 17) hC.1 hC.2.1 dX9_isTree_64 (by decide) ?_
  exact hB17 _ _ _ _ H locs ls h hM (lv_sub hl [1, 2, 0] rfl)
set_option maxHeartbeats 4000000 in
set_option maxRecDepth 100000 in
theorem qX9_isTree_67 {p : Program} {l : Launch} {e : Env} {s : State} {m : MethodId} {args : Array Value} {below : List Frame} {meth : Method} {c : Code} {G : Gt} {b0 : Nat} (hC : CallFix p m c cX9_isTree 3 s args lw_g RX9) (hr : meth.sig.returnType = (some .boolean)) (hlk : meth.locks = false) {K : Int32 → St → Prop} : ∀ (x0 : Nat) (x1 : Int32) (S : St) (H : Heap) (locs : List Loc) (ls : Array Slot), wX9_isTree_67 K x0 x1 S → MM G b0 s S H locs → lv_has ls 3 [(0, .ref (b0 + x0)), (1, .int x1)] → W p l e rmX9_isTree s m args below meth c H locs 0 0 (MQ below (va_Qi K (ME G b0) (AB b0)) args s 0 0 (AB b0)) (F0 m 67 ls []) := by
  intro x0 x1 S H locs ls h hM hl
  unfold wX9_isTree_67 at h
  refine lv_aload_n hC.1 hC.2.1 dX9_isTree_67 rfl (lv_at hl 0 rfl) ?_
  refine lv_iload_n hC.1 hC.2.1 dX9_isTree_68 rfl (lv_at hl 1 rfl) ?_
  obtain ⟨ok_4, h⟩ := h
  refine mm_ri hM (mm_V (As := [.int x1]) (rest := []) hC hM hl.1 (mX9_reached l G b0 S x0 x1 _) h (ci := 9) ok_4 rfl rfl kX9_reached tw_779 rfl (by decide) rfl (Nat.le_of_ble_eq_true rfl) dX9_isTree_69 (by decide)) (fun r_3 S_2 H locs h hM => ?_)
  refine lv_iconst (v := 1) hC.1 hC.2.1 dX9_isTree_72 (by decide) ?_
  refine lv_aload_n hC.1 hC.2.1 dX9_isTree_73 rfl (lv_at hl 0 rfl) ?_
  obtain ⟨ok_5, h⟩ := h
  refine mm_gi hC hM (ci := 9) (j := 3) ok_5 rfl (by decide) (by decide) tw_794 rfl dX9_isTree_74 ?_
  refine lv_ishl hC.1 hC.2.1 dX9_isTree_77 ?_
  refine lv_iconst (v := 1) hC.1 hC.2.1 dX9_isTree_78 (by decide) ?_
  refine lv_isub hC.1 hC.2.1 dX9_isTree_79 ?_
  refine lv_icmp_ne (tgt := 87) hC.1 hC.2.1 dX9_isTree_80 (by decide) (fun c_6 => ?_) (fun c_6 => ?_)
  · have h := h.2 c_6
    refine lv_iconst (v := 0) hC.1 hC.2.1 dX9_isTree_87 (by decide) ?_
    exact mm_zret hC hr hlk hM rfl h dX9_isTree_88
  · have h := h.1 c_6
    refine lv_iconst (v := 1) hC.1 hC.2.1 dX9_isTree_83 (by decide) ?_
    refine lv_goto (tgt := 88) hC.1 hC.2.1 dX9_isTree_84 (by decide) ?_
    exact mm_zret hC hr hlk hM rfl h dX9_isTree_88
set_option maxHeartbeats 4000000 in
set_option maxRecDepth 100000 in
theorem qX9_isTree_17 {p : Program} {l : Launch} {e : Env} {s : State} {m : MethodId} {args : Array Value} {below : List Frame} {meth : Method} {c : Code} {G : Gt} {b0 : Nat} (hC : CallFix p m c cX9_isTree 3 s args lw_g RX9) (hr : meth.sig.returnType = (some .boolean)) (hlk : meth.locks = false) {K : Int32 → St → Prop} : ∀ (n : Nat) (x0 : Nat) (x1 : Int32) (x2 : Int32) (S : St) (H : Heap) (locs : List Loc) (ls : Array Slot), wX9_isTree_17 K n x0 x1 x2 S → MM G b0 s S H locs → lv_has ls 3 [(0, .ref (b0 + x0)), (1, .int x1), (2, .int x2)] → W p l e rmX9_isTree s m args below meth c H locs 0 0 (MQ below (va_Qi K (ME G b0) (AB b0)) args s 0 0 (AB b0)) (F0 m 17 ls []) := by
  intro n
  induction n with
  | zero =>
    intro x0 x1 x2 S H locs ls h
    exact False.elim h
  | succ n ih =>
    intro x0 x1 x2 S H locs ls h hM hl
    rw [wX9_isTree_17] at h
    refine lv_iload_n hC.1 hC.2.1 dX9_isTree_17 rfl (lv_at hl 2 rfl) ?_
    refine lv_aload_n hC.1 hC.2.1 dX9_isTree_18 rfl (lv_at hl 0 rfl) ?_
    obtain ⟨ok_7, h⟩ := h
    refine mm_gi hC hM (ci := 9) (j := 1) ok_7 rfl (by decide) (by decide) tw_792 rfl dX9_isTree_19 ?_
    refine lv_icmp_ge (tgt := 67) hC.1 hC.2.1 dX9_isTree_22 (by decide) (fun c_8 => ?_) (fun c_8 => ?_)
    · have h := h.1 c_8
      exact qX9_isTree_67 hC hr hlk _ _ _ H locs ls h hM (lv_sub hl [0, 1] rfl)
    · have h := h.2 c_8
      refine lv_iload_n hC.1 hC.2.1 dX9_isTree_25 rfl (lv_at hl 1 rfl) ?_
      refine lv_iload_n hC.1 hC.2.1 dX9_isTree_26 rfl (lv_at hl 2 rfl) ?_
      refine mm_ri hM (mm_S (As := [.int x1, .int x2]) (rest := []) hC hM hl.1 (mX9_has l G b0 S x1 x2 _) h kX9_has tw_772 rfl (by decide) rfl (Nat.le_of_ble_eq_true rfl) dX9_isTree_27 (by decide)) (fun r_10 S_9 H locs h hM => ?_)
      refine lv_if_eq (tgt := 61) hC.1 hC.2.1 dX9_isTree_30 (by decide) (fun c_11 => ?_) (fun c_11 => ?_)
      · have h := h.1 c_11
        exact qX9_isTree_61 hC hr hlk ih _ _ _ _ H locs ls h hM (lv_sub hl [0, 1, 2] rfl)
      · have h := h.2 c_11
        refine lv_aload_n hC.1 hC.2.1 dX9_isTree_33 rfl (lv_at hl 0 rfl) ?_
        obtain ⟨ok_12, h⟩ := h
        refine mm_gr hC hM (ci := 9) (j := 6) ok_12 rfl (by decide) (by decide) tw_797 rfl dX9_isTree_34 ?_
        refine lv_iload_n hC.1 hC.2.1 dX9_isTree_37 rfl (lv_at hl 2 rfl) ?_
        obtain ⟨ok_13, h⟩ := h
        refine mm_il hC hM ok_13 dX9_isTree_38 ?_
        refine lv_aload_n hC.1 hC.2.1 dX9_isTree_39 rfl (lv_at hl 0 rfl) ?_
        refine mm_gi hC hM (ci := 9) (j := 3) ok_12.1 rfl (by decide) (by decide) tw_794 rfl dX9_isTree_40 ?_
        refine lv_icmp_ge (tgt := 59) hC.1 hC.2.1 dX9_isTree_43 (by decide) (fun c_14 => ?_) (fun c_14 => ?_)
        · have h := h.1 c_14
          refine lv_iconst (v := 0) hC.1 hC.2.1 dX9_isTree_59 (by decide) ?_
          exact mm_zret hC hr hlk hM rfl h dX9_isTree_60
        · have h := h.2 c_14
          refine lv_aload_n hC.1 hC.2.1 dX9_isTree_46 rfl (lv_at hl 0 rfl) ?_
          obtain ⟨ok_15, h⟩ := h
          refine mm_gr hC hM (ci := 9) (j := 7) ⟨ok_12.1, ok_15⟩ rfl (by decide) (by decide) tw_798 rfl dX9_isTree_47 ?_
          refine lv_iload_n hC.1 hC.2.1 dX9_isTree_50 rfl (lv_at hl 2 rfl) ?_
          obtain ⟨ok_16, h⟩ := h
          refine mm_il hC hM ok_16 dX9_isTree_51 ?_
          refine lv_aload_n hC.1 hC.2.1 dX9_isTree_52 rfl (lv_at hl 0 rfl) ?_
          refine mm_gi hC hM (ci := 9) (j := 3) ok_12.1 rfl (by decide) (by decide) tw_794 rfl dX9_isTree_53 ?_
          refine lv_icmp_lt (tgt := 61) hC.1 hC.2.1 dX9_isTree_56 (by decide) (fun c_17 => ?_) (fun c_17 => ?_)
          · have h := h.1 c_17
            exact qX9_isTree_61 hC hr hlk ih _ _ _ _ H locs ls h hM (lv_sub hl [0, 1, 2] rfl)
          · have h := h.2 c_17
            refine lv_iconst (v := 0) hC.1 hC.2.1 dX9_isTree_59 (by decide) ?_
            exact mm_zret hC hr hlk hM rfl h dX9_isTree_60
set_option maxHeartbeats 4000000 in
set_option maxRecDepth 100000 in
theorem mX9_isTree (l : Launch) (G : Gt) (b0 : Nat) (S : St) (o : Nat) (x1 : Int32) (K : Int32 → St → Prop) : CI l G b0 S yX9_isTree cX9_isTree 3 (some .boolean) rmX9_isTree [.ref (b0 + o), .int x1] (wX9_isTree S o x1 K) K := by
  refine met_of (by decide) (Nat.le_of_ble_eq_true rfl) rfl ?_
  intro p e s m below meth c hC hr hlk hin h H locs ls hM hl
  unfold wX9_isTree at h
  refine lv_iload_n hC.1 hC.2.1 dX9_isTree_0 rfl (lv_at hl 1 rfl) ?_
  refine mm_ri hM (mm_S (As := [.int x1]) (rest := []) hC hM hl.1 (mX9_size l G b0 S x1 _) h kX9_size tw_769 rfl (by decide) rfl (Nat.le_of_ble_eq_true rfl) dX9_isTree_1 (by decide)) (fun r_19 S_18 H locs h hM => ?_)
  refine lv_aload_n hC.1 hC.2.1 dX9_isTree_4 rfl (lv_at hl 0 rfl) ?_
  obtain ⟨ok_20, h⟩ := h
  refine mm_gi hC hM (ci := 9) (j := 3) ok_20 rfl (by decide) (by decide) tw_794 rfl dX9_isTree_5 ?_
  refine lv_iconst (v := 1) hC.1 hC.2.1 dX9_isTree_8 (by decide) ?_
  refine lv_isub hC.1 hC.2.1 dX9_isTree_9 ?_
  refine lv_icmp_eq (tgt := 15) hC.1 hC.2.1 dX9_isTree_10 (by decide) (fun c_21 => ?_) (fun c_21 => ?_)
  · have h := h.1 c_21
    refine lv_iconst (v := 0) hC.1 hC.2.1 dX9_isTree_15 (by decide) ?_
    refine lv_istore_n (lv' := [(2, .int 0), (0, .ref (b0 + o)), (1, .int x1)]) hC.1 hC.2.1 dX9_isTree_16 rfl hl (by decide) rfl (fun ls hl => ?_)
    obtain ⟨n1, h⟩ := h
    exact qX9_isTree_17 hC hr hlk n1 _ _ _ _ H locs ls h hM (lv_sub hl [1, 2, 0] rfl)
  · have h := h.2 c_21
    refine lv_iconst (v := 0) hC.1 hC.2.1 dX9_isTree_13 (by decide) ?_
    exact mm_zret hC hr hlk hM rfl h dX9_isTree_14
set_option maxHeartbeats 4000000 in
set_option maxRecDepth 100000 in
theorem qX9_isWay_106 {p : Program} {l : Launch} {e : Env} {s : State} {m : MethodId} {args : Array Value} {below : List Frame} {meth : Method} {c : Code} {G : Gt} {b0 : Nat} (hC : CallFix p m c cX9_isWay 6 s args lw_g RX9) (hr : meth.sig.returnType = (some .boolean)) (hlk : meth.locks = false) {K : Int32 → St → Prop} {B20 : Nat → Int32 → Int32 → Int32 → Int32 → Int32 → St → Prop} (hB20 : ∀ (x0 : Nat) (x1 : Int32) (x2 : Int32) (x3 : Int32) (x4 : Int32) (x5 : Int32) (S : St) (H : Heap) (locs : List Loc) (ls : Array Slot), B20 x0 x1 x2 x3 x4 x5 S → MM G b0 s S H locs → lv_has ls 6 [(0, .ref (b0 + x0)), (1, .int x1), (2, .int x2), (3, .int x3), (4, .int x4), (5, .int x5)] → W p l e rmX9_isWay s m args below meth c H locs 0 0 (MQ below (va_Qi K (ME G b0) (AB b0)) args s 0 0 (AB b0)) (F0 m 20 ls [])) : ∀ (x0 : Nat) (x1 : Int32) (x2 : Int32) (x3 : Int32) (x4 : Int32) (x5 : Int32) (S : St) (H : Heap) (locs : List Loc) (ls : Array Slot), wX9_isWay_106 K B20 x0 x1 x2 x3 x4 x5 S → MM G b0 s S H locs → lv_has ls 6 [(0, .ref (b0 + x0)), (1, .int x1), (2, .int x2), (3, .int x3), (4, .int x4), (5, .int x5)] → W p l e rmX9_isWay s m args below meth c H locs 0 0 (MQ below (va_Qi K (ME G b0) (AB b0)) args s 0 0 (AB b0)) (F0 m 106 ls []) := by
  intro x0 x1 x2 x3 x4 x5 S H locs ls h hM hl
  unfold wX9_isWay_106 at h
  obtain ⟨x5_1, ex5_1⟩ : ∃ y : Int32, y = x5 + 1 := ⟨_, rfl⟩
  have h := h x5_1 ex5_1
  refine lv_iinc (v := x5_1) (lv' := [(5, .int x5_1), (0, .ref (b0 + x0)), (1, .int x1), (2, .int x2), (3, .int x3), (4, .int x4)]) hC.1 hC.2.1 dX9_isWay_106 hl (k := 5) rfl (by rw [ex5_1]; rfl) (by decide) rfl (fun ls hl => ?_)
  refine lv_goto (tgt := 20) hC.1 hC.2.1 dX9_isWay_109 (by decide) ?_
  exact hB20 _ _ _ _ _ _ _ H locs ls h hM (lv_sub hl [1, 2, 3, 4, 5, 0] rfl)
set_option maxHeartbeats 4000000 in
set_option maxRecDepth 100000 in
theorem qX9_isWay_103 {p : Program} {l : Launch} {e : Env} {s : State} {m : MethodId} {args : Array Value} {below : List Frame} {meth : Method} {c : Code} {G : Gt} {b0 : Nat} (hC : CallFix p m c cX9_isWay 6 s args lw_g RX9) (hr : meth.sig.returnType = (some .boolean)) (hlk : meth.locks = false) {K : Int32 → St → Prop} {B20 : Nat → Int32 → Int32 → Int32 → Int32 → Int32 → St → Prop} (hB20 : ∀ (x0 : Nat) (x1 : Int32) (x2 : Int32) (x3 : Int32) (x4 : Int32) (x5 : Int32) (S : St) (H : Heap) (locs : List Loc) (ls : Array Slot), B20 x0 x1 x2 x3 x4 x5 S → MM G b0 s S H locs → lv_has ls 6 [(0, .ref (b0 + x0)), (1, .int x1), (2, .int x2), (3, .int x3), (4, .int x4), (5, .int x5)] → W p l e rmX9_isWay s m args below meth c H locs 0 0 (MQ below (va_Qi K (ME G b0) (AB b0)) args s 0 0 (AB b0)) (F0 m 20 ls [])) : ∀ (x0 : Nat) (x1 : Int32) (x2 : Int32) (x3 : Int32) (x5 : Int32) (t0 : Int32) (t1 : Int32) (S : St) (H : Heap) (locs : List Loc) (ls : Array Slot), wX9_isWay_103 K B20 x0 x1 x2 x3 x5 t0 t1 S → MM G b0 s S H locs → lv_has ls 6 [(0, .ref (b0 + x0)), (1, .int x1), (2, .int x2), (3, .int x3), (5, .int x5)] → W p l e rmX9_isWay s m args below meth c H locs 0 0 (MQ below (va_Qi K (ME G b0) (AB b0)) args s 0 0 (AB b0)) (F0 m 103 ls [.int t1, .int t0]) := by
  intro x0 x1 x2 x3 x5 t0 t1 S H locs ls h hM hl
  unfold wX9_isWay_103 at h
  refine lv_iadd hC.1 hC.2.1 dX9_isWay_103 ?_
  refine lv_topi (fun x4_2 ex4_2 => ?_)
  have h := h x4_2 ex4_2
  refine lv_istore (lv' := [(4, .int x4_2), (0, .ref (b0 + x0)), (1, .int x1), (2, .int x2), (3, .int x3), (5, .int x5)]) hC.1 hC.2.1 dX9_isWay_104 hl (by decide) rfl (fun ls hl => ?_)
  exact qX9_isWay_106 hC hr hlk hB20 _ _ _ _ _ _ _ H locs ls h hM (lv_sub hl [1, 2, 3, 4, 0, 5] rfl)
set_option maxHeartbeats 4000000 in
set_option maxRecDepth 100000 in
theorem qX9_isWay_98 {p : Program} {l : Launch} {e : Env} {s : State} {m : MethodId} {args : Array Value} {below : List Frame} {meth : Method} {c : Code} {G : Gt} {b0 : Nat} (hC : CallFix p m c cX9_isWay 6 s args lw_g RX9) (hr : meth.sig.returnType = (some .boolean)) (hlk : meth.locks = false) {K : Int32 → St → Prop} {B20 : Nat → Int32 → Int32 → Int32 → Int32 → Int32 → St → Prop} (hB20 : ∀ (x0 : Nat) (x1 : Int32) (x2 : Int32) (x3 : Int32) (x4 : Int32) (x5 : Int32) (S : St) (H : Heap) (locs : List Loc) (ls : Array Slot), B20 x0 x1 x2 x3 x4 x5 S → MM G b0 s S H locs → lv_has ls 6 [(0, .ref (b0 + x0)), (1, .int x1), (2, .int x2), (3, .int x3), (4, .int x4), (5, .int x5)] → W p l e rmX9_isWay s m args below meth c H locs 0 0 (MQ below (va_Qi K (ME G b0) (AB b0)) args s 0 0 (AB b0)) (F0 m 20 ls [])) : ∀ (x0 : Nat) (x1 : Int32) (x2 : Int32) (x3 : Int32) (x5 : Int32) (t0 : Int32) (S : St) (H : Heap) (locs : List Loc) (ls : Array Slot), wX9_isWay_98 K B20 x0 x1 x2 x3 x5 t0 S → MM G b0 s S H locs → lv_has ls 6 [(0, .ref (b0 + x0)), (1, .int x1), (2, .int x2), (3, .int x3), (5, .int x5)] → W p l e rmX9_isWay s m args below meth c H locs 0 0 (MQ below (va_Qi K (ME G b0) (AB b0)) args s 0 0 (AB b0)) (F0 m 98 ls [.int t0]) := by
  intro x0 x1 x2 x3 x5 t0 S H locs ls h hM hl
  unfold wX9_isWay_98 at h
  refine lv_iconst (v := 1) hC.1 hC.2.1 dX9_isWay_98 (by decide) ?_
  refine lv_goto (tgt := 103) hC.1 hC.2.1 dX9_isWay_99 (by decide) ?_
  exact qX9_isWay_103 hC hr hlk hB20 _ _ _ _ _ _ _ _ H locs ls h hM (lv_sub hl [0, 1, 2, 3, 4] rfl)
set_option maxHeartbeats 4000000 in
set_option maxRecDepth 100000 in
theorem qX9_isWay_146 {p : Program} {l : Launch} {e : Env} {s : State} {m : MethodId} {args : Array Value} {below : List Frame} {meth : Method} {c : Code} {G : Gt} {b0 : Nat} (hC : CallFix p m c cX9_isWay 6 s args lw_g RX9) (hr : meth.sig.returnType = (some .boolean)) (hlk : meth.locks = false) {K : Int32 → St → Prop} {B8 : Nat → Int32 → Int32 → Int32 → St → Prop} (hB8 : ∀ (x0 : Nat) (x1 : Int32) (x2 : Int32) (x3 : Int32) (S : St) (H : Heap) (locs : List Loc) (ls : Array Slot), B8 x0 x1 x2 x3 S → MM G b0 s S H locs → lv_has ls 6 [(0, .ref (b0 + x0)), (1, .int x1), (2, .int x2), (3, .int x3)] → W p l e rmX9_isWay s m args below meth c H locs 0 0 (MQ below (va_Qi K (ME G b0) (AB b0)) args s 0 0 (AB b0)) (F0 m 8 ls [])) : ∀ (x0 : Nat) (x1 : Int32) (x2 : Int32) (x3 : Int32) (S : St) (H : Heap) (locs : List Loc) (ls : Array Slot), wX9_isWay_146 K B8 x0 x1 x2 x3 S → MM G b0 s S H locs → lv_has ls 6 [(0, .ref (b0 + x0)), (1, .int x1), (2, .int x2), (3, .int x3)] → W p l e rmX9_isWay s m args below meth c H locs 0 0 (MQ below (va_Qi K (ME G b0) (AB b0)) args s 0 0 (AB b0)) (F0 m 146 ls []) := by
  intro x0 x1 x2 x3 S H locs ls h hM hl
  unfold wX9_isWay_146 at h
  obtain ⟨x3_3, ex3_3⟩ : ∃ y : Int32, y = x3 + 1 := ⟨_, rfl⟩
  have h := h x3_3 ex3_3
  refine lv_iinc (v := x3_3) (lv' := [(3, .int x3_3), (0, .ref (b0 + x0)), (1, .int x1), (2, .int x2)]) hC.1 hC.2.1 dX9_isWay_146 hl (k := 3) rfl (by rw [ex3_3]; rfl) (by decide) rfl (fun ls hl => ?_)
  refine lv_goto (tgt := 8) hC.1 hC.2.1 dX9_isWay_149 (by decide) ?_
  exact hB8 _ _ _ _ _ H locs ls h hM (lv_sub hl [1, 2, 3, 0] rfl)
set_option maxHeartbeats 4000000 in
set_option maxRecDepth 100000 in
theorem qX9_isWay_124 {p : Program} {l : Launch} {e : Env} {s : State} {m : MethodId} {args : Array Value} {below : List Frame} {meth : Method} {c : Code} {G : Gt} {b0 : Nat} (hC : CallFix p m c cX9_isWay 6 s args lw_g RX9) (hr : meth.sig.returnType = (some .boolean)) (hlk : meth.locks = false) {K : Int32 → St → Prop} {B8 : Nat → Int32 → Int32 → Int32 → St → Prop} (hB8 : ∀ (x0 : Nat) (x1 : Int32) (x2 : Int32) (x3 : Int32) (S : St) (H : Heap) (locs : List Loc) (ls : Array Slot), B8 x0 x1 x2 x3 S → MM G b0 s S H locs → lv_has ls 6 [(0, .ref (b0 + x0)), (1, .int x1), (2, .int x2), (3, .int x3)] → W p l e rmX9_isWay s m args below meth c H locs 0 0 (MQ below (va_Qi K (ME G b0) (AB b0)) args s 0 0 (AB b0)) (F0 m 8 ls [])) : ∀ (x0 : Nat) (x1 : Int32) (x2 : Int32) (x3 : Int32) (x4 : Int32) (S : St) (H : Heap) (locs : List Loc) (ls : Array Slot), wX9_isWay_124 K B8 x0 x1 x2 x3 x4 S → MM G b0 s S H locs → lv_has ls 6 [(0, .ref (b0 + x0)), (1, .int x1), (2, .int x2), (3, .int x3), (4, .int x4)] → W p l e rmX9_isWay s m args below meth c H locs 0 0 (MQ below (va_Qi K (ME G b0) (AB b0)) args s 0 0 (AB b0)) (F0 m 124 ls []) := by
  intro x0 x1 x2 x3 x4 S H locs ls h hM hl
  unfold wX9_isWay_124 at h
  refine lv_iload hC.1 hC.2.1 dX9_isWay_124 (lv_at hl 4 rfl) ?_
  refine lv_iconst (v := 1) hC.1 hC.2.1 dX9_isWay_126 (by decide) ?_
  refine lv_icmp_eq (tgt := 146) hC.1 hC.2.1 dX9_isWay_127 (by decide) (fun c_4 => ?_) (fun c_4 => ?_)
  · have h := h.1 c_4
    exact qX9_isWay_146 hC hr hlk hB8 _ _ _ _ _ H locs ls h hM (lv_sub hl [0, 1, 2, 3] rfl)
  · have h := h.2 c_4
    refine lv_goto (tgt := 144) hC.1 hC.2.1 dX9_isWay_130 (by decide) ?_
    refine lv_iconst (v := 0) hC.1 hC.2.1 dX9_isWay_144 (by decide) ?_
    exact mm_zret hC hr hlk hM rfl h dX9_isWay_145
set_option maxHeartbeats 4000000 in
set_option maxRecDepth 100000 in
theorem qX9_isWay_112 {p : Program} {l : Launch} {e : Env} {s : State} {m : MethodId} {args : Array Value} {below : List Frame} {meth : Method} {c : Code} {G : Gt} {b0 : Nat} (hC : CallFix p m c cX9_isWay 6 s args lw_g RX9) (hr : meth.sig.returnType = (some .boolean)) (hlk : meth.locks = false) {K : Int32 → St → Prop} {B8 : Nat → Int32 → Int32 → Int32 → St → Prop} (hB8 : ∀ (x0 : Nat) (x1 : Int32) (x2 : Int32) (x3 : Int32) (S : St) (H : Heap) (locs : List Loc) (ls : Array Slot), B8 x0 x1 x2 x3 S → MM G b0 s S H locs → lv_has ls 6 [(0, .ref (b0 + x0)), (1, .int x1), (2, .int x2), (3, .int x3)] → W p l e rmX9_isWay s m args below meth c H locs 0 0 (MQ below (va_Qi K (ME G b0) (AB b0)) args s 0 0 (AB b0)) (F0 m 8 ls [])) : ∀ (x0 : Nat) (x1 : Int32) (x2 : Int32) (x3 : Int32) (x4 : Int32) (S : St) (H : Heap) (locs : List Loc) (ls : Array Slot), wX9_isWay_112 K B8 x0 x1 x2 x3 x4 S → MM G b0 s S H locs → lv_has ls 6 [(0, .ref (b0 + x0)), (1, .int x1), (2, .int x2), (3, .int x3), (4, .int x4)] → W p l e rmX9_isWay s m args below meth c H locs 0 0 (MQ below (va_Qi K (ME G b0) (AB b0)) args s 0 0 (AB b0)) (F0 m 112 ls []) := by
  intro x0 x1 x2 x3 x4 S H locs ls h hM hl
  unfold wX9_isWay_112 at h
  refine lv_iload_n hC.1 hC.2.1 dX9_isWay_112 rfl (lv_at hl 3 rfl) ?_
  refine lv_if_eq (tgt := 124) hC.1 hC.2.1 dX9_isWay_113 (by decide) (fun c_5 => ?_) (fun c_5 => ?_)
  · have h := h.1 c_5
    exact qX9_isWay_124 hC hr hlk hB8 _ _ _ _ _ _ H locs ls h hM (lv_sub hl [0, 1, 2, 3, 4] rfl)
  · have h := h.2 c_5
    refine lv_iload_n hC.1 hC.2.1 dX9_isWay_116 rfl (lv_at hl 3 rfl) ?_
    refine lv_aload_n hC.1 hC.2.1 dX9_isWay_117 rfl (lv_at hl 0 rfl) ?_
    obtain ⟨ok_6, h⟩ := h
    refine mm_gi hC hM (ci := 9) (j := 3) ok_6 rfl (by decide) (by decide) tw_794 rfl dX9_isWay_118 ?_
    refine lv_icmp_ne (tgt := 133) hC.1 hC.2.1 dX9_isWay_121 (by decide) (fun c_7 => ?_) (fun c_7 => ?_)
    · have h := h.2 c_7
      refine lv_iload hC.1 hC.2.1 dX9_isWay_133 (lv_at hl 4 rfl) ?_
      refine lv_if_eq (tgt := 146) hC.1 hC.2.1 dX9_isWay_135 (by decide) (fun c_8 => ?_) (fun c_8 => ?_)
      · have h := h.1 c_8
        exact qX9_isWay_146 hC hr hlk hB8 _ _ _ _ _ H locs ls h hM (lv_sub hl [0, 1, 2, 3] rfl)
      · have h := h.2 c_8
        refine lv_iload hC.1 hC.2.1 dX9_isWay_138 (lv_at hl 4 rfl) ?_
        refine lv_iconst (v := 2) hC.1 hC.2.1 dX9_isWay_140 (by decide) ?_
        refine lv_icmp_eq (tgt := 146) hC.1 hC.2.1 dX9_isWay_141 (by decide) (fun c_9 => ?_) (fun c_9 => ?_)
        · have h := h.1 c_9
          exact qX9_isWay_146 hC hr hlk hB8 _ _ _ _ _ H locs ls h hM (lv_sub hl [0, 1, 2, 3] rfl)
        · have h := h.2 c_9
          refine lv_iconst (v := 0) hC.1 hC.2.1 dX9_isWay_144 (by decide) ?_
          exact mm_zret hC hr hlk hM rfl h dX9_isWay_145
    · have h := h.1 c_7
      exact qX9_isWay_124 hC hr hlk hB8 _ _ _ _ _ _ H locs ls h hM (lv_sub hl [0, 1, 2, 3, 4] rfl)
set_option maxHeartbeats 4000000 in
set_option maxRecDepth 100000 in
theorem qX9_isWay_20 {p : Program} {l : Launch} {e : Env} {s : State} {m : MethodId} {args : Array Value} {below : List Frame} {meth : Method} {c : Code} {G : Gt} {b0 : Nat} (hC : CallFix p m c cX9_isWay 6 s args lw_g RX9) (hr : meth.sig.returnType = (some .boolean)) (hlk : meth.locks = false) {K : Int32 → St → Prop} {B8 : Nat → Int32 → Int32 → Int32 → St → Prop} (hB8 : ∀ (x0 : Nat) (x1 : Int32) (x2 : Int32) (x3 : Int32) (S : St) (H : Heap) (locs : List Loc) (ls : Array Slot), B8 x0 x1 x2 x3 S → MM G b0 s S H locs → lv_has ls 6 [(0, .ref (b0 + x0)), (1, .int x1), (2, .int x2), (3, .int x3)] → W p l e rmX9_isWay s m args below meth c H locs 0 0 (MQ below (va_Qi K (ME G b0) (AB b0)) args s 0 0 (AB b0)) (F0 m 8 ls [])) : ∀ (n : Nat) (x0 : Nat) (x1 : Int32) (x2 : Int32) (x3 : Int32) (x4 : Int32) (x5 : Int32) (S : St) (H : Heap) (locs : List Loc) (ls : Array Slot), wX9_isWay_20 K B8 n x0 x1 x2 x3 x4 x5 S → MM G b0 s S H locs → lv_has ls 6 [(0, .ref (b0 + x0)), (1, .int x1), (2, .int x2), (3, .int x3), (4, .int x4), (5, .int x5)] → W p l e rmX9_isWay s m args below meth c H locs 0 0 (MQ below (va_Qi K (ME G b0) (AB b0)) args s 0 0 (AB b0)) (F0 m 20 ls []) := by
  intro n
  induction n with
  | zero =>
    intro x0 x1 x2 x3 x4 x5 S H locs ls h
    exact False.elim h
  | succ n ih =>
    intro x0 x1 x2 x3 x4 x5 S H locs ls h hM hl
    rw [wX9_isWay_20] at h
    refine lv_iload hC.1 hC.2.1 dX9_isWay_20 (lv_at hl 5 rfl) ?_
    refine lv_aload_n hC.1 hC.2.1 dX9_isWay_22 rfl (lv_at hl 0 rfl) ?_
    obtain ⟨ok_10, h⟩ := h
    refine mm_gi hC hM (ci := 9) (j := 1) ok_10 rfl (by decide) (by decide) tw_792 rfl dX9_isWay_23 ?_
    refine lv_icmp_ge (tgt := 112) hC.1 hC.2.1 dX9_isWay_26 (by decide) (fun c_11 => ?_) (fun c_11 => ?_)
    · have h := h.1 c_11
      exact qX9_isWay_112 hC hr hlk hB8 _ _ _ _ _ _ H locs ls h hM (lv_sub hl [0, 1, 2, 3, 4] rfl)
    · have h := h.2 c_11
      refine lv_iload_n hC.1 hC.2.1 dX9_isWay_29 rfl (lv_at hl 1 rfl) ?_
      refine lv_iload hC.1 hC.2.1 dX9_isWay_30 (lv_at hl 5 rfl) ?_
      refine mm_ri hM (mm_S (As := [.int x1, .int x5]) (rest := []) hC hM hl.1 (mX9_has l G b0 S x1 x5 _) h kX9_has tw_772 rfl (by decide) rfl (Nat.le_of_ble_eq_true rfl) dX9_isWay_32 (by decide)) (fun r_13 S_12 H locs h hM => ?_)
      refine lv_if_ne (tgt := 41) hC.1 hC.2.1 dX9_isWay_35 (by decide) (fun c_14 => ?_) (fun c_14 => ?_)
      · have h := h.2 c_14
        refine lv_aload_n hC.1 hC.2.1 dX9_isWay_41 rfl (lv_at hl 0 rfl) ?_
        obtain ⟨ok_15, h⟩ := h
        refine mm_gr hC hM (ci := 9) (j := 6) ok_15 rfl (by decide) (by decide) tw_797 rfl dX9_isWay_42 ?_
        refine lv_iload hC.1 hC.2.1 dX9_isWay_45 (lv_at hl 5 rfl) ?_
        obtain ⟨ok_16, h⟩ := h
        refine mm_il hC hM ok_16 dX9_isWay_47 ?_
        refine lv_aload_n hC.1 hC.2.1 dX9_isWay_48 rfl (lv_at hl 0 rfl) ?_
        obtain ⟨ok_17, h⟩ := h
        refine mm_gr hC hM (ci := 9) (j := 7) ⟨ok_15.1, ok_17⟩ rfl (by decide) (by decide) tw_798 rfl dX9_isWay_49 ?_
        refine lv_iload hC.1 hC.2.1 dX9_isWay_52 (lv_at hl 5 rfl) ?_
        obtain ⟨ok_18, h⟩ := h
        refine mm_il hC hM ok_18 dX9_isWay_54 ?_
        refine lv_icmp_eq (tgt := 72) hC.1 hC.2.1 dX9_isWay_55 (by decide) (fun c_19 => ?_) (fun c_19 => ?_)
        · have h := h.1 c_19
          refine lv_iconst (v := 0) hC.1 hC.2.1 dX9_isWay_72 (by decide) ?_
          exact mm_zret hC hr hlk hM rfl h dX9_isWay_73
        · have h := h.2 c_19
          refine lv_iload_n hC.1 hC.2.1 dX9_isWay_58 rfl (lv_at hl 2 rfl) ?_
          refine lv_aload_n hC.1 hC.2.1 dX9_isWay_59 rfl (lv_at hl 0 rfl) ?_
          refine mm_gr hC hM (ci := 9) (j := 6) ok_15 rfl (by decide) (by decide) tw_797 rfl dX9_isWay_60 ?_
          refine lv_iload hC.1 hC.2.1 dX9_isWay_63 (lv_at hl 5 rfl) ?_
          refine mm_il hC hM ok_16 dX9_isWay_65 ?_
          refine mm_ri hM (mm_S (As := [.int x2, .int (sI S_12 (sR S_12 x0 6) (x5 : Int32).toNatClampNeg)]) (rest := []) hC hM hl.1 (mX9_has l G b0 S_12 x2 (sI S_12 (sR S_12 x0 6) (x5 : Int32).toNatClampNeg) _) h kX9_has tw_772 rfl (by decide) rfl (Nat.le_of_ble_eq_true rfl) dX9_isWay_66 (by decide)) (fun r_21 S_20 H locs h hM => ?_)
          refine lv_if_ne (tgt := 74) hC.1 hC.2.1 dX9_isWay_69 (by decide) (fun c_22 => ?_) (fun c_22 => ?_)
          · have h := h.2 c_22
            refine lv_iload hC.1 hC.2.1 dX9_isWay_74 (lv_at hl 4 rfl) ?_
            refine lv_aload_n hC.1 hC.2.1 dX9_isWay_76 rfl (lv_at hl 0 rfl) ?_
            obtain ⟨ok_23, h⟩ := h
            refine mm_gr hC hM (ci := 9) (j := 6) ok_23 rfl (by decide) (by decide) tw_797 rfl dX9_isWay_77 ?_
            refine lv_iload hC.1 hC.2.1 dX9_isWay_80 (lv_at hl 5 rfl) ?_
            obtain ⟨ok_24, h⟩ := h
            refine mm_il hC hM ok_24 dX9_isWay_82 ?_
            refine lv_iload_n hC.1 hC.2.1 dX9_isWay_83 rfl (lv_at hl 3 rfl) ?_
            refine lv_icmp_eq (tgt := 98) hC.1 hC.2.1 dX9_isWay_84 (by decide) (fun c_25 => ?_) (fun c_25 => ?_)
            · have h := h.1 c_25
              exact qX9_isWay_98 hC hr hlk ih _ _ _ _ _ _ _ H locs ls h hM (lv_sub hl [0, 1, 2, 3, 5] rfl)
            · have h := h.2 c_25
              refine lv_aload_n hC.1 hC.2.1 dX9_isWay_87 rfl (lv_at hl 0 rfl) ?_
              obtain ⟨ok_26, h⟩ := h
              refine mm_gr hC hM (ci := 9) (j := 7) ⟨ok_23.1, ok_26⟩ rfl (by decide) (by decide) tw_798 rfl dX9_isWay_88 ?_
              refine lv_iload hC.1 hC.2.1 dX9_isWay_91 (lv_at hl 5 rfl) ?_
              obtain ⟨ok_27, h⟩ := h
              refine mm_il hC hM ok_27 dX9_isWay_93 ?_
              refine lv_iload_n hC.1 hC.2.1 dX9_isWay_94 rfl (lv_at hl 3 rfl) ?_
              refine lv_icmp_ne (tgt := 102) hC.1 hC.2.1 dX9_isWay_95 (by decide) (fun c_28 => ?_) (fun c_28 => ?_)
              · have h := h.2 c_28
                refine lv_iconst (v := 0) hC.1 hC.2.1 dX9_isWay_102 (by decide) ?_
                exact qX9_isWay_103 hC hr hlk ih _ _ _ _ _ _ _ _ H locs ls h hM (lv_sub hl [0, 1, 2, 3, 5] rfl)
              · have h := h.1 c_28
                exact qX9_isWay_98 hC hr hlk ih _ _ _ _ _ _ _ H locs ls h hM (lv_sub hl [0, 1, 2, 3, 5] rfl)
          · have h := h.1 c_22
            refine lv_iconst (v := 0) hC.1 hC.2.1 dX9_isWay_72 (by decide) ?_
            exact mm_zret hC hr hlk hM rfl h dX9_isWay_73
      · have h := h.1 c_14
        refine lv_goto (tgt := 106) hC.1 hC.2.1 dX9_isWay_38 (by decide) ?_
        exact qX9_isWay_106 hC hr hlk ih _ _ _ _ _ _ _ H locs ls h hM (lv_sub hl [0, 1, 2, 3, 4, 5] rfl)
set_option maxHeartbeats 4000000 in
set_option maxRecDepth 100000 in
theorem qX9_isWay_8 {p : Program} {l : Launch} {e : Env} {s : State} {m : MethodId} {args : Array Value} {below : List Frame} {meth : Method} {c : Code} {G : Gt} {b0 : Nat} (hC : CallFix p m c cX9_isWay 6 s args lw_g RX9) (hr : meth.sig.returnType = (some .boolean)) (hlk : meth.locks = false) {K : Int32 → St → Prop} : ∀ (n : Nat) (x0 : Nat) (x1 : Int32) (x2 : Int32) (x3 : Int32) (S : St) (H : Heap) (locs : List Loc) (ls : Array Slot), wX9_isWay_8 K n x0 x1 x2 x3 S → MM G b0 s S H locs → lv_has ls 6 [(0, .ref (b0 + x0)), (1, .int x1), (2, .int x2), (3, .int x3)] → W p l e rmX9_isWay s m args below meth c H locs 0 0 (MQ below (va_Qi K (ME G b0) (AB b0)) args s 0 0 (AB b0)) (F0 m 8 ls []) := by
  intro n
  induction n with
  | zero =>
    intro x0 x1 x2 x3 S H locs ls h
    exact False.elim h
  | succ n ih =>
    intro x0 x1 x2 x3 S H locs ls h hM hl
    rw [wX9_isWay_8] at h
    refine lv_iload_n hC.1 hC.2.1 dX9_isWay_8 rfl (lv_at hl 3 rfl) ?_
    refine lv_bipush (v := 6) hC.1 hC.2.1 dX9_isWay_9 (by decide) ?_
    refine lv_icmp_ge (tgt := 152) hC.1 hC.2.1 dX9_isWay_11 (by decide) (fun c_29 => ?_) (fun c_29 => ?_)
    · have h := h.1 c_29
      refine lv_iconst (v := 1) hC.1 hC.2.1 dX9_isWay_152 (by decide) ?_
      exact mm_zret hC hr hlk hM rfl h dX9_isWay_153
    · have h := h.2 c_29
      refine lv_iconst (v := 0) hC.1 hC.2.1 dX9_isWay_14 (by decide) ?_
      refine lv_istore (lv' := [(4, .int 0), (0, .ref (b0 + x0)), (1, .int x1), (2, .int x2), (3, .int x3)]) hC.1 hC.2.1 dX9_isWay_15 hl (by decide) rfl (fun ls hl => ?_)
      refine lv_iconst (v := 0) hC.1 hC.2.1 dX9_isWay_17 (by decide) ?_
      refine lv_istore (lv' := [(5, .int 0), (4, .int 0), (0, .ref (b0 + x0)), (1, .int x1), (2, .int x2), (3, .int x3)]) hC.1 hC.2.1 dX9_isWay_18 hl (by decide) rfl (fun ls hl => ?_)
      obtain ⟨n1, h⟩ := h
      exact qX9_isWay_20 hC hr hlk ih n1 _ _ _ _ _ _ _ H locs ls h hM (lv_sub hl [2, 3, 4, 5, 1, 0] rfl)
set_option maxHeartbeats 4000000 in
set_option maxRecDepth 100000 in
theorem mX9_isWay (l : Launch) (G : Gt) (b0 : Nat) (S : St) (o : Nat) (x1 : Int32) (K : Int32 → St → Prop) : CI l G b0 S yX9_isWay cX9_isWay 6 (some .boolean) rmX9_isWay [.ref (b0 + o), .int x1] (wX9_isWay S o x1 K) K := by
  refine met_of (by decide) (Nat.le_of_ble_eq_true rfl) rfl ?_
  intro p e s m below meth c hC hr hlk hin h H locs ls hM hl
  unfold wX9_isWay at h
  refine lv_aload_n hC.1 hC.2.1 dX9_isWay_0 rfl (lv_at hl 0 rfl) ?_
  refine lv_iload_n hC.1 hC.2.1 dX9_isWay_1 rfl (lv_at hl 1 rfl) ?_
  obtain ⟨ok_32, h⟩ := h
  refine mm_ri hM (mm_V (As := [.int x1]) (rest := []) hC hM hl.1 (mX9_reached l G b0 S o x1 _) h (ci := 9) ok_32 rfl rfl kX9_reached tw_779 rfl (by decide) rfl (Nat.le_of_ble_eq_true rfl) dX9_isWay_2 (by decide)) (fun r_31 S_30 H locs h hM => ?_)
  refine lv_istore_n (lv' := [(2, .int r_31), (0, .ref (b0 + o)), (1, .int x1)]) hC.1 hC.2.1 dX9_isWay_5 rfl hl (by decide) rfl (fun ls hl => ?_)
  refine lv_iconst (v := 0) hC.1 hC.2.1 dX9_isWay_6 (by decide) ?_
  refine lv_istore_n (lv' := [(3, .int 0), (2, .int r_31), (0, .ref (b0 + o)), (1, .int x1)]) hC.1 hC.2.1 dX9_isWay_7 rfl hl (by decide) rfl (fun ls hl => ?_)
  obtain ⟨n1, h⟩ := h
  exact qX9_isWay_8 hC hr hlk n1 _ _ _ _ _ H locs ls h hM (lv_sub hl [2, 3, 1, 0] rfl)
set_option maxHeartbeats 4000000 in
set_option maxRecDepth 100000 in
theorem mX9_isChoice (l : Launch) (G : Gt) (b0 : Nat) (S : St) (o : Nat) (x1 : Int32) (K : Int32 → St → Prop) : CI l G b0 S yX9_isChoice cX9_isChoice 2 (some .boolean) rmX9_isChoice [.ref (b0 + o), .int x1] (wX9_isChoice S o x1 K) K := by
  refine met_of (by decide) (Nat.le_of_ble_eq_true rfl) rfl ?_
  intro p e s m below meth c hC hr hlk hin h H locs ls hM hl
  unfold wX9_isChoice at h
  refine lv_aload_n hC.1 hC.2.1 dX9_isChoice_0 rfl (lv_at hl 0 rfl) ?_
  obtain ⟨ok_1, h⟩ := h
  refine mm_gi hC hM (ci := 9) (j := 2) ok_1 rfl (by decide) (by decide) tw_793 rfl dX9_isChoice_1 ?_
  refine mm_sw (lo := 0) (hi := 2) hC.1 hC.2.1 dX9_isChoice_4 (by decide) (fun c_2 => ?_) ?_
  · have h := h.1 c_2
    refine ⟨61, by decide, ?_⟩
    refine lv_aload_n hC.1 hC.2.1 dX9_isChoice_61 rfl (lv_at hl 0 rfl) ?_
    refine lv_iload_n hC.1 hC.2.1 dX9_isChoice_62 rfl (lv_at hl 1 rfl) ?_
    refine mm_ri hM (mm_V (As := [.int x1]) (rest := []) hC hM hl.1 (mX9_isPairs l G b0 S o x1 _) h (ci := 9) ok_1 rfl rfl kX9_isPairs tw_787 rfl (by decide) rfl (Nat.le_of_ble_eq_true rfl) dX9_isChoice_63 (by decide)) (fun r_14 S_13 H locs h hM => ?_)
    obtain ⟨nb_15, h⟩ := h
    exact mm_zret hC hr hlk hM nb_15 h dX9_isChoice_66
  · intro i hi
    match i, hi with
    | 0, _ =>
      intro c_2
      have h := h.2.1 (c_2.trans (by decide))
      refine ⟨32, by decide, ?_⟩
      refine lv_iload_n hC.1 hC.2.1 dX9_isChoice_32 rfl (lv_at hl 1 rfl) ?_
      refine mm_ri hM (mm_S (As := [.int x1]) (rest := []) hC hM hl.1 (mX9_size l G b0 S x1 _) h kX9_size tw_769 rfl (by decide) rfl (Nat.le_of_ble_eq_true rfl) dX9_isChoice_33 (by decide)) (fun r_4 S_3 H locs h hM => ?_)
      refine lv_aload_n hC.1 hC.2.1 dX9_isChoice_36 rfl (lv_at hl 0 rfl) ?_
      obtain ⟨ok_5, h⟩ := h
      refine mm_gi hC hM (ci := 9) (j := 3) ok_5 rfl (by decide) (by decide) tw_794 rfl dX9_isChoice_37 ?_
      refine lv_icmp_ne (tgt := 47) hC.1 hC.2.1 dX9_isChoice_40 (by decide) (fun c_6 => ?_) (fun c_6 => ?_)
      · have h := h.2 c_6
        refine lv_iconst (v := 0) hC.1 hC.2.1 dX9_isChoice_47 (by decide) ?_
        exact mm_zret hC hr hlk hM rfl h dX9_isChoice_48
      · have h := h.1 c_6
        refine lv_iconst (v := 1) hC.1 hC.2.1 dX9_isChoice_43 (by decide) ?_
        refine lv_goto (tgt := 48) hC.1 hC.2.1 dX9_isChoice_44 (by decide) ?_
        exact mm_zret hC hr hlk hM rfl h dX9_isChoice_48
    | 1, _ =>
      intro c_2
      have h := h.2.2.1 (c_2.trans (by decide))
      refine ⟨49, by decide, ?_⟩
      refine lv_aload_n hC.1 hC.2.1 dX9_isChoice_49 rfl (lv_at hl 0 rfl) ?_
      refine lv_iload_n hC.1 hC.2.1 dX9_isChoice_50 rfl (lv_at hl 1 rfl) ?_
      refine mm_ri hM (mm_V (As := [.int x1]) (rest := []) hC hM hl.1 (mX9_isWay l G b0 S o x1 _) h (ci := 9) ok_1 rfl rfl kX9_isWay tw_775 rfl (by decide) rfl (Nat.le_of_ble_eq_true rfl) dX9_isChoice_51 (by decide)) (fun r_8 S_7 H locs h hM => ?_)
      obtain ⟨nb_9, h⟩ := h
      exact mm_zret hC hr hlk hM nb_9 h dX9_isChoice_54
    | 2, _ =>
      intro c_2
      have h := h.2.2.2 (c_2.trans (by decide))
      refine ⟨55, by decide, ?_⟩
      refine lv_aload_n hC.1 hC.2.1 dX9_isChoice_55 rfl (lv_at hl 0 rfl) ?_
      refine lv_iload_n hC.1 hC.2.1 dX9_isChoice_56 rfl (lv_at hl 1 rfl) ?_
      refine mm_ri hM (mm_V (As := [.int x1]) (rest := []) hC hM hl.1 (mX9_isTree l G b0 S o x1 _) h (ci := 9) ok_1 rfl rfl kX9_isTree tw_783 rfl (by decide) rfl (Nat.le_of_ble_eq_true rfl) dX9_isChoice_57 (by decide)) (fun r_11 S_10 H locs h hM => ?_)
      obtain ⟨nb_12, h⟩ := h
      exact mm_zret hC hr hlk hM nb_12 h dX9_isChoice_60
    | q + 3, hi => exact absurd hi (by simp)
set_option maxHeartbeats 4000000 in
set_option maxRecDepth 100000 in
theorem qX9_gathers_60 {p : Program} {l : Launch} {e : Env} {s : State} {m : MethodId} {args : Array Value} {below : List Frame} {meth : Method} {c : Code} {G : Gt} {b0 : Nat} (hC : CallFix p m c cX9_gathers 2 s args lw_g RX9) (hr : meth.sig.returnType = (some .boolean)) (hlk : meth.locks = false) {K : Int32 → St → Prop} {B7 : Nat → Int32 → St → Prop} (hB7 : ∀ (x0 : Nat) (x1 : Int32) (S : St) (H : Heap) (locs : List Loc) (ls : Array Slot), B7 x0 x1 S → MM G b0 s S H locs → lv_has ls 2 [(0, .ref (b0 + x0)), (1, .int x1)] → W p l e rmX9_gathers s m args below meth c H locs 0 0 (MQ below (va_Qi K (ME G b0) (AB b0)) args s 0 0 (AB b0)) (F0 m 7 ls [])) : ∀ (x0 : Nat) (x1 : Int32) (S : St) (H : Heap) (locs : List Loc) (ls : Array Slot), wX9_gathers_60 K B7 x0 x1 S → MM G b0 s S H locs → lv_has ls 2 [(0, .ref (b0 + x0)), (1, .int x1)] → W p l e rmX9_gathers s m args below meth c H locs 0 0 (MQ below (va_Qi K (ME G b0) (AB b0)) args s 0 0 (AB b0)) (F0 m 60 ls []) := by
  intro x0 x1 S H locs ls h hM hl
  unfold wX9_gathers_60 at h
  obtain ⟨x1_1, ex1_1⟩ : ∃ y : Int32, y = x1 + 1 := ⟨_, rfl⟩
  have h := h x1_1 ex1_1
  refine lv_iinc (v := x1_1) (lv' := [(1, .int x1_1), (0, .ref (b0 + x0))]) hC.1 hC.2.1 dX9_gathers_60 hl (k := 1) rfl (by rw [ex1_1]; rfl) (by decide) rfl (fun ls hl => ?_)
  refine lv_goto (tgt := 7) hC.1 hC.2.1 dX9_gathers_63 (by decide) ?_
  exact hB7 _ _ _ H locs ls h hM (lv_sub hl [1, 0] rfl)
set_option maxHeartbeats 4000000 in
set_option maxRecDepth 100000 in
theorem qX9_gathers_7 {p : Program} {l : Launch} {e : Env} {s : State} {m : MethodId} {args : Array Value} {below : List Frame} {meth : Method} {c : Code} {G : Gt} {b0 : Nat} (hC : CallFix p m c cX9_gathers 2 s args lw_g RX9) (hr : meth.sig.returnType = (some .boolean)) (hlk : meth.locks = false) {K : Int32 → St → Prop} : ∀ (n : Nat) (x0 : Nat) (x1 : Int32) (S : St) (H : Heap) (locs : List Loc) (ls : Array Slot), wX9_gathers_7 K n x0 x1 S → MM G b0 s S H locs → lv_has ls 2 [(0, .ref (b0 + x0)), (1, .int x1)] → W p l e rmX9_gathers s m args below meth c H locs 0 0 (MQ below (va_Qi K (ME G b0) (AB b0)) args s 0 0 (AB b0)) (F0 m 7 ls []) := by
  intro n
  induction n with
  | zero =>
    intro x0 x1 S H locs ls h
    exact False.elim h
  | succ n ih =>
    intro x0 x1 S H locs ls h hM hl
    rw [wX9_gathers_7] at h
    refine lv_iload_n hC.1 hC.2.1 dX9_gathers_7 rfl (lv_at hl 1 rfl) ?_
    refine lv_iconst (v := 1) hC.1 hC.2.1 dX9_gathers_8 (by decide) ?_
    refine lv_aload_n hC.1 hC.2.1 dX9_gathers_9 rfl (lv_at hl 0 rfl) ?_
    obtain ⟨ok_2, h⟩ := h
    refine mm_gi hC hM (ci := 9) (j := 1) ok_2 rfl (by decide) (by decide) tw_792 rfl dX9_gathers_10 ?_
    refine lv_ishl hC.1 hC.2.1 dX9_gathers_13 ?_
    refine lv_icmp_ge (tgt := 66) hC.1 hC.2.1 dX9_gathers_14 (by decide) (fun c_3 => ?_) (fun c_3 => ?_)
    · have h := h.1 c_3
      refine lv_iconst (v := 1) hC.1 hC.2.1 dX9_gathers_66 (by decide) ?_
      exact mm_zret hC hr hlk hM rfl h dX9_gathers_67
    · have h := h.2 c_3
      refine lv_aload_n hC.1 hC.2.1 dX9_gathers_17 rfl (lv_at hl 0 rfl) ?_
      refine lv_iload_n hC.1 hC.2.1 dX9_gathers_18 rfl (lv_at hl 1 rfl) ?_
      refine mm_ri hM (mm_V (As := [.int x1]) (rest := []) hC hM hl.1 (mX9_isChoice l G b0 S x0 x1 _) h (ci := 9) ok_2 rfl rfl kX9_isChoice tw_765 rfl (by decide) rfl (Nat.le_of_ble_eq_true rfl) dX9_gathers_19 (by decide)) (fun r_5 S_4 H locs h hM => ?_)
      refine lv_if_ne (tgt := 28) hC.1 hC.2.1 dX9_gathers_22 (by decide) (fun c_6 => ?_) (fun c_6 => ?_)
      · have h := h.2 c_6
        refine lv_aload_n hC.1 hC.2.1 dX9_gathers_28 rfl (lv_at hl 0 rfl) ?_
        obtain ⟨ok_7, h⟩ := h
        refine mm_gi hC hM (ci := 9) (j := 11) ok_7 rfl (by decide) (by decide) tw_802 rfl dX9_gathers_29 ?_
        refine lv_sipush (v := 500) hC.1 hC.2.1 dX9_gathers_32 (by decide) ?_
        refine lv_icmp_ne (tgt := 40) hC.1 hC.2.1 dX9_gathers_35 (by decide) (fun c_8 => ?_) (fun c_8 => ?_)
        · have h := h.2 c_8
          refine lv_aload_n hC.1 hC.2.1 dX9_gathers_40 rfl (lv_at hl 0 rfl) ?_
          obtain ⟨ok_9, h⟩ := h
          refine mm_gr hC hM (ci := 9) (j := 12) ⟨ok_7, ok_9⟩ rfl (by decide) (by decide) tw_803 rfl dX9_gathers_41 ?_
          refine lv_aload_n hC.1 hC.2.1 dX9_gathers_44 rfl (lv_at hl 0 rfl) ?_
          refine mm_gi hC hM (ci := 9) (j := 11) ok_7 rfl (by decide) (by decide) tw_802 rfl dX9_gathers_45 ?_
          refine lv_iload_n hC.1 hC.2.1 dX9_gathers_48 rfl (lv_at hl 1 rfl) ?_
          obtain ⟨ok_10, h⟩ := h
          refine mm_is hC hM ok_10 dX9_gathers_49 (fun S_11 H locs eS_11 hM => ?_)
          have h := h S_11 eS_11
          refine lv_aload_n hC.1 hC.2.1 dX9_gathers_50 rfl (lv_at hl 0 rfl) ?_
          refine lv_dup hC.1 hC.2.1 dX9_gathers_51 rfl ?_
          obtain ⟨ok_12, h⟩ := h
          refine mm_gi hC hM (ci := 9) (j := 11) ok_12 rfl (by decide) (by decide) tw_802 rfl dX9_gathers_52 ?_
          refine lv_iconst (v := 1) hC.1 hC.2.1 dX9_gathers_55 (by decide) ?_
          refine lv_iadd hC.1 hC.2.1 dX9_gathers_56 ?_
          refine mm_pi hC hM (ci := 9) (j := 11) (ty := .int) ok_12 rfl (by decide) (by decide) tw_802 rfl rfl (by decide +kernel) rfl rfl dX9_gathers_57 (fun S_13 H locs eS_13 hM => ?_)
          have h := h S_13 eS_13
          exact qX9_gathers_60 hC hr hlk ih _ _ _ H locs ls h hM (lv_sub hl [0, 1] rfl)
        · have h := h.1 c_8
          refine lv_iconst (v := 0) hC.1 hC.2.1 dX9_gathers_38 (by decide) ?_
          exact mm_zret hC hr hlk hM rfl h dX9_gathers_39
      · have h := h.1 c_6
        refine lv_goto (tgt := 60) hC.1 hC.2.1 dX9_gathers_25 (by decide) ?_
        exact qX9_gathers_60 hC hr hlk ih _ _ _ H locs ls h hM (lv_sub hl [0, 1] rfl)
set_option maxHeartbeats 4000000 in
set_option maxRecDepth 100000 in
theorem mX9_gathers (l : Launch) (G : Gt) (b0 : Nat) (S : St) (o : Nat) (K : Int32 → St → Prop) : CI l G b0 S yX9_gathers cX9_gathers 2 (some .boolean) rmX9_gathers [.ref (b0 + o)] (wX9_gathers S o K) K := by
  refine met_of (by decide) (Nat.le_of_ble_eq_true rfl) rfl ?_
  intro p e s m below meth c hC hr hlk hin h H locs ls hM hl
  unfold wX9_gathers at h
  refine lv_aload_n hC.1 hC.2.1 dX9_gathers_0 rfl (lv_at hl 0 rfl) ?_
  refine lv_iconst (v := 0) hC.1 hC.2.1 dX9_gathers_1 (by decide) ?_
  obtain ⟨ok_14, h⟩ := h
  refine mm_pi hC hM (ci := 9) (j := 11) (ty := .int) ok_14 rfl (by decide) (by decide) tw_802 rfl rfl (by decide +kernel) rfl rfl dX9_gathers_2 (fun S_15 H locs eS_15 hM => ?_)
  have h := h S_15 eS_15
  refine lv_iconst (v := 0) hC.1 hC.2.1 dX9_gathers_5 (by decide) ?_
  refine lv_istore_n (lv' := [(1, .int 0), (0, .ref (b0 + o))]) hC.1 hC.2.1 dX9_gathers_6 rfl hl (by decide) rfl (fun ls hl => ?_)
  obtain ⟨n1, h⟩ := h
  exact qX9_gathers_7 hC hr hlk n1 _ _ _ H locs ls h hM (lv_sub hl [1, 0] rfl)
set_option maxHeartbeats 4000000 in
set_option maxRecDepth 100000 in
theorem mX9_in (l : Launch) (G : Gt) (b0 : Nat) (S : St) (x0 : Int32) (x1 : Int32) (x2 : Int32) (K : Int32 → St → Prop) : CI l G b0 S yX9_in cX9_in 3 (some .boolean) rmX9_in [.int x0, .int x1, .int x2] (wX9_in S x0 x1 x2 K) K := by
  refine met_of (by decide) (Nat.le_of_ble_eq_true rfl) rfl ?_
  intro p e s m below meth c hC hr hlk hin h H locs ls hM hl
  unfold wX9_in at h
  refine lv_iload_n hC.1 hC.2.1 dX9_in_0 rfl (lv_at hl 0 rfl) ?_
  refine lv_iload_n hC.1 hC.2.1 dX9_in_1 rfl (lv_at hl 1 rfl) ?_
  refine lv_icmp_lt (tgt := 14) hC.1 hC.2.1 dX9_in_2 (by decide) (fun c_1 => ?_) (fun c_1 => ?_)
  · have h := h.1 c_1
    refine lv_iconst (v := 0) hC.1 hC.2.1 dX9_in_14 (by decide) ?_
    exact mm_zret hC hr hlk hM rfl h dX9_in_15
  · have h := h.2 c_1
    refine lv_iload_n hC.1 hC.2.1 dX9_in_5 rfl (lv_at hl 0 rfl) ?_
    refine lv_iload_n hC.1 hC.2.1 dX9_in_6 rfl (lv_at hl 2 rfl) ?_
    refine lv_icmp_gt (tgt := 14) hC.1 hC.2.1 dX9_in_7 (by decide) (fun c_2 => ?_) (fun c_2 => ?_)
    · have h := h.1 c_2
      refine lv_iconst (v := 0) hC.1 hC.2.1 dX9_in_14 (by decide) ?_
      exact mm_zret hC hr hlk hM rfl h dX9_in_15
    · have h := h.2 c_2
      refine lv_iconst (v := 1) hC.1 hC.2.1 dX9_in_10 (by decide) ?_
      refine lv_goto (tgt := 15) hC.1 hC.2.1 dX9_in_11 (by decide) ?_
      exact mm_zret hC hr hlk hM rfl h dX9_in_15
set_option maxHeartbeats 4000000 in
set_option maxRecDepth 100000 in
theorem qX9_tells_10 {p : Program} {l : Launch} {e : Env} {s : State} {m : MethodId} {args : Array Value} {below : List Frame} {meth : Method} {c : Code} {G : Gt} {b0 : Nat} (hC : CallFix p m c cX9_tells 2 s args lw_g RX9) (hr : meth.sig.returnType = (some .int)) (hlk : meth.locks = false) {K : Int32 → St → Prop} : ∀ (x1 : Int32) (t0 : Nat) (t1 : Int32) (S : St) (H : Heap) (locs : List Loc) (ls : Array Slot), wX9_tells_10 K x1 t0 t1 S → MM G b0 s S H locs → lv_has ls 2 [(1, .int x1)] → W p l e rmX9_tells s m args below meth c H locs 0 0 (MQ below (va_Qi K (ME G b0) (AB b0)) args s 0 0 (AB b0)) (F0 m 10 ls [.int t1, .ref (b0 + t0)]) := by
  intro x1 t0 t1 S H locs ls h hM hl
  unfold wX9_tells_10 at h
  obtain ⟨ok_1, h⟩ := h
  refine mm_pi hC hM (ci := 9) (j := 0) (ty := .int) ok_1 rfl (by decide) (by decide) tw_791 rfl rfl (by decide +kernel) rfl rfl dX9_tells_10 (fun S_2 H locs eS_2 hM => ?_)
  have h := h S_2 eS_2
  refine lv_iload_n hC.1 hC.2.1 dX9_tells_13 rfl (lv_at hl 0 rfl) ?_
  exact mm_iret hC hr hlk hM h dX9_tells_14
set_option maxHeartbeats 4000000 in
set_option maxRecDepth 100000 in
theorem mX9_tells (l : Launch) (G : Gt) (b0 : Nat) (S : St) (o : Nat) (x1 : Int32) (K : Int32 → St → Prop) : CI l G b0 S yX9_tells cX9_tells 2 (some .int) rmX9_tells [.ref (b0 + o), .int x1] (wX9_tells S o x1 K) K := by
  refine met_of (by decide) (Nat.le_of_ble_eq_true rfl) rfl ?_
  intro p e s m below meth c hC hr hlk hin h H locs ls hM hl
  unfold wX9_tells at h
  refine lv_aload_n hC.1 hC.2.1 dX9_tells_0 rfl (lv_at hl 0 rfl) ?_
  refine lv_iload_n hC.1 hC.2.1 dX9_tells_1 rfl (lv_at hl 1 rfl) ?_
  refine lv_if_ge (tgt := 9) hC.1 hC.2.1 dX9_tells_2 (by decide) (fun c_3 => ?_) (fun c_3 => ?_)
  · have h := h.1 c_3
    refine lv_iconst (v := 0) hC.1 hC.2.1 dX9_tells_9 (by decide) ?_
    exact qX9_tells_10 hC hr hlk _ _ _ _ H locs ls h hM (lv_sub hl [1] rfl)
  · have h := h.2 c_3
    refine lv_iload_n hC.1 hC.2.1 dX9_tells_5 rfl (lv_at hl 1 rfl) ?_
    refine lv_goto (tgt := 10) hC.1 hC.2.1 dX9_tells_6 (by decide) ?_
    exact qX9_tells_10 hC hr hlk _ _ _ _ H locs ls h hM (lv_sub hl [1] rfl)
set_option maxHeartbeats 4000000 in
set_option maxRecDepth 100000 in
theorem qX9_back_152 {p : Program} {l : Launch} {e : Env} {s : State} {m : MethodId} {args : Array Value} {below : List Frame} {meth : Method} {c : Code} {G : Gt} {b0 : Nat} (hC : CallFix p m c cX9_back 4 s args lw_g RX9) (hr : meth.sig.returnType = (some .int)) (hlk : meth.locks = false) {K : Int32 → St → Prop} {B120 : Nat → Int32 → Int32 → St → Prop} (hB120 : ∀ (x0 : Nat) (x2 : Int32) (x3 : Int32) (S : St) (H : Heap) (locs : List Loc) (ls : Array Slot), B120 x0 x2 x3 S → MM G b0 s S H locs → lv_has ls 4 [(0, .ref (b0 + x0)), (2, .int x2), (3, .int x3)] → W p l e rmX9_back s m args below meth c H locs 0 0 (MQ below (va_Qi K (ME G b0) (AB b0)) args s 0 0 (AB b0)) (F0 m 120 ls [])) : ∀ (x0 : Nat) (x2 : Int32) (x3 : Int32) (t0 : Nat) (t1 : Int32) (t2 : Int32) (S : St) (H : Heap) (locs : List Loc) (ls : Array Slot), wX9_back_152 K B120 x0 x2 x3 t0 t1 t2 S → MM G b0 s S H locs → lv_has ls 4 [(0, .ref (b0 + x0)), (2, .int x2), (3, .int x3)] → W p l e rmX9_back s m args below meth c H locs 0 0 (MQ below (va_Qi K (ME G b0) (AB b0)) args s 0 0 (AB b0)) (F0 m 152 ls [.int t2, .int t1, .ref (b0 + t0)]) := by
  intro x0 x2 x3 t0 t1 t2 S H locs ls h hM hl
  unfold wX9_back_152 at h
  obtain ⟨ok_1, h⟩ := h
  refine mm_zs hC hM ok_1 dX9_back_152 (fun S_2 H locs eS_2 hM => ?_)
  have h := h S_2 eS_2
  obtain ⟨x3_3, ex3_3⟩ : ∃ y : Int32, y = x3 + 1 := ⟨_, rfl⟩
  have h := h x3_3 ex3_3
  refine lv_iinc (v := x3_3) (lv' := [(3, .int x3_3), (0, .ref (b0 + x0)), (2, .int x2)]) hC.1 hC.2.1 dX9_back_153 hl (k := 2) rfl (by rw [ex3_3]; rfl) (by decide) rfl (fun ls hl => ?_)
  refine lv_goto (tgt := 120) hC.1 hC.2.1 dX9_back_156 (by decide) ?_
  exact hB120 _ _ _ _ H locs ls h hM (lv_sub hl [1, 2, 0] rfl)
set_option maxHeartbeats 4000000 in
set_option maxRecDepth 100000 in
theorem qX9_back_159 {p : Program} {l : Launch} {e : Env} {s : State} {m : MethodId} {args : Array Value} {below : List Frame} {meth : Method} {c : Code} {G : Gt} {b0 : Nat} (hC : CallFix p m c cX9_back 4 s args lw_g RX9) (hr : meth.sig.returnType = (some .int)) (hlk : meth.locks = false) {K : Int32 → St → Prop} : ∀ (x0 : Nat) (x2 : Int32) (S : St) (H : Heap) (locs : List Loc) (ls : Array Slot), wX9_back_159 K x0 x2 S → MM G b0 s S H locs → lv_has ls 4 [(0, .ref (b0 + x0)), (2, .int x2)] → W p l e rmX9_back s m args below meth c H locs 0 0 (MQ below (va_Qi K (ME G b0) (AB b0)) args s 0 0 (AB b0)) (F0 m 159 ls []) := by
  intro x0 x2 S H locs ls h hM hl
  unfold wX9_back_159 at h
  refine lv_aload_n hC.1 hC.2.1 dX9_back_159 rfl (lv_at hl 0 rfl) ?_
  refine lv_aload_n hC.1 hC.2.1 dX9_back_160 rfl (lv_at hl 0 rfl) ?_
  obtain ⟨ok_4, h⟩ := h
  refine mm_gr hC hM (ci := 9) (j := 22) ok_4 rfl (by decide) (by decide) tw_813 rfl dX9_back_161 ?_
  refine lv_iload_n hC.1 hC.2.1 dX9_back_164 rfl (lv_at hl 1 rfl) ?_
  refine lv_sipush (v := 164) hC.1 hC.2.1 dX9_back_165 (by decide) ?_
  refine lv_iadd hC.1 hC.2.1 dX9_back_168 ?_
  obtain ⟨ok_5, h⟩ := h
  refine mm_il hC hM ok_5 dX9_back_169 ?_
  refine mm_pi hC hM (ci := 9) (j := 1) (ty := .int) ok_4.1 rfl (by decide) (by decide) tw_792 rfl rfl (by decide +kernel) rfl rfl dX9_back_170 (fun S_6 H locs eS_6 hM => ?_)
  have h := h S_6 eS_6
  refine lv_aload_n hC.1 hC.2.1 dX9_back_173 rfl (lv_at hl 0 rfl) ?_
  refine lv_aload_n hC.1 hC.2.1 dX9_back_174 rfl (lv_at hl 0 rfl) ?_
  obtain ⟨ok_7, h⟩ := h
  refine mm_gr hC hM (ci := 9) (j := 22) ok_7 rfl (by decide) (by decide) tw_813 rfl dX9_back_175 ?_
  refine lv_iload_n hC.1 hC.2.1 dX9_back_178 rfl (lv_at hl 1 rfl) ?_
  refine lv_sipush (v := 165) hC.1 hC.2.1 dX9_back_179 (by decide) ?_
  refine lv_iadd hC.1 hC.2.1 dX9_back_182 ?_
  obtain ⟨ok_8, h⟩ := h
  refine mm_il hC hM ok_8 dX9_back_183 ?_
  refine mm_pi hC hM (ci := 9) (j := 2) (ty := .int) ok_7.1 rfl (by decide) (by decide) tw_793 rfl rfl (by decide +kernel) rfl rfl dX9_back_184 (fun S_9 H locs eS_9 hM => ?_)
  have h := h S_9 eS_9
  refine lv_aload_n hC.1 hC.2.1 dX9_back_187 rfl (lv_at hl 0 rfl) ?_
  refine lv_aload_n hC.1 hC.2.1 dX9_back_188 rfl (lv_at hl 0 rfl) ?_
  obtain ⟨ok_10, h⟩ := h
  refine mm_gr hC hM (ci := 9) (j := 22) ok_10 rfl (by decide) (by decide) tw_813 rfl dX9_back_189 ?_
  refine lv_iload_n hC.1 hC.2.1 dX9_back_192 rfl (lv_at hl 1 rfl) ?_
  refine lv_sipush (v := 166) hC.1 hC.2.1 dX9_back_193 (by decide) ?_
  refine lv_iadd hC.1 hC.2.1 dX9_back_196 ?_
  obtain ⟨ok_11, h⟩ := h
  refine mm_il hC hM ok_11 dX9_back_197 ?_
  refine mm_pi hC hM (ci := 9) (j := 3) (ty := .int) ok_10.1 rfl (by decide) (by decide) tw_794 rfl rfl (by decide +kernel) rfl rfl dX9_back_198 (fun S_12 H locs eS_12 hM => ?_)
  have h := h S_12 eS_12
  refine lv_aload_n hC.1 hC.2.1 dX9_back_201 rfl (lv_at hl 0 rfl) ?_
  obtain ⟨ok_15, h⟩ := h
  refine mm_ri hM (mm_V (As := []) (rest := []) hC hM hl.1 (mX9_gathers l G b0 S_12 x0 _) h (ci := 9) ok_15 rfl rfl kX9_gathers tw_761 rfl (by decide) rfl (Nat.le_of_ble_eq_true rfl) dX9_back_202 (by decide)) (fun r_14 S_13 H locs h hM => ?_)
  refine lv_pop hC.1 hC.2.1 dX9_back_205 rfl ?_
  refine lv_aload_n hC.1 hC.2.1 dX9_back_206 rfl (lv_at hl 0 rfl) ?_
  refine lv_iconst (v := 0) hC.1 hC.2.1 dX9_back_207 (by decide) ?_
  obtain ⟨ok_18, h⟩ := h
  refine mm_ri hM (mm_V (As := [.int 0]) (rest := []) hC hM hl.1 (mX9_tells l G b0 S_13 x0 0 _) h (ci := 9) ok_18 rfl rfl kX9_tells tw_868 rfl (by decide) rfl (Nat.le_of_ble_eq_true rfl) dX9_back_208 (by decide)) (fun r_17 S_16 H locs h hM => ?_)
  exact mm_iret hC hr hlk hM h dX9_back_211
set_option maxHeartbeats 4000000 in
set_option maxRecDepth 100000 in
theorem qX9_back_120 {p : Program} {l : Launch} {e : Env} {s : State} {m : MethodId} {args : Array Value} {below : List Frame} {meth : Method} {c : Code} {G : Gt} {b0 : Nat} (hC : CallFix p m c cX9_back 4 s args lw_g RX9) (hr : meth.sig.returnType = (some .int)) (hlk : meth.locks = false) {K : Int32 → St → Prop} : ∀ (n : Nat) (x0 : Nat) (x2 : Int32) (x3 : Int32) (S : St) (H : Heap) (locs : List Loc) (ls : Array Slot), wX9_back_120 K n x0 x2 x3 S → MM G b0 s S H locs → lv_has ls 4 [(0, .ref (b0 + x0)), (2, .int x2), (3, .int x3)] → W p l e rmX9_back s m args below meth c H locs 0 0 (MQ below (va_Qi K (ME G b0) (AB b0)) args s 0 0 (AB b0)) (F0 m 120 ls []) := by
  intro n
  induction n with
  | zero =>
    intro x0 x2 x3 S H locs ls h
    exact False.elim h
  | succ n ih =>
    intro x0 x2 x3 S H locs ls h hM hl
    rw [wX9_back_120] at h
    refine lv_iload_n hC.1 hC.2.1 dX9_back_120 rfl (lv_at hl 2 rfl) ?_
    refine lv_bipush (v := 8) hC.1 hC.2.1 dX9_back_121 (by decide) ?_
    refine lv_icmp_ge (tgt := 159) hC.1 hC.2.1 dX9_back_123 (by decide) (fun c_19 => ?_) (fun c_19 => ?_)
    · have h := h.1 c_19
      exact qX9_back_159 hC hr hlk _ _ _ H locs ls h hM (lv_sub hl [0, 1] rfl)
    · have h := h.2 c_19
      refine lv_aload_n hC.1 hC.2.1 dX9_back_126 rfl (lv_at hl 0 rfl) ?_
      obtain ⟨ok_20, h⟩ := h
      refine mm_gr hC hM (ci := 9) (j := 9) ok_20 rfl (by decide) (by decide) tw_800 rfl dX9_back_127 ?_
      refine lv_iload_n hC.1 hC.2.1 dX9_back_130 rfl (lv_at hl 2 rfl) ?_
      refine lv_aload_n hC.1 hC.2.1 dX9_back_131 rfl (lv_at hl 0 rfl) ?_
      obtain ⟨ok_21, h⟩ := h
      refine mm_gr hC hM (ci := 9) (j := 22) ⟨ok_20.1, ok_21⟩ rfl (by decide) (by decide) tw_813 rfl dX9_back_132 ?_
      refine lv_iload_n hC.1 hC.2.1 dX9_back_135 rfl (lv_at hl 1 rfl) ?_
      refine lv_sipush (v := 156) hC.1 hC.2.1 dX9_back_136 (by decide) ?_
      refine lv_iadd hC.1 hC.2.1 dX9_back_139 ?_
      refine lv_iload_n hC.1 hC.2.1 dX9_back_140 rfl (lv_at hl 2 rfl) ?_
      refine lv_iadd hC.1 hC.2.1 dX9_back_141 ?_
      obtain ⟨ok_22, h⟩ := h
      refine mm_il hC hM ok_22 dX9_back_142 ?_
      refine lv_iconst (v := 1) hC.1 hC.2.1 dX9_back_143 (by decide) ?_
      refine lv_icmp_ne (tgt := 151) hC.1 hC.2.1 dX9_back_144 (by decide) (fun c_23 => ?_) (fun c_23 => ?_)
      · have h := h.2 c_23
        refine lv_iconst (v := 0) hC.1 hC.2.1 dX9_back_151 (by decide) ?_
        exact qX9_back_152 hC hr hlk ih _ _ _ _ _ _ _ H locs ls h hM (lv_sub hl [0, 1, 2] rfl)
      · have h := h.1 c_23
        refine lv_iconst (v := 1) hC.1 hC.2.1 dX9_back_147 (by decide) ?_
        refine lv_goto (tgt := 152) hC.1 hC.2.1 dX9_back_148 (by decide) ?_
        exact qX9_back_152 hC hr hlk ih _ _ _ _ _ _ _ H locs ls h hM (lv_sub hl [0, 1, 2] rfl)
set_option maxHeartbeats 4000000 in
set_option maxRecDepth 100000 in
theorem mX9_back (l : Launch) (G : Gt) (b0 : Nat) (S : St) (o : Nat) (x1 : Int32) (K : Int32 → St → Prop) : CI l G b0 S yX9_back cX9_back 4 (some .int) rmX9_back [.ref (b0 + o), .int x1] (wX9_back S o x1 K) K := by
  refine met_of (by decide) (Nat.le_of_ble_eq_true rfl) rfl ?_
  intro p e s m below meth c hC hr hlk hin h H locs ls hM hl
  unfold wX9_back at h
  refine lv_iload_n hC.1 hC.2.1 dX9_back_0 rfl (lv_at hl 1 rfl) ?_
  refine lv_iconst (v := 0) hC.1 hC.2.1 dX9_back_1 (by decide) ?_
  refine lv_iconst (v := 2) hC.1 hC.2.1 dX9_back_2 (by decide) ?_
  refine mm_ri hM (mm_S (As := [.int x1, .int 0, .int 2]) (rest := []) hC hM hl.1 (mX9_in l G b0 S x1 0 2 _) h kX9_in tw_865 rfl (by decide) rfl (Nat.le_of_ble_eq_true rfl) dX9_back_3 (by decide)) (fun r_25 S_24 H locs h hM => ?_)
  refine lv_if_ne (tgt := 15) hC.1 hC.2.1 dX9_back_6 (by decide) (fun c_26 => ?_) (fun c_26 => ?_)
  · have h := h.2 c_26
    refine lv_aload_n hC.1 hC.2.1 dX9_back_15 rfl (lv_at hl 0 rfl) ?_
    obtain ⟨ok_27, h⟩ := h
    refine mm_gr hC hM (ci := 9) (j := 21) ok_27 rfl (by decide) (by decide) tw_812 rfl dX9_back_16 ?_
    refine lv_iload_n hC.1 hC.2.1 dX9_back_19 rfl (lv_at hl 1 rfl) ?_
    obtain ⟨ok_28, h⟩ := h
    refine mm_zl hC hM ok_28 dX9_back_20 ?_
    refine lv_if_ne (tgt := 31) hC.1 hC.2.1 dX9_back_21 (by decide) (fun c_29 => ?_) (fun c_29 => ?_)
    · have h := h.2 c_29
      refine lv_sipush (v := 200) hC.1 hC.2.1 dX9_back_31 (by decide) ?_
      refine lv_iload_n hC.1 hC.2.1 dX9_back_34 rfl (lv_at hl 1 rfl) ?_
      refine lv_imul hC.1 hC.2.1 dX9_back_35 ?_
      refine lv_topi (fun x2_30 ex2_30 => ?_)
      have h := h x2_30 ex2_30
      refine lv_istore_n (lv' := [(2, .int x2_30), (0, .ref (b0 + o)), (1, .int x1)]) hC.1 hC.2.1 dX9_back_36 rfl hl (by decide) rfl (fun ls hl => ?_)
      refine lv_aload_n hC.1 hC.2.1 dX9_back_37 rfl (lv_at hl 1 rfl) ?_
      refine lv_iload_n hC.1 hC.2.1 dX9_back_38 rfl (lv_at hl 0 rfl) ?_
      refine lv_aload_n hC.1 hC.2.1 dX9_back_39 rfl (lv_at hl 1 rfl) ?_
      obtain ⟨ok_31, h⟩ := h
      refine mm_gr hC hM (ci := 9) (j := 4) ⟨ok_27.1, ok_31⟩ rfl (by decide) (by decide) tw_795 rfl dX9_back_40 ?_
      refine lv_bipush (v := 12) hC.1 hC.2.1 dX9_back_43 (by decide) ?_
      refine mm_rv hM (mm_V (As := [.int x2_30, .ref (b0 + (sR S_24 o 4)), .int 12]) (rest := []) hC hM hl.1 (mX9_brings l G b0 S_24 o x2_30 (sR S_24 o 4) 12 _) h (ci := 9) ok_27.1 rfl rfl kX9_brings tw_1085 rfl (by decide) rfl (Nat.le_of_ble_eq_true rfl) dX9_back_45 (by decide)) (fun S_32 H locs h hM => ?_)
      refine lv_aload_n hC.1 hC.2.1 dX9_back_48 rfl (lv_at hl 1 rfl) ?_
      refine lv_iload_n hC.1 hC.2.1 dX9_back_49 rfl (lv_at hl 0 rfl) ?_
      refine lv_bipush (v := 12) hC.1 hC.2.1 dX9_back_50 (by decide) ?_
      refine lv_iadd hC.1 hC.2.1 dX9_back_52 ?_
      refine lv_aload_n hC.1 hC.2.1 dX9_back_53 rfl (lv_at hl 1 rfl) ?_
      obtain ⟨ok_34, h⟩ := h
      refine mm_gr hC hM (ci := 9) (j := 5) ok_34 rfl (by decide) (by decide) tw_796 rfl dX9_back_54 ?_
      refine lv_bipush (v := 12) hC.1 hC.2.1 dX9_back_57 (by decide) ?_
      refine mm_rv hM (mm_V (As := [.int (x2_30 + 12), .ref (b0 + (sR S_32 o 5)), .int 12]) (rest := []) hC hM hl.1 (mX9_brings l G b0 S_32 o (x2_30 + 12) (sR S_32 o 5) 12 _) h (ci := 9) ok_34.1 rfl rfl kX9_brings tw_1085 rfl (by decide) rfl (Nat.le_of_ble_eq_true rfl) dX9_back_59 (by decide)) (fun S_35 H locs h hM => ?_)
      refine lv_aload_n hC.1 hC.2.1 dX9_back_62 rfl (lv_at hl 1 rfl) ?_
      refine lv_iload_n hC.1 hC.2.1 dX9_back_63 rfl (lv_at hl 0 rfl) ?_
      refine lv_bipush (v := 24) hC.1 hC.2.1 dX9_back_64 (by decide) ?_
      refine lv_iadd hC.1 hC.2.1 dX9_back_66 ?_
      refine lv_aload_n hC.1 hC.2.1 dX9_back_67 rfl (lv_at hl 1 rfl) ?_
      obtain ⟨ok_37, h⟩ := h
      refine mm_gr hC hM (ci := 9) (j := 6) ok_37 rfl (by decide) (by decide) tw_797 rfl dX9_back_68 ?_
      refine lv_bipush (v := 12) hC.1 hC.2.1 dX9_back_71 (by decide) ?_
      refine mm_rv hM (mm_V (As := [.int (x2_30 + 24), .ref (b0 + (sR S_35 o 6)), .int 12]) (rest := []) hC hM hl.1 (mX9_brings l G b0 S_35 o (x2_30 + 24) (sR S_35 o 6) 12 _) h (ci := 9) ok_37.1 rfl rfl kX9_brings tw_1085 rfl (by decide) rfl (Nat.le_of_ble_eq_true rfl) dX9_back_73 (by decide)) (fun S_38 H locs h hM => ?_)
      refine lv_aload_n hC.1 hC.2.1 dX9_back_76 rfl (lv_at hl 1 rfl) ?_
      refine lv_iload_n hC.1 hC.2.1 dX9_back_77 rfl (lv_at hl 0 rfl) ?_
      refine lv_bipush (v := 36) hC.1 hC.2.1 dX9_back_78 (by decide) ?_
      refine lv_iadd hC.1 hC.2.1 dX9_back_80 ?_
      refine lv_aload_n hC.1 hC.2.1 dX9_back_81 rfl (lv_at hl 1 rfl) ?_
      obtain ⟨ok_40, h⟩ := h
      refine mm_gr hC hM (ci := 9) (j := 7) ok_40 rfl (by decide) (by decide) tw_798 rfl dX9_back_82 ?_
      refine lv_bipush (v := 12) hC.1 hC.2.1 dX9_back_85 (by decide) ?_
      refine mm_rv hM (mm_V (As := [.int (x2_30 + 36), .ref (b0 + (sR S_38 o 7)), .int 12]) (rest := []) hC hM hl.1 (mX9_brings l G b0 S_38 o (x2_30 + 36) (sR S_38 o 7) 12 _) h (ci := 9) ok_40.1 rfl rfl kX9_brings tw_1085 rfl (by decide) rfl (Nat.le_of_ble_eq_true rfl) dX9_back_87 (by decide)) (fun S_41 H locs h hM => ?_)
      refine lv_aload_n hC.1 hC.2.1 dX9_back_90 rfl (lv_at hl 1 rfl) ?_
      refine lv_iload_n hC.1 hC.2.1 dX9_back_91 rfl (lv_at hl 0 rfl) ?_
      refine lv_bipush (v := 48) hC.1 hC.2.1 dX9_back_92 (by decide) ?_
      refine lv_iadd hC.1 hC.2.1 dX9_back_94 ?_
      refine lv_aload_n hC.1 hC.2.1 dX9_back_95 rfl (lv_at hl 1 rfl) ?_
      obtain ⟨ok_43, h⟩ := h
      refine mm_gr hC hM (ci := 9) (j := 8) ok_43 rfl (by decide) (by decide) tw_799 rfl dX9_back_96 ?_
      refine lv_bipush (v := 12) hC.1 hC.2.1 dX9_back_99 (by decide) ?_
      refine mm_rv hM (mm_V (As := [.int (x2_30 + 48), .ref (b0 + (sR S_41 o 8)), .int 12]) (rest := []) hC hM hl.1 (mX9_brings l G b0 S_41 o (x2_30 + 48) (sR S_41 o 8) 12 _) h (ci := 9) ok_43.1 rfl rfl kX9_brings tw_1085 rfl (by decide) rfl (Nat.le_of_ble_eq_true rfl) dX9_back_101 (by decide)) (fun S_44 H locs h hM => ?_)
      refine lv_aload_n hC.1 hC.2.1 dX9_back_104 rfl (lv_at hl 1 rfl) ?_
      refine lv_iload_n hC.1 hC.2.1 dX9_back_105 rfl (lv_at hl 0 rfl) ?_
      refine lv_bipush (v := 60) hC.1 hC.2.1 dX9_back_106 (by decide) ?_
      refine lv_iadd hC.1 hC.2.1 dX9_back_108 ?_
      refine lv_aload_n hC.1 hC.2.1 dX9_back_109 rfl (lv_at hl 1 rfl) ?_
      obtain ⟨ok_46, h⟩ := h
      refine mm_gr hC hM (ci := 9) (j := 10) ok_46 rfl (by decide) (by decide) tw_801 rfl dX9_back_110 ?_
      refine lv_bipush (v := 96) hC.1 hC.2.1 dX9_back_113 (by decide) ?_
      refine mm_rv hM (mm_V (As := [.int (x2_30 + 60), .ref (b0 + (sR S_44 o 10)), .int 96]) (rest := []) hC hM hl.1 (mX9_brings l G b0 S_44 o (x2_30 + 60) (sR S_44 o 10) 96 _) h (ci := 9) ok_46.1 rfl rfl kX9_brings tw_1085 rfl (by decide) rfl (Nat.le_of_ble_eq_true rfl) dX9_back_115 (by decide)) (fun S_47 H locs h hM => ?_)
      refine lv_iconst (v := 0) hC.1 hC.2.1 dX9_back_118 (by decide) ?_
      refine lv_istore_n (lv' := [(3, .int 0), (2, .int x2_30), (0, .ref (b0 + o)), (1, .int x1)]) hC.1 hC.2.1 dX9_back_119 rfl hl (by decide) rfl (fun ls hl => ?_)
      obtain ⟨n1, h⟩ := h
      exact qX9_back_120 hC hr hlk n1 _ _ _ _ H locs ls h hM (lv_sub hl [2, 1, 0] rfl)
    · have h := h.1 c_29
      refine lv_aload_n hC.1 hC.2.1 dX9_back_24 rfl (lv_at hl 0 rfl) ?_
      refine lv_bipush (v := (-2)) hC.1 hC.2.1 dX9_back_25 (by decide) ?_
      refine mm_ri hM (mm_V (As := [.int (-2)]) (rest := []) hC hM hl.1 (mX9_tells l G b0 S_24 o (-2) _) h (ci := 9) ok_27.1 rfl rfl kX9_tells tw_868 rfl (by decide) rfl (Nat.le_of_ble_eq_true rfl) dX9_back_27 (by decide)) (fun r_50 S_49 H locs h hM => ?_)
      exact mm_iret hC hr hlk hM h dX9_back_30
  · have h := h.1 c_26
    refine lv_aload_n hC.1 hC.2.1 dX9_back_9 rfl (lv_at hl 0 rfl) ?_
    refine lv_iconst (v := (-1)) hC.1 hC.2.1 dX9_back_10 (by decide) ?_
    obtain ⟨ok_53, h⟩ := h
    refine mm_ri hM (mm_V (As := [.int (-1)]) (rest := []) hC hM hl.1 (mX9_tells l G b0 S_24 o (-1) _) h (ci := 9) ok_53 rfl rfl kX9_tells tw_868 rfl (by decide) rfl (Nat.le_of_ble_eq_true rfl) dX9_back_11 (by decide)) (fun r_52 S_51 H locs h hM => ?_)
    exact mm_iret hC hr hlk hM h dX9_back_14
set_option maxHeartbeats 4000000 in
set_option maxRecDepth 100000 in
theorem qX9_sum_52 {p : Program} {l : Launch} {e : Env} {s : State} {m : MethodId} {args : Array Value} {below : List Frame} {meth : Method} {c : Code} {G : Gt} {b0 : Nat} (hC : CallFix p m c cX9_sum 5 s args lw_g RX9) (hr : meth.sig.returnType = (some .int)) (hlk : meth.locks = false) {K : Int32 → St → Prop} {B5 : Nat → Int32 → Int32 → Int32 → Int32 → St → Prop} (hB5 : ∀ (x0 : Nat) (x1 : Int32) (x2 : Int32) (x3 : Int32) (x4 : Int32) (S : St) (H : Heap) (locs : List Loc) (ls : Array Slot), B5 x0 x1 x2 x3 x4 S → MM G b0 s S H locs → lv_has ls 5 [(0, .ref (b0 + x0)), (1, .int x1), (2, .int x2), (3, .int x3), (4, .int x4)] → W p l e rmX9_sum s m args below meth c H locs 0 0 (MQ below (va_Qi K (ME G b0) (AB b0)) args s 0 0 (AB b0)) (F0 m 5 ls [])) : ∀ (x0 : Nat) (x1 : Int32) (x2 : Int32) (x3 : Int32) (x4 : Int32) (S : St) (H : Heap) (locs : List Loc) (ls : Array Slot), wX9_sum_52 K B5 x0 x1 x2 x3 x4 S → MM G b0 s S H locs → lv_has ls 5 [(0, .ref (b0 + x0)), (1, .int x1), (2, .int x2), (3, .int x3), (4, .int x4)] → W p l e rmX9_sum s m args below meth c H locs 0 0 (MQ below (va_Qi K (ME G b0) (AB b0)) args s 0 0 (AB b0)) (F0 m 52 ls []) := by
  intro x0 x1 x2 x3 x4 S H locs ls h hM hl
  unfold wX9_sum_52 at h
  obtain ⟨x4_1, ex4_1⟩ : ∃ y : Int32, y = x4 + 1 := ⟨_, rfl⟩
  have h := h x4_1 ex4_1
  refine lv_iinc (v := x4_1) (lv' := [(4, .int x4_1), (0, .ref (b0 + x0)), (1, .int x1), (2, .int x2), (3, .int x3)]) hC.1 hC.2.1 dX9_sum_52 hl (k := 4) rfl (by rw [ex4_1]; rfl) (by decide) rfl (fun ls hl => ?_)
  refine lv_goto (tgt := 5) hC.1 hC.2.1 dX9_sum_55 (by decide) ?_
  exact hB5 _ _ _ _ _ _ H locs ls h hM (lv_sub hl [1, 2, 3, 4, 0] rfl)
set_option maxHeartbeats 4000000 in
set_option maxRecDepth 100000 in
theorem qX9_sum_50 {p : Program} {l : Launch} {e : Env} {s : State} {m : MethodId} {args : Array Value} {below : List Frame} {meth : Method} {c : Code} {G : Gt} {b0 : Nat} (hC : CallFix p m c cX9_sum 5 s args lw_g RX9) (hr : meth.sig.returnType = (some .int)) (hlk : meth.locks = false) {K : Int32 → St → Prop} {B5 : Nat → Int32 → Int32 → Int32 → Int32 → St → Prop} (hB5 : ∀ (x0 : Nat) (x1 : Int32) (x2 : Int32) (x3 : Int32) (x4 : Int32) (S : St) (H : Heap) (locs : List Loc) (ls : Array Slot), B5 x0 x1 x2 x3 x4 S → MM G b0 s S H locs → lv_has ls 5 [(0, .ref (b0 + x0)), (1, .int x1), (2, .int x2), (3, .int x3), (4, .int x4)] → W p l e rmX9_sum s m args below meth c H locs 0 0 (MQ below (va_Qi K (ME G b0) (AB b0)) args s 0 0 (AB b0)) (F0 m 5 ls [])) : ∀ (x0 : Nat) (x1 : Int32) (x2 : Int32) (x4 : Int32) (t0 : Int32) (t1 : Int32) (S : St) (H : Heap) (locs : List Loc) (ls : Array Slot), wX9_sum_50 K B5 x0 x1 x2 x4 t0 t1 S → MM G b0 s S H locs → lv_has ls 5 [(0, .ref (b0 + x0)), (1, .int x1), (2, .int x2), (4, .int x4)] → W p l e rmX9_sum s m args below meth c H locs 0 0 (MQ below (va_Qi K (ME G b0) (AB b0)) args s 0 0 (AB b0)) (F0 m 50 ls [.int t1, .int t0]) := by
  intro x0 x1 x2 x4 t0 t1 S H locs ls h hM hl
  unfold wX9_sum_50 at h
  refine lv_iadd hC.1 hC.2.1 dX9_sum_50 ?_
  refine lv_topi (fun x3_2 ex3_2 => ?_)
  have h := h x3_2 ex3_2
  refine lv_istore_n (lv' := [(3, .int x3_2), (0, .ref (b0 + x0)), (1, .int x1), (2, .int x2), (4, .int x4)]) hC.1 hC.2.1 dX9_sum_51 rfl hl (by decide) rfl (fun ls hl => ?_)
  exact qX9_sum_52 hC hr hlk hB5 _ _ _ _ _ _ H locs ls h hM (lv_sub hl [1, 2, 3, 0, 4] rfl)
set_option maxHeartbeats 4000000 in
set_option maxRecDepth 100000 in
theorem qX9_sum_5 {p : Program} {l : Launch} {e : Env} {s : State} {m : MethodId} {args : Array Value} {below : List Frame} {meth : Method} {c : Code} {G : Gt} {b0 : Nat} (hC : CallFix p m c cX9_sum 5 s args lw_g RX9) (hr : meth.sig.returnType = (some .int)) (hlk : meth.locks = false) {K : Int32 → St → Prop} : ∀ (n : Nat) (x0 : Nat) (x1 : Int32) (x2 : Int32) (x3 : Int32) (x4 : Int32) (S : St) (H : Heap) (locs : List Loc) (ls : Array Slot), wX9_sum_5 K n x0 x1 x2 x3 x4 S → MM G b0 s S H locs → lv_has ls 5 [(0, .ref (b0 + x0)), (1, .int x1), (2, .int x2), (3, .int x3), (4, .int x4)] → W p l e rmX9_sum s m args below meth c H locs 0 0 (MQ below (va_Qi K (ME G b0) (AB b0)) args s 0 0 (AB b0)) (F0 m 5 ls []) := by
  intro n
  induction n with
  | zero =>
    intro x0 x1 x2 x3 x4 S H locs ls h
    exact False.elim h
  | succ n ih =>
    intro x0 x1 x2 x3 x4 S H locs ls h hM hl
    rw [wX9_sum_5] at h
    refine lv_iload hC.1 hC.2.1 dX9_sum_5 (lv_at hl 4 rfl) ?_
    refine lv_aload_n hC.1 hC.2.1 dX9_sum_7 rfl (lv_at hl 0 rfl) ?_
    obtain ⟨ok_3, h⟩ := h
    refine mm_gi hC hM (ci := 9) (j := 1) ok_3 rfl (by decide) (by decide) tw_792 rfl dX9_sum_8 ?_
    refine lv_icmp_ge (tgt := 58) hC.1 hC.2.1 dX9_sum_11 (by decide) (fun c_4 => ?_) (fun c_4 => ?_)
    · have h := h.1 c_4
      refine lv_iload_n hC.1 hC.2.1 dX9_sum_58 rfl (lv_at hl 3 rfl) ?_
      exact mm_iret hC hr hlk hM h dX9_sum_59
    · have h := h.2 c_4
      refine lv_iload_n hC.1 hC.2.1 dX9_sum_14 rfl (lv_at hl 1 rfl) ?_
      refine lv_iload hC.1 hC.2.1 dX9_sum_15 (lv_at hl 4 rfl) ?_
      refine mm_ri hM (mm_S (As := [.int x1, .int x4]) (rest := []) hC hM hl.1 (mX9_has l G b0 S x1 x4 _) h kX9_has tw_772 rfl (by decide) rfl (Nat.le_of_ble_eq_true rfl) dX9_sum_17 (by decide)) (fun r_6 S_5 H locs h hM => ?_)
      refine lv_if_eq (tgt := 52) hC.1 hC.2.1 dX9_sum_20 (by decide) (fun c_7 => ?_) (fun c_7 => ?_)
      · have h := h.1 c_7
        exact qX9_sum_52 hC hr hlk ih _ _ _ _ _ _ H locs ls h hM (lv_sub hl [0, 1, 2, 3, 4] rfl)
      · have h := h.2 c_7
        refine lv_iload_n hC.1 hC.2.1 dX9_sum_23 rfl (lv_at hl 3 rfl) ?_
        refine lv_iload_n hC.1 hC.2.1 dX9_sum_24 rfl (lv_at hl 2 rfl) ?_
        refine lv_iload hC.1 hC.2.1 dX9_sum_25 (lv_at hl 4 rfl) ?_
        refine mm_ri hM (mm_S (As := [.int x2, .int x4]) (rest := [.int x3]) hC hM hl.1 (mX9_has l G b0 S_5 x2 x4 _) h kX9_has tw_772 rfl (by decide) rfl (Nat.le_of_ble_eq_true rfl) dX9_sum_27 (by decide)) (fun r_9 S_8 H locs h hM => ?_)
        refine lv_if_eq (tgt := 43) hC.1 hC.2.1 dX9_sum_30 (by decide) (fun c_10 => ?_) (fun c_10 => ?_)
        · have h := h.1 c_10
          refine lv_aload_n hC.1 hC.2.1 dX9_sum_43 rfl (lv_at hl 0 rfl) ?_
          obtain ⟨ok_11, h⟩ := h
          refine mm_gr hC hM (ci := 9) (j := 4) ok_11 rfl (by decide) (by decide) tw_795 rfl dX9_sum_44 ?_
          refine lv_iload hC.1 hC.2.1 dX9_sum_47 (lv_at hl 4 rfl) ?_
          obtain ⟨ok_12, h⟩ := h
          refine mm_il hC hM ok_12 dX9_sum_49 ?_
          exact qX9_sum_50 hC hr hlk ih _ _ _ _ _ _ _ H locs ls h hM (lv_sub hl [0, 1, 2, 4] rfl)
        · have h := h.2 c_10
          refine lv_aload_n hC.1 hC.2.1 dX9_sum_33 rfl (lv_at hl 0 rfl) ?_
          obtain ⟨ok_13, h⟩ := h
          refine mm_gr hC hM (ci := 9) (j := 5) ok_13 rfl (by decide) (by decide) tw_796 rfl dX9_sum_34 ?_
          refine lv_iload hC.1 hC.2.1 dX9_sum_37 (lv_at hl 4 rfl) ?_
          obtain ⟨ok_14, h⟩ := h
          refine mm_il hC hM ok_14 dX9_sum_39 ?_
          refine lv_goto (tgt := 50) hC.1 hC.2.1 dX9_sum_40 (by decide) ?_
          exact qX9_sum_50 hC hr hlk ih _ _ _ _ _ _ _ H locs ls h hM (lv_sub hl [0, 1, 2, 4] rfl)
set_option maxHeartbeats 4000000 in
set_option maxRecDepth 100000 in
theorem mX9_sum (l : Launch) (G : Gt) (b0 : Nat) (S : St) (o : Nat) (x1 : Int32) (x2 : Int32) (K : Int32 → St → Prop) : CI l G b0 S yX9_sum cX9_sum 5 (some .int) rmX9_sum [.ref (b0 + o), .int x1, .int x2] (wX9_sum S o x1 x2 K) K := by
  refine met_of (by decide) (Nat.le_of_ble_eq_true rfl) rfl ?_
  intro p e s m below meth c hC hr hlk hin h H locs ls hM hl
  unfold wX9_sum at h
  refine lv_iconst (v := 0) hC.1 hC.2.1 dX9_sum_0 (by decide) ?_
  refine lv_istore_n (lv' := [(3, .int 0), (0, .ref (b0 + o)), (1, .int x1), (2, .int x2)]) hC.1 hC.2.1 dX9_sum_1 rfl hl (by decide) rfl (fun ls hl => ?_)
  refine lv_iconst (v := 0) hC.1 hC.2.1 dX9_sum_2 (by decide) ?_
  refine lv_istore (lv' := [(4, .int 0), (3, .int 0), (0, .ref (b0 + o)), (1, .int x1), (2, .int x2)]) hC.1 hC.2.1 dX9_sum_3 hl (by decide) rfl (fun ls hl => ?_)
  obtain ⟨n1, h⟩ := h
  exact qX9_sum_5 hC hr hlk n1 _ _ _ _ _ _ H locs ls h hM (lv_sub hl [2, 3, 4, 1, 0] rfl)
set_option maxHeartbeats 4000000 in
set_option maxRecDepth 100000 in
theorem qX9_firstCheapest_44 {p : Program} {l : Launch} {e : Env} {s : State} {m : MethodId} {args : Array Value} {below : List Frame} {meth : Method} {c : Code} {G : Gt} {b0 : Nat} (hC : CallFix p m c cX9_firstCheapest 4 s args lw_g RX9) (hr : meth.sig.returnType = (some .int)) (hlk : meth.locks = false) {K : Int32 → St → Prop} {B4 : Nat → Int32 → Int32 → Int32 → St → Prop} (hB4 : ∀ (x0 : Nat) (x1 : Int32) (x2 : Int32) (x3 : Int32) (S : St) (H : Heap) (locs : List Loc) (ls : Array Slot), B4 x0 x1 x2 x3 S → MM G b0 s S H locs → lv_has ls 4 [(0, .ref (b0 + x0)), (1, .int x1), (2, .int x2), (3, .int x3)] → W p l e rmX9_firstCheapest s m args below meth c H locs 0 0 (MQ below (va_Qi K (ME G b0) (AB b0)) args s 0 0 (AB b0)) (F0 m 4 ls [])) : ∀ (x0 : Nat) (x1 : Int32) (x2 : Int32) (x3 : Int32) (S : St) (H : Heap) (locs : List Loc) (ls : Array Slot), wX9_firstCheapest_44 K B4 x0 x1 x2 x3 S → MM G b0 s S H locs → lv_has ls 4 [(0, .ref (b0 + x0)), (1, .int x1), (2, .int x2), (3, .int x3)] → W p l e rmX9_firstCheapest s m args below meth c H locs 0 0 (MQ below (va_Qi K (ME G b0) (AB b0)) args s 0 0 (AB b0)) (F0 m 44 ls []) := by
  intro x0 x1 x2 x3 S H locs ls h hM hl
  unfold wX9_firstCheapest_44 at h
  obtain ⟨x3_1, ex3_1⟩ : ∃ y : Int32, y = x3 + 1 := ⟨_, rfl⟩
  have h := h x3_1 ex3_1
  refine lv_iinc (v := x3_1) (lv' := [(3, .int x3_1), (0, .ref (b0 + x0)), (1, .int x1), (2, .int x2)]) hC.1 hC.2.1 dX9_firstCheapest_44 hl (k := 3) rfl (by rw [ex3_1]; rfl) (by decide) rfl (fun ls hl => ?_)
  refine lv_goto (tgt := 4) hC.1 hC.2.1 dX9_firstCheapest_47 (by decide) ?_
  exact hB4 _ _ _ _ _ H locs ls h hM (lv_sub hl [1, 2, 3, 0] rfl)
set_option maxHeartbeats 4000000 in
set_option maxRecDepth 100000 in
theorem qX9_firstCheapest_42 {p : Program} {l : Launch} {e : Env} {s : State} {m : MethodId} {args : Array Value} {below : List Frame} {meth : Method} {c : Code} {G : Gt} {b0 : Nat} (hC : CallFix p m c cX9_firstCheapest 4 s args lw_g RX9) (hr : meth.sig.returnType = (some .int)) (hlk : meth.locks = false) {K : Int32 → St → Prop} {B4 : Nat → Int32 → Int32 → Int32 → St → Prop} (hB4 : ∀ (x0 : Nat) (x1 : Int32) (x2 : Int32) (x3 : Int32) (S : St) (H : Heap) (locs : List Loc) (ls : Array Slot), B4 x0 x1 x2 x3 S → MM G b0 s S H locs → lv_has ls 4 [(0, .ref (b0 + x0)), (1, .int x1), (2, .int x2), (3, .int x3)] → W p l e rmX9_firstCheapest s m args below meth c H locs 0 0 (MQ below (va_Qi K (ME G b0) (AB b0)) args s 0 0 (AB b0)) (F0 m 4 ls [])) : ∀ (x0 : Nat) (x1 : Int32) (x3 : Int32) (S : St) (H : Heap) (locs : List Loc) (ls : Array Slot), wX9_firstCheapest_42 K B4 x0 x1 x3 S → MM G b0 s S H locs → lv_has ls 4 [(0, .ref (b0 + x0)), (1, .int x1), (3, .int x3)] → W p l e rmX9_firstCheapest s m args below meth c H locs 0 0 (MQ below (va_Qi K (ME G b0) (AB b0)) args s 0 0 (AB b0)) (F0 m 42 ls []) := by
  intro x0 x1 x3 S H locs ls h hM hl
  unfold wX9_firstCheapest_42 at h
  refine lv_iload_n hC.1 hC.2.1 dX9_firstCheapest_42 rfl (lv_at hl 2 rfl) ?_
  refine lv_istore_n (lv' := [(2, .int x3), (0, .ref (b0 + x0)), (1, .int x1), (3, .int x3)]) hC.1 hC.2.1 dX9_firstCheapest_43 rfl hl (by decide) rfl (fun ls hl => ?_)
  exact qX9_firstCheapest_44 hC hr hlk hB4 _ _ _ _ _ H locs ls h hM (lv_sub hl [1, 2, 0, 3] rfl)
set_option maxHeartbeats 4000000 in
set_option maxRecDepth 100000 in
theorem qX9_firstCheapest_4 {p : Program} {l : Launch} {e : Env} {s : State} {m : MethodId} {args : Array Value} {below : List Frame} {meth : Method} {c : Code} {G : Gt} {b0 : Nat} (hC : CallFix p m c cX9_firstCheapest 4 s args lw_g RX9) (hr : meth.sig.returnType = (some .int)) (hlk : meth.locks = false) {K : Int32 → St → Prop} : ∀ (n : Nat) (x0 : Nat) (x1 : Int32) (x2 : Int32) (x3 : Int32) (S : St) (H : Heap) (locs : List Loc) (ls : Array Slot), wX9_firstCheapest_4 K n x0 x1 x2 x3 S → MM G b0 s S H locs → lv_has ls 4 [(0, .ref (b0 + x0)), (1, .int x1), (2, .int x2), (3, .int x3)] → W p l e rmX9_firstCheapest s m args below meth c H locs 0 0 (MQ below (va_Qi K (ME G b0) (AB b0)) args s 0 0 (AB b0)) (F0 m 4 ls []) := by
  intro n
  induction n with
  | zero =>
    intro x0 x1 x2 x3 S H locs ls h
    exact False.elim h
  | succ n ih =>
    intro x0 x1 x2 x3 S H locs ls h hM hl
    rw [wX9_firstCheapest_4] at h
    refine lv_iload_n hC.1 hC.2.1 dX9_firstCheapest_4 rfl (lv_at hl 3 rfl) ?_
    refine lv_aload_n hC.1 hC.2.1 dX9_firstCheapest_5 rfl (lv_at hl 0 rfl) ?_
    obtain ⟨ok_2, h⟩ := h
    refine mm_gi hC hM (ci := 9) (j := 11) ok_2 rfl (by decide) (by decide) tw_802 rfl dX9_firstCheapest_6 ?_
    refine lv_icmp_ge (tgt := 50) hC.1 hC.2.1 dX9_firstCheapest_9 (by decide) (fun c_3 => ?_) (fun c_3 => ?_)
    · have h := h.1 c_3
      refine lv_iload_n hC.1 hC.2.1 dX9_firstCheapest_50 rfl (lv_at hl 2 rfl) ?_
      exact mm_iret hC hr hlk hM h dX9_firstCheapest_51
    · have h := h.2 c_3
      refine lv_iload_n hC.1 hC.2.1 dX9_firstCheapest_12 rfl (lv_at hl 2 rfl) ?_
      refine lv_iconst (v := (-1)) hC.1 hC.2.1 dX9_firstCheapest_13 (by decide) ?_
      refine lv_icmp_eq (tgt := 42) hC.1 hC.2.1 dX9_firstCheapest_14 (by decide) (fun c_4 => ?_) (fun c_4 => ?_)
      · have h := h.1 c_4
        exact qX9_firstCheapest_42 hC hr hlk ih _ _ _ _ H locs ls h hM (lv_sub hl [0, 1, 3] rfl)
      · have h := h.2 c_4
        refine lv_aload_n hC.1 hC.2.1 dX9_firstCheapest_17 rfl (lv_at hl 0 rfl) ?_
        refine lv_aload_n hC.1 hC.2.1 dX9_firstCheapest_18 rfl (lv_at hl 0 rfl) ?_
        obtain ⟨ok_5, h⟩ := h
        refine mm_gr hC hM (ci := 9) (j := 12) ⟨ok_2, ok_5⟩ rfl (by decide) (by decide) tw_803 rfl dX9_firstCheapest_19 ?_
        refine lv_iload_n hC.1 hC.2.1 dX9_firstCheapest_22 rfl (lv_at hl 3 rfl) ?_
        obtain ⟨ok_6, h⟩ := h
        refine mm_il hC hM ok_6 dX9_firstCheapest_23 ?_
        refine lv_iload_n hC.1 hC.2.1 dX9_firstCheapest_24 rfl (lv_at hl 1 rfl) ?_
        refine mm_ri hM (mm_V (As := [.int (sI S (sR S x0 12) (x3 : Int32).toNatClampNeg), .int x1]) (rest := []) hC hM hl.1 (mX9_sum l G b0 S x0 (sI S (sR S x0 12) (x3 : Int32).toNatClampNeg) x1 _) h (ci := 9) ok_2 rfl rfl kX9_sum tw_944 rfl (by decide) rfl (Nat.le_of_ble_eq_true rfl) dX9_firstCheapest_25 (by decide)) (fun r_8 S_7 H locs h hM => ?_)
        refine lv_aload_n hC.1 hC.2.1 dX9_firstCheapest_28 rfl (lv_at hl 0 rfl) ?_
        refine lv_aload_n hC.1 hC.2.1 dX9_firstCheapest_29 rfl (lv_at hl 0 rfl) ?_
        obtain ⟨ok_9, h⟩ := h
        refine mm_gr hC hM (ci := 9) (j := 12) ok_9 rfl (by decide) (by decide) tw_803 rfl dX9_firstCheapest_30 ?_
        refine lv_iload_n hC.1 hC.2.1 dX9_firstCheapest_33 rfl (lv_at hl 2 rfl) ?_
        obtain ⟨ok_10, h⟩ := h
        refine mm_il hC hM ok_10 dX9_firstCheapest_34 ?_
        refine lv_iload_n hC.1 hC.2.1 dX9_firstCheapest_35 rfl (lv_at hl 1 rfl) ?_
        refine mm_ri hM (mm_V (As := [.int (sI S_7 (sR S_7 x0 12) (x2 : Int32).toNatClampNeg), .int x1]) (rest := [.int r_8]) hC hM hl.1 (mX9_sum l G b0 S_7 x0 (sI S_7 (sR S_7 x0 12) (x2 : Int32).toNatClampNeg) x1 _) h (ci := 9) ok_9.1 rfl rfl kX9_sum tw_944 rfl (by decide) rfl (Nat.le_of_ble_eq_true rfl) dX9_firstCheapest_36 (by decide)) (fun r_12 S_11 H locs h hM => ?_)
        refine lv_icmp_ge (tgt := 44) hC.1 hC.2.1 dX9_firstCheapest_39 (by decide) (fun c_13 => ?_) (fun c_13 => ?_)
        · have h := h.1 c_13
          exact qX9_firstCheapest_44 hC hr hlk ih _ _ _ _ _ H locs ls h hM (lv_sub hl [0, 1, 2, 3] rfl)
        · have h := h.2 c_13
          exact qX9_firstCheapest_42 hC hr hlk ih _ _ _ _ H locs ls h hM (lv_sub hl [0, 1, 3] rfl)
set_option maxHeartbeats 4000000 in
set_option maxRecDepth 100000 in
theorem mX9_firstCheapest (l : Launch) (G : Gt) (b0 : Nat) (S : St) (o : Nat) (x1 : Int32) (K : Int32 → St → Prop) : CI l G b0 S yX9_firstCheapest cX9_firstCheapest 4 (some .int) rmX9_firstCheapest [.ref (b0 + o), .int x1] (wX9_firstCheapest S o x1 K) K := by
  refine met_of (by decide) (Nat.le_of_ble_eq_true rfl) rfl ?_
  intro p e s m below meth c hC hr hlk hin h H locs ls hM hl
  unfold wX9_firstCheapest at h
  refine lv_iconst (v := (-1)) hC.1 hC.2.1 dX9_firstCheapest_0 (by decide) ?_
  refine lv_istore_n (lv' := [(2, .int (-1)), (0, .ref (b0 + o)), (1, .int x1)]) hC.1 hC.2.1 dX9_firstCheapest_1 rfl hl (by decide) rfl (fun ls hl => ?_)
  refine lv_iconst (v := 0) hC.1 hC.2.1 dX9_firstCheapest_2 (by decide) ?_
  refine lv_istore_n (lv' := [(3, .int 0), (2, .int (-1)), (0, .ref (b0 + o)), (1, .int x1)]) hC.1 hC.2.1 dX9_firstCheapest_3 rfl hl (by decide) rfl (fun ls hl => ?_)
  obtain ⟨n1, h⟩ := h
  exact qX9_firstCheapest_4 hC hr hlk n1 _ _ _ _ _ H locs ls h hM (lv_sub hl [2, 3, 1, 0] rfl)
set_option maxHeartbeats 4000000 in
set_option maxRecDepth 100000 in
theorem mX9_rueAt (l : Launch) (G : Gt) (b0 : Nat) (S : St) (o : Nat) (x1 : Int32) (K : Int32 → St → Prop) : CI l G b0 S yX9_rueAt cX9_rueAt 2 (some .int) rmX9_rueAt [.ref (b0 + o), .int x1] (wX9_rueAt S o x1 K) K := by
  refine met_of (by decide) (Nat.le_of_ble_eq_true rfl) rfl ?_
  intro p e s m below meth c hC hr hlk hin h H locs ls hM hl
  unfold wX9_rueAt at h
  refine lv_aload_n hC.1 hC.2.1 dX9_rueAt_0 rfl (lv_at hl 0 rfl) ?_
  refine lv_aload_n hC.1 hC.2.1 dX9_rueAt_1 rfl (lv_at hl 0 rfl) ?_
  obtain ⟨ok_1, h⟩ := h
  refine mm_gr hC hM (ci := 9) (j := 12) ok_1 rfl (by decide) (by decide) tw_803 rfl dX9_rueAt_2 ?_
  refine lv_iload_n hC.1 hC.2.1 dX9_rueAt_5 rfl (lv_at hl 1 rfl) ?_
  obtain ⟨ok_2, h⟩ := h
  refine mm_il hC hM ok_2 dX9_rueAt_6 ?_
  refine lv_aload_n hC.1 hC.2.1 dX9_rueAt_7 rfl (lv_at hl 0 rfl) ?_
  refine mm_gr hC hM (ci := 9) (j := 12) ok_1 rfl (by decide) (by decide) tw_803 rfl dX9_rueAt_8 ?_
  refine lv_iload_n hC.1 hC.2.1 dX9_rueAt_11 rfl (lv_at hl 1 rfl) ?_
  refine mm_il hC hM ok_2 dX9_rueAt_12 ?_
  refine mm_ri hM (mm_V (As := [.int (sI S (sR S o 12) (x1 : Int32).toNatClampNeg), .int (sI S (sR S o 12) (x1 : Int32).toNatClampNeg)]) (rest := []) hC hM hl.1 (mX9_sum l G b0 S o (sI S (sR S o 12) (x1 : Int32).toNatClampNeg) (sI S (sR S o 12) (x1 : Int32).toNatClampNeg) _) h (ci := 9) ok_1.1 rfl rfl kX9_sum tw_944 rfl (by decide) rfl (Nat.le_of_ble_eq_true rfl) dX9_rueAt_13 (by decide)) (fun r_4 S_3 H locs h hM => ?_)
  refine lv_aload_n hC.1 hC.2.1 dX9_rueAt_16 rfl (lv_at hl 0 rfl) ?_
  refine lv_aload_n hC.1 hC.2.1 dX9_rueAt_17 rfl (lv_at hl 0 rfl) ?_
  obtain ⟨ok_5, h⟩ := h
  refine mm_gr hC hM (ci := 9) (j := 12) ok_5 rfl (by decide) (by decide) tw_803 rfl dX9_rueAt_18 ?_
  refine lv_aload_n hC.1 hC.2.1 dX9_rueAt_21 rfl (lv_at hl 0 rfl) ?_
  refine lv_aload_n hC.1 hC.2.1 dX9_rueAt_22 rfl (lv_at hl 0 rfl) ?_
  refine mm_gr hC hM (ci := 9) (j := 12) ok_5 rfl (by decide) (by decide) tw_803 rfl dX9_rueAt_23 ?_
  refine lv_iload_n hC.1 hC.2.1 dX9_rueAt_26 rfl (lv_at hl 1 rfl) ?_
  obtain ⟨ok_6, h⟩ := h
  refine mm_il hC hM ok_6 dX9_rueAt_27 ?_
  refine mm_ri hM (mm_V (As := [.int (sI S_3 (sR S_3 o 12) (x1 : Int32).toNatClampNeg)]) (rest := [.ref (b0 + (sR S_3 o 12)), .ref (b0 + o), .int r_4]) hC hM hl.1 (mX9_firstCheapest l G b0 S_3 o (sI S_3 (sR S_3 o 12) (x1 : Int32).toNatClampNeg) _) h (ci := 9) ok_5.1 rfl rfl kX9_firstCheapest tw_952 rfl (by decide) rfl (Nat.le_of_ble_eq_true rfl) dX9_rueAt_28 (by decide)) (fun r_8 S_7 H locs h hM => ?_)
  obtain ⟨ok_9, h⟩ := h
  refine mm_il hC hM ok_9 dX9_rueAt_31 ?_
  refine lv_aload_n hC.1 hC.2.1 dX9_rueAt_32 rfl (lv_at hl 0 rfl) ?_
  obtain ⟨ok_10, h⟩ := h
  refine mm_gr hC hM (ci := 9) (j := 12) ok_10 rfl (by decide) (by decide) tw_803 rfl dX9_rueAt_33 ?_
  refine lv_iload_n hC.1 hC.2.1 dX9_rueAt_36 rfl (lv_at hl 1 rfl) ?_
  obtain ⟨ok_11, h⟩ := h
  refine mm_il hC hM ok_11 dX9_rueAt_37 ?_
  refine mm_ri hM (mm_V (As := [.int (sI S_7 (sR S_3 o 12) (r_8 : Int32).toNatClampNeg), .int (sI S_7 (sR S_7 o 12) (x1 : Int32).toNatClampNeg)]) (rest := [.int r_4]) hC hM hl.1 (mX9_sum l G b0 S_7 o (sI S_7 (sR S_3 o 12) (r_8 : Int32).toNatClampNeg) (sI S_7 (sR S_7 o 12) (x1 : Int32).toNatClampNeg) _) h (ci := 9) ok_10.1 rfl rfl kX9_sum tw_944 rfl (by decide) rfl (Nat.le_of_ble_eq_true rfl) dX9_rueAt_38 (by decide)) (fun r_13 S_12 H locs h hM => ?_)
  refine lv_isub hC.1 hC.2.1 dX9_rueAt_41 ?_
  exact mm_iret hC hr hlk hM h dX9_rueAt_42
set_option maxHeartbeats 4000000 in
set_option maxRecDepth 100000 in
theorem qX9_best_49 {p : Program} {l : Launch} {e : Env} {s : State} {m : MethodId} {args : Array Value} {below : List Frame} {meth : Method} {c : Code} {G : Gt} {b0 : Nat} (hC : CallFix p m c cX9_best 5 s args lw_g RX9) (hr : meth.sig.returnType = (some .int)) (hlk : meth.locks = false) {K : Int32 → St → Prop} {B20 : Nat → Int32 → Int32 → Int32 → St → Prop} (hB20 : ∀ (x0 : Nat) (x1 : Int32) (x2 : Int32) (x3 : Int32) (S : St) (H : Heap) (locs : List Loc) (ls : Array Slot), B20 x0 x1 x2 x3 S → MM G b0 s S H locs → lv_has ls 5 [(0, .ref (b0 + x0)), (1, .int x1), (2, .int x2), (3, .int x3)] → W p l e rmX9_best s m args below meth c H locs 0 0 (MQ below (va_Qi K (ME G b0) (AB b0)) args s 0 0 (AB b0)) (F0 m 20 ls [])) : ∀ (x0 : Nat) (x1 : Int32) (x2 : Int32) (x3 : Int32) (S : St) (H : Heap) (locs : List Loc) (ls : Array Slot), wX9_best_49 K B20 x0 x1 x2 x3 S → MM G b0 s S H locs → lv_has ls 5 [(0, .ref (b0 + x0)), (1, .int x1), (2, .int x2), (3, .int x3)] → W p l e rmX9_best s m args below meth c H locs 0 0 (MQ below (va_Qi K (ME G b0) (AB b0)) args s 0 0 (AB b0)) (F0 m 49 ls []) := by
  intro x0 x1 x2 x3 S H locs ls h hM hl
  unfold wX9_best_49 at h
  obtain ⟨x3_1, ex3_1⟩ : ∃ y : Int32, y = x3 + 1 := ⟨_, rfl⟩
  have h := h x3_1 ex3_1
  refine lv_iinc (v := x3_1) (lv' := [(3, .int x3_1), (0, .ref (b0 + x0)), (1, .int x1), (2, .int x2)]) hC.1 hC.2.1 dX9_best_49 hl (k := 3) rfl (by rw [ex3_1]; rfl) (by decide) rfl (fun ls hl => ?_)
  refine lv_goto (tgt := 20) hC.1 hC.2.1 dX9_best_52 (by decide) ?_
  exact hB20 _ _ _ _ _ H locs ls h hM (lv_sub hl [1, 2, 3, 0] rfl)
set_option maxHeartbeats 4000000 in
set_option maxRecDepth 100000 in
theorem qX9_best_20 {p : Program} {l : Launch} {e : Env} {s : State} {m : MethodId} {args : Array Value} {below : List Frame} {meth : Method} {c : Code} {G : Gt} {b0 : Nat} (hC : CallFix p m c cX9_best 5 s args lw_g RX9) (hr : meth.sig.returnType = (some .int)) (hlk : meth.locks = false) {K : Int32 → St → Prop} : ∀ (n : Nat) (x0 : Nat) (x1 : Int32) (x2 : Int32) (x3 : Int32) (S : St) (H : Heap) (locs : List Loc) (ls : Array Slot), wX9_best_20 K n x0 x1 x2 x3 S → MM G b0 s S H locs → lv_has ls 5 [(0, .ref (b0 + x0)), (1, .int x1), (2, .int x2), (3, .int x3)] → W p l e rmX9_best s m args below meth c H locs 0 0 (MQ below (va_Qi K (ME G b0) (AB b0)) args s 0 0 (AB b0)) (F0 m 20 ls []) := by
  intro n
  induction n with
  | zero =>
    intro x0 x1 x2 x3 S H locs ls h
    exact False.elim h
  | succ n ih =>
    intro x0 x1 x2 x3 S H locs ls h hM hl
    rw [wX9_best_20] at h
    refine lv_iload_n hC.1 hC.2.1 dX9_best_20 rfl (lv_at hl 3 rfl) ?_
    refine lv_aload_n hC.1 hC.2.1 dX9_best_21 rfl (lv_at hl 0 rfl) ?_
    obtain ⟨ok_2, h⟩ := h
    refine mm_gi hC hM (ci := 9) (j := 11) ok_2 rfl (by decide) (by decide) tw_802 rfl dX9_best_22 ?_
    refine lv_icmp_ge (tgt := 55) hC.1 hC.2.1 dX9_best_25 (by decide) (fun c_3 => ?_) (fun c_3 => ?_)
    · have h := h.1 c_3
      refine lv_iload_n hC.1 hC.2.1 dX9_best_55 rfl (lv_at hl 1 rfl) ?_
      exact mm_iret hC hr hlk hM h dX9_best_56
    · have h := h.2 c_3
      refine lv_aload_n hC.1 hC.2.1 dX9_best_28 rfl (lv_at hl 0 rfl) ?_
      refine lv_iload_n hC.1 hC.2.1 dX9_best_29 rfl (lv_at hl 3 rfl) ?_
      refine mm_ri hM (mm_V (As := [.int x3]) (rest := []) hC hM hl.1 (mX9_rueAt l G b0 S x0 x3 _) h (ci := 9) ok_2 rfl rfl kX9_rueAt tw_960 rfl (by decide) rfl (Nat.le_of_ble_eq_true rfl) dX9_best_30 (by decide)) (fun r_5 S_4 H locs h hM => ?_)
      refine lv_istore (lv' := [(4, .int r_5), (0, .ref (b0 + x0)), (1, .int x1), (2, .int x2), (3, .int x3)]) hC.1 hC.2.1 dX9_best_33 hl (by decide) rfl (fun ls hl => ?_)
      refine lv_iload hC.1 hC.2.1 dX9_best_35 (lv_at hl 0 rfl) ?_
      refine lv_iload_n hC.1 hC.2.1 dX9_best_37 rfl (lv_at hl 3 rfl) ?_
      refine lv_icmp_lt (tgt := 44) hC.1 hC.2.1 dX9_best_38 (by decide) (fun c_6 => ?_) (fun c_6 => ?_)
      · have h := h.1 c_6
        refine lv_iload hC.1 hC.2.1 dX9_best_44 (lv_at hl 0 rfl) ?_
        refine lv_istore_n (lv' := [(2, .int r_5), (4, .int r_5), (0, .ref (b0 + x0)), (1, .int x1), (3, .int x3)]) hC.1 hC.2.1 dX9_best_46 rfl hl (by decide) rfl (fun ls hl => ?_)
        refine lv_iload_n hC.1 hC.2.1 dX9_best_47 rfl (lv_at hl 4 rfl) ?_
        refine lv_istore_n (lv' := [(1, .int x3), (2, .int r_5), (4, .int r_5), (0, .ref (b0 + x0)), (3, .int x3)]) hC.1 hC.2.1 dX9_best_48 rfl hl (by decide) rfl (fun ls hl => ?_)
        exact qX9_best_49 hC hr hlk ih _ _ _ _ _ H locs ls h hM (lv_sub hl [3, 0, 1, 4] rfl)
      · have h := h.2 c_6
        refine lv_goto (tgt := 49) hC.1 hC.2.1 dX9_best_41 (by decide) ?_
        exact qX9_best_49 hC hr hlk ih _ _ _ _ _ H locs ls h hM (lv_sub hl [1, 2, 3, 4] rfl)
set_option maxHeartbeats 4000000 in
set_option maxRecDepth 100000 in
theorem mX9_best (l : Launch) (G : Gt) (b0 : Nat) (S : St) (o : Nat) (K : Int32 → St → Prop) : CI l G b0 S yX9_best cX9_best 5 (some .int) rmX9_best [.ref (b0 + o)] (wX9_best S o K) K := by
  refine met_of (by decide) (Nat.le_of_ble_eq_true rfl) rfl ?_
  intro p e s m below meth c hC hr hlk hin h H locs ls hM hl
  unfold wX9_best at h
  refine lv_aload_n hC.1 hC.2.1 dX9_best_0 rfl (lv_at hl 0 rfl) ?_
  obtain ⟨ok_7, h⟩ := h
  refine mm_gi hC hM (ci := 9) (j := 11) ok_7 rfl (by decide) (by decide) tw_802 rfl dX9_best_1 ?_
  refine lv_if_ne (tgt := 10) hC.1 hC.2.1 dX9_best_4 (by decide) (fun c_8 => ?_) (fun c_8 => ?_)
  · have h := h.2 c_8
    refine lv_iconst (v := 0) hC.1 hC.2.1 dX9_best_10 (by decide) ?_
    refine lv_istore_n (lv' := [(1, .int 0), (0, .ref (b0 + o))]) hC.1 hC.2.1 dX9_best_11 rfl hl (by decide) rfl (fun ls hl => ?_)
    refine lv_aload_n hC.1 hC.2.1 dX9_best_12 rfl (lv_at hl 1 rfl) ?_
    refine lv_iconst (v := 0) hC.1 hC.2.1 dX9_best_13 (by decide) ?_
    refine mm_ri hM (mm_V (As := [.int 0]) (rest := []) hC hM hl.1 (mX9_rueAt l G b0 S o 0 _) h (ci := 9) ok_7 rfl rfl kX9_rueAt tw_960 rfl (by decide) rfl (Nat.le_of_ble_eq_true rfl) dX9_best_14 (by decide)) (fun r_10 S_9 H locs h hM => ?_)
    refine lv_istore_n (lv' := [(2, .int r_10), (1, .int 0), (0, .ref (b0 + o))]) hC.1 hC.2.1 dX9_best_17 rfl hl (by decide) rfl (fun ls hl => ?_)
    refine lv_iconst (v := 1) hC.1 hC.2.1 dX9_best_18 (by decide) ?_
    refine lv_istore_n (lv' := [(3, .int 1), (2, .int r_10), (1, .int 0), (0, .ref (b0 + o))]) hC.1 hC.2.1 dX9_best_19 rfl hl (by decide) rfl (fun ls hl => ?_)
    obtain ⟨n1, h⟩ := h
    exact qX9_best_20 hC hr hlk n1 _ _ _ _ _ H locs ls h hM (lv_sub hl [3, 2, 1, 0] rfl)
  · have h := h.1 c_8
    refine lv_bipush (v := (-6)) hC.1 hC.2.1 dX9_best_7 (by decide) ?_
    exact mm_iret hC hr hlk hM h dX9_best_9
set_option maxHeartbeats 4000000 in
set_option maxRecDepth 100000 in
theorem mX9_isChoiceNumber (l : Launch) (G : Gt) (b0 : Nat) (S : St) (o : Nat) (x1 : Int32) (K : Int32 → St → Prop) : CI l G b0 S yX9_isChoiceNumber cX9_isChoiceNumber 2 (some .boolean) rmX9_isChoiceNumber [.ref (b0 + o), .int x1] (wX9_isChoiceNumber S o x1 K) K := by
  refine met_of (by decide) (Nat.le_of_ble_eq_true rfl) rfl ?_
  intro p e s m below meth c hC hr hlk hin h H locs ls hM hl
  unfold wX9_isChoiceNumber at h
  refine lv_iload_n hC.1 hC.2.1 dX9_isChoiceNumber_0 rfl (lv_at hl 1 rfl) ?_
  refine lv_iconst (v := 0) hC.1 hC.2.1 dX9_isChoiceNumber_1 (by decide) ?_
  refine lv_aload_n hC.1 hC.2.1 dX9_isChoiceNumber_2 rfl (lv_at hl 0 rfl) ?_
  obtain ⟨ok_1, h⟩ := h
  refine mm_gi hC hM (ci := 9) (j := 11) ok_1 rfl (by decide) (by decide) tw_802 rfl dX9_isChoiceNumber_3 ?_
  refine lv_iconst (v := 1) hC.1 hC.2.1 dX9_isChoiceNumber_6 (by decide) ?_
  refine lv_isub hC.1 hC.2.1 dX9_isChoiceNumber_7 ?_
  refine mm_ri hM (mm_S (As := [.int x1, .int 0, .int ((sI S o 11) - 1)]) (rest := []) hC hM hl.1 (mX9_in l G b0 S x1 0 ((sI S o 11) - 1) _) h kX9_in tw_865 rfl (by decide) rfl (Nat.le_of_ble_eq_true rfl) dX9_isChoiceNumber_8 (by decide)) (fun r_3 S_2 H locs h hM => ?_)
  obtain ⟨nb_4, h⟩ := h
  exact mm_zret hC hr hlk hM nb_4 h dX9_isChoiceNumber_11
set_option maxHeartbeats 4000000 in
set_option maxRecDepth 100000 in
theorem qX9_sumIn_40 {p : Program} {l : Launch} {e : Env} {s : State} {m : MethodId} {args : Array Value} {below : List Frame} {meth : Method} {c : Code} {G : Gt} {b0 : Nat} (hC : CallFix p m c cX9_sumIn 5 s args lw_g RX9) (hr : meth.sig.returnType = (some .int)) (hlk : meth.locks = false) {K : Int32 → St → Prop} {B5 : Nat → Int32 → Int32 → Int32 → Int32 → St → Prop} (hB5 : ∀ (x0 : Nat) (x1 : Int32) (x2 : Int32) (x3 : Int32) (x4 : Int32) (S : St) (H : Heap) (locs : List Loc) (ls : Array Slot), B5 x0 x1 x2 x3 x4 S → MM G b0 s S H locs → lv_has ls 5 [(0, .ref (b0 + x0)), (1, .int x1), (2, .int x2), (3, .int x3), (4, .int x4)] → W p l e rmX9_sumIn s m args below meth c H locs 0 0 (MQ below (va_Qi K (ME G b0) (AB b0)) args s 0 0 (AB b0)) (F0 m 5 ls [])) : ∀ (x0 : Nat) (x1 : Int32) (x2 : Int32) (x4 : Int32) (t0 : Int32) (t1 : Int32) (S : St) (H : Heap) (locs : List Loc) (ls : Array Slot), wX9_sumIn_40 K B5 x0 x1 x2 x4 t0 t1 S → MM G b0 s S H locs → lv_has ls 5 [(0, .ref (b0 + x0)), (1, .int x1), (2, .int x2), (4, .int x4)] → W p l e rmX9_sumIn s m args below meth c H locs 0 0 (MQ below (va_Qi K (ME G b0) (AB b0)) args s 0 0 (AB b0)) (F0 m 40 ls [.int t1, .int t0]) := by
  intro x0 x1 x2 x4 t0 t1 S H locs ls h hM hl
  unfold wX9_sumIn_40 at h
  refine lv_iadd hC.1 hC.2.1 dX9_sumIn_40 ?_
  refine lv_topi (fun x3_1 ex3_1 => ?_)
  have h := h x3_1 ex3_1
  refine lv_istore_n (lv' := [(3, .int x3_1), (0, .ref (b0 + x0)), (1, .int x1), (2, .int x2), (4, .int x4)]) hC.1 hC.2.1 dX9_sumIn_41 rfl hl (by decide) rfl (fun ls hl => ?_)
  obtain ⟨x4_2, ex4_2⟩ : ∃ y : Int32, y = x4 + 1 := ⟨_, rfl⟩
  have h := h x4_2 ex4_2
  refine lv_iinc (v := x4_2) (lv' := [(4, .int x4_2), (3, .int x3_1), (0, .ref (b0 + x0)), (1, .int x1), (2, .int x2)]) hC.1 hC.2.1 dX9_sumIn_42 hl (k := 4) rfl (by rw [ex4_2]; rfl) (by decide) rfl (fun ls hl => ?_)
  refine lv_goto (tgt := 5) hC.1 hC.2.1 dX9_sumIn_45 (by decide) ?_
  exact hB5 _ _ _ _ _ _ H locs ls h hM (lv_sub hl [2, 3, 4, 1, 0] rfl)
set_option maxHeartbeats 4000000 in
set_option maxRecDepth 100000 in
theorem qX9_sumIn_5 {p : Program} {l : Launch} {e : Env} {s : State} {m : MethodId} {args : Array Value} {below : List Frame} {meth : Method} {c : Code} {G : Gt} {b0 : Nat} (hC : CallFix p m c cX9_sumIn 5 s args lw_g RX9) (hr : meth.sig.returnType = (some .int)) (hlk : meth.locks = false) {K : Int32 → St → Prop} : ∀ (n : Nat) (x0 : Nat) (x1 : Int32) (x2 : Int32) (x3 : Int32) (x4 : Int32) (S : St) (H : Heap) (locs : List Loc) (ls : Array Slot), wX9_sumIn_5 K n x0 x1 x2 x3 x4 S → MM G b0 s S H locs → lv_has ls 5 [(0, .ref (b0 + x0)), (1, .int x1), (2, .int x2), (3, .int x3), (4, .int x4)] → W p l e rmX9_sumIn s m args below meth c H locs 0 0 (MQ below (va_Qi K (ME G b0) (AB b0)) args s 0 0 (AB b0)) (F0 m 5 ls []) := by
  intro n
  induction n with
  | zero =>
    intro x0 x1 x2 x3 x4 S H locs ls h
    exact False.elim h
  | succ n ih =>
    intro x0 x1 x2 x3 x4 S H locs ls h hM hl
    rw [wX9_sumIn_5] at h
    refine lv_iload hC.1 hC.2.1 dX9_sumIn_5 (lv_at hl 4 rfl) ?_
    refine lv_aload_n hC.1 hC.2.1 dX9_sumIn_7 rfl (lv_at hl 0 rfl) ?_
    obtain ⟨ok_3, h⟩ := h
    refine mm_gi hC hM (ci := 9) (j := 1) ok_3 rfl (by decide) (by decide) tw_792 rfl dX9_sumIn_8 ?_
    refine lv_icmp_ge (tgt := 48) hC.1 hC.2.1 dX9_sumIn_11 (by decide) (fun c_4 => ?_) (fun c_4 => ?_)
    · have h := h.1 c_4
      refine lv_iload_n hC.1 hC.2.1 dX9_sumIn_48 rfl (lv_at hl 3 rfl) ?_
      exact mm_iret hC hr hlk hM h dX9_sumIn_49
    · have h := h.2 c_4
      refine lv_iload_n hC.1 hC.2.1 dX9_sumIn_14 rfl (lv_at hl 3 rfl) ?_
      refine lv_iload_n hC.1 hC.2.1 dX9_sumIn_15 rfl (lv_at hl 2 rfl) ?_
      refine lv_iload hC.1 hC.2.1 dX9_sumIn_16 (lv_at hl 4 rfl) ?_
      refine mm_ri hM (mm_S (As := [.int x2, .int x4]) (rest := [.int x3]) hC hM hl.1 (mX9_has l G b0 S x2 x4 _) h kX9_has tw_772 rfl (by decide) rfl (Nat.le_of_ble_eq_true rfl) dX9_sumIn_18 (by decide)) (fun r_6 S_5 H locs h hM => ?_)
      refine lv_if_eq (tgt := 39) hC.1 hC.2.1 dX9_sumIn_21 (by decide) (fun c_7 => ?_) (fun c_7 => ?_)
      · have h := h.1 c_7
        refine lv_iconst (v := 0) hC.1 hC.2.1 dX9_sumIn_39 (by decide) ?_
        exact qX9_sumIn_40 hC hr hlk ih _ _ _ _ _ _ _ H locs ls h hM (lv_sub hl [0, 1, 2, 4] rfl)
      · have h := h.2 c_7
        refine lv_aload_n hC.1 hC.2.1 dX9_sumIn_24 rfl (lv_at hl 0 rfl) ?_
        obtain ⟨ok_8, h⟩ := h
        refine mm_gr hC hM (ci := 9) (j := 10) ok_8 rfl (by decide) (by decide) tw_801 rfl dX9_sumIn_25 ?_
        refine lv_bipush (v := 12) hC.1 hC.2.1 dX9_sumIn_28 (by decide) ?_
        refine lv_iload_n hC.1 hC.2.1 dX9_sumIn_30 rfl (lv_at hl 1 rfl) ?_
        refine lv_imul hC.1 hC.2.1 dX9_sumIn_31 ?_
        refine lv_iload hC.1 hC.2.1 dX9_sumIn_32 (lv_at hl 4 rfl) ?_
        refine lv_iadd hC.1 hC.2.1 dX9_sumIn_34 ?_
        obtain ⟨ok_9, h⟩ := h
        refine mm_il hC hM ok_9 dX9_sumIn_35 ?_
        refine lv_goto (tgt := 40) hC.1 hC.2.1 dX9_sumIn_36 (by decide) ?_
        exact qX9_sumIn_40 hC hr hlk ih _ _ _ _ _ _ _ H locs ls h hM (lv_sub hl [0, 1, 2, 4] rfl)
set_option maxHeartbeats 4000000 in
set_option maxRecDepth 100000 in
theorem mX9_sumIn (l : Launch) (G : Gt) (b0 : Nat) (S : St) (o : Nat) (x1 : Int32) (x2 : Int32) (K : Int32 → St → Prop) : CI l G b0 S yX9_sumIn cX9_sumIn 5 (some .int) rmX9_sumIn [.ref (b0 + o), .int x1, .int x2] (wX9_sumIn S o x1 x2 K) K := by
  refine met_of (by decide) (Nat.le_of_ble_eq_true rfl) rfl ?_
  intro p e s m below meth c hC hr hlk hin h H locs ls hM hl
  unfold wX9_sumIn at h
  refine lv_iconst (v := 0) hC.1 hC.2.1 dX9_sumIn_0 (by decide) ?_
  refine lv_istore_n (lv' := [(3, .int 0), (0, .ref (b0 + o)), (1, .int x1), (2, .int x2)]) hC.1 hC.2.1 dX9_sumIn_1 rfl hl (by decide) rfl (fun ls hl => ?_)
  refine lv_iconst (v := 0) hC.1 hC.2.1 dX9_sumIn_2 (by decide) ?_
  refine lv_istore (lv' := [(4, .int 0), (3, .int 0), (0, .ref (b0 + o)), (1, .int x1), (2, .int x2)]) hC.1 hC.2.1 dX9_sumIn_3 hl (by decide) rfl (fun ls hl => ?_)
  obtain ⟨n1, h⟩ := h
  exact qX9_sumIn_5 hC hr hlk n1 _ _ _ _ _ _ H locs ls h hM (lv_sub hl [2, 3, 4, 1, 0] rfl)
set_option maxHeartbeats 4000000 in
set_option maxRecDepth 100000 in
theorem qX9_firstIn_39 {p : Program} {l : Launch} {e : Env} {s : State} {m : MethodId} {args : Array Value} {below : List Frame} {meth : Method} {c : Code} {G : Gt} {b0 : Nat} (hC : CallFix p m c cX9_firstIn 4 s args lw_g RX9) (hr : meth.sig.returnType = (some .int)) (hlk : meth.locks = false) {K : Int32 → St → Prop} {B4 : Nat → Int32 → Int32 → Int32 → St → Prop} (hB4 : ∀ (x0 : Nat) (x1 : Int32) (x2 : Int32) (x3 : Int32) (S : St) (H : Heap) (locs : List Loc) (ls : Array Slot), B4 x0 x1 x2 x3 S → MM G b0 s S H locs → lv_has ls 4 [(0, .ref (b0 + x0)), (1, .int x1), (2, .int x2), (3, .int x3)] → W p l e rmX9_firstIn s m args below meth c H locs 0 0 (MQ below (va_Qi K (ME G b0) (AB b0)) args s 0 0 (AB b0)) (F0 m 4 ls [])) : ∀ (x0 : Nat) (x1 : Int32) (x2 : Int32) (x3 : Int32) (S : St) (H : Heap) (locs : List Loc) (ls : Array Slot), wX9_firstIn_39 K B4 x0 x1 x2 x3 S → MM G b0 s S H locs → lv_has ls 4 [(0, .ref (b0 + x0)), (1, .int x1), (2, .int x2), (3, .int x3)] → W p l e rmX9_firstIn s m args below meth c H locs 0 0 (MQ below (va_Qi K (ME G b0) (AB b0)) args s 0 0 (AB b0)) (F0 m 39 ls []) := by
  intro x0 x1 x2 x3 S H locs ls h hM hl
  unfold wX9_firstIn_39 at h
  obtain ⟨x3_1, ex3_1⟩ : ∃ y : Int32, y = x3 + 1 := ⟨_, rfl⟩
  have h := h x3_1 ex3_1
  refine lv_iinc (v := x3_1) (lv' := [(3, .int x3_1), (0, .ref (b0 + x0)), (1, .int x1), (2, .int x2)]) hC.1 hC.2.1 dX9_firstIn_39 hl (k := 3) rfl (by rw [ex3_1]; rfl) (by decide) rfl (fun ls hl => ?_)
  refine lv_goto (tgt := 4) hC.1 hC.2.1 dX9_firstIn_42 (by decide) ?_
  exact hB4 _ _ _ _ _ H locs ls h hM (lv_sub hl [1, 2, 3, 0] rfl)
set_option maxHeartbeats 4000000 in
set_option maxRecDepth 100000 in
theorem qX9_firstIn_4 {p : Program} {l : Launch} {e : Env} {s : State} {m : MethodId} {args : Array Value} {below : List Frame} {meth : Method} {c : Code} {G : Gt} {b0 : Nat} (hC : CallFix p m c cX9_firstIn 4 s args lw_g RX9) (hr : meth.sig.returnType = (some .int)) (hlk : meth.locks = false) {K : Int32 → St → Prop} : ∀ (n : Nat) (x0 : Nat) (x1 : Int32) (x2 : Int32) (x3 : Int32) (S : St) (H : Heap) (locs : List Loc) (ls : Array Slot), wX9_firstIn_4 K n x0 x1 x2 x3 S → MM G b0 s S H locs → lv_has ls 4 [(0, .ref (b0 + x0)), (1, .int x1), (2, .int x2), (3, .int x3)] → W p l e rmX9_firstIn s m args below meth c H locs 0 0 (MQ below (va_Qi K (ME G b0) (AB b0)) args s 0 0 (AB b0)) (F0 m 4 ls []) := by
  intro n
  induction n with
  | zero =>
    intro x0 x1 x2 x3 S H locs ls h
    exact False.elim h
  | succ n ih =>
    intro x0 x1 x2 x3 S H locs ls h hM hl
    rw [wX9_firstIn_4] at h
    refine lv_iload_n hC.1 hC.2.1 dX9_firstIn_4 rfl (lv_at hl 3 rfl) ?_
    refine lv_aload_n hC.1 hC.2.1 dX9_firstIn_5 rfl (lv_at hl 0 rfl) ?_
    obtain ⟨ok_2, h⟩ := h
    refine mm_gi hC hM (ci := 9) (j := 11) ok_2 rfl (by decide) (by decide) tw_802 rfl dX9_firstIn_6 ?_
    refine lv_icmp_ge (tgt := 45) hC.1 hC.2.1 dX9_firstIn_9 (by decide) (fun c_3 => ?_) (fun c_3 => ?_)
    · have h := h.1 c_3
      refine lv_iload_n hC.1 hC.2.1 dX9_firstIn_45 rfl (lv_at hl 2 rfl) ?_
      exact mm_iret hC hr hlk hM h dX9_firstIn_46
    · have h := h.2 c_3
      refine lv_aload_n hC.1 hC.2.1 dX9_firstIn_12 rfl (lv_at hl 0 rfl) ?_
      refine lv_iload_n hC.1 hC.2.1 dX9_firstIn_13 rfl (lv_at hl 1 rfl) ?_
      refine lv_aload_n hC.1 hC.2.1 dX9_firstIn_14 rfl (lv_at hl 0 rfl) ?_
      obtain ⟨ok_4, h⟩ := h
      refine mm_gr hC hM (ci := 9) (j := 12) ⟨ok_2, ok_4⟩ rfl (by decide) (by decide) tw_803 rfl dX9_firstIn_15 ?_
      refine lv_iload_n hC.1 hC.2.1 dX9_firstIn_18 rfl (lv_at hl 3 rfl) ?_
      obtain ⟨ok_5, h⟩ := h
      refine mm_il hC hM ok_5 dX9_firstIn_19 ?_
      refine mm_ri hM (mm_V (As := [.int x1, .int (sI S (sR S x0 12) (x3 : Int32).toNatClampNeg)]) (rest := []) hC hM hl.1 (mX9_sumIn l G b0 S x0 x1 (sI S (sR S x0 12) (x3 : Int32).toNatClampNeg) _) h (ci := 9) ok_2 rfl rfl kX9_sumIn tw_1014 rfl (by decide) rfl (Nat.le_of_ble_eq_true rfl) dX9_firstIn_20 (by decide)) (fun r_7 S_6 H locs h hM => ?_)
      refine lv_aload_n hC.1 hC.2.1 dX9_firstIn_23 rfl (lv_at hl 0 rfl) ?_
      refine lv_iload_n hC.1 hC.2.1 dX9_firstIn_24 rfl (lv_at hl 1 rfl) ?_
      refine lv_aload_n hC.1 hC.2.1 dX9_firstIn_25 rfl (lv_at hl 0 rfl) ?_
      obtain ⟨ok_8, h⟩ := h
      refine mm_gr hC hM (ci := 9) (j := 12) ok_8 rfl (by decide) (by decide) tw_803 rfl dX9_firstIn_26 ?_
      refine lv_iload_n hC.1 hC.2.1 dX9_firstIn_29 rfl (lv_at hl 2 rfl) ?_
      obtain ⟨ok_9, h⟩ := h
      refine mm_il hC hM ok_9 dX9_firstIn_30 ?_
      refine mm_ri hM (mm_V (As := [.int x1, .int (sI S_6 (sR S_6 x0 12) (x2 : Int32).toNatClampNeg)]) (rest := [.int r_7]) hC hM hl.1 (mX9_sumIn l G b0 S_6 x0 x1 (sI S_6 (sR S_6 x0 12) (x2 : Int32).toNatClampNeg) _) h (ci := 9) ok_8.1 rfl rfl kX9_sumIn tw_1014 rfl (by decide) rfl (Nat.le_of_ble_eq_true rfl) dX9_firstIn_31 (by decide)) (fun r_11 S_10 H locs h hM => ?_)
      refine lv_icmp_ge (tgt := 39) hC.1 hC.2.1 dX9_firstIn_34 (by decide) (fun c_12 => ?_) (fun c_12 => ?_)
      · have h := h.1 c_12
        exact qX9_firstIn_39 hC hr hlk ih _ _ _ _ _ H locs ls h hM (lv_sub hl [0, 1, 2, 3] rfl)
      · have h := h.2 c_12
        refine lv_iload_n hC.1 hC.2.1 dX9_firstIn_37 rfl (lv_at hl 3 rfl) ?_
        refine lv_istore_n (lv' := [(2, .int x3), (0, .ref (b0 + x0)), (1, .int x1), (3, .int x3)]) hC.1 hC.2.1 dX9_firstIn_38 rfl hl (by decide) rfl (fun ls hl => ?_)
        exact qX9_firstIn_39 hC hr hlk ih _ _ _ _ _ H locs ls h hM (lv_sub hl [1, 2, 0, 3] rfl)
set_option maxHeartbeats 4000000 in
set_option maxRecDepth 100000 in
theorem mX9_firstIn (l : Launch) (G : Gt) (b0 : Nat) (S : St) (o : Nat) (x1 : Int32) (K : Int32 → St → Prop) : CI l G b0 S yX9_firstIn cX9_firstIn 4 (some .int) rmX9_firstIn [.ref (b0 + o), .int x1] (wX9_firstIn S o x1 K) K := by
  refine met_of (by decide) (Nat.le_of_ble_eq_true rfl) rfl ?_
  intro p e s m below meth c hC hr hlk hin h H locs ls hM hl
  unfold wX9_firstIn at h
  refine lv_iconst (v := 0) hC.1 hC.2.1 dX9_firstIn_0 (by decide) ?_
  refine lv_istore_n (lv' := [(2, .int 0), (0, .ref (b0 + o)), (1, .int x1)]) hC.1 hC.2.1 dX9_firstIn_1 rfl hl (by decide) rfl (fun ls hl => ?_)
  refine lv_iconst (v := 1) hC.1 hC.2.1 dX9_firstIn_2 (by decide) ?_
  refine lv_istore_n (lv' := [(3, .int 1), (2, .int 0), (0, .ref (b0 + o)), (1, .int x1)]) hC.1 hC.2.1 dX9_firstIn_3 rfl hl (by decide) rfl (fun ls hl => ?_)
  obtain ⟨n1, h⟩ := h
  exact qX9_firstIn_4 hC hr hlk n1 _ _ _ _ _ H locs ls h hM (lv_sub hl [2, 3, 1, 0] rfl)
set_option maxHeartbeats 4000000 in
set_option maxRecDepth 100000 in
theorem mX9_rueIn (l : Launch) (G : Gt) (b0 : Nat) (S : St) (o : Nat) (x1 : Int32) (x2 : Int32) (K : Int32 → St → Prop) : CI l G b0 S yX9_rueIn cX9_rueIn 3 (some .int) rmX9_rueIn [.ref (b0 + o), .int x1, .int x2] (wX9_rueIn S o x1 x2 K) K := by
  refine met_of (by decide) (Nat.le_of_ble_eq_true rfl) rfl ?_
  intro p e s m below meth c hC hr hlk hin h H locs ls hM hl
  unfold wX9_rueIn at h
  refine lv_aload_n hC.1 hC.2.1 dX9_rueIn_0 rfl (lv_at hl 0 rfl) ?_
  refine lv_iload_n hC.1 hC.2.1 dX9_rueIn_1 rfl (lv_at hl 1 rfl) ?_
  refine lv_aload_n hC.1 hC.2.1 dX9_rueIn_2 rfl (lv_at hl 0 rfl) ?_
  obtain ⟨ok_1, h⟩ := h
  refine mm_gr hC hM (ci := 9) (j := 12) ok_1 rfl (by decide) (by decide) tw_803 rfl dX9_rueIn_3 ?_
  refine lv_iload_n hC.1 hC.2.1 dX9_rueIn_6 rfl (lv_at hl 2 rfl) ?_
  obtain ⟨ok_2, h⟩ := h
  refine mm_il hC hM ok_2 dX9_rueIn_7 ?_
  refine mm_ri hM (mm_V (As := [.int x1, .int (sI S (sR S o 12) (x2 : Int32).toNatClampNeg)]) (rest := []) hC hM hl.1 (mX9_sumIn l G b0 S o x1 (sI S (sR S o 12) (x2 : Int32).toNatClampNeg) _) h (ci := 9) ok_1.1 rfl rfl kX9_sumIn tw_1014 rfl (by decide) rfl (Nat.le_of_ble_eq_true rfl) dX9_rueIn_8 (by decide)) (fun r_4 S_3 H locs h hM => ?_)
  refine lv_aload_n hC.1 hC.2.1 dX9_rueIn_11 rfl (lv_at hl 0 rfl) ?_
  refine lv_iload_n hC.1 hC.2.1 dX9_rueIn_12 rfl (lv_at hl 1 rfl) ?_
  refine lv_aload_n hC.1 hC.2.1 dX9_rueIn_13 rfl (lv_at hl 0 rfl) ?_
  obtain ⟨ok_5, h⟩ := h
  refine mm_gr hC hM (ci := 9) (j := 12) ok_5 rfl (by decide) (by decide) tw_803 rfl dX9_rueIn_14 ?_
  refine lv_aload_n hC.1 hC.2.1 dX9_rueIn_17 rfl (lv_at hl 0 rfl) ?_
  refine lv_iload_n hC.1 hC.2.1 dX9_rueIn_18 rfl (lv_at hl 1 rfl) ?_
  refine mm_ri hM (mm_V (As := [.int x1]) (rest := [.ref (b0 + (sR S_3 o 12)), .int x1, .ref (b0 + o), .int r_4]) hC hM hl.1 (mX9_firstIn l G b0 S_3 o x1 _) h (ci := 9) ok_5.1 rfl rfl kX9_firstIn tw_1022 rfl (by decide) rfl (Nat.le_of_ble_eq_true rfl) dX9_rueIn_19 (by decide)) (fun r_7 S_6 H locs h hM => ?_)
  obtain ⟨ok_8, h⟩ := h
  refine mm_il hC hM ok_8 dX9_rueIn_22 ?_
  obtain ⟨ok_11, h⟩ := h
  refine mm_ri hM (mm_V (As := [.int x1, .int (sI S_6 (sR S_3 o 12) (r_7 : Int32).toNatClampNeg)]) (rest := [.int r_4]) hC hM hl.1 (mX9_sumIn l G b0 S_6 o x1 (sI S_6 (sR S_3 o 12) (r_7 : Int32).toNatClampNeg) _) h (ci := 9) ok_11 rfl rfl kX9_sumIn tw_1014 rfl (by decide) rfl (Nat.le_of_ble_eq_true rfl) dX9_rueIn_23 (by decide)) (fun r_10 S_9 H locs h hM => ?_)
  refine lv_isub hC.1 hC.2.1 dX9_rueIn_26 ?_
  exact mm_iret hC hr hlk hM h dX9_rueIn_27
set_option maxHeartbeats 4000000 in
set_option maxRecDepth 100000 in
theorem qX9_worlds_25 {p : Program} {l : Launch} {e : Env} {s : State} {m : MethodId} {args : Array Value} {below : List Frame} {meth : Method} {c : Code} {G : Gt} {b0 : Nat} (hC : CallFix p m c cX9_worlds 3 s args lw_g RX9) (hr : meth.sig.returnType = (some .int)) (hlk : meth.locks = false) {K : Int32 → St → Prop} {B4 : Nat → Int32 → Int32 → St → Prop} (hB4 : ∀ (x0 : Nat) (x1 : Int32) (x2 : Int32) (S : St) (H : Heap) (locs : List Loc) (ls : Array Slot), B4 x0 x1 x2 S → MM G b0 s S H locs → lv_has ls 3 [(0, .ref (b0 + x0)), (1, .int x1), (2, .int x2)] → W p l e rmX9_worlds s m args below meth c H locs 0 0 (MQ below (va_Qi K (ME G b0) (AB b0)) args s 0 0 (AB b0)) (F0 m 4 ls [])) : ∀ (x0 : Nat) (x2 : Int32) (t0 : Int32) (t1 : Int32) (S : St) (H : Heap) (locs : List Loc) (ls : Array Slot), wX9_worlds_25 K B4 x0 x2 t0 t1 S → MM G b0 s S H locs → lv_has ls 3 [(0, .ref (b0 + x0)), (2, .int x2)] → W p l e rmX9_worlds s m args below meth c H locs 0 0 (MQ below (va_Qi K (ME G b0) (AB b0)) args s 0 0 (AB b0)) (F0 m 25 ls [.int t1, .int t0]) := by
  intro x0 x2 t0 t1 S H locs ls h hM hl
  unfold wX9_worlds_25 at h
  refine lv_iadd hC.1 hC.2.1 dX9_worlds_25 ?_
  refine lv_topi (fun x1_1 ex1_1 => ?_)
  have h := h x1_1 ex1_1
  refine lv_istore_n (lv' := [(1, .int x1_1), (0, .ref (b0 + x0)), (2, .int x2)]) hC.1 hC.2.1 dX9_worlds_26 rfl hl (by decide) rfl (fun ls hl => ?_)
  obtain ⟨x2_2, ex2_2⟩ : ∃ y : Int32, y = x2 + 1 := ⟨_, rfl⟩
  have h := h x2_2 ex2_2
  refine lv_iinc (v := x2_2) (lv' := [(2, .int x2_2), (1, .int x1_1), (0, .ref (b0 + x0))]) hC.1 hC.2.1 dX9_worlds_27 hl (k := 2) rfl (by rw [ex2_2]; rfl) (by decide) rfl (fun ls hl => ?_)
  refine lv_goto (tgt := 4) hC.1 hC.2.1 dX9_worlds_30 (by decide) ?_
  exact hB4 _ _ _ _ H locs ls h hM (lv_sub hl [2, 1, 0] rfl)
set_option maxHeartbeats 4000000 in
set_option maxRecDepth 100000 in
theorem qX9_worlds_4 {p : Program} {l : Launch} {e : Env} {s : State} {m : MethodId} {args : Array Value} {below : List Frame} {meth : Method} {c : Code} {G : Gt} {b0 : Nat} (hC : CallFix p m c cX9_worlds 3 s args lw_g RX9) (hr : meth.sig.returnType = (some .int)) (hlk : meth.locks = false) {K : Int32 → St → Prop} : ∀ (n : Nat) (x0 : Nat) (x1 : Int32) (x2 : Int32) (S : St) (H : Heap) (locs : List Loc) (ls : Array Slot), wX9_worlds_4 K n x0 x1 x2 S → MM G b0 s S H locs → lv_has ls 3 [(0, .ref (b0 + x0)), (1, .int x1), (2, .int x2)] → W p l e rmX9_worlds s m args below meth c H locs 0 0 (MQ below (va_Qi K (ME G b0) (AB b0)) args s 0 0 (AB b0)) (F0 m 4 ls []) := by
  intro n
  induction n with
  | zero =>
    intro x0 x1 x2 S H locs ls h
    exact False.elim h
  | succ n ih =>
    intro x0 x1 x2 S H locs ls h hM hl
    rw [wX9_worlds_4] at h
    refine lv_iload_n hC.1 hC.2.1 dX9_worlds_4 rfl (lv_at hl 2 rfl) ?_
    refine lv_bipush (v := 8) hC.1 hC.2.1 dX9_worlds_5 (by decide) ?_
    refine lv_icmp_ge (tgt := 33) hC.1 hC.2.1 dX9_worlds_7 (by decide) (fun c_3 => ?_) (fun c_3 => ?_)
    · have h := h.1 c_3
      refine lv_iload_n hC.1 hC.2.1 dX9_worlds_33 rfl (lv_at hl 1 rfl) ?_
      exact mm_iret hC hr hlk hM h dX9_worlds_34
    · have h := h.2 c_3
      refine lv_iload_n hC.1 hC.2.1 dX9_worlds_10 rfl (lv_at hl 1 rfl) ?_
      refine lv_aload_n hC.1 hC.2.1 dX9_worlds_11 rfl (lv_at hl 0 rfl) ?_
      obtain ⟨ok_4, h⟩ := h
      refine mm_gr hC hM (ci := 9) (j := 9) ok_4 rfl (by decide) (by decide) tw_800 rfl dX9_worlds_12 ?_
      refine lv_iload_n hC.1 hC.2.1 dX9_worlds_15 rfl (lv_at hl 2 rfl) ?_
      obtain ⟨ok_5, h⟩ := h
      refine mm_zl hC hM ok_5 dX9_worlds_16 ?_
      refine lv_if_eq (tgt := 24) hC.1 hC.2.1 dX9_worlds_17 (by decide) (fun c_6 => ?_) (fun c_6 => ?_)
      · have h := h.1 c_6
        refine lv_iconst (v := 0) hC.1 hC.2.1 dX9_worlds_24 (by decide) ?_
        exact qX9_worlds_25 hC hr hlk ih _ _ _ _ _ H locs ls h hM (lv_sub hl [0, 2] rfl)
      · have h := h.2 c_6
        refine lv_iconst (v := 1) hC.1 hC.2.1 dX9_worlds_20 (by decide) ?_
        refine lv_goto (tgt := 25) hC.1 hC.2.1 dX9_worlds_21 (by decide) ?_
        exact qX9_worlds_25 hC hr hlk ih _ _ _ _ _ H locs ls h hM (lv_sub hl [0, 2] rfl)
set_option maxHeartbeats 4000000 in
set_option maxRecDepth 100000 in
theorem mX9_worlds (l : Launch) (G : Gt) (b0 : Nat) (S : St) (o : Nat) (K : Int32 → St → Prop) : CI l G b0 S yX9_worlds cX9_worlds 3 (some .int) rmX9_worlds [.ref (b0 + o)] (wX9_worlds S o K) K := by
  refine met_of (by decide) (Nat.le_of_ble_eq_true rfl) rfl ?_
  intro p e s m below meth c hC hr hlk hin h H locs ls hM hl
  unfold wX9_worlds at h
  refine lv_iconst (v := 0) hC.1 hC.2.1 dX9_worlds_0 (by decide) ?_
  refine lv_istore_n (lv' := [(1, .int 0), (0, .ref (b0 + o))]) hC.1 hC.2.1 dX9_worlds_1 rfl hl (by decide) rfl (fun ls hl => ?_)
  refine lv_iconst (v := 0) hC.1 hC.2.1 dX9_worlds_2 (by decide) ?_
  refine lv_istore_n (lv' := [(2, .int 0), (1, .int 0), (0, .ref (b0 + o))]) hC.1 hC.2.1 dX9_worlds_3 rfl hl (by decide) rfl (fun ls hl => ?_)
  obtain ⟨n1, h⟩ := h
  exact qX9_worlds_4 hC hr hlk n1 _ _ _ _ H locs ls h hM (lv_sub hl [2, 1, 0] rfl)
set_option maxHeartbeats 4000000 in
set_option maxRecDepth 100000 in
theorem qX9_rueOf_53 {p : Program} {l : Launch} {e : Env} {s : State} {m : MethodId} {args : Array Value} {below : List Frame} {meth : Method} {c : Code} {G : Gt} {b0 : Nat} (hC : CallFix p m c cX9_rueOf 4 s args lw_g RX9) (hr : meth.sig.returnType = (some .int)) (hlk : meth.locks = false) {K : Int32 → St → Prop} {B21 : Nat → Int32 → Int32 → Int32 → St → Prop} (hB21 : ∀ (x0 : Nat) (x1 : Int32) (x2 : Int32) (x3 : Int32) (S : St) (H : Heap) (locs : List Loc) (ls : Array Slot), B21 x0 x1 x2 x3 S → MM G b0 s S H locs → lv_has ls 4 [(0, .ref (b0 + x0)), (1, .int x1), (2, .int x2), (3, .int x3)] → W p l e rmX9_rueOf s m args below meth c H locs 0 0 (MQ below (va_Qi K (ME G b0) (AB b0)) args s 0 0 (AB b0)) (F0 m 21 ls [])) : ∀ (x0 : Nat) (x1 : Int32) (x2 : Int32) (x3 : Int32) (S : St) (H : Heap) (locs : List Loc) (ls : Array Slot), wX9_rueOf_53 K B21 x0 x1 x2 x3 S → MM G b0 s S H locs → lv_has ls 4 [(0, .ref (b0 + x0)), (1, .int x1), (2, .int x2), (3, .int x3)] → W p l e rmX9_rueOf s m args below meth c H locs 0 0 (MQ below (va_Qi K (ME G b0) (AB b0)) args s 0 0 (AB b0)) (F0 m 53 ls []) := by
  intro x0 x1 x2 x3 S H locs ls h hM hl
  unfold wX9_rueOf_53 at h
  obtain ⟨x3_1, ex3_1⟩ : ∃ y : Int32, y = x3 + 1 := ⟨_, rfl⟩
  have h := h x3_1 ex3_1
  refine lv_iinc (v := x3_1) (lv' := [(3, .int x3_1), (0, .ref (b0 + x0)), (1, .int x1), (2, .int x2)]) hC.1 hC.2.1 dX9_rueOf_53 hl (k := 3) rfl (by rw [ex3_1]; rfl) (by decide) rfl (fun ls hl => ?_)
  refine lv_goto (tgt := 21) hC.1 hC.2.1 dX9_rueOf_56 (by decide) ?_
  exact hB21 _ _ _ _ _ H locs ls h hM (lv_sub hl [1, 2, 3, 0] rfl)
set_option maxHeartbeats 4000000 in
set_option maxRecDepth 100000 in
theorem qX9_rueOf_21 {p : Program} {l : Launch} {e : Env} {s : State} {m : MethodId} {args : Array Value} {below : List Frame} {meth : Method} {c : Code} {G : Gt} {b0 : Nat} (hC : CallFix p m c cX9_rueOf 4 s args lw_g RX9) (hr : meth.sig.returnType = (some .int)) (hlk : meth.locks = false) {K : Int32 → St → Prop} : ∀ (n : Nat) (x0 : Nat) (x1 : Int32) (x2 : Int32) (x3 : Int32) (S : St) (H : Heap) (locs : List Loc) (ls : Array Slot), wX9_rueOf_21 K n x0 x1 x2 x3 S → MM G b0 s S H locs → lv_has ls 4 [(0, .ref (b0 + x0)), (1, .int x1), (2, .int x2), (3, .int x3)] → W p l e rmX9_rueOf s m args below meth c H locs 0 0 (MQ below (va_Qi K (ME G b0) (AB b0)) args s 0 0 (AB b0)) (F0 m 21 ls []) := by
  intro n
  induction n with
  | zero =>
    intro x0 x1 x2 x3 S H locs ls h
    exact False.elim h
  | succ n ih =>
    intro x0 x1 x2 x3 S H locs ls h hM hl
    rw [wX9_rueOf_21] at h
    refine lv_iload_n hC.1 hC.2.1 dX9_rueOf_21 rfl (lv_at hl 3 rfl) ?_
    refine lv_bipush (v := 8) hC.1 hC.2.1 dX9_rueOf_22 (by decide) ?_
    refine lv_icmp_ge (tgt := 59) hC.1 hC.2.1 dX9_rueOf_24 (by decide) (fun c_2 => ?_) (fun c_2 => ?_)
    · have h := h.1 c_2
      refine lv_iload_n hC.1 hC.2.1 dX9_rueOf_59 rfl (lv_at hl 2 rfl) ?_
      exact mm_iret hC hr hlk hM h dX9_rueOf_60
    · have h := h.2 c_2
      refine lv_aload_n hC.1 hC.2.1 dX9_rueOf_27 rfl (lv_at hl 0 rfl) ?_
      obtain ⟨ok_3, h⟩ := h
      refine mm_gr hC hM (ci := 9) (j := 9) ok_3 rfl (by decide) (by decide) tw_800 rfl dX9_rueOf_28 ?_
      refine lv_iload_n hC.1 hC.2.1 dX9_rueOf_31 rfl (lv_at hl 3 rfl) ?_
      obtain ⟨ok_4, h⟩ := h
      refine mm_zl hC hM ok_4 dX9_rueOf_32 ?_
      refine lv_if_eq (tgt := 53) hC.1 hC.2.1 dX9_rueOf_33 (by decide) (fun c_5 => ?_) (fun c_5 => ?_)
      · have h := h.1 c_5
        exact qX9_rueOf_53 hC hr hlk ih _ _ _ _ _ H locs ls h hM (lv_sub hl [0, 1, 2, 3] rfl)
      · have h := h.2 c_5
        refine lv_aload_n hC.1 hC.2.1 dX9_rueOf_36 rfl (lv_at hl 0 rfl) ?_
        refine lv_iload_n hC.1 hC.2.1 dX9_rueOf_37 rfl (lv_at hl 3 rfl) ?_
        refine lv_iload_n hC.1 hC.2.1 dX9_rueOf_38 rfl (lv_at hl 1 rfl) ?_
        refine mm_ri hM (mm_V (As := [.int x3, .int x1]) (rest := []) hC hM hl.1 (mX9_rueIn l G b0 S x0 x3 x1 _) h (ci := 9) ok_3.1 rfl rfl kX9_rueIn tw_1030 rfl (by decide) rfl (Nat.le_of_ble_eq_true rfl) dX9_rueOf_39 (by decide)) (fun r_7 S_6 H locs h hM => ?_)
        refine lv_iload_n hC.1 hC.2.1 dX9_rueOf_42 rfl (lv_at hl 2 rfl) ?_
        refine lv_icmp_le (tgt := 53) hC.1 hC.2.1 dX9_rueOf_43 (by decide) (fun c_8 => ?_) (fun c_8 => ?_)
        · have h := h.1 c_8
          exact qX9_rueOf_53 hC hr hlk ih _ _ _ _ _ H locs ls h hM (lv_sub hl [0, 1, 2, 3] rfl)
        · have h := h.2 c_8
          refine lv_aload_n hC.1 hC.2.1 dX9_rueOf_46 rfl (lv_at hl 0 rfl) ?_
          refine lv_iload_n hC.1 hC.2.1 dX9_rueOf_47 rfl (lv_at hl 3 rfl) ?_
          refine lv_iload_n hC.1 hC.2.1 dX9_rueOf_48 rfl (lv_at hl 1 rfl) ?_
          obtain ⟨ok_11, h⟩ := h
          refine mm_ri hM (mm_V (As := [.int x3, .int x1]) (rest := []) hC hM hl.1 (mX9_rueIn l G b0 S_6 x0 x3 x1 _) h (ci := 9) ok_11 rfl rfl kX9_rueIn tw_1030 rfl (by decide) rfl (Nat.le_of_ble_eq_true rfl) dX9_rueOf_49 (by decide)) (fun r_10 S_9 H locs h hM => ?_)
          refine lv_istore_n (lv' := [(2, .int r_10), (0, .ref (b0 + x0)), (1, .int x1), (3, .int x3)]) hC.1 hC.2.1 dX9_rueOf_52 rfl hl (by decide) rfl (fun ls hl => ?_)
          exact qX9_rueOf_53 hC hr hlk ih _ _ _ _ _ H locs ls h hM (lv_sub hl [1, 2, 0, 3] rfl)
set_option maxHeartbeats 4000000 in
set_option maxRecDepth 100000 in
theorem mX9_rueOf (l : Launch) (G : Gt) (b0 : Nat) (S : St) (o : Nat) (x1 : Int32) (K : Int32 → St → Prop) : CI l G b0 S yX9_rueOf cX9_rueOf 4 (some .int) rmX9_rueOf [.ref (b0 + o), .int x1] (wX9_rueOf S o x1 K) K := by
  refine met_of (by decide) (Nat.le_of_ble_eq_true rfl) rfl ?_
  intro p e s m below meth c hC hr hlk hin h H locs ls hM hl
  unfold wX9_rueOf at h
  refine lv_aload_n hC.1 hC.2.1 dX9_rueOf_0 rfl (lv_at hl 0 rfl) ?_
  refine lv_iload_n hC.1 hC.2.1 dX9_rueOf_1 rfl (lv_at hl 1 rfl) ?_
  obtain ⟨ok_14, h⟩ := h
  refine mm_ri hM (mm_V (As := [.int x1]) (rest := []) hC hM hl.1 (mX9_isChoiceNumber l G b0 S o x1 _) h (ci := 9) ok_14 rfl rfl kX9_isChoiceNumber tw_924 rfl (by decide) rfl (Nat.le_of_ble_eq_true rfl) dX9_rueOf_2 (by decide)) (fun r_13 S_12 H locs h hM => ?_)
  refine lv_if_eq (tgt := 15) hC.1 hC.2.1 dX9_rueOf_5 (by decide) (fun c_15 => ?_) (fun c_15 => ?_)
  · have h := h.1 c_15
    refine lv_iconst (v := (-1)) hC.1 hC.2.1 dX9_rueOf_15 (by decide) ?_
    exact mm_iret hC hr hlk hM h dX9_rueOf_16
  · have h := h.2 c_15
    refine lv_aload_n hC.1 hC.2.1 dX9_rueOf_8 rfl (lv_at hl 0 rfl) ?_
    obtain ⟨ok_18, h⟩ := h
    refine mm_ri hM (mm_V (As := []) (rest := []) hC hM hl.1 (mX9_worlds l G b0 S_12 o _) h (ci := 9) ok_18 rfl rfl kX9_worlds tw_908 rfl (by decide) rfl (Nat.le_of_ble_eq_true rfl) dX9_rueOf_9 (by decide)) (fun r_17 S_16 H locs h hM => ?_)
    refine lv_if_ne (tgt := 17) hC.1 hC.2.1 dX9_rueOf_12 (by decide) (fun c_19 => ?_) (fun c_19 => ?_)
    · have h := h.2 c_19
      refine lv_iconst (v := 0) hC.1 hC.2.1 dX9_rueOf_17 (by decide) ?_
      refine lv_istore_n (lv' := [(2, .int 0), (0, .ref (b0 + o)), (1, .int x1)]) hC.1 hC.2.1 dX9_rueOf_18 rfl hl (by decide) rfl (fun ls hl => ?_)
      refine lv_iconst (v := 0) hC.1 hC.2.1 dX9_rueOf_19 (by decide) ?_
      refine lv_istore_n (lv' := [(3, .int 0), (2, .int 0), (0, .ref (b0 + o)), (1, .int x1)]) hC.1 hC.2.1 dX9_rueOf_20 rfl hl (by decide) rfl (fun ls hl => ?_)
      obtain ⟨n1, h⟩ := h
      exact qX9_rueOf_21 hC hr hlk n1 _ _ _ _ _ H locs ls h hM (lv_sub hl [2, 3, 1, 0] rfl)
    · have h := h.1 c_19
      refine lv_iconst (v := (-1)) hC.1 hC.2.1 dX9_rueOf_15 (by decide) ?_
      exact mm_iret hC hr hlk hM h dX9_rueOf_16
set_option maxHeartbeats 4000000 in
set_option maxRecDepth 100000 in
theorem qX9_bestOf_59 {p : Program} {l : Launch} {e : Env} {s : State} {m : MethodId} {args : Array Value} {below : List Frame} {meth : Method} {c : Code} {G : Gt} {b0 : Nat} (hC : CallFix p m c cX9_bestOf 5 s args lw_g RX9) (hr : meth.sig.returnType = (some .int)) (hlk : meth.locks = false) {K : Int32 → St → Prop} {B30 : Nat → Int32 → Int32 → Int32 → St → Prop} (hB30 : ∀ (x0 : Nat) (x1 : Int32) (x2 : Int32) (x3 : Int32) (S : St) (H : Heap) (locs : List Loc) (ls : Array Slot), B30 x0 x1 x2 x3 S → MM G b0 s S H locs → lv_has ls 5 [(0, .ref (b0 + x0)), (1, .int x1), (2, .int x2), (3, .int x3)] → W p l e rmX9_bestOf s m args below meth c H locs 0 0 (MQ below (va_Qi K (ME G b0) (AB b0)) args s 0 0 (AB b0)) (F0 m 30 ls [])) : ∀ (x0 : Nat) (x1 : Int32) (x2 : Int32) (x3 : Int32) (S : St) (H : Heap) (locs : List Loc) (ls : Array Slot), wX9_bestOf_59 K B30 x0 x1 x2 x3 S → MM G b0 s S H locs → lv_has ls 5 [(0, .ref (b0 + x0)), (1, .int x1), (2, .int x2), (3, .int x3)] → W p l e rmX9_bestOf s m args below meth c H locs 0 0 (MQ below (va_Qi K (ME G b0) (AB b0)) args s 0 0 (AB b0)) (F0 m 59 ls []) := by
  intro x0 x1 x2 x3 S H locs ls h hM hl
  unfold wX9_bestOf_59 at h
  obtain ⟨x3_1, ex3_1⟩ : ∃ y : Int32, y = x3 + 1 := ⟨_, rfl⟩
  have h := h x3_1 ex3_1
  refine lv_iinc (v := x3_1) (lv' := [(3, .int x3_1), (0, .ref (b0 + x0)), (1, .int x1), (2, .int x2)]) hC.1 hC.2.1 dX9_bestOf_59 hl (k := 3) rfl (by rw [ex3_1]; rfl) (by decide) rfl (fun ls hl => ?_)
  refine lv_goto (tgt := 30) hC.1 hC.2.1 dX9_bestOf_62 (by decide) ?_
  exact hB30 _ _ _ _ _ H locs ls h hM (lv_sub hl [1, 2, 3, 0] rfl)
set_option maxHeartbeats 4000000 in
set_option maxRecDepth 100000 in
theorem qX9_bestOf_30 {p : Program} {l : Launch} {e : Env} {s : State} {m : MethodId} {args : Array Value} {below : List Frame} {meth : Method} {c : Code} {G : Gt} {b0 : Nat} (hC : CallFix p m c cX9_bestOf 5 s args lw_g RX9) (hr : meth.sig.returnType = (some .int)) (hlk : meth.locks = false) {K : Int32 → St → Prop} : ∀ (n : Nat) (x0 : Nat) (x1 : Int32) (x2 : Int32) (x3 : Int32) (S : St) (H : Heap) (locs : List Loc) (ls : Array Slot), wX9_bestOf_30 K n x0 x1 x2 x3 S → MM G b0 s S H locs → lv_has ls 5 [(0, .ref (b0 + x0)), (1, .int x1), (2, .int x2), (3, .int x3)] → W p l e rmX9_bestOf s m args below meth c H locs 0 0 (MQ below (va_Qi K (ME G b0) (AB b0)) args s 0 0 (AB b0)) (F0 m 30 ls []) := by
  intro n
  induction n with
  | zero =>
    intro x0 x1 x2 x3 S H locs ls h
    exact False.elim h
  | succ n ih =>
    intro x0 x1 x2 x3 S H locs ls h hM hl
    rw [wX9_bestOf_30] at h
    refine lv_iload_n hC.1 hC.2.1 dX9_bestOf_30 rfl (lv_at hl 3 rfl) ?_
    refine lv_aload_n hC.1 hC.2.1 dX9_bestOf_31 rfl (lv_at hl 0 rfl) ?_
    obtain ⟨ok_2, h⟩ := h
    refine mm_gi hC hM (ci := 9) (j := 11) ok_2 rfl (by decide) (by decide) tw_802 rfl dX9_bestOf_32 ?_
    refine lv_icmp_ge (tgt := 65) hC.1 hC.2.1 dX9_bestOf_35 (by decide) (fun c_3 => ?_) (fun c_3 => ?_)
    · have h := h.1 c_3
      refine lv_iload_n hC.1 hC.2.1 dX9_bestOf_65 rfl (lv_at hl 1 rfl) ?_
      exact mm_iret hC hr hlk hM h dX9_bestOf_66
    · have h := h.2 c_3
      refine lv_aload_n hC.1 hC.2.1 dX9_bestOf_38 rfl (lv_at hl 0 rfl) ?_
      refine lv_iload_n hC.1 hC.2.1 dX9_bestOf_39 rfl (lv_at hl 3 rfl) ?_
      refine mm_ri hM (mm_V (As := [.int x3]) (rest := []) hC hM hl.1 (mX9_rueOf l G b0 S x0 x3 _) h (ci := 9) ok_2 rfl rfl kX9_rueOf tw_1038 rfl (by decide) rfl (Nat.le_of_ble_eq_true rfl) dX9_bestOf_40 (by decide)) (fun r_5 S_4 H locs h hM => ?_)
      refine lv_istore (lv' := [(4, .int r_5), (0, .ref (b0 + x0)), (1, .int x1), (2, .int x2), (3, .int x3)]) hC.1 hC.2.1 dX9_bestOf_43 hl (by decide) rfl (fun ls hl => ?_)
      refine lv_iload hC.1 hC.2.1 dX9_bestOf_45 (lv_at hl 0 rfl) ?_
      refine lv_iload_n hC.1 hC.2.1 dX9_bestOf_47 rfl (lv_at hl 3 rfl) ?_
      refine lv_icmp_lt (tgt := 54) hC.1 hC.2.1 dX9_bestOf_48 (by decide) (fun c_6 => ?_) (fun c_6 => ?_)
      · have h := h.1 c_6
        refine lv_iload hC.1 hC.2.1 dX9_bestOf_54 (lv_at hl 0 rfl) ?_
        refine lv_istore_n (lv' := [(2, .int r_5), (4, .int r_5), (0, .ref (b0 + x0)), (1, .int x1), (3, .int x3)]) hC.1 hC.2.1 dX9_bestOf_56 rfl hl (by decide) rfl (fun ls hl => ?_)
        refine lv_iload_n hC.1 hC.2.1 dX9_bestOf_57 rfl (lv_at hl 4 rfl) ?_
        refine lv_istore_n (lv' := [(1, .int x3), (2, .int r_5), (4, .int r_5), (0, .ref (b0 + x0)), (3, .int x3)]) hC.1 hC.2.1 dX9_bestOf_58 rfl hl (by decide) rfl (fun ls hl => ?_)
        exact qX9_bestOf_59 hC hr hlk ih _ _ _ _ _ H locs ls h hM (lv_sub hl [3, 0, 1, 4] rfl)
      · have h := h.2 c_6
        refine lv_goto (tgt := 59) hC.1 hC.2.1 dX9_bestOf_51 (by decide) ?_
        exact qX9_bestOf_59 hC hr hlk ih _ _ _ _ _ H locs ls h hM (lv_sub hl [1, 2, 3, 4] rfl)
set_option maxHeartbeats 4000000 in
set_option maxRecDepth 100000 in
theorem mX9_bestOf (l : Launch) (G : Gt) (b0 : Nat) (S : St) (o : Nat) (K : Int32 → St → Prop) : CI l G b0 S yX9_bestOf cX9_bestOf 5 (some .int) rmX9_bestOf [.ref (b0 + o)] (wX9_bestOf S o K) K := by
  refine met_of (by decide) (Nat.le_of_ble_eq_true rfl) rfl ?_
  intro p e s m below meth c hC hr hlk hin h H locs ls hM hl
  unfold wX9_bestOf at h
  refine lv_aload_n hC.1 hC.2.1 dX9_bestOf_0 rfl (lv_at hl 0 rfl) ?_
  obtain ⟨ok_9, h⟩ := h
  refine mm_ri hM (mm_V (As := []) (rest := []) hC hM hl.1 (mX9_worlds l G b0 S o _) h (ci := 9) ok_9 rfl rfl kX9_worlds tw_908 rfl (by decide) rfl (Nat.le_of_ble_eq_true rfl) dX9_bestOf_1 (by decide)) (fun r_8 S_7 H locs h hM => ?_)
  refine lv_if_ne (tgt := 10) hC.1 hC.2.1 dX9_bestOf_4 (by decide) (fun c_10 => ?_) (fun c_10 => ?_)
  · have h := h.2 c_10
    refine lv_aload_n hC.1 hC.2.1 dX9_bestOf_10 rfl (lv_at hl 0 rfl) ?_
    obtain ⟨ok_11, h⟩ := h
    refine mm_gi hC hM (ci := 9) (j := 11) ok_11 rfl (by decide) (by decide) tw_802 rfl dX9_bestOf_11 ?_
    refine lv_if_ne (tgt := 20) hC.1 hC.2.1 dX9_bestOf_14 (by decide) (fun c_12 => ?_) (fun c_12 => ?_)
    · have h := h.2 c_12
      refine lv_iconst (v := 0) hC.1 hC.2.1 dX9_bestOf_20 (by decide) ?_
      refine lv_istore_n (lv' := [(1, .int 0), (0, .ref (b0 + o))]) hC.1 hC.2.1 dX9_bestOf_21 rfl hl (by decide) rfl (fun ls hl => ?_)
      refine lv_aload_n hC.1 hC.2.1 dX9_bestOf_22 rfl (lv_at hl 1 rfl) ?_
      refine lv_iconst (v := 0) hC.1 hC.2.1 dX9_bestOf_23 (by decide) ?_
      refine mm_ri hM (mm_V (As := [.int 0]) (rest := []) hC hM hl.1 (mX9_rueOf l G b0 S_7 o 0 _) h (ci := 9) ok_11 rfl rfl kX9_rueOf tw_1038 rfl (by decide) rfl (Nat.le_of_ble_eq_true rfl) dX9_bestOf_24 (by decide)) (fun r_14 S_13 H locs h hM => ?_)
      refine lv_istore_n (lv' := [(2, .int r_14), (1, .int 0), (0, .ref (b0 + o))]) hC.1 hC.2.1 dX9_bestOf_27 rfl hl (by decide) rfl (fun ls hl => ?_)
      refine lv_iconst (v := 1) hC.1 hC.2.1 dX9_bestOf_28 (by decide) ?_
      refine lv_istore_n (lv' := [(3, .int 1), (2, .int r_14), (1, .int 0), (0, .ref (b0 + o))]) hC.1 hC.2.1 dX9_bestOf_29 rfl hl (by decide) rfl (fun ls hl => ?_)
      obtain ⟨n1, h⟩ := h
      exact qX9_bestOf_30 hC hr hlk n1 _ _ _ _ _ H locs ls h hM (lv_sub hl [3, 2, 1, 0] rfl)
    · have h := h.1 c_12
      refine lv_bipush (v := (-6)) hC.1 hC.2.1 dX9_bestOf_17 (by decide) ?_
      exact mm_iret hC hr hlk hM h dX9_bestOf_19
  · have h := h.1 c_10
    refine lv_bipush (v := (-2)) hC.1 hC.2.1 dX9_bestOf_7 (by decide) ?_
    exact mm_iret hC hr hlk hM h dX9_bestOf_9
set_option maxHeartbeats 4000000 in
set_option maxRecDepth 100000 in
theorem mX9_isSet (l : Launch) (G : Gt) (b0 : Nat) (S : St) (o : Nat) (x1 : Int32) (K : Int32 → St → Prop) : CI l G b0 S yX9_isSet cX9_isSet 2 (some .boolean) rmX9_isSet [.ref (b0 + o), .int x1] (wX9_isSet S o x1 K) K := by
  refine met_of (by decide) (Nat.le_of_ble_eq_true rfl) rfl ?_
  intro p e s m below meth c hC hr hlk hin h H locs ls hM hl
  unfold wX9_isSet at h
  refine lv_iload_n hC.1 hC.2.1 dX9_isSet_0 rfl (lv_at hl 1 rfl) ?_
  refine lv_if_lt (tgt := 18) hC.1 hC.2.1 dX9_isSet_1 (by decide) (fun c_1 => ?_) (fun c_1 => ?_)
  · have h := h.1 c_1
    refine lv_iconst (v := 0) hC.1 hC.2.1 dX9_isSet_18 (by decide) ?_
    exact mm_zret hC hr hlk hM rfl h dX9_isSet_19
  · have h := h.2 c_1
    refine lv_iload_n hC.1 hC.2.1 dX9_isSet_4 rfl (lv_at hl 1 rfl) ?_
    refine lv_iconst (v := 1) hC.1 hC.2.1 dX9_isSet_5 (by decide) ?_
    refine lv_aload_n hC.1 hC.2.1 dX9_isSet_6 rfl (lv_at hl 0 rfl) ?_
    obtain ⟨ok_2, h⟩ := h
    refine mm_gi hC hM (ci := 9) (j := 1) ok_2 rfl (by decide) (by decide) tw_792 rfl dX9_isSet_7 ?_
    refine lv_ishl hC.1 hC.2.1 dX9_isSet_10 ?_
    refine lv_icmp_ge (tgt := 18) hC.1 hC.2.1 dX9_isSet_11 (by decide) (fun c_3 => ?_) (fun c_3 => ?_)
    · have h := h.1 c_3
      refine lv_iconst (v := 0) hC.1 hC.2.1 dX9_isSet_18 (by decide) ?_
      exact mm_zret hC hr hlk hM rfl h dX9_isSet_19
    · have h := h.2 c_3
      refine lv_iconst (v := 1) hC.1 hC.2.1 dX9_isSet_14 (by decide) ?_
      refine lv_goto (tgt := 19) hC.1 hC.2.1 dX9_isSet_15 (by decide) ?_
      exact mm_zret hC hr hlk hM rfl h dX9_isSet_19
set_option maxHeartbeats 4000000 in
set_option maxRecDepth 100000 in
theorem mX9_cheapest (l : Launch) (G : Gt) (b0 : Nat) (S : St) (o : Nat) (x1 : Int32) (K : Int32 → St → Prop) : CI l G b0 S yX9_cheapest cX9_cheapest 2 (some .int) rmX9_cheapest [.ref (b0 + o), .int x1] (wX9_cheapest S o x1 K) K := by
  refine met_of (by decide) (Nat.le_of_ble_eq_true rfl) rfl ?_
  intro p e s m below meth c hC hr hlk hin h H locs ls hM hl
  unfold wX9_cheapest at h
  refine lv_aload_n hC.1 hC.2.1 dX9_cheapest_0 rfl (lv_at hl 0 rfl) ?_
  refine lv_iload_n hC.1 hC.2.1 dX9_cheapest_1 rfl (lv_at hl 1 rfl) ?_
  obtain ⟨ok_3, h⟩ := h
  refine mm_ri hM (mm_V (As := [.int x1]) (rest := []) hC hM hl.1 (mX9_isSet l G b0 S o x1 _) h (ci := 9) ok_3 rfl rfl kX9_isSet tw_940 rfl (by decide) rfl (Nat.le_of_ble_eq_true rfl) dX9_cheapest_2 (by decide)) (fun r_2 S_1 H locs h hM => ?_)
  refine lv_if_ne (tgt := 12) hC.1 hC.2.1 dX9_cheapest_5 (by decide) (fun c_4 => ?_) (fun c_4 => ?_)
  · have h := h.2 c_4
    refine lv_aload_n hC.1 hC.2.1 dX9_cheapest_12 rfl (lv_at hl 0 rfl) ?_
    obtain ⟨ok_5, h⟩ := h
    refine mm_gi hC hM (ci := 9) (j := 11) ok_5 rfl (by decide) (by decide) tw_802 rfl dX9_cheapest_13 ?_
    refine lv_if_ne (tgt := 24) hC.1 hC.2.1 dX9_cheapest_16 (by decide) (fun c_6 => ?_) (fun c_6 => ?_)
    · have h := h.2 c_6
      refine lv_aload_n hC.1 hC.2.1 dX9_cheapest_24 rfl (lv_at hl 0 rfl) ?_
      refine lv_iload_n hC.1 hC.2.1 dX9_cheapest_25 rfl (lv_at hl 1 rfl) ?_
      refine mm_ri hM (mm_V (As := [.int x1]) (rest := []) hC hM hl.1 (mX9_firstCheapest l G b0 S_1 o x1 _) h (ci := 9) ok_5 rfl rfl kX9_firstCheapest tw_952 rfl (by decide) rfl (Nat.le_of_ble_eq_true rfl) dX9_cheapest_26 (by decide)) (fun r_8 S_7 H locs h hM => ?_)
      exact mm_iret hC hr hlk hM h dX9_cheapest_29
    · have h := h.1 c_6
      refine lv_bipush (v := (-6)) hC.1 hC.2.1 dX9_cheapest_19 (by decide) ?_
      refine lv_goto (tgt := 29) hC.1 hC.2.1 dX9_cheapest_21 (by decide) ?_
      exact mm_iret hC hr hlk hM h dX9_cheapest_29
  · have h := h.1 c_4
    refine lv_iconst (v := (-1)) hC.1 hC.2.1 dX9_cheapest_8 (by decide) ?_
    refine lv_goto (tgt := 29) hC.1 hC.2.1 dX9_cheapest_9 (by decide) ?_
    exact mm_iret hC hr hlk hM h dX9_cheapest_29
set_option maxHeartbeats 4000000 in
set_option maxRecDepth 100000 in
theorem mX9_cheapestIn (l : Launch) (G : Gt) (b0 : Nat) (S : St) (o : Nat) (x1 : Int32) (K : Int32 → St → Prop) : CI l G b0 S yX9_cheapestIn cX9_cheapestIn 2 (some .int) rmX9_cheapestIn [.ref (b0 + o), .int x1] (wX9_cheapestIn S o x1 K) K := by
  refine met_of (by decide) (Nat.le_of_ble_eq_true rfl) rfl ?_
  intro p e s m below meth c hC hr hlk hin h H locs ls hM hl
  unfold wX9_cheapestIn at h
  refine lv_iload_n hC.1 hC.2.1 dX9_cheapestIn_0 rfl (lv_at hl 1 rfl) ?_
  refine lv_iconst (v := 0) hC.1 hC.2.1 dX9_cheapestIn_1 (by decide) ?_
  refine lv_bipush (v := 7) hC.1 hC.2.1 dX9_cheapestIn_2 (by decide) ?_
  refine mm_ri hM (mm_S (As := [.int x1, .int 0, .int 7]) (rest := []) hC hM hl.1 (mX9_in l G b0 S x1 0 7 _) h kX9_in tw_865 rfl (by decide) rfl (Nat.le_of_ble_eq_true rfl) dX9_cheapestIn_4 (by decide)) (fun r_2 S_1 H locs h hM => ?_)
  refine lv_if_ne (tgt := 14) hC.1 hC.2.1 dX9_cheapestIn_7 (by decide) (fun c_3 => ?_) (fun c_3 => ?_)
  · have h := h.2 c_3
    refine lv_aload_n hC.1 hC.2.1 dX9_cheapestIn_14 rfl (lv_at hl 0 rfl) ?_
    obtain ⟨ok_4, h⟩ := h
    refine mm_gr hC hM (ci := 9) (j := 9) ok_4 rfl (by decide) (by decide) tw_800 rfl dX9_cheapestIn_15 ?_
    refine lv_iload_n hC.1 hC.2.1 dX9_cheapestIn_18 rfl (lv_at hl 1 rfl) ?_
    obtain ⟨ok_5, h⟩ := h
    refine mm_zl hC hM ok_5 dX9_cheapestIn_19 ?_
    refine lv_if_ne (tgt := 28) hC.1 hC.2.1 dX9_cheapestIn_20 (by decide) (fun c_6 => ?_) (fun c_6 => ?_)
    · have h := h.2 c_6
      refine lv_aload_n hC.1 hC.2.1 dX9_cheapestIn_28 rfl (lv_at hl 0 rfl) ?_
      refine mm_gi hC hM (ci := 9) (j := 11) ok_4.1 rfl (by decide) (by decide) tw_802 rfl dX9_cheapestIn_29 ?_
      refine lv_if_ne (tgt := 40) hC.1 hC.2.1 dX9_cheapestIn_32 (by decide) (fun c_7 => ?_) (fun c_7 => ?_)
      · have h := h.2 c_7
        refine lv_aload_n hC.1 hC.2.1 dX9_cheapestIn_40 rfl (lv_at hl 0 rfl) ?_
        refine lv_iload_n hC.1 hC.2.1 dX9_cheapestIn_41 rfl (lv_at hl 1 rfl) ?_
        refine mm_ri hM (mm_V (As := [.int x1]) (rest := []) hC hM hl.1 (mX9_firstIn l G b0 S_1 o x1 _) h (ci := 9) ok_4.1 rfl rfl kX9_firstIn tw_1022 rfl (by decide) rfl (Nat.le_of_ble_eq_true rfl) dX9_cheapestIn_42 (by decide)) (fun r_9 S_8 H locs h hM => ?_)
        exact mm_iret hC hr hlk hM h dX9_cheapestIn_45
      · have h := h.1 c_7
        refine lv_bipush (v := (-6)) hC.1 hC.2.1 dX9_cheapestIn_35 (by decide) ?_
        refine lv_goto (tgt := 45) hC.1 hC.2.1 dX9_cheapestIn_37 (by decide) ?_
        exact mm_iret hC hr hlk hM h dX9_cheapestIn_45
    · have h := h.1 c_6
      refine lv_bipush (v := (-2)) hC.1 hC.2.1 dX9_cheapestIn_23 (by decide) ?_
      refine lv_goto (tgt := 45) hC.1 hC.2.1 dX9_cheapestIn_25 (by decide) ?_
      exact mm_iret hC hr hlk hM h dX9_cheapestIn_45
  · have h := h.1 c_3
    refine lv_iconst (v := (-1)) hC.1 hC.2.1 dX9_cheapestIn_10 (by decide) ?_
    refine lv_goto (tgt := 45) hC.1 hC.2.1 dX9_cheapestIn_11 (by decide) ?_
    exact mm_iret hC hr hlk hM h dX9_cheapestIn_45
set_option maxHeartbeats 4000000 in
set_option maxRecDepth 100000 in
theorem mX9_choice (l : Launch) (G : Gt) (b0 : Nat) (S : St) (o : Nat) (x1 : Int32) (K : Int32 → St → Prop) : CI l G b0 S yX9_choice cX9_choice 2 (some .int) rmX9_choice [.ref (b0 + o), .int x1] (wX9_choice S o x1 K) K := by
  refine met_of (by decide) (Nat.le_of_ble_eq_true rfl) rfl ?_
  intro p e s m below meth c hC hr hlk hin h H locs ls hM hl
  unfold wX9_choice at h
  refine lv_aload_n hC.1 hC.2.1 dX9_choice_0 rfl (lv_at hl 0 rfl) ?_
  refine lv_iload_n hC.1 hC.2.1 dX9_choice_1 rfl (lv_at hl 1 rfl) ?_
  obtain ⟨ok_3, h⟩ := h
  refine mm_ri hM (mm_V (As := [.int x1]) (rest := []) hC hM hl.1 (mX9_isChoiceNumber l G b0 S o x1 _) h (ci := 9) ok_3 rfl rfl kX9_isChoiceNumber tw_924 rfl (by decide) rfl (Nat.le_of_ble_eq_true rfl) dX9_choice_2 (by decide)) (fun r_2 S_1 H locs h hM => ?_)
  refine lv_if_eq (tgt := 17) hC.1 hC.2.1 dX9_choice_5 (by decide) (fun c_4 => ?_) (fun c_4 => ?_)
  · have h := h.1 c_4
    refine lv_iconst (v := (-1)) hC.1 hC.2.1 dX9_choice_17 (by decide) ?_
    exact mm_iret hC hr hlk hM h dX9_choice_18
  · have h := h.2 c_4
    refine lv_aload_n hC.1 hC.2.1 dX9_choice_8 rfl (lv_at hl 0 rfl) ?_
    obtain ⟨ok_5, h⟩ := h
    refine mm_gr hC hM (ci := 9) (j := 12) ok_5 rfl (by decide) (by decide) tw_803 rfl dX9_choice_9 ?_
    refine lv_iload_n hC.1 hC.2.1 dX9_choice_12 rfl (lv_at hl 1 rfl) ?_
    obtain ⟨ok_6, h⟩ := h
    refine mm_il hC hM ok_6 dX9_choice_13 ?_
    refine lv_goto (tgt := 18) hC.1 hC.2.1 dX9_choice_14 (by decide) ?_
    exact mm_iret hC hr hlk hM h dX9_choice_18
set_option maxHeartbeats 4000000 in
set_option maxRecDepth 100000 in
theorem mX9_cost (l : Launch) (G : Gt) (b0 : Nat) (S : St) (o : Nat) (x1 : Int32) (x2 : Int32) (K : Int32 → St → Prop) : CI l G b0 S yX9_cost cX9_cost 3 (some .int) rmX9_cost [.ref (b0 + o), .int x1, .int x2] (wX9_cost S o x1 x2 K) K := by
  refine met_of (by decide) (Nat.le_of_ble_eq_true rfl) rfl ?_
  intro p e s m below meth c hC hr hlk hin h H locs ls hM hl
  unfold wX9_cost at h
  refine lv_aload_n hC.1 hC.2.1 dX9_cost_0 rfl (lv_at hl 0 rfl) ?_
  refine lv_iload_n hC.1 hC.2.1 dX9_cost_1 rfl (lv_at hl 1 rfl) ?_
  obtain ⟨ok_3, h⟩ := h
  refine mm_ri hM (mm_V (As := [.int x1]) (rest := []) hC hM hl.1 (mX9_isChoiceNumber l G b0 S o x1 _) h (ci := 9) ok_3 rfl rfl kX9_isChoiceNumber tw_924 rfl (by decide) rfl (Nat.le_of_ble_eq_true rfl) dX9_cost_2 (by decide)) (fun r_2 S_1 H locs h hM => ?_)
  refine lv_if_eq (tgt := 30) hC.1 hC.2.1 dX9_cost_5 (by decide) (fun c_4 => ?_) (fun c_4 => ?_)
  · have h := h.1 c_4
    refine lv_iconst (v := (-1)) hC.1 hC.2.1 dX9_cost_30 (by decide) ?_
    exact mm_iret hC hr hlk hM h dX9_cost_31
  · have h := h.2 c_4
    refine lv_aload_n hC.1 hC.2.1 dX9_cost_8 rfl (lv_at hl 0 rfl) ?_
    refine lv_iload_n hC.1 hC.2.1 dX9_cost_9 rfl (lv_at hl 2 rfl) ?_
    obtain ⟨ok_7, h⟩ := h
    refine mm_ri hM (mm_V (As := [.int x2]) (rest := []) hC hM hl.1 (mX9_isSet l G b0 S_1 o x2 _) h (ci := 9) ok_7 rfl rfl kX9_isSet tw_940 rfl (by decide) rfl (Nat.le_of_ble_eq_true rfl) dX9_cost_10 (by decide)) (fun r_6 S_5 H locs h hM => ?_)
    refine lv_if_eq (tgt := 30) hC.1 hC.2.1 dX9_cost_13 (by decide) (fun c_8 => ?_) (fun c_8 => ?_)
    · have h := h.1 c_8
      refine lv_iconst (v := (-1)) hC.1 hC.2.1 dX9_cost_30 (by decide) ?_
      exact mm_iret hC hr hlk hM h dX9_cost_31
    · have h := h.2 c_8
      refine lv_aload_n hC.1 hC.2.1 dX9_cost_16 rfl (lv_at hl 0 rfl) ?_
      refine lv_aload_n hC.1 hC.2.1 dX9_cost_17 rfl (lv_at hl 0 rfl) ?_
      obtain ⟨ok_9, h⟩ := h
      refine mm_gr hC hM (ci := 9) (j := 12) ok_9 rfl (by decide) (by decide) tw_803 rfl dX9_cost_18 ?_
      refine lv_iload_n hC.1 hC.2.1 dX9_cost_21 rfl (lv_at hl 1 rfl) ?_
      obtain ⟨ok_10, h⟩ := h
      refine mm_il hC hM ok_10 dX9_cost_22 ?_
      refine lv_iload_n hC.1 hC.2.1 dX9_cost_23 rfl (lv_at hl 2 rfl) ?_
      refine mm_ri hM (mm_V (As := [.int (sI S_5 (sR S_5 o 12) (x1 : Int32).toNatClampNeg), .int x2]) (rest := []) hC hM hl.1 (mX9_sum l G b0 S_5 o (sI S_5 (sR S_5 o 12) (x1 : Int32).toNatClampNeg) x2 _) h (ci := 9) ok_9.1 rfl rfl kX9_sum tw_944 rfl (by decide) rfl (Nat.le_of_ble_eq_true rfl) dX9_cost_24 (by decide)) (fun r_12 S_11 H locs h hM => ?_)
      refine lv_goto (tgt := 31) hC.1 hC.2.1 dX9_cost_27 (by decide) ?_
      exact mm_iret hC hr hlk hM h dX9_cost_31
set_option maxHeartbeats 4000000 in
set_option maxRecDepth 100000 in
theorem mX9_isThere (l : Launch) (G : Gt) (b0 : Nat) (S : St) (o : Nat) (x1 : Int32) (K : Int32 → St → Prop) : CI l G b0 S yX9_isThere cX9_isThere 2 (some .boolean) rmX9_isThere [.ref (b0 + o), .int x1] (wX9_isThere S o x1 K) K := by
  refine met_of (by decide) (Nat.le_of_ble_eq_true rfl) rfl ?_
  intro p e s m below meth c hC hr hlk hin h H locs ls hM hl
  unfold wX9_isThere at h
  refine lv_iload_n hC.1 hC.2.1 dX9_isThere_0 rfl (lv_at hl 1 rfl) ?_
  refine lv_iconst (v := 0) hC.1 hC.2.1 dX9_isThere_1 (by decide) ?_
  refine lv_bipush (v := 7) hC.1 hC.2.1 dX9_isThere_2 (by decide) ?_
  refine mm_ri hM (mm_S (As := [.int x1, .int 0, .int 7]) (rest := []) hC hM hl.1 (mX9_in l G b0 S x1 0 7 _) h kX9_in tw_865 rfl (by decide) rfl (Nat.le_of_ble_eq_true rfl) dX9_isThere_4 (by decide)) (fun r_2 S_1 H locs h hM => ?_)
  refine lv_if_eq (tgt := 23) hC.1 hC.2.1 dX9_isThere_7 (by decide) (fun c_3 => ?_) (fun c_3 => ?_)
  · have h := h.1 c_3
    refine lv_iconst (v := 0) hC.1 hC.2.1 dX9_isThere_23 (by decide) ?_
    exact mm_zret hC hr hlk hM rfl h dX9_isThere_24
  · have h := h.2 c_3
    refine lv_aload_n hC.1 hC.2.1 dX9_isThere_10 rfl (lv_at hl 0 rfl) ?_
    obtain ⟨ok_4, h⟩ := h
    refine mm_gr hC hM (ci := 9) (j := 9) ok_4 rfl (by decide) (by decide) tw_800 rfl dX9_isThere_11 ?_
    refine lv_iload_n hC.1 hC.2.1 dX9_isThere_14 rfl (lv_at hl 1 rfl) ?_
    obtain ⟨ok_5, h⟩ := h
    refine mm_zl hC hM ok_5 dX9_isThere_15 ?_
    refine lv_if_eq (tgt := 23) hC.1 hC.2.1 dX9_isThere_16 (by decide) (fun c_6 => ?_) (fun c_6 => ?_)
    · have h := h.1 c_6
      refine lv_iconst (v := 0) hC.1 hC.2.1 dX9_isThere_23 (by decide) ?_
      exact mm_zret hC hr hlk hM rfl h dX9_isThere_24
    · have h := h.2 c_6
      refine lv_iconst (v := 1) hC.1 hC.2.1 dX9_isThere_19 (by decide) ?_
      refine lv_goto (tgt := 24) hC.1 hC.2.1 dX9_isThere_20 (by decide) ?_
      exact mm_zret hC hr hlk hM rfl h dX9_isThere_24
set_option maxHeartbeats 4000000 in
set_option maxRecDepth 100000 in
theorem mX9_costIn (l : Launch) (G : Gt) (b0 : Nat) (S : St) (o : Nat) (x1 : Int32) (x2 : Int32) (K : Int32 → St → Prop) : CI l G b0 S yX9_costIn cX9_costIn 3 (some .int) rmX9_costIn [.ref (b0 + o), .int x1, .int x2] (wX9_costIn S o x1 x2 K) K := by
  refine met_of (by decide) (Nat.le_of_ble_eq_true rfl) rfl ?_
  intro p e s m below meth c hC hr hlk hin h H locs ls hM hl
  unfold wX9_costIn at h
  refine lv_aload_n hC.1 hC.2.1 dX9_costIn_0 rfl (lv_at hl 0 rfl) ?_
  refine lv_iload_n hC.1 hC.2.1 dX9_costIn_1 rfl (lv_at hl 1 rfl) ?_
  obtain ⟨ok_3, h⟩ := h
  refine mm_ri hM (mm_V (As := [.int x1]) (rest := []) hC hM hl.1 (mX9_isThere l G b0 S o x1 _) h (ci := 9) ok_3 rfl rfl kX9_isThere tw_1010 rfl (by decide) rfl (Nat.le_of_ble_eq_true rfl) dX9_costIn_2 (by decide)) (fun r_2 S_1 H locs h hM => ?_)
  refine lv_if_eq (tgt := 30) hC.1 hC.2.1 dX9_costIn_5 (by decide) (fun c_4 => ?_) (fun c_4 => ?_)
  · have h := h.1 c_4
    refine lv_iconst (v := (-1)) hC.1 hC.2.1 dX9_costIn_30 (by decide) ?_
    exact mm_iret hC hr hlk hM h dX9_costIn_31
  · have h := h.2 c_4
    refine lv_aload_n hC.1 hC.2.1 dX9_costIn_8 rfl (lv_at hl 0 rfl) ?_
    refine lv_iload_n hC.1 hC.2.1 dX9_costIn_9 rfl (lv_at hl 2 rfl) ?_
    obtain ⟨ok_7, h⟩ := h
    refine mm_ri hM (mm_V (As := [.int x2]) (rest := []) hC hM hl.1 (mX9_isChoiceNumber l G b0 S_1 o x2 _) h (ci := 9) ok_7 rfl rfl kX9_isChoiceNumber tw_924 rfl (by decide) rfl (Nat.le_of_ble_eq_true rfl) dX9_costIn_10 (by decide)) (fun r_6 S_5 H locs h hM => ?_)
    refine lv_if_eq (tgt := 30) hC.1 hC.2.1 dX9_costIn_13 (by decide) (fun c_8 => ?_) (fun c_8 => ?_)
    · have h := h.1 c_8
      refine lv_iconst (v := (-1)) hC.1 hC.2.1 dX9_costIn_30 (by decide) ?_
      exact mm_iret hC hr hlk hM h dX9_costIn_31
    · have h := h.2 c_8
      refine lv_aload_n hC.1 hC.2.1 dX9_costIn_16 rfl (lv_at hl 0 rfl) ?_
      refine lv_iload_n hC.1 hC.2.1 dX9_costIn_17 rfl (lv_at hl 1 rfl) ?_
      refine lv_aload_n hC.1 hC.2.1 dX9_costIn_18 rfl (lv_at hl 0 rfl) ?_
      obtain ⟨ok_9, h⟩ := h
      refine mm_gr hC hM (ci := 9) (j := 12) ok_9 rfl (by decide) (by decide) tw_803 rfl dX9_costIn_19 ?_
      refine lv_iload_n hC.1 hC.2.1 dX9_costIn_22 rfl (lv_at hl 2 rfl) ?_
      obtain ⟨ok_10, h⟩ := h
      refine mm_il hC hM ok_10 dX9_costIn_23 ?_
      refine mm_ri hM (mm_V (As := [.int x1, .int (sI S_5 (sR S_5 o 12) (x2 : Int32).toNatClampNeg)]) (rest := []) hC hM hl.1 (mX9_sumIn l G b0 S_5 o x1 (sI S_5 (sR S_5 o 12) (x2 : Int32).toNatClampNeg) _) h (ci := 9) ok_9.1 rfl rfl kX9_sumIn tw_1014 rfl (by decide) rfl (Nat.le_of_ble_eq_true rfl) dX9_costIn_24 (by decide)) (fun r_12 S_11 H locs h hM => ?_)
      refine lv_goto (tgt := 31) hC.1 hC.2.1 dX9_costIn_27 (by decide) ?_
      exact mm_iret hC hr hlk hM h dX9_costIn_31
set_option maxHeartbeats 4000000 in
set_option maxRecDepth 100000 in
theorem qX9_count_90 {p : Program} {l : Launch} {e : Env} {s : State} {m : MethodId} {args : Array Value} {below : List Frame} {meth : Method} {c : Code} {G : Gt} {b0 : Nat} (hC : CallFix p m c cX9_count 4 s args lw_g RX9) (hr : meth.sig.returnType = (some .int)) (hlk : meth.locks = false) {K : Int32 → St → Prop} {B69 : Nat → Int32 → Int32 → St → Prop} (hB69 : ∀ (x0 : Nat) (x2 : Int32) (x3 : Int32) (S : St) (H : Heap) (locs : List Loc) (ls : Array Slot), B69 x0 x2 x3 S → MM G b0 s S H locs → lv_has ls 4 [(0, .ref (b0 + x0)), (2, .int x2), (3, .int x3)] → W p l e rmX9_count s m args below meth c H locs 0 0 (MQ below (va_Qi K (ME G b0) (AB b0)) args s 0 0 (AB b0)) (F0 m 69 ls [])) : ∀ (x0 : Nat) (x3 : Int32) (t0 : Int32) (t1 : Int32) (S : St) (H : Heap) (locs : List Loc) (ls : Array Slot), wX9_count_90 K B69 x0 x3 t0 t1 S → MM G b0 s S H locs → lv_has ls 4 [(0, .ref (b0 + x0)), (3, .int x3)] → W p l e rmX9_count s m args below meth c H locs 0 0 (MQ below (va_Qi K (ME G b0) (AB b0)) args s 0 0 (AB b0)) (F0 m 90 ls [.int t1, .int t0]) := by
  intro x0 x3 t0 t1 S H locs ls h hM hl
  unfold wX9_count_90 at h
  refine lv_iadd hC.1 hC.2.1 dX9_count_90 ?_
  refine lv_topi (fun x2_1 ex2_1 => ?_)
  have h := h x2_1 ex2_1
  refine lv_istore_n (lv' := [(2, .int x2_1), (0, .ref (b0 + x0)), (3, .int x3)]) hC.1 hC.2.1 dX9_count_91 rfl hl (by decide) rfl (fun ls hl => ?_)
  obtain ⟨x3_2, ex3_2⟩ : ∃ y : Int32, y = x3 + 1 := ⟨_, rfl⟩
  have h := h x3_2 ex3_2
  refine lv_iinc (v := x3_2) (lv' := [(3, .int x3_2), (2, .int x2_1), (0, .ref (b0 + x0))]) hC.1 hC.2.1 dX9_count_92 hl (k := 2) rfl (by rw [ex3_2]; rfl) (by decide) rfl (fun ls hl => ?_)
  refine lv_goto (tgt := 69) hC.1 hC.2.1 dX9_count_95 (by decide) ?_
  exact hB69 _ _ _ _ H locs ls h hM (lv_sub hl [2, 1, 0] rfl)
set_option maxHeartbeats 4000000 in
set_option maxRecDepth 100000 in
theorem qX9_count_69 {p : Program} {l : Launch} {e : Env} {s : State} {m : MethodId} {args : Array Value} {below : List Frame} {meth : Method} {c : Code} {G : Gt} {b0 : Nat} (hC : CallFix p m c cX9_count 4 s args lw_g RX9) (hr : meth.sig.returnType = (some .int)) (hlk : meth.locks = false) {K : Int32 → St → Prop} : ∀ (n : Nat) (x0 : Nat) (x2 : Int32) (x3 : Int32) (S : St) (H : Heap) (locs : List Loc) (ls : Array Slot), wX9_count_69 K n x0 x2 x3 S → MM G b0 s S H locs → lv_has ls 4 [(0, .ref (b0 + x0)), (2, .int x2), (3, .int x3)] → W p l e rmX9_count s m args below meth c H locs 0 0 (MQ below (va_Qi K (ME G b0) (AB b0)) args s 0 0 (AB b0)) (F0 m 69 ls []) := by
  intro n
  induction n with
  | zero =>
    intro x0 x2 x3 S H locs ls h
    exact False.elim h
  | succ n ih =>
    intro x0 x2 x3 S H locs ls h hM hl
    rw [wX9_count_69] at h
    refine lv_iload_n hC.1 hC.2.1 dX9_count_69 rfl (lv_at hl 2 rfl) ?_
    refine lv_iconst (v := 4) hC.1 hC.2.1 dX9_count_70 (by decide) ?_
    refine lv_icmp_ge (tgt := 98) hC.1 hC.2.1 dX9_count_71 (by decide) (fun c_3 => ?_) (fun c_3 => ?_)
    · have h := h.1 c_3
      refine lv_iload_n hC.1 hC.2.1 dX9_count_98 rfl (lv_at hl 1 rfl) ?_
      exact mm_iret hC hr hlk hM h dX9_count_99
    · have h := h.2 c_3
      refine lv_iload_n hC.1 hC.2.1 dX9_count_74 rfl (lv_at hl 1 rfl) ?_
      refine lv_aload_n hC.1 hC.2.1 dX9_count_75 rfl (lv_at hl 0 rfl) ?_
      obtain ⟨ok_4, h⟩ := h
      refine mm_gr hC hM (ci := 9) (j := 14) ok_4 rfl (by decide) (by decide) tw_805 rfl dX9_count_76 ?_
      refine lv_iload_n hC.1 hC.2.1 dX9_count_79 rfl (lv_at hl 2 rfl) ?_
      obtain ⟨ok_5, h⟩ := h
      refine mm_il hC hM ok_5 dX9_count_80 ?_
      refine lv_iconst (v := (-1)) hC.1 hC.2.1 dX9_count_81 (by decide) ?_
      refine lv_icmp_ne (tgt := 89) hC.1 hC.2.1 dX9_count_82 (by decide) (fun c_6 => ?_) (fun c_6 => ?_)
      · have h := h.2 c_6
        refine lv_iconst (v := 1) hC.1 hC.2.1 dX9_count_89 (by decide) ?_
        exact qX9_count_90 hC hr hlk ih _ _ _ _ _ H locs ls h hM (lv_sub hl [0, 2] rfl)
      · have h := h.1 c_6
        refine lv_iconst (v := 0) hC.1 hC.2.1 dX9_count_85 (by decide) ?_
        refine lv_goto (tgt := 90) hC.1 hC.2.1 dX9_count_86 (by decide) ?_
        exact qX9_count_90 hC hr hlk ih _ _ _ _ _ H locs ls h hM (lv_sub hl [0, 2] rfl)
set_option maxHeartbeats 4000000 in
set_option maxRecDepth 100000 in
theorem mX9_count (l : Launch) (G : Gt) (b0 : Nat) (S : St) (o : Nat) (x1 : Int32) (K : Int32 → St → Prop) : CI l G b0 S yX9_count cX9_count 4 (some .int) rmX9_count [.ref (b0 + o), .int x1] (wX9_count S o x1 K) K := by
  refine met_of (by decide) (Nat.le_of_ble_eq_true rfl) rfl ?_
  intro p e s m below meth c hC hr hlk hin h H locs ls hM hl
  unfold wX9_count at h
  refine lv_iload_n hC.1 hC.2.1 dX9_count_0 rfl (lv_at hl 1 rfl) ?_
  refine mm_sw (lo := 0) (hi := 5) hC.1 hC.2.1 dX9_count_1 (by decide) (fun c_7 => ?_) ?_
  · have h := h.1 c_7
    refine ⟨100, by decide, ?_⟩
    refine lv_iconst (v := (-1)) hC.1 hC.2.1 dX9_count_100 (by decide) ?_
    exact mm_iret hC hr hlk hM h dX9_count_101
  · intro i hi
    match i, hi with
    | 0, _ =>
      intro c_7
      have h := h.2.1 (c_7.trans (by decide))
      refine ⟨40, by decide, ?_⟩
      refine lv_aload_n hC.1 hC.2.1 dX9_count_40 rfl (lv_at hl 0 rfl) ?_
      obtain ⟨ok_8, h⟩ := h
      refine mm_gi hC hM (ci := 9) (j := 1) ok_8 rfl (by decide) (by decide) tw_792 rfl dX9_count_41 ?_
      exact mm_iret hC hr hlk hM h dX9_count_44
    | 1, _ =>
      intro c_7
      have h := h.2.2.1 (c_7.trans (by decide))
      refine ⟨45, by decide, ?_⟩
      refine lv_aload_n hC.1 hC.2.1 dX9_count_45 rfl (lv_at hl 0 rfl) ?_
      obtain ⟨ok_9, h⟩ := h
      refine mm_gi hC hM (ci := 9) (j := 11) ok_9 rfl (by decide) (by decide) tw_802 rfl dX9_count_46 ?_
      exact mm_iret hC hr hlk hM h dX9_count_49
    | 2, _ =>
      intro c_7
      have h := h.2.2.2.1 (c_7.trans (by decide))
      refine ⟨50, by decide, ?_⟩
      refine lv_aload_n hC.1 hC.2.1 dX9_count_50 rfl (lv_at hl 0 rfl) ?_
      obtain ⟨ok_12, h⟩ := h
      refine mm_ri hM (mm_V (As := []) (rest := []) hC hM hl.1 (mX9_worlds l G b0 S o _) h (ci := 9) ok_12 rfl rfl kX9_worlds tw_908 rfl (by decide) rfl (Nat.le_of_ble_eq_true rfl) dX9_count_51 (by decide)) (fun r_11 S_10 H locs h hM => ?_)
      exact mm_iret hC hr hlk hM h dX9_count_54
    | 3, _ =>
      intro c_7
      have h := h.2.2.2.2.1 (c_7.trans (by decide))
      refine ⟨55, by decide, ?_⟩
      refine lv_aload_n hC.1 hC.2.1 dX9_count_55 rfl (lv_at hl 0 rfl) ?_
      obtain ⟨ok_13, h⟩ := h
      refine mm_gi hC hM (ci := 9) (j := 2) ok_13 rfl (by decide) (by decide) tw_793 rfl dX9_count_56 ?_
      exact mm_iret hC hr hlk hM h dX9_count_59
    | 4, _ =>
      intro c_7
      have h := h.2.2.2.2.2.1 (c_7.trans (by decide))
      refine ⟨60, by decide, ?_⟩
      refine lv_aload_n hC.1 hC.2.1 dX9_count_60 rfl (lv_at hl 0 rfl) ?_
      obtain ⟨ok_14, h⟩ := h
      refine mm_gi hC hM (ci := 9) (j := 3) ok_14 rfl (by decide) (by decide) tw_794 rfl dX9_count_61 ?_
      exact mm_iret hC hr hlk hM h dX9_count_64
    | 5, _ =>
      intro c_7
      have h := h.2.2.2.2.2.2 (c_7.trans (by decide))
      refine ⟨65, by decide, ?_⟩
      refine lv_iconst (v := 0) hC.1 hC.2.1 dX9_count_65 (by decide) ?_
      refine lv_istore_n (lv' := [(2, .int 0), (0, .ref (b0 + o)), (1, .int x1)]) hC.1 hC.2.1 dX9_count_66 rfl hl (by decide) rfl (fun ls hl => ?_)
      refine lv_iconst (v := 0) hC.1 hC.2.1 dX9_count_67 (by decide) ?_
      refine lv_istore_n (lv' := [(3, .int 0), (2, .int 0), (0, .ref (b0 + o)), (1, .int x1)]) hC.1 hC.2.1 dX9_count_68 rfl hl (by decide) rfl (fun ls hl => ?_)
      obtain ⟨n1, h⟩ := h
      exact qX9_count_69 hC hr hlk n1 _ _ _ _ H locs ls h hM (lv_sub hl [2, 1, 0] rfl)
    | q + 6, hi => exact absurd hi (by simp)
set_option maxHeartbeats 4000000 in
set_option maxRecDepth 100000 in
theorem qX9_dearestAt_95 {p : Program} {l : Launch} {e : Env} {s : State} {m : MethodId} {args : Array Value} {below : List Frame} {meth : Method} {c : Code} {G : Gt} {b0 : Nat} (hC : CallFix p m c cX9_dearestAt 7 s args lw_g RX9) (hr : meth.sig.returnType = (some .int)) (hlk : meth.locks = false) {K : Int32 → St → Prop} {B17 : Nat → Int32 → Int32 → Int32 → Int32 → Int32 → Int32 → St → Prop} (hB17 : ∀ (x0 : Nat) (x1 : Int32) (x2 : Int32) (x3 : Int32) (x4 : Int32) (x5 : Int32) (x6 : Int32) (S : St) (H : Heap) (locs : List Loc) (ls : Array Slot), B17 x0 x1 x2 x3 x4 x5 x6 S → MM G b0 s S H locs → lv_has ls 7 [(0, .ref (b0 + x0)), (1, .int x1), (2, .int x2), (3, .int x3), (4, .int x4), (5, .int x5), (6, .int x6)] → W p l e rmX9_dearestAt s m args below meth c H locs 0 0 (MQ below (va_Qi K (ME G b0) (AB b0)) args s 0 0 (AB b0)) (F0 m 17 ls [])) : ∀ (x0 : Nat) (x1 : Int32) (x2 : Int32) (x3 : Int32) (x4 : Int32) (x5 : Int32) (x6 : Int32) (S : St) (H : Heap) (locs : List Loc) (ls : Array Slot), wX9_dearestAt_95 K B17 x0 x1 x2 x3 x4 x5 x6 S → MM G b0 s S H locs → lv_has ls 7 [(0, .ref (b0 + x0)), (1, .int x1), (2, .int x2), (3, .int x3), (4, .int x4), (5, .int x5), (6, .int x6)] → W p l e rmX9_dearestAt s m args below meth c H locs 0 0 (MQ below (va_Qi K (ME G b0) (AB b0)) args s 0 0 (AB b0)) (F0 m 95 ls []) := by
  intro x0 x1 x2 x3 x4 x5 x6 S H locs ls h hM hl
  unfold wX9_dearestAt_95 at h
  obtain ⟨x6_1, ex6_1⟩ : ∃ y : Int32, y = x6 + 1 := ⟨_, rfl⟩
  have h := h x6_1 ex6_1
  refine lv_iinc (v := x6_1) (lv' := [(6, .int x6_1), (0, .ref (b0 + x0)), (1, .int x1), (2, .int x2), (3, .int x3), (4, .int x4), (5, .int x5)]) hC.1 hC.2.1 dX9_dearestAt_95 hl (k := 6) rfl (by rw [ex6_1]; rfl) (by decide) rfl (fun ls hl => ?_)
  refine lv_goto (tgt := 17) hC.1 hC.2.1 dX9_dearestAt_98 (by decide) ?_
  exact hB17 _ _ _ _ _ _ _ _ H locs ls h hM (lv_sub hl [1, 2, 3, 4, 5, 6, 0] rfl)
set_option maxHeartbeats 4000000 in
set_option maxRecDepth 100000 in
theorem qX9_dearestAt_91 {p : Program} {l : Launch} {e : Env} {s : State} {m : MethodId} {args : Array Value} {below : List Frame} {meth : Method} {c : Code} {G : Gt} {b0 : Nat} (hC : CallFix p m c cX9_dearestAt 7 s args lw_g RX9) (hr : meth.sig.returnType = (some .int)) (hlk : meth.locks = false) {K : Int32 → St → Prop} {B17 : Nat → Int32 → Int32 → Int32 → Int32 → Int32 → Int32 → St → Prop} (hB17 : ∀ (x0 : Nat) (x1 : Int32) (x2 : Int32) (x3 : Int32) (x4 : Int32) (x5 : Int32) (x6 : Int32) (S : St) (H : Heap) (locs : List Loc) (ls : Array Slot), B17 x0 x1 x2 x3 x4 x5 x6 S → MM G b0 s S H locs → lv_has ls 7 [(0, .ref (b0 + x0)), (1, .int x1), (2, .int x2), (3, .int x3), (4, .int x4), (5, .int x5), (6, .int x6)] → W p l e rmX9_dearestAt s m args below meth c H locs 0 0 (MQ below (va_Qi K (ME G b0) (AB b0)) args s 0 0 (AB b0)) (F0 m 17 ls [])) : ∀ (x0 : Nat) (x1 : Int32) (x2 : Int32) (x3 : Int32) (x4 : Int32) (x6 : Int32) (S : St) (H : Heap) (locs : List Loc) (ls : Array Slot), wX9_dearestAt_91 K B17 x0 x1 x2 x3 x4 x6 S → MM G b0 s S H locs → lv_has ls 7 [(0, .ref (b0 + x0)), (1, .int x1), (2, .int x2), (3, .int x3), (4, .int x4), (6, .int x6)] → W p l e rmX9_dearestAt s m args below meth c H locs 0 0 (MQ below (va_Qi K (ME G b0) (AB b0)) args s 0 0 (AB b0)) (F0 m 91 ls []) := by
  intro x0 x1 x2 x3 x4 x6 S H locs ls h hM hl
  unfold wX9_dearestAt_91 at h
  refine lv_iload hC.1 hC.2.1 dX9_dearestAt_91 (lv_at hl 5 rfl) ?_
  refine lv_istore (lv' := [(5, .int x6), (0, .ref (b0 + x0)), (1, .int x1), (2, .int x2), (3, .int x3), (4, .int x4), (6, .int x6)]) hC.1 hC.2.1 dX9_dearestAt_93 hl (by decide) rfl (fun ls hl => ?_)
  exact qX9_dearestAt_95 hC hr hlk hB17 _ _ _ _ _ _ _ _ H locs ls h hM (lv_sub hl [1, 2, 3, 4, 5, 0, 6] rfl)
set_option maxHeartbeats 4000000 in
set_option maxRecDepth 100000 in
theorem qX9_dearestAt_114 {p : Program} {l : Launch} {e : Env} {s : State} {m : MethodId} {args : Array Value} {below : List Frame} {meth : Method} {c : Code} {G : Gt} {b0 : Nat} (hC : CallFix p m c cX9_dearestAt 7 s args lw_g RX9) (hr : meth.sig.returnType = (some .int)) (hlk : meth.locks = false) {K : Int32 → St → Prop} {B5 : Nat → Int32 → Int32 → Int32 → Int32 → St → Prop} (hB5 : ∀ (x0 : Nat) (x1 : Int32) (x2 : Int32) (x3 : Int32) (x4 : Int32) (S : St) (H : Heap) (locs : List Loc) (ls : Array Slot), B5 x0 x1 x2 x3 x4 S → MM G b0 s S H locs → lv_has ls 7 [(0, .ref (b0 + x0)), (1, .int x1), (2, .int x2), (3, .int x3), (4, .int x4)] → W p l e rmX9_dearestAt s m args below meth c H locs 0 0 (MQ below (va_Qi K (ME G b0) (AB b0)) args s 0 0 (AB b0)) (F0 m 5 ls [])) : ∀ (x0 : Nat) (x1 : Int32) (x2 : Int32) (x3 : Int32) (x4 : Int32) (S : St) (H : Heap) (locs : List Loc) (ls : Array Slot), wX9_dearestAt_114 K B5 x0 x1 x2 x3 x4 S → MM G b0 s S H locs → lv_has ls 7 [(0, .ref (b0 + x0)), (1, .int x1), (2, .int x2), (3, .int x3), (4, .int x4)] → W p l e rmX9_dearestAt s m args below meth c H locs 0 0 (MQ below (va_Qi K (ME G b0) (AB b0)) args s 0 0 (AB b0)) (F0 m 114 ls []) := by
  intro x0 x1 x2 x3 x4 S H locs ls h hM hl
  unfold wX9_dearestAt_114 at h
  obtain ⟨x4_2, ex4_2⟩ : ∃ y : Int32, y = x4 + 1 := ⟨_, rfl⟩
  have h := h x4_2 ex4_2
  refine lv_iinc (v := x4_2) (lv' := [(4, .int x4_2), (0, .ref (b0 + x0)), (1, .int x1), (2, .int x2), (3, .int x3)]) hC.1 hC.2.1 dX9_dearestAt_114 hl (k := 4) rfl (by rw [ex4_2]; rfl) (by decide) rfl (fun ls hl => ?_)
  refine lv_goto (tgt := 5) hC.1 hC.2.1 dX9_dearestAt_117 (by decide) ?_
  exact hB5 _ _ _ _ _ _ H locs ls h hM (lv_sub hl [1, 2, 3, 4, 0] rfl)
set_option maxHeartbeats 4000000 in
set_option maxRecDepth 100000 in
theorem qX9_dearestAt_101 {p : Program} {l : Launch} {e : Env} {s : State} {m : MethodId} {args : Array Value} {below : List Frame} {meth : Method} {c : Code} {G : Gt} {b0 : Nat} (hC : CallFix p m c cX9_dearestAt 7 s args lw_g RX9) (hr : meth.sig.returnType = (some .int)) (hlk : meth.locks = false) {K : Int32 → St → Prop} {B5 : Nat → Int32 → Int32 → Int32 → Int32 → St → Prop} (hB5 : ∀ (x0 : Nat) (x1 : Int32) (x2 : Int32) (x3 : Int32) (x4 : Int32) (S : St) (H : Heap) (locs : List Loc) (ls : Array Slot), B5 x0 x1 x2 x3 x4 S → MM G b0 s S H locs → lv_has ls 7 [(0, .ref (b0 + x0)), (1, .int x1), (2, .int x2), (3, .int x3), (4, .int x4)] → W p l e rmX9_dearestAt s m args below meth c H locs 0 0 (MQ below (va_Qi K (ME G b0) (AB b0)) args s 0 0 (AB b0)) (F0 m 5 ls [])) : ∀ (x0 : Nat) (x1 : Int32) (x2 : Int32) (x3 : Int32) (x4 : Int32) (x5 : Int32) (S : St) (H : Heap) (locs : List Loc) (ls : Array Slot), wX9_dearestAt_101 K B5 x0 x1 x2 x3 x4 x5 S → MM G b0 s S H locs → lv_has ls 7 [(0, .ref (b0 + x0)), (1, .int x1), (2, .int x2), (3, .int x3), (4, .int x4), (5, .int x5)] → W p l e rmX9_dearestAt s m args below meth c H locs 0 0 (MQ below (va_Qi K (ME G b0) (AB b0)) args s 0 0 (AB b0)) (F0 m 101 ls []) := by
  intro x0 x1 x2 x3 x4 x5 S H locs ls h hM hl
  unfold wX9_dearestAt_101 at h
  refine lv_iload hC.1 hC.2.1 dX9_dearestAt_101 (lv_at hl 5 rfl) ?_
  refine lv_iconst (v := (-1)) hC.1 hC.2.1 dX9_dearestAt_103 (by decide) ?_
  refine lv_icmp_eq (tgt := 114) hC.1 hC.2.1 dX9_dearestAt_104 (by decide) (fun c_3 => ?_) (fun c_3 => ?_)
  · have h := h.1 c_3
    exact qX9_dearestAt_114 hC hr hlk hB5 _ _ _ _ _ _ H locs ls h hM (lv_sub hl [0, 1, 2, 3, 4] rfl)
  · have h := h.2 c_3
    refine lv_iload_n hC.1 hC.2.1 dX9_dearestAt_107 rfl (lv_at hl 3 rfl) ?_
    refine lv_iconst (v := 1) hC.1 hC.2.1 dX9_dearestAt_108 (by decide) ?_
    refine lv_iload hC.1 hC.2.1 dX9_dearestAt_109 (lv_at hl 5 rfl) ?_
    refine lv_ishl hC.1 hC.2.1 dX9_dearestAt_111 ?_
    refine lv_ior hC.1 hC.2.1 dX9_dearestAt_112 ?_
    refine lv_topi (fun x3_4 ex3_4 => ?_)
    have h := h x3_4 ex3_4
    refine lv_istore_n (lv' := [(3, .int x3_4), (0, .ref (b0 + x0)), (1, .int x1), (2, .int x2), (4, .int x4), (5, .int x5)]) hC.1 hC.2.1 dX9_dearestAt_113 rfl hl (by decide) rfl (fun ls hl => ?_)
    exact qX9_dearestAt_114 hC hr hlk hB5 _ _ _ _ _ _ H locs ls h hM (lv_sub hl [1, 2, 3, 0, 4] rfl)
set_option maxHeartbeats 4000000 in
set_option maxRecDepth 100000 in
theorem qX9_dearestAt_17 {p : Program} {l : Launch} {e : Env} {s : State} {m : MethodId} {args : Array Value} {below : List Frame} {meth : Method} {c : Code} {G : Gt} {b0 : Nat} (hC : CallFix p m c cX9_dearestAt 7 s args lw_g RX9) (hr : meth.sig.returnType = (some .int)) (hlk : meth.locks = false) {K : Int32 → St → Prop} {B5 : Nat → Int32 → Int32 → Int32 → Int32 → St → Prop} (hB5 : ∀ (x0 : Nat) (x1 : Int32) (x2 : Int32) (x3 : Int32) (x4 : Int32) (S : St) (H : Heap) (locs : List Loc) (ls : Array Slot), B5 x0 x1 x2 x3 x4 S → MM G b0 s S H locs → lv_has ls 7 [(0, .ref (b0 + x0)), (1, .int x1), (2, .int x2), (3, .int x3), (4, .int x4)] → W p l e rmX9_dearestAt s m args below meth c H locs 0 0 (MQ below (va_Qi K (ME G b0) (AB b0)) args s 0 0 (AB b0)) (F0 m 5 ls [])) : ∀ (n : Nat) (x0 : Nat) (x1 : Int32) (x2 : Int32) (x3 : Int32) (x4 : Int32) (x5 : Int32) (x6 : Int32) (S : St) (H : Heap) (locs : List Loc) (ls : Array Slot), wX9_dearestAt_17 K B5 n x0 x1 x2 x3 x4 x5 x6 S → MM G b0 s S H locs → lv_has ls 7 [(0, .ref (b0 + x0)), (1, .int x1), (2, .int x2), (3, .int x3), (4, .int x4), (5, .int x5), (6, .int x6)] → W p l e rmX9_dearestAt s m args below meth c H locs 0 0 (MQ below (va_Qi K (ME G b0) (AB b0)) args s 0 0 (AB b0)) (F0 m 17 ls []) := by
  intro n
  induction n with
  | zero =>
    intro x0 x1 x2 x3 x4 x5 x6 S H locs ls h
    exact False.elim h
  | succ n ih =>
    intro x0 x1 x2 x3 x4 x5 x6 S H locs ls h hM hl
    rw [wX9_dearestAt_17] at h
    refine lv_iload hC.1 hC.2.1 dX9_dearestAt_17 (lv_at hl 6 rfl) ?_
    refine lv_aload_n hC.1 hC.2.1 dX9_dearestAt_19 rfl (lv_at hl 0 rfl) ?_
    obtain ⟨ok_5, h⟩ := h
    refine mm_gi hC hM (ci := 9) (j := 1) ok_5 rfl (by decide) (by decide) tw_792 rfl dX9_dearestAt_20 ?_
    refine lv_icmp_ge (tgt := 101) hC.1 hC.2.1 dX9_dearestAt_23 (by decide) (fun c_6 => ?_) (fun c_6 => ?_)
    · have h := h.1 c_6
      exact qX9_dearestAt_101 hC hr hlk hB5 _ _ _ _ _ _ _ H locs ls h hM (lv_sub hl [0, 1, 2, 3, 4, 5] rfl)
    · have h := h.2 c_6
      refine lv_aload_n hC.1 hC.2.1 dX9_dearestAt_26 rfl (lv_at hl 0 rfl) ?_
      obtain ⟨ok_7, h⟩ := h
      refine mm_gr hC hM (ci := 9) (j := 12) ⟨ok_5, ok_7⟩ rfl (by decide) (by decide) tw_803 rfl dX9_dearestAt_27 ?_
      refine lv_iload_n hC.1 hC.2.1 dX9_dearestAt_30 rfl (lv_at hl 1 rfl) ?_
      obtain ⟨ok_8, h⟩ := h
      refine mm_il hC hM ok_8 dX9_dearestAt_31 ?_
      refine lv_iload hC.1 hC.2.1 dX9_dearestAt_32 (lv_at hl 6 rfl) ?_
      refine mm_ri hM (mm_S (As := [.int (sI S (sR S x0 12) (x1 : Int32).toNatClampNeg), .int x6]) (rest := []) hC hM hl.1 (mX9_has l G b0 S (sI S (sR S x0 12) (x1 : Int32).toNatClampNeg) x6 _) h kX9_has tw_772 rfl (by decide) rfl (Nat.le_of_ble_eq_true rfl) dX9_dearestAt_34 (by decide)) (fun r_10 S_9 H locs h hM => ?_)
      refine lv_if_eq (tgt := 95) hC.1 hC.2.1 dX9_dearestAt_37 (by decide) (fun c_11 => ?_) (fun c_11 => ?_)
      · have h := h.1 c_11
        exact qX9_dearestAt_95 hC hr hlk ih _ _ _ _ _ _ _ _ H locs ls h hM (lv_sub hl [0, 1, 2, 3, 4, 5, 6] rfl)
      · have h := h.2 c_11
        refine lv_iload_n hC.1 hC.2.1 dX9_dearestAt_40 rfl (lv_at hl 3 rfl) ?_
        refine lv_iload hC.1 hC.2.1 dX9_dearestAt_41 (lv_at hl 6 rfl) ?_
        refine mm_ri hM (mm_S (As := [.int x3, .int x6]) (rest := []) hC hM hl.1 (mX9_has l G b0 S_9 x3 x6 _) h kX9_has tw_772 rfl (by decide) rfl (Nat.le_of_ble_eq_true rfl) dX9_dearestAt_43 (by decide)) (fun r_13 S_12 H locs h hM => ?_)
        refine lv_if_eq (tgt := 52) hC.1 hC.2.1 dX9_dearestAt_46 (by decide) (fun c_14 => ?_) (fun c_14 => ?_)
        · have h := h.1 c_14
          refine lv_iload hC.1 hC.2.1 dX9_dearestAt_52 (lv_at hl 5 rfl) ?_
          refine lv_iconst (v := (-1)) hC.1 hC.2.1 dX9_dearestAt_54 (by decide) ?_
          refine lv_icmp_eq (tgt := 91) hC.1 hC.2.1 dX9_dearestAt_55 (by decide) (fun c_15 => ?_) (fun c_15 => ?_)
          · have h := h.1 c_15
            exact qX9_dearestAt_91 hC hr hlk ih _ _ _ _ _ _ _ H locs ls h hM (lv_sub hl [0, 1, 2, 3, 4, 6] rfl)
          · have h := h.2 c_15
            refine lv_aload_n hC.1 hC.2.1 dX9_dearestAt_58 rfl (lv_at hl 0 rfl) ?_
            obtain ⟨ok_16, h⟩ := h
            refine mm_gr hC hM (ci := 9) (j := 5) ok_16 rfl (by decide) (by decide) tw_796 rfl dX9_dearestAt_59 ?_
            refine lv_iload hC.1 hC.2.1 dX9_dearestAt_62 (lv_at hl 6 rfl) ?_
            obtain ⟨ok_17, h⟩ := h
            refine mm_il hC hM ok_17 dX9_dearestAt_64 ?_
            refine lv_aload_n hC.1 hC.2.1 dX9_dearestAt_65 rfl (lv_at hl 0 rfl) ?_
            obtain ⟨ok_18, h⟩ := h
            refine mm_gr hC hM (ci := 9) (j := 4) ⟨ok_16.1, ok_18⟩ rfl (by decide) (by decide) tw_795 rfl dX9_dearestAt_66 ?_
            refine lv_iload hC.1 hC.2.1 dX9_dearestAt_69 (lv_at hl 6 rfl) ?_
            obtain ⟨ok_19, h⟩ := h
            refine mm_il hC hM ok_19 dX9_dearestAt_71 ?_
            refine lv_isub hC.1 hC.2.1 dX9_dearestAt_72 ?_
            refine lv_aload_n hC.1 hC.2.1 dX9_dearestAt_73 rfl (lv_at hl 0 rfl) ?_
            refine mm_gr hC hM (ci := 9) (j := 5) ok_16 rfl (by decide) (by decide) tw_796 rfl dX9_dearestAt_74 ?_
            refine lv_iload hC.1 hC.2.1 dX9_dearestAt_77 (lv_at hl 5 rfl) ?_
            obtain ⟨ok_20, h⟩ := h
            refine mm_il hC hM ok_20 dX9_dearestAt_79 ?_
            refine lv_aload_n hC.1 hC.2.1 dX9_dearestAt_80 rfl (lv_at hl 0 rfl) ?_
            refine mm_gr hC hM (ci := 9) (j := 4) ⟨ok_16.1, ok_18⟩ rfl (by decide) (by decide) tw_795 rfl dX9_dearestAt_81 ?_
            refine lv_iload hC.1 hC.2.1 dX9_dearestAt_84 (lv_at hl 5 rfl) ?_
            obtain ⟨ok_21, h⟩ := h
            refine mm_il hC hM ok_21 dX9_dearestAt_86 ?_
            refine lv_isub hC.1 hC.2.1 dX9_dearestAt_87 ?_
            refine lv_icmp_le (tgt := 95) hC.1 hC.2.1 dX9_dearestAt_88 (by decide) (fun c_22 => ?_) (fun c_22 => ?_)
            · have h := h.1 c_22
              exact qX9_dearestAt_95 hC hr hlk ih _ _ _ _ _ _ _ _ H locs ls h hM (lv_sub hl [0, 1, 2, 3, 4, 5, 6] rfl)
            · have h := h.2 c_22
              exact qX9_dearestAt_91 hC hr hlk ih _ _ _ _ _ _ _ H locs ls h hM (lv_sub hl [0, 1, 2, 3, 4, 6] rfl)
        · have h := h.2 c_14
          refine lv_goto (tgt := 95) hC.1 hC.2.1 dX9_dearestAt_49 (by decide) ?_
          exact qX9_dearestAt_95 hC hr hlk ih _ _ _ _ _ _ _ _ H locs ls h hM (lv_sub hl [0, 1, 2, 3, 4, 5, 6] rfl)
set_option maxHeartbeats 4000000 in
set_option maxRecDepth 100000 in
theorem qX9_dearestAt_120 {p : Program} {l : Launch} {e : Env} {s : State} {m : MethodId} {args : Array Value} {below : List Frame} {meth : Method} {c : Code} {G : Gt} {b0 : Nat} (hC : CallFix p m c cX9_dearestAt 7 s args lw_g RX9) (hr : meth.sig.returnType = (some .int)) (hlk : meth.locks = false) {K : Int32 → St → Prop} : ∀ (x0 : Nat) (x1 : Int32) (x3 : Int32) (S : St) (H : Heap) (locs : List Loc) (ls : Array Slot), wX9_dearestAt_120 K x0 x1 x3 S → MM G b0 s S H locs → lv_has ls 7 [(0, .ref (b0 + x0)), (1, .int x1), (3, .int x3)] → W p l e rmX9_dearestAt s m args below meth c H locs 0 0 (MQ below (va_Qi K (ME G b0) (AB b0)) args s 0 0 (AB b0)) (F0 m 120 ls []) := by
  intro x0 x1 x3 S H locs ls h hM hl
  unfold wX9_dearestAt_120 at h
  refine lv_aload_n hC.1 hC.2.1 dX9_dearestAt_120 rfl (lv_at hl 0 rfl) ?_
  refine lv_aload_n hC.1 hC.2.1 dX9_dearestAt_121 rfl (lv_at hl 0 rfl) ?_
  obtain ⟨ok_23, h⟩ := h
  refine mm_gr hC hM (ci := 9) (j := 12) ok_23 rfl (by decide) (by decide) tw_803 rfl dX9_dearestAt_122 ?_
  refine lv_iload_n hC.1 hC.2.1 dX9_dearestAt_125 rfl (lv_at hl 1 rfl) ?_
  obtain ⟨ok_24, h⟩ := h
  refine mm_il hC hM ok_24 dX9_dearestAt_126 ?_
  refine lv_iload_n hC.1 hC.2.1 dX9_dearestAt_127 rfl (lv_at hl 2 rfl) ?_
  refine mm_ri hM (mm_V (As := [.int (sI S (sR S x0 12) (x1 : Int32).toNatClampNeg), .int x3]) (rest := []) hC hM hl.1 (mX9_sum l G b0 S x0 (sI S (sR S x0 12) (x1 : Int32).toNatClampNeg) x3 _) h (ci := 9) ok_23.1 rfl rfl kX9_sum tw_944 rfl (by decide) rfl (Nat.le_of_ble_eq_true rfl) dX9_dearestAt_128 (by decide)) (fun r_26 S_25 H locs h hM => ?_)
  exact mm_iret hC hr hlk hM h dX9_dearestAt_131
set_option maxHeartbeats 4000000 in
set_option maxRecDepth 100000 in
theorem qX9_dearestAt_5 {p : Program} {l : Launch} {e : Env} {s : State} {m : MethodId} {args : Array Value} {below : List Frame} {meth : Method} {c : Code} {G : Gt} {b0 : Nat} (hC : CallFix p m c cX9_dearestAt 7 s args lw_g RX9) (hr : meth.sig.returnType = (some .int)) (hlk : meth.locks = false) {K : Int32 → St → Prop} : ∀ (n : Nat) (x0 : Nat) (x1 : Int32) (x2 : Int32) (x3 : Int32) (x4 : Int32) (S : St) (H : Heap) (locs : List Loc) (ls : Array Slot), wX9_dearestAt_5 K n x0 x1 x2 x3 x4 S → MM G b0 s S H locs → lv_has ls 7 [(0, .ref (b0 + x0)), (1, .int x1), (2, .int x2), (3, .int x3), (4, .int x4)] → W p l e rmX9_dearestAt s m args below meth c H locs 0 0 (MQ below (va_Qi K (ME G b0) (AB b0)) args s 0 0 (AB b0)) (F0 m 5 ls []) := by
  intro n
  induction n with
  | zero =>
    intro x0 x1 x2 x3 x4 S H locs ls h
    exact False.elim h
  | succ n ih =>
    intro x0 x1 x2 x3 x4 S H locs ls h hM hl
    rw [wX9_dearestAt_5] at h
    refine lv_iload hC.1 hC.2.1 dX9_dearestAt_5 (lv_at hl 4 rfl) ?_
    refine lv_iload_n hC.1 hC.2.1 dX9_dearestAt_7 rfl (lv_at hl 2 rfl) ?_
    refine lv_icmp_ge (tgt := 120) hC.1 hC.2.1 dX9_dearestAt_8 (by decide) (fun c_27 => ?_) (fun c_27 => ?_)
    · have h := h.1 c_27
      exact qX9_dearestAt_120 hC hr hlk _ _ _ _ H locs ls h hM (lv_sub hl [0, 1, 3] rfl)
    · have h := h.2 c_27
      refine lv_iconst (v := (-1)) hC.1 hC.2.1 dX9_dearestAt_11 (by decide) ?_
      refine lv_istore (lv' := [(5, .int (-1)), (0, .ref (b0 + x0)), (1, .int x1), (2, .int x2), (3, .int x3), (4, .int x4)]) hC.1 hC.2.1 dX9_dearestAt_12 hl (by decide) rfl (fun ls hl => ?_)
      refine lv_iconst (v := 0) hC.1 hC.2.1 dX9_dearestAt_14 (by decide) ?_
      refine lv_istore (lv' := [(6, .int 0), (5, .int (-1)), (0, .ref (b0 + x0)), (1, .int x1), (2, .int x2), (3, .int x3), (4, .int x4)]) hC.1 hC.2.1 dX9_dearestAt_15 hl (by decide) rfl (fun ls hl => ?_)
      obtain ⟨n1, h⟩ := h
      exact qX9_dearestAt_17 hC hr hlk ih n1 _ _ _ _ _ _ _ _ H locs ls h hM (lv_sub hl [2, 3, 4, 5, 6, 1, 0] rfl)
set_option maxHeartbeats 4000000 in
set_option maxRecDepth 100000 in
theorem mX9_dearestAt (l : Launch) (G : Gt) (b0 : Nat) (S : St) (o : Nat) (x1 : Int32) (x2 : Int32) (K : Int32 → St → Prop) : CI l G b0 S yX9_dearestAt cX9_dearestAt 7 (some .int) rmX9_dearestAt [.ref (b0 + o), .int x1, .int x2] (wX9_dearestAt S o x1 x2 K) K := by
  refine met_of (by decide) (Nat.le_of_ble_eq_true rfl) rfl ?_
  intro p e s m below meth c hC hr hlk hin h H locs ls hM hl
  unfold wX9_dearestAt at h
  refine lv_iconst (v := 0) hC.1 hC.2.1 dX9_dearestAt_0 (by decide) ?_
  refine lv_istore_n (lv' := [(3, .int 0), (0, .ref (b0 + o)), (1, .int x1), (2, .int x2)]) hC.1 hC.2.1 dX9_dearestAt_1 rfl hl (by decide) rfl (fun ls hl => ?_)
  refine lv_iconst (v := 0) hC.1 hC.2.1 dX9_dearestAt_2 (by decide) ?_
  refine lv_istore (lv' := [(4, .int 0), (3, .int 0), (0, .ref (b0 + o)), (1, .int x1), (2, .int x2)]) hC.1 hC.2.1 dX9_dearestAt_3 hl (by decide) rfl (fun ls hl => ?_)
  obtain ⟨n1, h⟩ := h
  exact qX9_dearestAt_5 hC hr hlk n1 _ _ _ _ _ _ H locs ls h hM (lv_sub hl [2, 3, 4, 1, 0] rfl)
set_option maxHeartbeats 4000000 in
set_option maxRecDepth 100000 in
theorem mX9_dearest (l : Launch) (G : Gt) (b0 : Nat) (S : St) (o : Nat) (x1 : Int32) (x2 : Int32) (K : Int32 → St → Prop) : CI l G b0 S yX9_dearest cX9_dearest 3 (some .int) rmX9_dearest [.ref (b0 + o), .int x1, .int x2] (wX9_dearest S o x1 x2 K) K := by
  refine met_of (by decide) (Nat.le_of_ble_eq_true rfl) rfl ?_
  intro p e s m below meth c hC hr hlk hin h H locs ls hM hl
  unfold wX9_dearest at h
  refine lv_aload_n hC.1 hC.2.1 dX9_dearest_0 rfl (lv_at hl 0 rfl) ?_
  refine lv_iload_n hC.1 hC.2.1 dX9_dearest_1 rfl (lv_at hl 1 rfl) ?_
  obtain ⟨ok_3, h⟩ := h
  refine mm_ri hM (mm_V (As := [.int x1]) (rest := []) hC hM hl.1 (mX9_isChoiceNumber l G b0 S o x1 _) h (ci := 9) ok_3 rfl rfl kX9_isChoiceNumber tw_924 rfl (by decide) rfl (Nat.le_of_ble_eq_true rfl) dX9_dearest_2 (by decide)) (fun r_2 S_1 H locs h hM => ?_)
  refine lv_if_eq (tgt := 27) hC.1 hC.2.1 dX9_dearest_5 (by decide) (fun c_4 => ?_) (fun c_4 => ?_)
  · have h := h.1 c_4
    refine lv_iconst (v := (-1)) hC.1 hC.2.1 dX9_dearest_27 (by decide) ?_
    exact mm_iret hC hr hlk hM h dX9_dearest_28
  · have h := h.2 c_4
    refine lv_iload_n hC.1 hC.2.1 dX9_dearest_8 rfl (lv_at hl 2 rfl) ?_
    refine lv_iconst (v := 0) hC.1 hC.2.1 dX9_dearest_9 (by decide) ?_
    refine lv_bipush (v := 12) hC.1 hC.2.1 dX9_dearest_10 (by decide) ?_
    refine mm_ri hM (mm_S (As := [.int x2, .int 0, .int 12]) (rest := []) hC hM hl.1 (mX9_in l G b0 S_1 x2 0 12 _) h kX9_in tw_865 rfl (by decide) rfl (Nat.le_of_ble_eq_true rfl) dX9_dearest_12 (by decide)) (fun r_6 S_5 H locs h hM => ?_)
    refine lv_if_eq (tgt := 27) hC.1 hC.2.1 dX9_dearest_15 (by decide) (fun c_7 => ?_) (fun c_7 => ?_)
    · have h := h.1 c_7
      refine lv_iconst (v := (-1)) hC.1 hC.2.1 dX9_dearest_27 (by decide) ?_
      exact mm_iret hC hr hlk hM h dX9_dearest_28
    · have h := h.2 c_7
      refine lv_aload_n hC.1 hC.2.1 dX9_dearest_18 rfl (lv_at hl 0 rfl) ?_
      refine lv_iload_n hC.1 hC.2.1 dX9_dearest_19 rfl (lv_at hl 1 rfl) ?_
      refine lv_iload_n hC.1 hC.2.1 dX9_dearest_20 rfl (lv_at hl 2 rfl) ?_
      obtain ⟨ok_10, h⟩ := h
      refine mm_ri hM (mm_V (As := [.int x1, .int x2]) (rest := []) hC hM hl.1 (mX9_dearestAt l G b0 S_5 o x1 x2 _) h (ci := 9) ok_10 rfl rfl kX9_dearestAt tw_998 rfl (by decide) rfl (Nat.le_of_ble_eq_true rfl) dX9_dearest_21 (by decide)) (fun r_9 S_8 H locs h hM => ?_)
      refine lv_goto (tgt := 28) hC.1 hC.2.1 dX9_dearest_24 (by decide) ?_
      exact mm_iret hC hr hlk hM h dX9_dearest_28
set_option maxHeartbeats 4000000 in
set_option maxRecDepth 100000 in
theorem mX9_doubled (l : Launch) (G : Gt) (b0 : Nat) (S : St) (o : Nat) (x1 : Int32) (K : Int32 → St → Prop) : CI l G b0 S yX9_doubled cX9_doubled 2 (some .int) rmX9_doubled [.ref (b0 + o), .int x1] (wX9_doubled S o x1 K) K := by
  refine met_of (by decide) (Nat.le_of_ble_eq_true rfl) rfl ?_
  intro p e s m below meth c hC hr hlk hin h H locs ls hM hl
  unfold wX9_doubled at h
  refine lv_aload_n hC.1 hC.2.1 dX9_doubled_0 rfl (lv_at hl 0 rfl) ?_
  refine lv_aload_n hC.1 hC.2.1 dX9_doubled_1 rfl (lv_at hl 0 rfl) ?_
  obtain ⟨ok_1, h⟩ := h
  refine mm_gr hC hM (ci := 9) (j := 12) ok_1 rfl (by decide) (by decide) tw_803 rfl dX9_doubled_2 ?_
  refine lv_iload_n hC.1 hC.2.1 dX9_doubled_5 rfl (lv_at hl 1 rfl) ?_
  obtain ⟨ok_2, h⟩ := h
  refine mm_il hC hM ok_2 dX9_doubled_6 ?_
  refine lv_iconst (v := 0) hC.1 hC.2.1 dX9_doubled_7 (by decide) ?_
  refine mm_ri hM (mm_V (As := [.int (sI S (sR S o 12) (x1 : Int32).toNatClampNeg), .int 0]) (rest := []) hC hM hl.1 (mX9_sum l G b0 S o (sI S (sR S o 12) (x1 : Int32).toNatClampNeg) 0 _) h (ci := 9) ok_1.1 rfl rfl kX9_sum tw_944 rfl (by decide) rfl (Nat.le_of_ble_eq_true rfl) dX9_doubled_8 (by decide)) (fun r_4 S_3 H locs h hM => ?_)
  refine lv_aload_n hC.1 hC.2.1 dX9_doubled_11 rfl (lv_at hl 0 rfl) ?_
  refine lv_aload_n hC.1 hC.2.1 dX9_doubled_12 rfl (lv_at hl 0 rfl) ?_
  obtain ⟨ok_5, h⟩ := h
  refine mm_gr hC hM (ci := 9) (j := 12) ok_5 rfl (by decide) (by decide) tw_803 rfl dX9_doubled_13 ?_
  refine lv_iload_n hC.1 hC.2.1 dX9_doubled_16 rfl (lv_at hl 1 rfl) ?_
  obtain ⟨ok_6, h⟩ := h
  refine mm_il hC hM ok_6 dX9_doubled_17 ?_
  refine lv_iconst (v := 1) hC.1 hC.2.1 dX9_doubled_18 (by decide) ?_
  refine lv_aload_n hC.1 hC.2.1 dX9_doubled_19 rfl (lv_at hl 0 rfl) ?_
  refine mm_gi hC hM (ci := 9) (j := 1) ok_5.1 rfl (by decide) (by decide) tw_792 rfl dX9_doubled_20 ?_
  refine lv_ishl hC.1 hC.2.1 dX9_doubled_23 ?_
  refine lv_iconst (v := 1) hC.1 hC.2.1 dX9_doubled_24 (by decide) ?_
  refine lv_isub hC.1 hC.2.1 dX9_doubled_25 ?_
  refine mm_ri hM (mm_V (As := [.int (sI S_3 (sR S_3 o 12) (x1 : Int32).toNatClampNeg), .int ((1 <<< ((sI S_3 o 1) &&& 31)) - 1)]) (rest := [.int r_4]) hC hM hl.1 (mX9_sum l G b0 S_3 o (sI S_3 (sR S_3 o 12) (x1 : Int32).toNatClampNeg) ((1 <<< ((sI S_3 o 1) &&& 31)) - 1) _) h (ci := 9) ok_5.1 rfl rfl kX9_sum tw_944 rfl (by decide) rfl (Nat.le_of_ble_eq_true rfl) dX9_doubled_26 (by decide)) (fun r_8 S_7 H locs h hM => ?_)
  refine lv_iadd hC.1 hC.2.1 dX9_doubled_29 ?_
  exact mm_iret hC hr hlk hM h dX9_doubled_30
set_option maxHeartbeats 4000000 in
set_option maxRecDepth 100000 in
theorem mX9_isThing (l : Launch) (G : Gt) (b0 : Nat) (S : St) (o : Nat) (x1 : Int32) (K : Int32 → St → Prop) : CI l G b0 S yX9_isThing cX9_isThing 2 (some .boolean) rmX9_isThing [.ref (b0 + o), .int x1] (wX9_isThing S o x1 K) K := by
  refine met_of (by decide) (Nat.le_of_ble_eq_true rfl) rfl ?_
  intro p e s m below meth c hC hr hlk hin h H locs ls hM hl
  unfold wX9_isThing at h
  refine lv_iload_n hC.1 hC.2.1 dX9_isThing_0 rfl (lv_at hl 1 rfl) ?_
  refine lv_iconst (v := 0) hC.1 hC.2.1 dX9_isThing_1 (by decide) ?_
  refine lv_aload_n hC.1 hC.2.1 dX9_isThing_2 rfl (lv_at hl 0 rfl) ?_
  obtain ⟨ok_1, h⟩ := h
  refine mm_gi hC hM (ci := 9) (j := 1) ok_1 rfl (by decide) (by decide) tw_792 rfl dX9_isThing_3 ?_
  refine lv_iconst (v := 1) hC.1 hC.2.1 dX9_isThing_6 (by decide) ?_
  refine lv_isub hC.1 hC.2.1 dX9_isThing_7 ?_
  refine mm_ri hM (mm_S (As := [.int x1, .int 0, .int ((sI S o 1) - 1)]) (rest := []) hC hM hl.1 (mX9_in l G b0 S x1 0 ((sI S o 1) - 1) _) h kX9_in tw_865 rfl (by decide) rfl (Nat.le_of_ble_eq_true rfl) dX9_isThing_8 (by decide)) (fun r_3 S_2 H locs h hM => ?_)
  obtain ⟨nb_4, h⟩ := h
  exact mm_zret hC hr hlk hM nb_4 h dX9_isThing_11
set_option maxHeartbeats 4000000 in
set_option maxRecDepth 100000 in
theorem qX9_ends_22 {p : Program} {l : Launch} {e : Env} {s : State} {m : MethodId} {args : Array Value} {below : List Frame} {meth : Method} {c : Code} {G : Gt} {b0 : Nat} (hC : CallFix p m c cX9_ends 4 s args lw_g RX9) (hr : meth.sig.returnType = (some .int)) (hlk : meth.locks = false) {K : Int32 → St → Prop} : ∀ (x0 : Nat) (S : St) (H : Heap) (locs : List Loc) (ls : Array Slot), wX9_ends_22 K x0 S → MM G b0 s S H locs → lv_has ls 4 [(0, .ref (b0 + x0))] → W p l e rmX9_ends s m args below meth c H locs 0 0 (MQ below (va_Qi K (ME G b0) (AB b0)) args s 0 0 (AB b0)) (F0 m 22 ls []) := by
  intro x0 S H locs ls h hM hl
  unfold wX9_ends_22 at h
  refine lv_aload_n hC.1 hC.2.1 dX9_ends_22 rfl (lv_at hl 0 rfl) ?_
  refine lv_iconst (v := (-1)) hC.1 hC.2.1 dX9_ends_23 (by decide) ?_
  obtain ⟨ok_3, h⟩ := h
  refine mm_ri hM (mm_V (As := [.int (-1)]) (rest := []) hC hM hl.1 (mX9_tells l G b0 S x0 (-1) _) h (ci := 9) ok_3 rfl rfl kX9_tells tw_868 rfl (by decide) rfl (Nat.le_of_ble_eq_true rfl) dX9_ends_24 (by decide)) (fun r_2 S_1 H locs h hM => ?_)
  exact mm_iret hC hr hlk hM h dX9_ends_27
set_option maxHeartbeats 4000000 in
set_option maxRecDepth 100000 in
theorem mX9_ends (l : Launch) (G : Gt) (b0 : Nat) (S : St) (o : Nat) (x1 : Int32) (x2 : Int32) (x3 : Int32) (K : Int32 → St → Prop) : CI l G b0 S yX9_ends cX9_ends 4 (some .int) rmX9_ends [.ref (b0 + o), .int x1, .int x2, .int x3] (wX9_ends S o x1 x2 x3 K) K := by
  refine met_of (by decide) (Nat.le_of_ble_eq_true rfl) rfl ?_
  intro p e s m below meth c hC hr hlk hin h H locs ls hM hl
  unfold wX9_ends at h
  refine lv_iload_n hC.1 hC.2.1 dX9_ends_0 rfl (lv_at hl 2 rfl) ?_
  refine lv_iconst (v := 0) hC.1 hC.2.1 dX9_ends_1 (by decide) ?_
  refine lv_sipush (v := 1000) hC.1 hC.2.1 dX9_ends_2 (by decide) ?_
  refine mm_ri hM (mm_S (As := [.int x2, .int 0, .int 1000]) (rest := []) hC hM hl.1 (mX9_in l G b0 S x2 0 1000 _) h kX9_in tw_865 rfl (by decide) rfl (Nat.le_of_ble_eq_true rfl) dX9_ends_5 (by decide)) (fun r_5 S_4 H locs h hM => ?_)
  refine lv_if_eq (tgt := 22) hC.1 hC.2.1 dX9_ends_8 (by decide) (fun c_6 => ?_) (fun c_6 => ?_)
  · have h := h.1 c_6
    exact qX9_ends_22 hC hr hlk _ _ H locs ls h hM (lv_sub hl [0] rfl)
  · have h := h.2 c_6
    refine lv_iload_n hC.1 hC.2.1 dX9_ends_11 rfl (lv_at hl 3 rfl) ?_
    refine lv_iload_n hC.1 hC.2.1 dX9_ends_12 rfl (lv_at hl 2 rfl) ?_
    refine lv_sipush (v := 1000) hC.1 hC.2.1 dX9_ends_13 (by decide) ?_
    refine mm_ri hM (mm_S (As := [.int x3, .int x2, .int 1000]) (rest := []) hC hM hl.1 (mX9_in l G b0 S_4 x3 x2 1000 _) h kX9_in tw_865 rfl (by decide) rfl (Nat.le_of_ble_eq_true rfl) dX9_ends_16 (by decide)) (fun r_8 S_7 H locs h hM => ?_)
    refine lv_if_ne (tgt := 28) hC.1 hC.2.1 dX9_ends_19 (by decide) (fun c_9 => ?_) (fun c_9 => ?_)
    · have h := h.2 c_9
      refine lv_aload_n hC.1 hC.2.1 dX9_ends_28 rfl (lv_at hl 0 rfl) ?_
      refine lv_iload_n hC.1 hC.2.1 dX9_ends_29 rfl (lv_at hl 1 rfl) ?_
      obtain ⟨ok_12, h⟩ := h
      refine mm_ri hM (mm_V (As := [.int x1]) (rest := []) hC hM hl.1 (mX9_isThing l G b0 S_7 o x1 _) h (ci := 9) ok_12 rfl rfl kX9_isThing tw_876 rfl (by decide) rfl (Nat.le_of_ble_eq_true rfl) dX9_ends_30 (by decide)) (fun r_11 S_10 H locs h hM => ?_)
      refine lv_if_ne (tgt := 43) hC.1 hC.2.1 dX9_ends_33 (by decide) (fun c_13 => ?_) (fun c_13 => ?_)
      · have h := h.2 c_13
        refine lv_aload_n hC.1 hC.2.1 dX9_ends_43 rfl (lv_at hl 0 rfl) ?_
        obtain ⟨ok_14, h⟩ := h
        refine mm_gr hC hM (ci := 9) (j := 4) ok_14 rfl (by decide) (by decide) tw_795 rfl dX9_ends_44 ?_
        refine lv_iload_n hC.1 hC.2.1 dX9_ends_47 rfl (lv_at hl 1 rfl) ?_
        refine lv_iload_n hC.1 hC.2.1 dX9_ends_48 rfl (lv_at hl 2 rfl) ?_
        obtain ⟨ok_15, h⟩ := h
        refine mm_is hC hM ok_15 dX9_ends_49 (fun S_16 H locs eS_16 hM => ?_)
        have h := h S_16 eS_16
        refine lv_aload_n hC.1 hC.2.1 dX9_ends_50 rfl (lv_at hl 0 rfl) ?_
        obtain ⟨ok_17, h⟩ := h
        refine mm_gr hC hM (ci := 9) (j := 5) ok_17 rfl (by decide) (by decide) tw_796 rfl dX9_ends_51 ?_
        refine lv_iload_n hC.1 hC.2.1 dX9_ends_54 rfl (lv_at hl 1 rfl) ?_
        refine lv_iload_n hC.1 hC.2.1 dX9_ends_55 rfl (lv_at hl 3 rfl) ?_
        obtain ⟨ok_18, h⟩ := h
        refine mm_is hC hM ok_18 dX9_ends_56 (fun S_19 H locs eS_19 hM => ?_)
        have h := h S_19 eS_19
        refine lv_aload_n hC.1 hC.2.1 dX9_ends_57 rfl (lv_at hl 0 rfl) ?_
        refine lv_iconst (v := 0) hC.1 hC.2.1 dX9_ends_58 (by decide) ?_
        obtain ⟨ok_22, h⟩ := h
        refine mm_ri hM (mm_V (As := [.int 0]) (rest := []) hC hM hl.1 (mX9_tells l G b0 S_19 o 0 _) h (ci := 9) ok_22 rfl rfl kX9_tells tw_868 rfl (by decide) rfl (Nat.le_of_ble_eq_true rfl) dX9_ends_59 (by decide)) (fun r_21 S_20 H locs h hM => ?_)
        exact mm_iret hC hr hlk hM h dX9_ends_62
      · have h := h.1 c_13
        refine lv_aload_n hC.1 hC.2.1 dX9_ends_36 rfl (lv_at hl 0 rfl) ?_
        refine lv_bipush (v := (-2)) hC.1 hC.2.1 dX9_ends_37 (by decide) ?_
        obtain ⟨ok_25, h⟩ := h
        refine mm_ri hM (mm_V (As := [.int (-2)]) (rest := []) hC hM hl.1 (mX9_tells l G b0 S_10 o (-2) _) h (ci := 9) ok_25 rfl rfl kX9_tells tw_868 rfl (by decide) rfl (Nat.le_of_ble_eq_true rfl) dX9_ends_39 (by decide)) (fun r_24 S_23 H locs h hM => ?_)
        exact mm_iret hC hr hlk hM h dX9_ends_42
    · have h := h.1 c_9
      exact qX9_ends_22 hC hr hlk _ _ H locs ls h hM (lv_sub hl [0] rfl)
set_option maxHeartbeats 4000000 in
set_option maxRecDepth 100000 in
theorem qX9_few_51 {p : Program} {l : Launch} {e : Env} {s : State} {m : MethodId} {args : Array Value} {below : List Frame} {meth : Method} {c : Code} {G : Gt} {b0 : Nat} (hC : CallFix p m c cX9_few 4 s args lw_g RX9) (hr : meth.sig.returnType = (some .int)) (hlk : meth.locks = false) {K : Int32 → St → Prop} {B26 : Nat → Int32 → Int32 → Int32 → St → Prop} (hB26 : ∀ (x0 : Nat) (x1 : Int32) (x2 : Int32) (x3 : Int32) (S : St) (H : Heap) (locs : List Loc) (ls : Array Slot), B26 x0 x1 x2 x3 S → MM G b0 s S H locs → lv_has ls 4 [(0, .ref (b0 + x0)), (1, .int x1), (2, .int x2), (3, .int x3)] → W p l e rmX9_few s m args below meth c H locs 0 0 (MQ below (va_Qi K (ME G b0) (AB b0)) args s 0 0 (AB b0)) (F0 m 26 ls [])) : ∀ (x0 : Nat) (x1 : Int32) (x2 : Int32) (x3 : Int32) (S : St) (H : Heap) (locs : List Loc) (ls : Array Slot), wX9_few_51 K B26 x0 x1 x2 x3 S → MM G b0 s S H locs → lv_has ls 4 [(0, .ref (b0 + x0)), (1, .int x1), (2, .int x2), (3, .int x3)] → W p l e rmX9_few s m args below meth c H locs 0 0 (MQ below (va_Qi K (ME G b0) (AB b0)) args s 0 0 (AB b0)) (F0 m 51 ls []) := by
  intro x0 x1 x2 x3 S H locs ls h hM hl
  unfold wX9_few_51 at h
  obtain ⟨x3_1, ex3_1⟩ : ∃ y : Int32, y = x3 + 1 := ⟨_, rfl⟩
  have h := h x3_1 ex3_1
  refine lv_iinc (v := x3_1) (lv' := [(3, .int x3_1), (0, .ref (b0 + x0)), (1, .int x1), (2, .int x2)]) hC.1 hC.2.1 dX9_few_51 hl (k := 3) rfl (by rw [ex3_1]; rfl) (by decide) rfl (fun ls hl => ?_)
  refine lv_goto (tgt := 26) hC.1 hC.2.1 dX9_few_54 (by decide) ?_
  exact hB26 _ _ _ _ _ H locs ls h hM (lv_sub hl [1, 2, 3, 0] rfl)
set_option maxHeartbeats 4000000 in
set_option maxRecDepth 100000 in
theorem qX9_few_26 {p : Program} {l : Launch} {e : Env} {s : State} {m : MethodId} {args : Array Value} {below : List Frame} {meth : Method} {c : Code} {G : Gt} {b0 : Nat} (hC : CallFix p m c cX9_few 4 s args lw_g RX9) (hr : meth.sig.returnType = (some .int)) (hlk : meth.locks = false) {K : Int32 → St → Prop} : ∀ (n : Nat) (x0 : Nat) (x1 : Int32) (x2 : Int32) (x3 : Int32) (S : St) (H : Heap) (locs : List Loc) (ls : Array Slot), wX9_few_26 K n x0 x1 x2 x3 S → MM G b0 s S H locs → lv_has ls 4 [(0, .ref (b0 + x0)), (1, .int x1), (2, .int x2), (3, .int x3)] → W p l e rmX9_few s m args below meth c H locs 0 0 (MQ below (va_Qi K (ME G b0) (AB b0)) args s 0 0 (AB b0)) (F0 m 26 ls []) := by
  intro n
  induction n with
  | zero =>
    intro x0 x1 x2 x3 S H locs ls h
    exact False.elim h
  | succ n ih =>
    intro x0 x1 x2 x3 S H locs ls h hM hl
    rw [wX9_few_26] at h
    refine lv_iload_n hC.1 hC.2.1 dX9_few_26 rfl (lv_at hl 3 rfl) ?_
    refine lv_aload_n hC.1 hC.2.1 dX9_few_27 rfl (lv_at hl 0 rfl) ?_
    obtain ⟨ok_2, h⟩ := h
    refine mm_gi hC hM (ci := 9) (j := 11) ok_2 rfl (by decide) (by decide) tw_802 rfl dX9_few_28 ?_
    refine lv_icmp_ge (tgt := 57) hC.1 hC.2.1 dX9_few_31 (by decide) (fun c_3 => ?_) (fun c_3 => ?_)
    · have h := h.1 c_3
      refine lv_iload_n hC.1 hC.2.1 dX9_few_57 rfl (lv_at hl 2 rfl) ?_
      exact mm_iret hC hr hlk hM h dX9_few_58
    · have h := h.2 c_3
      refine lv_aload_n hC.1 hC.2.1 dX9_few_34 rfl (lv_at hl 0 rfl) ?_
      refine lv_iload_n hC.1 hC.2.1 dX9_few_35 rfl (lv_at hl 3 rfl) ?_
      refine lv_iload_n hC.1 hC.2.1 dX9_few_36 rfl (lv_at hl 1 rfl) ?_
      refine mm_ri hM (mm_V (As := [.int x3, .int x1]) (rest := []) hC hM hl.1 (mX9_dearestAt l G b0 S x0 x3 x1 _) h (ci := 9) ok_2 rfl rfl kX9_dearestAt tw_998 rfl (by decide) rfl (Nat.le_of_ble_eq_true rfl) dX9_few_37 (by decide)) (fun r_5 S_4 H locs h hM => ?_)
      refine lv_aload_n hC.1 hC.2.1 dX9_few_40 rfl (lv_at hl 0 rfl) ?_
      refine lv_iload_n hC.1 hC.2.1 dX9_few_41 rfl (lv_at hl 2 rfl) ?_
      refine lv_iload_n hC.1 hC.2.1 dX9_few_42 rfl (lv_at hl 1 rfl) ?_
      obtain ⟨ok_8, h⟩ := h
      refine mm_ri hM (mm_V (As := [.int x2, .int x1]) (rest := [.int r_5]) hC hM hl.1 (mX9_dearestAt l G b0 S_4 x0 x2 x1 _) h (ci := 9) ok_8 rfl rfl kX9_dearestAt tw_998 rfl (by decide) rfl (Nat.le_of_ble_eq_true rfl) dX9_few_43 (by decide)) (fun r_7 S_6 H locs h hM => ?_)
      refine lv_icmp_ge (tgt := 51) hC.1 hC.2.1 dX9_few_46 (by decide) (fun c_9 => ?_) (fun c_9 => ?_)
      · have h := h.1 c_9
        exact qX9_few_51 hC hr hlk ih _ _ _ _ _ H locs ls h hM (lv_sub hl [0, 1, 2, 3] rfl)
      · have h := h.2 c_9
        refine lv_iload_n hC.1 hC.2.1 dX9_few_49 rfl (lv_at hl 3 rfl) ?_
        refine lv_istore_n (lv' := [(2, .int x3), (0, .ref (b0 + x0)), (1, .int x1), (3, .int x3)]) hC.1 hC.2.1 dX9_few_50 rfl hl (by decide) rfl (fun ls hl => ?_)
        exact qX9_few_51 hC hr hlk ih _ _ _ _ _ H locs ls h hM (lv_sub hl [1, 2, 0, 3] rfl)
set_option maxHeartbeats 4000000 in
set_option maxRecDepth 100000 in
theorem mX9_few (l : Launch) (G : Gt) (b0 : Nat) (S : St) (o : Nat) (x1 : Int32) (K : Int32 → St → Prop) : CI l G b0 S yX9_few cX9_few 4 (some .int) rmX9_few [.ref (b0 + o), .int x1] (wX9_few S o x1 K) K := by
  refine met_of (by decide) (Nat.le_of_ble_eq_true rfl) rfl ?_
  intro p e s m below meth c hC hr hlk hin h H locs ls hM hl
  unfold wX9_few at h
  refine lv_iload_n hC.1 hC.2.1 dX9_few_0 rfl (lv_at hl 1 rfl) ?_
  refine lv_iconst (v := 0) hC.1 hC.2.1 dX9_few_1 (by decide) ?_
  refine lv_bipush (v := 12) hC.1 hC.2.1 dX9_few_2 (by decide) ?_
  refine mm_ri hM (mm_S (As := [.int x1, .int 0, .int 12]) (rest := []) hC hM hl.1 (mX9_in l G b0 S x1 0 12 _) h kX9_in tw_865 rfl (by decide) rfl (Nat.le_of_ble_eq_true rfl) dX9_few_4 (by decide)) (fun r_11 S_10 H locs h hM => ?_)
  refine lv_if_ne (tgt := 12) hC.1 hC.2.1 dX9_few_7 (by decide) (fun c_12 => ?_) (fun c_12 => ?_)
  · have h := h.2 c_12
    refine lv_aload_n hC.1 hC.2.1 dX9_few_12 rfl (lv_at hl 0 rfl) ?_
    obtain ⟨ok_13, h⟩ := h
    refine mm_gi hC hM (ci := 9) (j := 11) ok_13 rfl (by decide) (by decide) tw_802 rfl dX9_few_13 ?_
    refine lv_if_ne (tgt := 22) hC.1 hC.2.1 dX9_few_16 (by decide) (fun c_14 => ?_) (fun c_14 => ?_)
    · have h := h.2 c_14
      refine lv_iconst (v := 0) hC.1 hC.2.1 dX9_few_22 (by decide) ?_
      refine lv_istore_n (lv' := [(2, .int 0), (0, .ref (b0 + o)), (1, .int x1)]) hC.1 hC.2.1 dX9_few_23 rfl hl (by decide) rfl (fun ls hl => ?_)
      refine lv_iconst (v := 1) hC.1 hC.2.1 dX9_few_24 (by decide) ?_
      refine lv_istore_n (lv' := [(3, .int 1), (2, .int 0), (0, .ref (b0 + o)), (1, .int x1)]) hC.1 hC.2.1 dX9_few_25 rfl hl (by decide) rfl (fun ls hl => ?_)
      obtain ⟨n1, h⟩ := h
      exact qX9_few_26 hC hr hlk n1 _ _ _ _ _ H locs ls h hM (lv_sub hl [2, 3, 1, 0] rfl)
    · have h := h.1 c_14
      refine lv_bipush (v := (-6)) hC.1 hC.2.1 dX9_few_19 (by decide) ?_
      exact mm_iret hC hr hlk hM h dX9_few_21
  · have h := h.1 c_12
    refine lv_iconst (v := (-1)) hC.1 hC.2.1 dX9_few_10 (by decide) ?_
    exact mm_iret hC hr hlk hM h dX9_few_11
set_option maxHeartbeats 4000000 in
set_option maxRecDepth 100000 in
theorem qX9_find_2 {p : Program} {l : Launch} {e : Env} {s : State} {m : MethodId} {args : Array Value} {below : List Frame} {meth : Method} {c : Code} {G : Gt} {b0 : Nat} (hC : CallFix p m c cX9_find 3 s args lw_g RX9) (hr : meth.sig.returnType = (some .int)) (hlk : meth.locks = false) {K : Int32 → St → Prop} : ∀ (n : Nat) (x0 : Nat) (x1 : Int32) (x2 : Int32) (S : St) (H : Heap) (locs : List Loc) (ls : Array Slot), wX9_find_2 K n x0 x1 x2 S → MM G b0 s S H locs → lv_has ls 3 [(0, .ref (b0 + x0)), (1, .int x1), (2, .int x2)] → W p l e rmX9_find s m args below meth c H locs 0 0 (MQ below (va_Qi K (ME G b0) (AB b0)) args s 0 0 (AB b0)) (F0 m 2 ls []) := by
  intro n
  induction n with
  | zero =>
    intro x0 x1 x2 S H locs ls h
    exact False.elim h
  | succ n ih =>
    intro x0 x1 x2 S H locs ls h hM hl
    rw [wX9_find_2] at h
    refine lv_iload_n hC.1 hC.2.1 dX9_find_2 rfl (lv_at hl 2 rfl) ?_
    refine lv_aload_n hC.1 hC.2.1 dX9_find_3 rfl (lv_at hl 0 rfl) ?_
    obtain ⟨ok_1, h⟩ := h
    refine mm_gi hC hM (ci := 9) (j := 11) ok_1 rfl (by decide) (by decide) tw_802 rfl dX9_find_4 ?_
    refine lv_icmp_ge (tgt := 28) hC.1 hC.2.1 dX9_find_7 (by decide) (fun c_2 => ?_) (fun c_2 => ?_)
    · have h := h.1 c_2
      refine lv_iconst (v := (-1)) hC.1 hC.2.1 dX9_find_28 (by decide) ?_
      exact mm_iret hC hr hlk hM h dX9_find_29
    · have h := h.2 c_2
      refine lv_aload_n hC.1 hC.2.1 dX9_find_10 rfl (lv_at hl 0 rfl) ?_
      obtain ⟨ok_3, h⟩ := h
      refine mm_gr hC hM (ci := 9) (j := 12) ⟨ok_1, ok_3⟩ rfl (by decide) (by decide) tw_803 rfl dX9_find_11 ?_
      refine lv_iload_n hC.1 hC.2.1 dX9_find_14 rfl (lv_at hl 2 rfl) ?_
      obtain ⟨ok_4, h⟩ := h
      refine mm_il hC hM ok_4 dX9_find_15 ?_
      refine lv_iload_n hC.1 hC.2.1 dX9_find_16 rfl (lv_at hl 1 rfl) ?_
      refine lv_icmp_ne (tgt := 22) hC.1 hC.2.1 dX9_find_17 (by decide) (fun c_5 => ?_) (fun c_5 => ?_)
      · have h := h.2 c_5
        obtain ⟨x2_6, ex2_6⟩ : ∃ y : Int32, y = x2 + 1 := ⟨_, rfl⟩
        have h := h x2_6 ex2_6
        refine lv_iinc (v := x2_6) (lv' := [(2, .int x2_6), (0, .ref (b0 + x0)), (1, .int x1)]) hC.1 hC.2.1 dX9_find_22 hl (k := 2) rfl (by rw [ex2_6]; rfl) (by decide) rfl (fun ls hl => ?_)
        refine lv_goto (tgt := 2) hC.1 hC.2.1 dX9_find_25 (by decide) ?_
        exact ih _ _ _ _ H locs ls h hM (lv_sub hl [1, 2, 0] rfl)
      · have h := h.1 c_5
        refine lv_iload_n hC.1 hC.2.1 dX9_find_20 rfl (lv_at hl 2 rfl) ?_
        exact mm_iret hC hr hlk hM h dX9_find_21
set_option maxHeartbeats 4000000 in
set_option maxRecDepth 100000 in
theorem mX9_find (l : Launch) (G : Gt) (b0 : Nat) (S : St) (o : Nat) (x1 : Int32) (K : Int32 → St → Prop) : CI l G b0 S yX9_find cX9_find 3 (some .int) rmX9_find [.ref (b0 + o), .int x1] (wX9_find S o x1 K) K := by
  refine met_of (by decide) (Nat.le_of_ble_eq_true rfl) rfl ?_
  intro p e s m below meth c hC hr hlk hin h H locs ls hM hl
  unfold wX9_find at h
  refine lv_iconst (v := 0) hC.1 hC.2.1 dX9_find_0 (by decide) ?_
  refine lv_istore_n (lv' := [(2, .int 0), (0, .ref (b0 + o)), (1, .int x1)]) hC.1 hC.2.1 dX9_find_1 rfl hl (by decide) rfl (fun ls hl => ?_)
  obtain ⟨n1, h⟩ := h
  exact qX9_find_2 hC hr hlk n1 _ _ _ _ H locs ls h hM (lv_sub hl [1, 2, 0] rfl)
set_option maxHeartbeats 4000000 in
set_option maxRecDepth 100000 in
theorem qX9_twoOf_31 {p : Program} {l : Launch} {e : Env} {s : State} {m : MethodId} {args : Array Value} {below : List Frame} {meth : Method} {c : Code} {G : Gt} {b0 : Nat} (hC : CallFix p m c cX9_twoOf 8 s args lw_g RX9) (hr : meth.sig.returnType = (some .int)) (hlk : meth.locks = false) {K : Int32 → St → Prop} {B4 : Nat → Int32 → Int32 → Int32 → St → Prop} (hB4 : ∀ (x0 : Nat) (x1 : Int32) (x2 : Int32) (x3 : Int32) (S : St) (H : Heap) (locs : List Loc) (ls : Array Slot), B4 x0 x1 x2 x3 S → MM G b0 s S H locs → lv_has ls 8 [(0, .ref (b0 + x0)), (1, .int x1), (2, .int x2), (3, .int x3)] → W p l e rmX9_twoOf s m args below meth c H locs 0 0 (MQ below (va_Qi K (ME G b0) (AB b0)) args s 0 0 (AB b0)) (F0 m 4 ls [])) : ∀ (x0 : Nat) (x1 : Int32) (x3 : Int32) (t0 : Int32) (t1 : Int32) (S : St) (H : Heap) (locs : List Loc) (ls : Array Slot), wX9_twoOf_31 K B4 x0 x1 x3 t0 t1 S → MM G b0 s S H locs → lv_has ls 8 [(0, .ref (b0 + x0)), (1, .int x1), (3, .int x3)] → W p l e rmX9_twoOf s m args below meth c H locs 0 0 (MQ below (va_Qi K (ME G b0) (AB b0)) args s 0 0 (AB b0)) (F0 m 31 ls [.int t1, .int t0]) := by
  intro x0 x1 x3 t0 t1 S H locs ls h hM hl
  unfold wX9_twoOf_31 at h
  refine lv_iadd hC.1 hC.2.1 dX9_twoOf_31 ?_
  refine lv_topi (fun x2_1 ex2_1 => ?_)
  have h := h x2_1 ex2_1
  refine lv_istore_n (lv' := [(2, .int x2_1), (0, .ref (b0 + x0)), (1, .int x1), (3, .int x3)]) hC.1 hC.2.1 dX9_twoOf_32 rfl hl (by decide) rfl (fun ls hl => ?_)
  obtain ⟨x3_2, ex3_2⟩ : ∃ y : Int32, y = x3 + 1 := ⟨_, rfl⟩
  have h := h x3_2 ex3_2
  refine lv_iinc (v := x3_2) (lv' := [(3, .int x3_2), (2, .int x2_1), (0, .ref (b0 + x0)), (1, .int x1)]) hC.1 hC.2.1 dX9_twoOf_33 hl (k := 3) rfl (by rw [ex3_2]; rfl) (by decide) rfl (fun ls hl => ?_)
  refine lv_goto (tgt := 4) hC.1 hC.2.1 dX9_twoOf_36 (by decide) ?_
  exact hB4 _ _ _ _ _ H locs ls h hM (lv_sub hl [2, 3, 1, 0] rfl)
set_option maxHeartbeats 4000000 in
set_option maxRecDepth 100000 in
theorem qX9_twoOf_138 {p : Program} {l : Launch} {e : Env} {s : State} {m : MethodId} {args : Array Value} {below : List Frame} {meth : Method} {c : Code} {G : Gt} {b0 : Nat} (hC : CallFix p m c cX9_twoOf 8 s args lw_g RX9) (hr : meth.sig.returnType = (some .int)) (hlk : meth.locks = false) {K : Int32 → St → Prop} {B44 : Nat → Int32 → Int32 → Int32 → Int32 → St → Prop} (hB44 : ∀ (x0 : Nat) (x1 : Int32) (x2 : Int32) (x3 : Int32) (x4 : Int32) (S : St) (H : Heap) (locs : List Loc) (ls : Array Slot), B44 x0 x1 x2 x3 x4 S → MM G b0 s S H locs → lv_has ls 8 [(0, .ref (b0 + x0)), (1, .int x1), (2, .int x2), (3, .int x3), (4, .int x4)] → W p l e rmX9_twoOf s m args below meth c H locs 0 0 (MQ below (va_Qi K (ME G b0) (AB b0)) args s 0 0 (AB b0)) (F0 m 44 ls [])) : ∀ (x0 : Nat) (x1 : Int32) (x2 : Int32) (x3 : Int32) (x4 : Int32) (S : St) (H : Heap) (locs : List Loc) (ls : Array Slot), wX9_twoOf_138 K B44 x0 x1 x2 x3 x4 S → MM G b0 s S H locs → lv_has ls 8 [(0, .ref (b0 + x0)), (1, .int x1), (2, .int x2), (3, .int x3), (4, .int x4)] → W p l e rmX9_twoOf s m args below meth c H locs 0 0 (MQ below (va_Qi K (ME G b0) (AB b0)) args s 0 0 (AB b0)) (F0 m 138 ls []) := by
  intro x0 x1 x2 x3 x4 S H locs ls h hM hl
  unfold wX9_twoOf_138 at h
  obtain ⟨x4_3, ex4_3⟩ : ∃ y : Int32, y = x4 + 1 := ⟨_, rfl⟩
  have h := h x4_3 ex4_3
  refine lv_iinc (v := x4_3) (lv' := [(4, .int x4_3), (0, .ref (b0 + x0)), (1, .int x1), (2, .int x2), (3, .int x3)]) hC.1 hC.2.1 dX9_twoOf_138 hl (k := 4) rfl (by rw [ex4_3]; rfl) (by decide) rfl (fun ls hl => ?_)
  refine lv_goto (tgt := 44) hC.1 hC.2.1 dX9_twoOf_141 (by decide) ?_
  exact hB44 _ _ _ _ _ _ H locs ls h hM (lv_sub hl [1, 2, 3, 4, 0] rfl)
set_option maxHeartbeats 4000000 in
set_option maxRecDepth 100000 in
theorem qX9_twoOf_113 {p : Program} {l : Launch} {e : Env} {s : State} {m : MethodId} {args : Array Value} {below : List Frame} {meth : Method} {c : Code} {G : Gt} {b0 : Nat} (hC : CallFix p m c cX9_twoOf 8 s args lw_g RX9) (hr : meth.sig.returnType = (some .int)) (hlk : meth.locks = false) {K : Int32 → St → Prop} {B71 : Nat → Int32 → Int32 → Int32 → Int32 → Int32 → Int32 → St → Prop} (hB71 : ∀ (x0 : Nat) (x1 : Int32) (x2 : Int32) (x3 : Int32) (x4 : Int32) (x5 : Int32) (x6 : Int32) (S : St) (H : Heap) (locs : List Loc) (ls : Array Slot), B71 x0 x1 x2 x3 x4 x5 x6 S → MM G b0 s S H locs → lv_has ls 8 [(0, .ref (b0 + x0)), (1, .int x1), (2, .int x2), (3, .int x3), (4, .int x4), (5, .int x5), (6, .int x6)] → W p l e rmX9_twoOf s m args below meth c H locs 0 0 (MQ below (va_Qi K (ME G b0) (AB b0)) args s 0 0 (AB b0)) (F0 m 71 ls [])) : ∀ (x0 : Nat) (x1 : Int32) (x2 : Int32) (x3 : Int32) (x4 : Int32) (x6 : Int32) (t0 : Int32) (S : St) (H : Heap) (locs : List Loc) (ls : Array Slot), wX9_twoOf_113 K B71 x0 x1 x2 x3 x4 x6 t0 S → MM G b0 s S H locs → lv_has ls 8 [(0, .ref (b0 + x0)), (1, .int x1), (2, .int x2), (3, .int x3), (4, .int x4), (6, .int x6)] → W p l e rmX9_twoOf s m args below meth c H locs 0 0 (MQ below (va_Qi K (ME G b0) (AB b0)) args s 0 0 (AB b0)) (F0 m 113 ls [.int t0]) := by
  intro x0 x1 x2 x3 x4 x6 t0 S H locs ls h hM hl
  unfold wX9_twoOf_113 at h
  refine lv_istore (lv' := [(5, .int t0), (0, .ref (b0 + x0)), (1, .int x1), (2, .int x2), (3, .int x3), (4, .int x4), (6, .int x6)]) hC.1 hC.2.1 dX9_twoOf_113 hl (by decide) rfl (fun ls hl => ?_)
  obtain ⟨x6_4, ex6_4⟩ : ∃ y : Int32, y = x6 + 1 := ⟨_, rfl⟩
  have h := h x6_4 ex6_4
  refine lv_iinc (v := x6_4) (lv' := [(6, .int x6_4), (5, .int t0), (0, .ref (b0 + x0)), (1, .int x1), (2, .int x2), (3, .int x3), (4, .int x4)]) hC.1 hC.2.1 dX9_twoOf_115 hl (k := 6) rfl (by rw [ex6_4]; rfl) (by decide) rfl (fun ls hl => ?_)
  refine lv_goto (tgt := 71) hC.1 hC.2.1 dX9_twoOf_118 (by decide) ?_
  exact hB71 _ _ _ _ _ _ _ _ H locs ls h hM (lv_sub hl [2, 3, 4, 5, 6, 1, 0] rfl)
set_option maxHeartbeats 4000000 in
set_option maxRecDepth 100000 in
theorem qX9_twoOf_137 {p : Program} {l : Launch} {e : Env} {s : State} {m : MethodId} {args : Array Value} {below : List Frame} {meth : Method} {c : Code} {G : Gt} {b0 : Nat} (hC : CallFix p m c cX9_twoOf 8 s args lw_g RX9) (hr : meth.sig.returnType = (some .int)) (hlk : meth.locks = false) {K : Int32 → St → Prop} {B44 : Nat → Int32 → Int32 → Int32 → Int32 → St → Prop} (hB44 : ∀ (x0 : Nat) (x1 : Int32) (x2 : Int32) (x3 : Int32) (x4 : Int32) (S : St) (H : Heap) (locs : List Loc) (ls : Array Slot), B44 x0 x1 x2 x3 x4 S → MM G b0 s S H locs → lv_has ls 8 [(0, .ref (b0 + x0)), (1, .int x1), (2, .int x2), (3, .int x3), (4, .int x4)] → W p l e rmX9_twoOf s m args below meth c H locs 0 0 (MQ below (va_Qi K (ME G b0) (AB b0)) args s 0 0 (AB b0)) (F0 m 44 ls [])) : ∀ (x0 : Nat) (x1 : Int32) (x2 : Int32) (x4 : Int32) (t0 : Int32) (S : St) (H : Heap) (locs : List Loc) (ls : Array Slot), wX9_twoOf_137 K B44 x0 x1 x2 x4 t0 S → MM G b0 s S H locs → lv_has ls 8 [(0, .ref (b0 + x0)), (1, .int x1), (2, .int x2), (4, .int x4)] → W p l e rmX9_twoOf s m args below meth c H locs 0 0 (MQ below (va_Qi K (ME G b0) (AB b0)) args s 0 0 (AB b0)) (F0 m 137 ls [.int t0]) := by
  intro x0 x1 x2 x4 t0 S H locs ls h hM hl
  unfold wX9_twoOf_137 at h
  refine lv_istore_n (lv' := [(3, .int t0), (0, .ref (b0 + x0)), (1, .int x1), (2, .int x2), (4, .int x4)]) hC.1 hC.2.1 dX9_twoOf_137 rfl hl (by decide) rfl (fun ls hl => ?_)
  exact qX9_twoOf_138 hC hr hlk hB44 _ _ _ _ _ _ H locs ls h hM (lv_sub hl [1, 2, 3, 0, 4] rfl)
set_option maxHeartbeats 4000000 in
set_option maxRecDepth 100000 in
theorem qX9_twoOf_121 {p : Program} {l : Launch} {e : Env} {s : State} {m : MethodId} {args : Array Value} {below : List Frame} {meth : Method} {c : Code} {G : Gt} {b0 : Nat} (hC : CallFix p m c cX9_twoOf 8 s args lw_g RX9) (hr : meth.sig.returnType = (some .int)) (hlk : meth.locks = false) {K : Int32 → St → Prop} {B44 : Nat → Int32 → Int32 → Int32 → Int32 → St → Prop} (hB44 : ∀ (x0 : Nat) (x1 : Int32) (x2 : Int32) (x3 : Int32) (x4 : Int32) (S : St) (H : Heap) (locs : List Loc) (ls : Array Slot), B44 x0 x1 x2 x3 x4 S → MM G b0 s S H locs → lv_has ls 8 [(0, .ref (b0 + x0)), (1, .int x1), (2, .int x2), (3, .int x3), (4, .int x4)] → W p l e rmX9_twoOf s m args below meth c H locs 0 0 (MQ below (va_Qi K (ME G b0) (AB b0)) args s 0 0 (AB b0)) (F0 m 44 ls [])) : ∀ (x0 : Nat) (x1 : Int32) (x2 : Int32) (x3 : Int32) (x4 : Int32) (x5 : Int32) (S : St) (H : Heap) (locs : List Loc) (ls : Array Slot), wX9_twoOf_121 K B44 x0 x1 x2 x3 x4 x5 S → MM G b0 s S H locs → lv_has ls 8 [(0, .ref (b0 + x0)), (1, .int x1), (2, .int x2), (3, .int x3), (4, .int x4), (5, .int x5)] → W p l e rmX9_twoOf s m args below meth c H locs 0 0 (MQ below (va_Qi K (ME G b0) (AB b0)) args s 0 0 (AB b0)) (F0 m 121 ls []) := by
  intro x0 x1 x2 x3 x4 x5 S H locs ls h hM hl
  unfold wX9_twoOf_121 at h
  refine lv_iload_n hC.1 hC.2.1 dX9_twoOf_121 rfl (lv_at hl 2 rfl) ?_
  refine lv_iload hC.1 hC.2.1 dX9_twoOf_122 (lv_at hl 5 rfl) ?_
  refine lv_iadd hC.1 hC.2.1 dX9_twoOf_124 ?_
  refine lv_iload_n hC.1 hC.2.1 dX9_twoOf_125 rfl (lv_at hl 3 rfl) ?_
  refine lv_icmp_le (tgt := 136) hC.1 hC.2.1 dX9_twoOf_126 (by decide) (fun c_5 => ?_) (fun c_5 => ?_)
  · have h := h.1 c_5
    refine lv_iload_n hC.1 hC.2.1 dX9_twoOf_136 rfl (lv_at hl 3 rfl) ?_
    exact qX9_twoOf_137 hC hr hlk hB44 _ _ _ _ _ _ H locs ls h hM (lv_sub hl [0, 1, 2, 4] rfl)
  · have h := h.2 c_5
    refine lv_iload_n hC.1 hC.2.1 dX9_twoOf_129 rfl (lv_at hl 2 rfl) ?_
    refine lv_iload hC.1 hC.2.1 dX9_twoOf_130 (lv_at hl 5 rfl) ?_
    refine lv_iadd hC.1 hC.2.1 dX9_twoOf_132 ?_
    refine lv_goto (tgt := 137) hC.1 hC.2.1 dX9_twoOf_133 (by decide) ?_
    exact qX9_twoOf_137 hC hr hlk hB44 _ _ _ _ _ _ H locs ls h hM (lv_sub hl [0, 1, 2, 4] rfl)
set_option maxHeartbeats 4000000 in
set_option maxRecDepth 100000 in
theorem qX9_twoOf_71 {p : Program} {l : Launch} {e : Env} {s : State} {m : MethodId} {args : Array Value} {below : List Frame} {meth : Method} {c : Code} {G : Gt} {b0 : Nat} (hC : CallFix p m c cX9_twoOf 8 s args lw_g RX9) (hr : meth.sig.returnType = (some .int)) (hlk : meth.locks = false) {K : Int32 → St → Prop} {B44 : Nat → Int32 → Int32 → Int32 → Int32 → St → Prop} (hB44 : ∀ (x0 : Nat) (x1 : Int32) (x2 : Int32) (x3 : Int32) (x4 : Int32) (S : St) (H : Heap) (locs : List Loc) (ls : Array Slot), B44 x0 x1 x2 x3 x4 S → MM G b0 s S H locs → lv_has ls 8 [(0, .ref (b0 + x0)), (1, .int x1), (2, .int x2), (3, .int x3), (4, .int x4)] → W p l e rmX9_twoOf s m args below meth c H locs 0 0 (MQ below (va_Qi K (ME G b0) (AB b0)) args s 0 0 (AB b0)) (F0 m 44 ls [])) : ∀ (n : Nat) (x0 : Nat) (x1 : Int32) (x2 : Int32) (x3 : Int32) (x4 : Int32) (x5 : Int32) (x6 : Int32) (S : St) (H : Heap) (locs : List Loc) (ls : Array Slot), wX9_twoOf_71 K B44 n x0 x1 x2 x3 x4 x5 x6 S → MM G b0 s S H locs → lv_has ls 8 [(0, .ref (b0 + x0)), (1, .int x1), (2, .int x2), (3, .int x3), (4, .int x4), (5, .int x5), (6, .int x6)] → W p l e rmX9_twoOf s m args below meth c H locs 0 0 (MQ below (va_Qi K (ME G b0) (AB b0)) args s 0 0 (AB b0)) (F0 m 71 ls []) := by
  intro n
  induction n with
  | zero =>
    intro x0 x1 x2 x3 x4 x5 x6 S H locs ls h
    exact False.elim h
  | succ n ih =>
    intro x0 x1 x2 x3 x4 x5 x6 S H locs ls h hM hl
    rw [wX9_twoOf_71] at h
    refine lv_iload hC.1 hC.2.1 dX9_twoOf_71 (lv_at hl 6 rfl) ?_
    refine lv_aload_n hC.1 hC.2.1 dX9_twoOf_73 rfl (lv_at hl 0 rfl) ?_
    obtain ⟨ok_6, h⟩ := h
    refine mm_gi hC hM (ci := 9) (j := 11) ok_6 rfl (by decide) (by decide) tw_802 rfl dX9_twoOf_74 ?_
    refine lv_icmp_ge (tgt := 121) hC.1 hC.2.1 dX9_twoOf_77 (by decide) (fun c_7 => ?_) (fun c_7 => ?_)
    · have h := h.1 c_7
      exact qX9_twoOf_121 hC hr hlk hB44 _ _ _ _ _ _ _ H locs ls h hM (lv_sub hl [0, 1, 2, 3, 4, 5] rfl)
    · have h := h.2 c_7
      refine lv_aload_n hC.1 hC.2.1 dX9_twoOf_80 rfl (lv_at hl 0 rfl) ?_
      refine lv_iload hC.1 hC.2.1 dX9_twoOf_81 (lv_at hl 4 rfl) ?_
      refine lv_aload_n hC.1 hC.2.1 dX9_twoOf_83 rfl (lv_at hl 0 rfl) ?_
      obtain ⟨ok_8, h⟩ := h
      refine mm_gr hC hM (ci := 9) (j := 12) ⟨ok_6, ok_8⟩ rfl (by decide) (by decide) tw_803 rfl dX9_twoOf_84 ?_
      refine lv_iload hC.1 hC.2.1 dX9_twoOf_87 (lv_at hl 6 rfl) ?_
      obtain ⟨ok_9, h⟩ := h
      refine mm_il hC hM ok_9 dX9_twoOf_89 ?_
      refine lv_iload_n hC.1 hC.2.1 dX9_twoOf_90 rfl (lv_at hl 1 rfl) ?_
      refine lv_iconst (v := (-1)) hC.1 hC.2.1 dX9_twoOf_91 (by decide) ?_
      refine lv_ixor hC.1 hC.2.1 dX9_twoOf_92 ?_
      refine lv_iand hC.1 hC.2.1 dX9_twoOf_93 ?_
      refine mm_ri hM (mm_V (As := [.int x4, .int ((sI S (sR S x0 12) (x6 : Int32).toNatClampNeg) &&& (x1 ^^^ (-1)))]) (rest := []) hC hM hl.1 (mX9_sumIn l G b0 S x0 x4 ((sI S (sR S x0 12) (x6 : Int32).toNatClampNeg) &&& (x1 ^^^ (-1))) _) h (ci := 9) ok_6 rfl rfl kX9_sumIn tw_1014 rfl (by decide) rfl (Nat.le_of_ble_eq_true rfl) dX9_twoOf_94 (by decide)) (fun r_11 S_10 H locs h hM => ?_)
      refine lv_istore (lv' := [(7, .int r_11), (0, .ref (b0 + x0)), (1, .int x1), (2, .int x2), (3, .int x3), (4, .int x4), (5, .int x5), (6, .int x6)]) hC.1 hC.2.1 dX9_twoOf_97 hl (by decide) rfl (fun ls hl => ?_)
      refine lv_iload hC.1 hC.2.1 dX9_twoOf_99 (lv_at hl 0 rfl) ?_
      refine lv_iload hC.1 hC.2.1 dX9_twoOf_101 (lv_at hl 6 rfl) ?_
      refine lv_icmp_ge (tgt := 111) hC.1 hC.2.1 dX9_twoOf_103 (by decide) (fun c_12 => ?_) (fun c_12 => ?_)
      · have h := h.1 c_12
        refine lv_iload hC.1 hC.2.1 dX9_twoOf_111 (lv_at hl 6 rfl) ?_
        exact qX9_twoOf_113 hC hr hlk ih _ _ _ _ _ _ _ _ H locs ls h hM (lv_sub hl [1, 2, 3, 4, 5, 7] rfl)
      · have h := h.2 c_12
        refine lv_iload hC.1 hC.2.1 dX9_twoOf_106 (lv_at hl 0 rfl) ?_
        refine lv_goto (tgt := 113) hC.1 hC.2.1 dX9_twoOf_108 (by decide) ?_
        exact qX9_twoOf_113 hC hr hlk ih _ _ _ _ _ _ _ _ H locs ls h hM (lv_sub hl [1, 2, 3, 4, 5, 7] rfl)
set_option maxHeartbeats 4000000 in
set_option maxRecDepth 100000 in
theorem qX9_twoOf_44 {p : Program} {l : Launch} {e : Env} {s : State} {m : MethodId} {args : Array Value} {below : List Frame} {meth : Method} {c : Code} {G : Gt} {b0 : Nat} (hC : CallFix p m c cX9_twoOf 8 s args lw_g RX9) (hr : meth.sig.returnType = (some .int)) (hlk : meth.locks = false) {K : Int32 → St → Prop} : ∀ (n : Nat) (x0 : Nat) (x1 : Int32) (x2 : Int32) (x3 : Int32) (x4 : Int32) (S : St) (H : Heap) (locs : List Loc) (ls : Array Slot), wX9_twoOf_44 K n x0 x1 x2 x3 x4 S → MM G b0 s S H locs → lv_has ls 8 [(0, .ref (b0 + x0)), (1, .int x1), (2, .int x2), (3, .int x3), (4, .int x4)] → W p l e rmX9_twoOf s m args below meth c H locs 0 0 (MQ below (va_Qi K (ME G b0) (AB b0)) args s 0 0 (AB b0)) (F0 m 44 ls []) := by
  intro n
  induction n with
  | zero =>
    intro x0 x1 x2 x3 x4 S H locs ls h
    exact False.elim h
  | succ n ih =>
    intro x0 x1 x2 x3 x4 S H locs ls h hM hl
    rw [wX9_twoOf_44] at h
    refine lv_iload hC.1 hC.2.1 dX9_twoOf_44 (lv_at hl 4 rfl) ?_
    refine lv_bipush (v := 8) hC.1 hC.2.1 dX9_twoOf_46 (by decide) ?_
    refine lv_icmp_ge (tgt := 144) hC.1 hC.2.1 dX9_twoOf_48 (by decide) (fun c_13 => ?_) (fun c_13 => ?_)
    · have h := h.1 c_13
      refine lv_iload_n hC.1 hC.2.1 dX9_twoOf_144 rfl (lv_at hl 3 rfl) ?_
      exact mm_iret hC hr hlk hM h dX9_twoOf_145
    · have h := h.2 c_13
      refine lv_aload_n hC.1 hC.2.1 dX9_twoOf_51 rfl (lv_at hl 0 rfl) ?_
      obtain ⟨ok_14, h⟩ := h
      refine mm_gr hC hM (ci := 9) (j := 9) ok_14 rfl (by decide) (by decide) tw_800 rfl dX9_twoOf_52 ?_
      refine lv_iload hC.1 hC.2.1 dX9_twoOf_55 (lv_at hl 4 rfl) ?_
      obtain ⟨ok_15, h⟩ := h
      refine mm_zl hC hM ok_15 dX9_twoOf_57 ?_
      refine lv_if_ne (tgt := 64) hC.1 hC.2.1 dX9_twoOf_58 (by decide) (fun c_16 => ?_) (fun c_16 => ?_)
      · have h := h.2 c_16
        refine lv_ldc (v := 1000000) hC.1 hC.2.1 hC.2.2.2.1 (hC.2.2.2.2 _ tw_993) dX9_twoOf_64 ?_
        refine lv_istore (lv' := [(5, .int 1000000), (0, .ref (b0 + x0)), (1, .int x1), (2, .int x2), (3, .int x3), (4, .int x4)]) hC.1 hC.2.1 dX9_twoOf_66 hl (by decide) rfl (fun ls hl => ?_)
        refine lv_iconst (v := 0) hC.1 hC.2.1 dX9_twoOf_68 (by decide) ?_
        refine lv_istore (lv' := [(6, .int 0), (5, .int 1000000), (0, .ref (b0 + x0)), (1, .int x1), (2, .int x2), (3, .int x3), (4, .int x4)]) hC.1 hC.2.1 dX9_twoOf_69 hl (by decide) rfl (fun ls hl => ?_)
        obtain ⟨n1, h⟩ := h
        exact qX9_twoOf_71 hC hr hlk ih n1 _ _ _ _ _ _ _ _ H locs ls h hM (lv_sub hl [2, 3, 4, 5, 6, 1, 0] rfl)
      · have h := h.1 c_16
        refine lv_goto (tgt := 138) hC.1 hC.2.1 dX9_twoOf_61 (by decide) ?_
        exact qX9_twoOf_138 hC hr hlk ih _ _ _ _ _ _ H locs ls h hM (lv_sub hl [0, 1, 2, 3, 4] rfl)
set_option maxHeartbeats 4000000 in
set_option maxRecDepth 100000 in
theorem qX9_twoOf_39 {p : Program} {l : Launch} {e : Env} {s : State} {m : MethodId} {args : Array Value} {below : List Frame} {meth : Method} {c : Code} {G : Gt} {b0 : Nat} (hC : CallFix p m c cX9_twoOf 8 s args lw_g RX9) (hr : meth.sig.returnType = (some .int)) (hlk : meth.locks = false) {K : Int32 → St → Prop} : ∀ (x0 : Nat) (x1 : Int32) (x2 : Int32) (S : St) (H : Heap) (locs : List Loc) (ls : Array Slot), wX9_twoOf_39 K x0 x1 x2 S → MM G b0 s S H locs → lv_has ls 8 [(0, .ref (b0 + x0)), (1, .int x1), (2, .int x2)] → W p l e rmX9_twoOf s m args below meth c H locs 0 0 (MQ below (va_Qi K (ME G b0) (AB b0)) args s 0 0 (AB b0)) (F0 m 39 ls []) := by
  intro x0 x1 x2 S H locs ls h hM hl
  unfold wX9_twoOf_39 at h
  refine lv_iconst (v := 0) hC.1 hC.2.1 dX9_twoOf_39 (by decide) ?_
  refine lv_istore_n (lv' := [(3, .int 0), (0, .ref (b0 + x0)), (1, .int x1), (2, .int x2)]) hC.1 hC.2.1 dX9_twoOf_40 rfl hl (by decide) rfl (fun ls hl => ?_)
  refine lv_iconst (v := 0) hC.1 hC.2.1 dX9_twoOf_41 (by decide) ?_
  refine lv_istore (lv' := [(4, .int 0), (3, .int 0), (0, .ref (b0 + x0)), (1, .int x1), (2, .int x2)]) hC.1 hC.2.1 dX9_twoOf_42 hl (by decide) rfl (fun ls hl => ?_)
  obtain ⟨n1, h⟩ := h
  exact qX9_twoOf_44 hC hr hlk n1 _ _ _ _ _ _ H locs ls h hM (lv_sub hl [2, 3, 4, 1, 0] rfl)
set_option maxHeartbeats 4000000 in
set_option maxRecDepth 100000 in
theorem qX9_twoOf_4 {p : Program} {l : Launch} {e : Env} {s : State} {m : MethodId} {args : Array Value} {below : List Frame} {meth : Method} {c : Code} {G : Gt} {b0 : Nat} (hC : CallFix p m c cX9_twoOf 8 s args lw_g RX9) (hr : meth.sig.returnType = (some .int)) (hlk : meth.locks = false) {K : Int32 → St → Prop} : ∀ (n : Nat) (x0 : Nat) (x1 : Int32) (x2 : Int32) (x3 : Int32) (S : St) (H : Heap) (locs : List Loc) (ls : Array Slot), wX9_twoOf_4 K n x0 x1 x2 x3 S → MM G b0 s S H locs → lv_has ls 8 [(0, .ref (b0 + x0)), (1, .int x1), (2, .int x2), (3, .int x3)] → W p l e rmX9_twoOf s m args below meth c H locs 0 0 (MQ below (va_Qi K (ME G b0) (AB b0)) args s 0 0 (AB b0)) (F0 m 4 ls []) := by
  intro n
  induction n with
  | zero =>
    intro x0 x1 x2 x3 S H locs ls h
    exact False.elim h
  | succ n ih =>
    intro x0 x1 x2 x3 S H locs ls h hM hl
    rw [wX9_twoOf_4] at h
    refine lv_iload_n hC.1 hC.2.1 dX9_twoOf_4 rfl (lv_at hl 3 rfl) ?_
    refine lv_aload_n hC.1 hC.2.1 dX9_twoOf_5 rfl (lv_at hl 0 rfl) ?_
    obtain ⟨ok_17, h⟩ := h
    refine mm_gi hC hM (ci := 9) (j := 1) ok_17 rfl (by decide) (by decide) tw_792 rfl dX9_twoOf_6 ?_
    refine lv_icmp_ge (tgt := 39) hC.1 hC.2.1 dX9_twoOf_9 (by decide) (fun c_18 => ?_) (fun c_18 => ?_)
    · have h := h.1 c_18
      exact qX9_twoOf_39 hC hr hlk _ _ _ _ H locs ls h hM (lv_sub hl [0, 1, 2] rfl)
    · have h := h.2 c_18
      refine lv_iload_n hC.1 hC.2.1 dX9_twoOf_12 rfl (lv_at hl 2 rfl) ?_
      refine lv_iload_n hC.1 hC.2.1 dX9_twoOf_13 rfl (lv_at hl 1 rfl) ?_
      refine lv_iload_n hC.1 hC.2.1 dX9_twoOf_14 rfl (lv_at hl 3 rfl) ?_
      refine mm_ri hM (mm_S (As := [.int x1, .int x3]) (rest := [.int x2]) hC hM hl.1 (mX9_has l G b0 S x1 x3 _) h kX9_has tw_772 rfl (by decide) rfl (Nat.le_of_ble_eq_true rfl) dX9_twoOf_15 (by decide)) (fun r_20 S_19 H locs h hM => ?_)
      refine lv_if_eq (tgt := 30) hC.1 hC.2.1 dX9_twoOf_18 (by decide) (fun c_21 => ?_) (fun c_21 => ?_)
      · have h := h.1 c_21
        refine lv_iconst (v := 0) hC.1 hC.2.1 dX9_twoOf_30 (by decide) ?_
        exact qX9_twoOf_31 hC hr hlk ih _ _ _ _ _ _ H locs ls h hM (lv_sub hl [0, 1, 3] rfl)
      · have h := h.2 c_21
        refine lv_aload_n hC.1 hC.2.1 dX9_twoOf_21 rfl (lv_at hl 0 rfl) ?_
        obtain ⟨ok_22, h⟩ := h
        refine mm_gr hC hM (ci := 9) (j := 8) ok_22 rfl (by decide) (by decide) tw_799 rfl dX9_twoOf_22 ?_
        refine lv_iload_n hC.1 hC.2.1 dX9_twoOf_25 rfl (lv_at hl 3 rfl) ?_
        obtain ⟨ok_23, h⟩ := h
        refine mm_il hC hM ok_23 dX9_twoOf_26 ?_
        refine lv_goto (tgt := 31) hC.1 hC.2.1 dX9_twoOf_27 (by decide) ?_
        exact qX9_twoOf_31 hC hr hlk ih _ _ _ _ _ _ H locs ls h hM (lv_sub hl [0, 1, 3] rfl)
set_option maxHeartbeats 4000000 in
set_option maxRecDepth 100000 in
theorem mX9_twoOf (l : Launch) (G : Gt) (b0 : Nat) (S : St) (o : Nat) (x1 : Int32) (K : Int32 → St → Prop) : CI l G b0 S yX9_twoOf cX9_twoOf 8 (some .int) rmX9_twoOf [.ref (b0 + o), .int x1] (wX9_twoOf S o x1 K) K := by
  refine met_of (by decide) (Nat.le_of_ble_eq_true rfl) rfl ?_
  intro p e s m below meth c hC hr hlk hin h H locs ls hM hl
  unfold wX9_twoOf at h
  refine lv_iconst (v := 0) hC.1 hC.2.1 dX9_twoOf_0 (by decide) ?_
  refine lv_istore_n (lv' := [(2, .int 0), (0, .ref (b0 + o)), (1, .int x1)]) hC.1 hC.2.1 dX9_twoOf_1 rfl hl (by decide) rfl (fun ls hl => ?_)
  refine lv_iconst (v := 0) hC.1 hC.2.1 dX9_twoOf_2 (by decide) ?_
  refine lv_istore_n (lv' := [(3, .int 0), (2, .int 0), (0, .ref (b0 + o)), (1, .int x1)]) hC.1 hC.2.1 dX9_twoOf_3 rfl hl (by decide) rfl (fun ls hl => ?_)
  obtain ⟨n1, h⟩ := h
  exact qX9_twoOf_4 hC hr hlk n1 _ _ _ _ _ H locs ls h hM (lv_sub hl [2, 3, 1, 0] rfl)
set_option maxHeartbeats 4000000 in
set_option maxRecDepth 100000 in
theorem qX9_first_61 {p : Program} {l : Launch} {e : Env} {s : State} {m : MethodId} {args : Array Value} {below : List Frame} {meth : Method} {c : Code} {G : Gt} {b0 : Nat} (hC : CallFix p m c cX9_first 5 s args lw_g RX9) (hr : meth.sig.returnType = (some .int)) (hlk : meth.locks = false) {K : Int32 → St → Prop} {B30 : Nat → Int32 → Int32 → Int32 → St → Prop} (hB30 : ∀ (x0 : Nat) (x1 : Int32) (x2 : Int32) (x3 : Int32) (S : St) (H : Heap) (locs : List Loc) (ls : Array Slot), B30 x0 x1 x2 x3 S → MM G b0 s S H locs → lv_has ls 5 [(0, .ref (b0 + x0)), (1, .int x1), (2, .int x2), (3, .int x3)] → W p l e rmX9_first s m args below meth c H locs 0 0 (MQ below (va_Qi K (ME G b0) (AB b0)) args s 0 0 (AB b0)) (F0 m 30 ls [])) : ∀ (x0 : Nat) (x1 : Int32) (x2 : Int32) (x3 : Int32) (S : St) (H : Heap) (locs : List Loc) (ls : Array Slot), wX9_first_61 K B30 x0 x1 x2 x3 S → MM G b0 s S H locs → lv_has ls 5 [(0, .ref (b0 + x0)), (1, .int x1), (2, .int x2), (3, .int x3)] → W p l e rmX9_first s m args below meth c H locs 0 0 (MQ below (va_Qi K (ME G b0) (AB b0)) args s 0 0 (AB b0)) (F0 m 61 ls []) := by
  intro x0 x1 x2 x3 S H locs ls h hM hl
  unfold wX9_first_61 at h
  obtain ⟨x3_1, ex3_1⟩ : ∃ y : Int32, y = x3 + 1 := ⟨_, rfl⟩
  have h := h x3_1 ex3_1
  refine lv_iinc (v := x3_1) (lv' := [(3, .int x3_1), (0, .ref (b0 + x0)), (1, .int x1), (2, .int x2)]) hC.1 hC.2.1 dX9_first_61 hl (k := 3) rfl (by rw [ex3_1]; rfl) (by decide) rfl (fun ls hl => ?_)
  refine lv_goto (tgt := 30) hC.1 hC.2.1 dX9_first_64 (by decide) ?_
  exact hB30 _ _ _ _ _ H locs ls h hM (lv_sub hl [1, 2, 3, 0] rfl)
set_option maxHeartbeats 4000000 in
set_option maxRecDepth 100000 in
theorem qX9_first_30 {p : Program} {l : Launch} {e : Env} {s : State} {m : MethodId} {args : Array Value} {below : List Frame} {meth : Method} {c : Code} {G : Gt} {b0 : Nat} (hC : CallFix p m c cX9_first 5 s args lw_g RX9) (hr : meth.sig.returnType = (some .int)) (hlk : meth.locks = false) {K : Int32 → St → Prop} : ∀ (n : Nat) (x0 : Nat) (x1 : Int32) (x2 : Int32) (x3 : Int32) (S : St) (H : Heap) (locs : List Loc) (ls : Array Slot), wX9_first_30 K n x0 x1 x2 x3 S → MM G b0 s S H locs → lv_has ls 5 [(0, .ref (b0 + x0)), (1, .int x1), (2, .int x2), (3, .int x3)] → W p l e rmX9_first s m args below meth c H locs 0 0 (MQ below (va_Qi K (ME G b0) (AB b0)) args s 0 0 (AB b0)) (F0 m 30 ls []) := by
  intro n
  induction n with
  | zero =>
    intro x0 x1 x2 x3 S H locs ls h
    exact False.elim h
  | succ n ih =>
    intro x0 x1 x2 x3 S H locs ls h hM hl
    rw [wX9_first_30] at h
    refine lv_iload_n hC.1 hC.2.1 dX9_first_30 rfl (lv_at hl 3 rfl) ?_
    refine lv_iconst (v := 1) hC.1 hC.2.1 dX9_first_31 (by decide) ?_
    refine lv_aload_n hC.1 hC.2.1 dX9_first_32 rfl (lv_at hl 0 rfl) ?_
    obtain ⟨ok_2, h⟩ := h
    refine mm_gi hC hM (ci := 9) (j := 1) ok_2 rfl (by decide) (by decide) tw_792 rfl dX9_first_33 ?_
    refine lv_ishl hC.1 hC.2.1 dX9_first_36 ?_
    refine lv_icmp_ge (tgt := 67) hC.1 hC.2.1 dX9_first_37 (by decide) (fun c_3 => ?_) (fun c_3 => ?_)
    · have h := h.1 c_3
      refine lv_iload_n hC.1 hC.2.1 dX9_first_67 rfl (lv_at hl 1 rfl) ?_
      exact mm_iret hC hr hlk hM h dX9_first_68
    · have h := h.2 c_3
      refine lv_aload_n hC.1 hC.2.1 dX9_first_40 rfl (lv_at hl 0 rfl) ?_
      refine lv_iload_n hC.1 hC.2.1 dX9_first_41 rfl (lv_at hl 3 rfl) ?_
      refine mm_ri hM (mm_V (As := [.int x3]) (rest := []) hC hM hl.1 (mX9_twoOf l G b0 S x0 x3 _) h (ci := 9) ok_2 rfl rfl kX9_twoOf tw_1065 rfl (by decide) rfl (Nat.le_of_ble_eq_true rfl) dX9_first_42 (by decide)) (fun r_5 S_4 H locs h hM => ?_)
      refine lv_istore (lv' := [(4, .int r_5), (0, .ref (b0 + x0)), (1, .int x1), (2, .int x2), (3, .int x3)]) hC.1 hC.2.1 dX9_first_45 hl (by decide) rfl (fun ls hl => ?_)
      refine lv_iload hC.1 hC.2.1 dX9_first_47 (lv_at hl 0 rfl) ?_
      refine lv_iload_n hC.1 hC.2.1 dX9_first_49 rfl (lv_at hl 3 rfl) ?_
      refine lv_icmp_lt (tgt := 56) hC.1 hC.2.1 dX9_first_50 (by decide) (fun c_6 => ?_) (fun c_6 => ?_)
      · have h := h.1 c_6
        refine lv_iload hC.1 hC.2.1 dX9_first_56 (lv_at hl 0 rfl) ?_
        refine lv_istore_n (lv' := [(2, .int r_5), (4, .int r_5), (0, .ref (b0 + x0)), (1, .int x1), (3, .int x3)]) hC.1 hC.2.1 dX9_first_58 rfl hl (by decide) rfl (fun ls hl => ?_)
        refine lv_iload_n hC.1 hC.2.1 dX9_first_59 rfl (lv_at hl 4 rfl) ?_
        refine lv_istore_n (lv' := [(1, .int x3), (2, .int r_5), (4, .int r_5), (0, .ref (b0 + x0)), (3, .int x3)]) hC.1 hC.2.1 dX9_first_60 rfl hl (by decide) rfl (fun ls hl => ?_)
        exact qX9_first_61 hC hr hlk ih _ _ _ _ _ H locs ls h hM (lv_sub hl [3, 0, 1, 4] rfl)
      · have h := h.2 c_6
        refine lv_goto (tgt := 61) hC.1 hC.2.1 dX9_first_53 (by decide) ?_
        exact qX9_first_61 hC hr hlk ih _ _ _ _ _ H locs ls h hM (lv_sub hl [1, 2, 3, 4] rfl)
set_option maxHeartbeats 4000000 in
set_option maxRecDepth 100000 in
theorem mX9_first (l : Launch) (G : Gt) (b0 : Nat) (S : St) (o : Nat) (K : Int32 → St → Prop) : CI l G b0 S yX9_first cX9_first 5 (some .int) rmX9_first [.ref (b0 + o)] (wX9_first S o K) K := by
  refine met_of (by decide) (Nat.le_of_ble_eq_true rfl) rfl ?_
  intro p e s m below meth c hC hr hlk hin h H locs ls hM hl
  unfold wX9_first at h
  refine lv_aload_n hC.1 hC.2.1 dX9_first_0 rfl (lv_at hl 0 rfl) ?_
  obtain ⟨ok_9, h⟩ := h
  refine mm_ri hM (mm_V (As := []) (rest := []) hC hM hl.1 (mX9_worlds l G b0 S o _) h (ci := 9) ok_9 rfl rfl kX9_worlds tw_908 rfl (by decide) rfl (Nat.le_of_ble_eq_true rfl) dX9_first_1 (by decide)) (fun r_8 S_7 H locs h hM => ?_)
  refine lv_if_ne (tgt := 10) hC.1 hC.2.1 dX9_first_4 (by decide) (fun c_10 => ?_) (fun c_10 => ?_)
  · have h := h.2 c_10
    refine lv_aload_n hC.1 hC.2.1 dX9_first_10 rfl (lv_at hl 0 rfl) ?_
    obtain ⟨ok_11, h⟩ := h
    refine mm_gi hC hM (ci := 9) (j := 11) ok_11 rfl (by decide) (by decide) tw_802 rfl dX9_first_11 ?_
    refine lv_if_ne (tgt := 20) hC.1 hC.2.1 dX9_first_14 (by decide) (fun c_12 => ?_) (fun c_12 => ?_)
    · have h := h.2 c_12
      refine lv_iconst (v := 0) hC.1 hC.2.1 dX9_first_20 (by decide) ?_
      refine lv_istore_n (lv' := [(1, .int 0), (0, .ref (b0 + o))]) hC.1 hC.2.1 dX9_first_21 rfl hl (by decide) rfl (fun ls hl => ?_)
      refine lv_aload_n hC.1 hC.2.1 dX9_first_22 rfl (lv_at hl 1 rfl) ?_
      refine lv_iconst (v := 0) hC.1 hC.2.1 dX9_first_23 (by decide) ?_
      refine mm_ri hM (mm_V (As := [.int 0]) (rest := []) hC hM hl.1 (mX9_twoOf l G b0 S_7 o 0 _) h (ci := 9) ok_11 rfl rfl kX9_twoOf tw_1065 rfl (by decide) rfl (Nat.le_of_ble_eq_true rfl) dX9_first_24 (by decide)) (fun r_14 S_13 H locs h hM => ?_)
      refine lv_istore_n (lv' := [(2, .int r_14), (1, .int 0), (0, .ref (b0 + o))]) hC.1 hC.2.1 dX9_first_27 rfl hl (by decide) rfl (fun ls hl => ?_)
      refine lv_iconst (v := 1) hC.1 hC.2.1 dX9_first_28 (by decide) ?_
      refine lv_istore_n (lv' := [(3, .int 1), (2, .int r_14), (1, .int 0), (0, .ref (b0 + o))]) hC.1 hC.2.1 dX9_first_29 rfl hl (by decide) rfl (fun ls hl => ?_)
      obtain ⟨n1, h⟩ := h
      exact qX9_first_30 hC hr hlk n1 _ _ _ _ _ H locs ls h hM (lv_sub hl [3, 2, 1, 0] rfl)
    · have h := h.1 c_12
      refine lv_bipush (v := (-6)) hC.1 hC.2.1 dX9_first_17 (by decide) ?_
      exact mm_iret hC hr hlk hM h dX9_first_19
  · have h := h.1 c_10
    refine lv_bipush (v := (-2)) hC.1 hC.2.1 dX9_first_7 (by decide) ?_
    exact mm_iret hC hr hlk hM h dX9_first_9
set_option maxHeartbeats 4000000 in
set_option maxRecDepth 100000 in
theorem mX9_forget (l : Launch) (G : Gt) (b0 : Nat) (S : St) (o : Nat) (x1 : Int32) (K : Int32 → St → Prop) : CI l G b0 S yX9_forget cX9_forget 2 (some .int) rmX9_forget [.ref (b0 + o), .int x1] (wX9_forget S o x1 K) K := by
  refine met_of (by decide) (Nat.le_of_ble_eq_true rfl) rfl ?_
  intro p e s m below meth c hC hr hlk hin h H locs ls hM hl
  unfold wX9_forget at h
  refine lv_iload_n hC.1 hC.2.1 dX9_forget_0 rfl (lv_at hl 1 rfl) ?_
  refine lv_iconst (v := 0) hC.1 hC.2.1 dX9_forget_1 (by decide) ?_
  refine lv_bipush (v := 7) hC.1 hC.2.1 dX9_forget_2 (by decide) ?_
  refine mm_ri hM (mm_S (As := [.int x1, .int 0, .int 7]) (rest := []) hC hM hl.1 (mX9_in l G b0 S x1 0 7 _) h kX9_in tw_865 rfl (by decide) rfl (Nat.le_of_ble_eq_true rfl) dX9_forget_4 (by decide)) (fun r_2 S_1 H locs h hM => ?_)
  refine lv_if_ne (tgt := 16) hC.1 hC.2.1 dX9_forget_7 (by decide) (fun c_3 => ?_) (fun c_3 => ?_)
  · have h := h.2 c_3
    refine lv_aload_n hC.1 hC.2.1 dX9_forget_16 rfl (lv_at hl 0 rfl) ?_
    obtain ⟨ok_4, h⟩ := h
    refine mm_gr hC hM (ci := 9) (j := 9) ok_4 rfl (by decide) (by decide) tw_800 rfl dX9_forget_17 ?_
    refine lv_iload_n hC.1 hC.2.1 dX9_forget_20 rfl (lv_at hl 1 rfl) ?_
    obtain ⟨ok_5, h⟩ := h
    refine mm_zl hC hM ok_5 dX9_forget_21 ?_
    refine lv_if_ne (tgt := 32) hC.1 hC.2.1 dX9_forget_22 (by decide) (fun c_6 => ?_) (fun c_6 => ?_)
    · have h := h.2 c_6
      refine lv_aload_n hC.1 hC.2.1 dX9_forget_32 rfl (lv_at hl 0 rfl) ?_
      refine mm_gr hC hM (ci := 9) (j := 9) ok_4 rfl (by decide) (by decide) tw_800 rfl dX9_forget_33 ?_
      refine lv_iload_n hC.1 hC.2.1 dX9_forget_36 rfl (lv_at hl 1 rfl) ?_
      refine lv_iconst (v := 0) hC.1 hC.2.1 dX9_forget_37 (by decide) ?_
      refine mm_zs hC hM ok_5 dX9_forget_38 (fun S_7 H locs eS_7 hM => ?_)
      have h := h S_7 eS_7
      refine lv_aload_n hC.1 hC.2.1 dX9_forget_39 rfl (lv_at hl 0 rfl) ?_
      refine lv_iconst (v := 0) hC.1 hC.2.1 dX9_forget_40 (by decide) ?_
      obtain ⟨ok_10, h⟩ := h
      refine mm_ri hM (mm_V (As := [.int 0]) (rest := []) hC hM hl.1 (mX9_tells l G b0 S_7 o 0 _) h (ci := 9) ok_10 rfl rfl kX9_tells tw_868 rfl (by decide) rfl (Nat.le_of_ble_eq_true rfl) dX9_forget_41 (by decide)) (fun r_9 S_8 H locs h hM => ?_)
      exact mm_iret hC hr hlk hM h dX9_forget_44
    · have h := h.1 c_6
      refine lv_aload_n hC.1 hC.2.1 dX9_forget_25 rfl (lv_at hl 0 rfl) ?_
      refine lv_bipush (v := (-2)) hC.1 hC.2.1 dX9_forget_26 (by decide) ?_
      refine mm_ri hM (mm_V (As := [.int (-2)]) (rest := []) hC hM hl.1 (mX9_tells l G b0 S_1 o (-2) _) h (ci := 9) ok_4.1 rfl rfl kX9_tells tw_868 rfl (by decide) rfl (Nat.le_of_ble_eq_true rfl) dX9_forget_28 (by decide)) (fun r_12 S_11 H locs h hM => ?_)
      exact mm_iret hC hr hlk hM h dX9_forget_31
  · have h := h.1 c_3
    refine lv_aload_n hC.1 hC.2.1 dX9_forget_10 rfl (lv_at hl 0 rfl) ?_
    refine lv_iconst (v := (-1)) hC.1 hC.2.1 dX9_forget_11 (by decide) ?_
    obtain ⟨ok_15, h⟩ := h
    refine mm_ri hM (mm_V (As := [.int (-1)]) (rest := []) hC hM hl.1 (mX9_tells l G b0 S_1 o (-1) _) h (ci := 9) ok_15 rfl rfl kX9_tells tw_868 rfl (by decide) rfl (Nat.le_of_ble_eq_true rfl) dX9_forget_12 (by decide)) (fun r_14 S_13 H locs h hM => ?_)
    exact mm_iret hC hr hlk hM h dX9_forget_15
set_option maxHeartbeats 4000000 in
set_option maxRecDepth 100000 in
theorem qX9_isFront_118 {p : Program} {l : Launch} {e : Env} {s : State} {m : MethodId} {args : Array Value} {below : List Frame} {meth : Method} {c : Code} {G : Gt} {b0 : Nat} (hC : CallFix p m c cX9_isFront 9 s args lw_g RX9) (hr : meth.sig.returnType = (some .boolean)) (hlk : meth.locks = false) {K : Int32 → St → Prop} {B29 : Nat → Int32 → Int32 → Int32 → Int32 → Int32 → Int32 → St → Prop} (hB29 : ∀ (x0 : Nat) (x1 : Int32) (x2 : Int32) (x3 : Int32) (x4 : Int32) (x5 : Int32) (x6 : Int32) (S : St) (H : Heap) (locs : List Loc) (ls : Array Slot), B29 x0 x1 x2 x3 x4 x5 x6 S → MM G b0 s S H locs → lv_has ls 9 [(0, .ref (b0 + x0)), (1, .int x1), (2, .int x2), (3, .int x3), (4, .int x4), (5, .int x5), (6, .int x6)] → W p l e rmX9_isFront s m args below meth c H locs 0 0 (MQ below (va_Qi K (ME G b0) (AB b0)) args s 0 0 (AB b0)) (F0 m 29 ls [])) : ∀ (x0 : Nat) (x1 : Int32) (x2 : Int32) (x3 : Int32) (x4 : Int32) (x5 : Int32) (x6 : Int32) (S : St) (H : Heap) (locs : List Loc) (ls : Array Slot), wX9_isFront_118 K B29 x0 x1 x2 x3 x4 x5 x6 S → MM G b0 s S H locs → lv_has ls 9 [(0, .ref (b0 + x0)), (1, .int x1), (2, .int x2), (3, .int x3), (4, .int x4), (5, .int x5), (6, .int x6)] → W p l e rmX9_isFront s m args below meth c H locs 0 0 (MQ below (va_Qi K (ME G b0) (AB b0)) args s 0 0 (AB b0)) (F0 m 118 ls []) := by
  intro x0 x1 x2 x3 x4 x5 x6 S H locs ls h hM hl
  unfold wX9_isFront_118 at h
  obtain ⟨x6_1, ex6_1⟩ : ∃ y : Int32, y = x6 + 1 := ⟨_, rfl⟩
  have h := h x6_1 ex6_1
  refine lv_iinc (v := x6_1) (lv' := [(6, .int x6_1), (0, .ref (b0 + x0)), (1, .int x1), (2, .int x2), (3, .int x3), (4, .int x4), (5, .int x5)]) hC.1 hC.2.1 dX9_isFront_118 hl (k := 6) rfl (by rw [ex6_1]; rfl) (by decide) rfl (fun ls hl => ?_)
  refine lv_goto (tgt := 29) hC.1 hC.2.1 dX9_isFront_121 (by decide) ?_
  exact hB29 _ _ _ _ _ _ _ _ H locs ls h hM (lv_sub hl [1, 2, 3, 4, 5, 6, 0] rfl)
set_option maxHeartbeats 4000000 in
set_option maxRecDepth 100000 in
theorem qX9_isFront_96 {p : Program} {l : Launch} {e : Env} {s : State} {m : MethodId} {args : Array Value} {below : List Frame} {meth : Method} {c : Code} {G : Gt} {b0 : Nat} (hC : CallFix p m c cX9_isFront 9 s args lw_g RX9) (hr : meth.sig.returnType = (some .boolean)) (hlk : meth.locks = false) {K : Int32 → St → Prop} {B29 : Nat → Int32 → Int32 → Int32 → Int32 → Int32 → Int32 → St → Prop} (hB29 : ∀ (x0 : Nat) (x1 : Int32) (x2 : Int32) (x3 : Int32) (x4 : Int32) (x5 : Int32) (x6 : Int32) (S : St) (H : Heap) (locs : List Loc) (ls : Array Slot), B29 x0 x1 x2 x3 x4 x5 x6 S → MM G b0 s S H locs → lv_has ls 9 [(0, .ref (b0 + x0)), (1, .int x1), (2, .int x2), (3, .int x3), (4, .int x4), (5, .int x5), (6, .int x6)] → W p l e rmX9_isFront s m args below meth c H locs 0 0 (MQ below (va_Qi K (ME G b0) (AB b0)) args s 0 0 (AB b0)) (F0 m 29 ls [])) : ∀ (x0 : Nat) (x1 : Int32) (x2 : Int32) (x3 : Int32) (x4 : Int32) (x5 : Int32) (x6 : Int32) (x7 : Int32) (x8 : Int32) (S : St) (H : Heap) (locs : List Loc) (ls : Array Slot), wX9_isFront_96 K B29 x0 x1 x2 x3 x4 x5 x6 x7 x8 S → MM G b0 s S H locs → lv_has ls 9 [(0, .ref (b0 + x0)), (1, .int x1), (2, .int x2), (3, .int x3), (4, .int x4), (5, .int x5), (6, .int x6), (7, .int x7), (8, .int x8)] → W p l e rmX9_isFront s m args below meth c H locs 0 0 (MQ below (va_Qi K (ME G b0) (AB b0)) args s 0 0 (AB b0)) (F0 m 96 ls []) := by
  intro x0 x1 x2 x3 x4 x5 x6 x7 x8 S H locs ls h hM hl
  unfold wX9_isFront_96 at h
  refine lv_iload hC.1 hC.2.1 dX9_isFront_96 (lv_at hl 6 rfl) ?_
  refine lv_iload_n hC.1 hC.2.1 dX9_isFront_98 rfl (lv_at hl 3 rfl) ?_
  refine lv_icmp_ge (tgt := 118) hC.1 hC.2.1 dX9_isFront_99 (by decide) (fun c_2 => ?_) (fun c_2 => ?_)
  · have h := h.1 c_2
    exact qX9_isFront_118 hC hr hlk hB29 _ _ _ _ _ _ _ _ H locs ls h hM (lv_sub hl [0, 1, 2, 3, 4, 5, 6] rfl)
  · have h := h.2 c_2
    refine lv_iload hC.1 hC.2.1 dX9_isFront_102 (lv_at hl 7 rfl) ?_
    refine lv_iload hC.1 hC.2.1 dX9_isFront_104 (lv_at hl 4 rfl) ?_
    refine lv_icmp_ne (tgt := 118) hC.1 hC.2.1 dX9_isFront_106 (by decide) (fun c_3 => ?_) (fun c_3 => ?_)
    · have h := h.2 c_3
      exact qX9_isFront_118 hC hr hlk hB29 _ _ _ _ _ _ _ _ H locs ls h hM (lv_sub hl [0, 1, 2, 3, 4, 5, 6] rfl)
    · have h := h.1 c_3
      refine lv_iload hC.1 hC.2.1 dX9_isFront_109 (lv_at hl 8 rfl) ?_
      refine lv_iload hC.1 hC.2.1 dX9_isFront_111 (lv_at hl 5 rfl) ?_
      refine lv_icmp_ne (tgt := 118) hC.1 hC.2.1 dX9_isFront_113 (by decide) (fun c_4 => ?_) (fun c_4 => ?_)
      · have h := h.2 c_4
        exact qX9_isFront_118 hC hr hlk hB29 _ _ _ _ _ _ _ _ H locs ls h hM (lv_sub hl [0, 1, 2, 3, 4, 5, 6] rfl)
      · have h := h.1 c_4
        refine lv_iconst (v := 0) hC.1 hC.2.1 dX9_isFront_116 (by decide) ?_
        exact mm_zret hC hr hlk hM rfl h dX9_isFront_117
set_option maxHeartbeats 4000000 in
set_option maxRecDepth 100000 in
theorem qX9_isFront_29 {p : Program} {l : Launch} {e : Env} {s : State} {m : MethodId} {args : Array Value} {below : List Frame} {meth : Method} {c : Code} {G : Gt} {b0 : Nat} (hC : CallFix p m c cX9_isFront 9 s args lw_g RX9) (hr : meth.sig.returnType = (some .boolean)) (hlk : meth.locks = false) {K : Int32 → St → Prop} : ∀ (n : Nat) (x0 : Nat) (x1 : Int32) (x2 : Int32) (x3 : Int32) (x4 : Int32) (x5 : Int32) (x6 : Int32) (S : St) (H : Heap) (locs : List Loc) (ls : Array Slot), wX9_isFront_29 K n x0 x1 x2 x3 x4 x5 x6 S → MM G b0 s S H locs → lv_has ls 9 [(0, .ref (b0 + x0)), (1, .int x1), (2, .int x2), (3, .int x3), (4, .int x4), (5, .int x5), (6, .int x6)] → W p l e rmX9_isFront s m args below meth c H locs 0 0 (MQ below (va_Qi K (ME G b0) (AB b0)) args s 0 0 (AB b0)) (F0 m 29 ls []) := by
  intro n
  induction n with
  | zero =>
    intro x0 x1 x2 x3 x4 x5 x6 S H locs ls h
    exact False.elim h
  | succ n ih =>
    intro x0 x1 x2 x3 x4 x5 x6 S H locs ls h hM hl
    rw [wX9_isFront_29] at h
    refine lv_iload hC.1 hC.2.1 dX9_isFront_29 (lv_at hl 6 rfl) ?_
    refine lv_aload_n hC.1 hC.2.1 dX9_isFront_31 rfl (lv_at hl 0 rfl) ?_
    obtain ⟨ok_5, h⟩ := h
    refine mm_gi hC hM (ci := 9) (j := 11) ok_5 rfl (by decide) (by decide) tw_802 rfl dX9_isFront_32 ?_
    refine lv_icmp_ge (tgt := 124) hC.1 hC.2.1 dX9_isFront_35 (by decide) (fun c_6 => ?_) (fun c_6 => ?_)
    · have h := h.1 c_6
      refine lv_iconst (v := 1) hC.1 hC.2.1 dX9_isFront_124 (by decide) ?_
      exact mm_zret hC hr hlk hM rfl h dX9_isFront_125
    · have h := h.2 c_6
      refine lv_aload_n hC.1 hC.2.1 dX9_isFront_38 rfl (lv_at hl 0 rfl) ?_
      refine lv_iload_n hC.1 hC.2.1 dX9_isFront_39 rfl (lv_at hl 1 rfl) ?_
      refine lv_aload_n hC.1 hC.2.1 dX9_isFront_40 rfl (lv_at hl 0 rfl) ?_
      obtain ⟨ok_7, h⟩ := h
      refine mm_gr hC hM (ci := 9) (j := 12) ⟨ok_5, ok_7⟩ rfl (by decide) (by decide) tw_803 rfl dX9_isFront_41 ?_
      refine lv_iload hC.1 hC.2.1 dX9_isFront_44 (lv_at hl 6 rfl) ?_
      obtain ⟨ok_8, h⟩ := h
      refine mm_il hC hM ok_8 dX9_isFront_46 ?_
      refine mm_ri hM (mm_V (As := [.int x1, .int (sI S (sR S x0 12) (x6 : Int32).toNatClampNeg)]) (rest := []) hC hM hl.1 (mX9_sumIn l G b0 S x0 x1 (sI S (sR S x0 12) (x6 : Int32).toNatClampNeg) _) h (ci := 9) ok_5 rfl rfl kX9_sumIn tw_1014 rfl (by decide) rfl (Nat.le_of_ble_eq_true rfl) dX9_isFront_47 (by decide)) (fun r_10 S_9 H locs h hM => ?_)
      refine lv_istore (lv' := [(7, .int r_10), (0, .ref (b0 + x0)), (1, .int x1), (2, .int x2), (3, .int x3), (4, .int x4), (5, .int x5), (6, .int x6)]) hC.1 hC.2.1 dX9_isFront_50 hl (by decide) rfl (fun ls hl => ?_)
      refine lv_aload_n hC.1 hC.2.1 dX9_isFront_52 rfl (lv_at hl 1 rfl) ?_
      refine lv_iload_n hC.1 hC.2.1 dX9_isFront_53 rfl (lv_at hl 3 rfl) ?_
      refine lv_aload_n hC.1 hC.2.1 dX9_isFront_54 rfl (lv_at hl 1 rfl) ?_
      obtain ⟨ok_11, h⟩ := h
      refine mm_gr hC hM (ci := 9) (j := 12) ok_11 rfl (by decide) (by decide) tw_803 rfl dX9_isFront_55 ?_
      refine lv_iload hC.1 hC.2.1 dX9_isFront_58 (lv_at hl 7 rfl) ?_
      obtain ⟨ok_12, h⟩ := h
      refine mm_il hC hM ok_12 dX9_isFront_60 ?_
      refine mm_ri hM (mm_V (As := [.int x2, .int (sI S_9 (sR S_9 x0 12) (x6 : Int32).toNatClampNeg)]) (rest := []) hC hM hl.1 (mX9_sumIn l G b0 S_9 x0 x2 (sI S_9 (sR S_9 x0 12) (x6 : Int32).toNatClampNeg) _) h (ci := 9) ok_11.1 rfl rfl kX9_sumIn tw_1014 rfl (by decide) rfl (Nat.le_of_ble_eq_true rfl) dX9_isFront_61 (by decide)) (fun r_14 S_13 H locs h hM => ?_)
      refine lv_istore (lv' := [(8, .int r_14), (7, .int r_10), (0, .ref (b0 + x0)), (1, .int x1), (2, .int x2), (3, .int x3), (4, .int x4), (5, .int x5), (6, .int x6)]) hC.1 hC.2.1 dX9_isFront_64 hl (by decide) rfl (fun ls hl => ?_)
      refine lv_iload hC.1 hC.2.1 dX9_isFront_66 (lv_at hl 1 rfl) ?_
      refine lv_iload hC.1 hC.2.1 dX9_isFront_68 (lv_at hl 6 rfl) ?_
      refine lv_icmp_gt (tgt := 96) hC.1 hC.2.1 dX9_isFront_70 (by decide) (fun c_15 => ?_) (fun c_15 => ?_)
      · have h := h.1 c_15
        exact qX9_isFront_96 hC hr hlk ih _ _ _ _ _ _ _ _ _ _ H locs ls h hM (lv_sub hl [2, 3, 4, 5, 6, 7, 8, 1, 0] rfl)
      · have h := h.2 c_15
        refine lv_iload hC.1 hC.2.1 dX9_isFront_73 (lv_at hl 0 rfl) ?_
        refine lv_iload hC.1 hC.2.1 dX9_isFront_75 (lv_at hl 7 rfl) ?_
        refine lv_icmp_gt (tgt := 96) hC.1 hC.2.1 dX9_isFront_77 (by decide) (fun c_16 => ?_) (fun c_16 => ?_)
        · have h := h.1 c_16
          exact qX9_isFront_96 hC hr hlk ih _ _ _ _ _ _ _ _ _ _ H locs ls h hM (lv_sub hl [2, 3, 4, 5, 6, 7, 8, 1, 0] rfl)
        · have h := h.2 c_16
          refine lv_iload hC.1 hC.2.1 dX9_isFront_80 (lv_at hl 1 rfl) ?_
          refine lv_iload hC.1 hC.2.1 dX9_isFront_82 (lv_at hl 6 rfl) ?_
          refine lv_icmp_lt (tgt := 94) hC.1 hC.2.1 dX9_isFront_84 (by decide) (fun c_17 => ?_) (fun c_17 => ?_)
          · have h := h.1 c_17
            refine lv_iconst (v := 0) hC.1 hC.2.1 dX9_isFront_94 (by decide) ?_
            exact mm_zret hC hr hlk hM rfl h dX9_isFront_95
          · have h := h.2 c_17
            refine lv_iload hC.1 hC.2.1 dX9_isFront_87 (lv_at hl 0 rfl) ?_
            refine lv_iload hC.1 hC.2.1 dX9_isFront_89 (lv_at hl 7 rfl) ?_
            refine lv_icmp_ge (tgt := 96) hC.1 hC.2.1 dX9_isFront_91 (by decide) (fun c_18 => ?_) (fun c_18 => ?_)
            · have h := h.1 c_18
              exact qX9_isFront_96 hC hr hlk ih _ _ _ _ _ _ _ _ _ _ H locs ls h hM (lv_sub hl [2, 3, 4, 5, 6, 7, 8, 1, 0] rfl)
            · have h := h.2 c_18
              refine lv_iconst (v := 0) hC.1 hC.2.1 dX9_isFront_94 (by decide) ?_
              exact mm_zret hC hr hlk hM rfl h dX9_isFront_95
set_option maxHeartbeats 4000000 in
set_option maxRecDepth 100000 in
theorem mX9_isFront (l : Launch) (G : Gt) (b0 : Nat) (S : St) (o : Nat) (x1 : Int32) (x2 : Int32) (x3 : Int32) (K : Int32 → St → Prop) : CI l G b0 S yX9_isFront cX9_isFront 9 (some .boolean) rmX9_isFront [.ref (b0 + o), .int x1, .int x2, .int x3] (wX9_isFront S o x1 x2 x3 K) K := by
  refine met_of (by decide) (Nat.le_of_ble_eq_true rfl) rfl ?_
  intro p e s m below meth c hC hr hlk hin h H locs ls hM hl
  unfold wX9_isFront at h
  refine lv_aload_n hC.1 hC.2.1 dX9_isFront_0 rfl (lv_at hl 0 rfl) ?_
  refine lv_iload_n hC.1 hC.2.1 dX9_isFront_1 rfl (lv_at hl 1 rfl) ?_
  refine lv_aload_n hC.1 hC.2.1 dX9_isFront_2 rfl (lv_at hl 0 rfl) ?_
  obtain ⟨ok_19, h⟩ := h
  refine mm_gr hC hM (ci := 9) (j := 12) ok_19 rfl (by decide) (by decide) tw_803 rfl dX9_isFront_3 ?_
  refine lv_iload_n hC.1 hC.2.1 dX9_isFront_6 rfl (lv_at hl 3 rfl) ?_
  obtain ⟨ok_20, h⟩ := h
  refine mm_il hC hM ok_20 dX9_isFront_7 ?_
  refine mm_ri hM (mm_V (As := [.int x1, .int (sI S (sR S o 12) (x3 : Int32).toNatClampNeg)]) (rest := []) hC hM hl.1 (mX9_sumIn l G b0 S o x1 (sI S (sR S o 12) (x3 : Int32).toNatClampNeg) _) h (ci := 9) ok_19.1 rfl rfl kX9_sumIn tw_1014 rfl (by decide) rfl (Nat.le_of_ble_eq_true rfl) dX9_isFront_8 (by decide)) (fun r_22 S_21 H locs h hM => ?_)
  refine lv_istore (lv' := [(4, .int r_22), (0, .ref (b0 + o)), (1, .int x1), (2, .int x2), (3, .int x3)]) hC.1 hC.2.1 dX9_isFront_11 hl (by decide) rfl (fun ls hl => ?_)
  refine lv_aload_n hC.1 hC.2.1 dX9_isFront_13 rfl (lv_at hl 1 rfl) ?_
  refine lv_iload_n hC.1 hC.2.1 dX9_isFront_14 rfl (lv_at hl 3 rfl) ?_
  refine lv_aload_n hC.1 hC.2.1 dX9_isFront_15 rfl (lv_at hl 1 rfl) ?_
  obtain ⟨ok_23, h⟩ := h
  refine mm_gr hC hM (ci := 9) (j := 12) ok_23 rfl (by decide) (by decide) tw_803 rfl dX9_isFront_16 ?_
  refine lv_iload_n hC.1 hC.2.1 dX9_isFront_19 rfl (lv_at hl 4 rfl) ?_
  obtain ⟨ok_24, h⟩ := h
  refine mm_il hC hM ok_24 dX9_isFront_20 ?_
  refine mm_ri hM (mm_V (As := [.int x2, .int (sI S_21 (sR S_21 o 12) (x3 : Int32).toNatClampNeg)]) (rest := []) hC hM hl.1 (mX9_sumIn l G b0 S_21 o x2 (sI S_21 (sR S_21 o 12) (x3 : Int32).toNatClampNeg) _) h (ci := 9) ok_23.1 rfl rfl kX9_sumIn tw_1014 rfl (by decide) rfl (Nat.le_of_ble_eq_true rfl) dX9_isFront_21 (by decide)) (fun r_26 S_25 H locs h hM => ?_)
  refine lv_istore (lv' := [(5, .int r_26), (4, .int r_22), (0, .ref (b0 + o)), (1, .int x1), (2, .int x2), (3, .int x3)]) hC.1 hC.2.1 dX9_isFront_24 hl (by decide) rfl (fun ls hl => ?_)
  refine lv_iconst (v := 0) hC.1 hC.2.1 dX9_isFront_26 (by decide) ?_
  refine lv_istore (lv' := [(6, .int 0), (5, .int r_26), (4, .int r_22), (0, .ref (b0 + o)), (1, .int x1), (2, .int x2), (3, .int x3)]) hC.1 hC.2.1 dX9_isFront_27 hl (by decide) rfl (fun ls hl => ?_)
  obtain ⟨n1, h⟩ := h
  exact qX9_isFront_29 hC hr hlk n1 _ _ _ _ _ _ _ _ H locs ls h hM (lv_sub hl [3, 4, 5, 6, 2, 1, 0] rfl)
set_option maxHeartbeats 4000000 in
set_option maxRecDepth 100000 in
theorem qX9_front_124 {p : Program} {l : Launch} {e : Env} {s : State} {m : MethodId} {args : Array Value} {below : List Frame} {meth : Method} {c : Code} {G : Gt} {b0 : Nat} (hC : CallFix p m c cX9_front 7 s args lw_g RX9) (hr : meth.sig.returnType = (some .int)) (hlk : meth.locks = false) {K : Int32 → St → Prop} {B24 : Nat → Int32 → Int32 → Int32 → Int32 → Int32 → St → Prop} (hB24 : ∀ (x0 : Nat) (x1 : Int32) (x2 : Int32) (x3 : Int32) (x4 : Int32) (x5 : Int32) (S : St) (H : Heap) (locs : List Loc) (ls : Array Slot), B24 x0 x1 x2 x3 x4 x5 S → MM G b0 s S H locs → lv_has ls 7 [(0, .ref (b0 + x0)), (1, .int x1), (2, .int x2), (3, .int x3), (4, .int x4), (5, .int x5)] → W p l e rmX9_front s m args below meth c H locs 0 0 (MQ below (va_Qi K (ME G b0) (AB b0)) args s 0 0 (AB b0)) (F0 m 24 ls [])) : ∀ (x0 : Nat) (x1 : Int32) (x2 : Int32) (x3 : Int32) (x4 : Int32) (x5 : Int32) (S : St) (H : Heap) (locs : List Loc) (ls : Array Slot), wX9_front_124 K B24 x0 x1 x2 x3 x4 x5 S → MM G b0 s S H locs → lv_has ls 7 [(0, .ref (b0 + x0)), (1, .int x1), (2, .int x2), (3, .int x3), (4, .int x4), (5, .int x5)] → W p l e rmX9_front s m args below meth c H locs 0 0 (MQ below (va_Qi K (ME G b0) (AB b0)) args s 0 0 (AB b0)) (F0 m 124 ls []) := by
  intro x0 x1 x2 x3 x4 x5 S H locs ls h hM hl
  unfold wX9_front_124 at h
  obtain ⟨x5_1, ex5_1⟩ : ∃ y : Int32, y = x5 + 1 := ⟨_, rfl⟩
  have h := h x5_1 ex5_1
  refine lv_iinc (v := x5_1) (lv' := [(5, .int x5_1), (0, .ref (b0 + x0)), (1, .int x1), (2, .int x2), (3, .int x3), (4, .int x4)]) hC.1 hC.2.1 dX9_front_124 hl (k := 5) rfl (by rw [ex5_1]; rfl) (by decide) rfl (fun ls hl => ?_)
  refine lv_goto (tgt := 24) hC.1 hC.2.1 dX9_front_127 (by decide) ?_
  exact hB24 _ _ _ _ _ _ _ H locs ls h hM (lv_sub hl [1, 2, 3, 4, 5, 0] rfl)
set_option maxHeartbeats 4000000 in
set_option maxRecDepth 100000 in
theorem qX9_front_112 {p : Program} {l : Launch} {e : Env} {s : State} {m : MethodId} {args : Array Value} {below : List Frame} {meth : Method} {c : Code} {G : Gt} {b0 : Nat} (hC : CallFix p m c cX9_front 7 s args lw_g RX9) (hr : meth.sig.returnType = (some .int)) (hlk : meth.locks = false) {K : Int32 → St → Prop} {B24 : Nat → Int32 → Int32 → Int32 → Int32 → Int32 → St → Prop} (hB24 : ∀ (x0 : Nat) (x1 : Int32) (x2 : Int32) (x3 : Int32) (x4 : Int32) (x5 : Int32) (S : St) (H : Heap) (locs : List Loc) (ls : Array Slot), B24 x0 x1 x2 x3 x4 x5 S → MM G b0 s S H locs → lv_has ls 7 [(0, .ref (b0 + x0)), (1, .int x1), (2, .int x2), (3, .int x3), (4, .int x4), (5, .int x5)] → W p l e rmX9_front s m args below meth c H locs 0 0 (MQ below (va_Qi K (ME G b0) (AB b0)) args s 0 0 (AB b0)) (F0 m 24 ls [])) : ∀ (x0 : Nat) (x1 : Int32) (x2 : Int32) (x3 : Int32) (x4 : Int32) (x5 : Int32) (x6 : Int32) (S : St) (H : Heap) (locs : List Loc) (ls : Array Slot), wX9_front_112 K B24 x0 x1 x2 x3 x4 x5 x6 S → MM G b0 s S H locs → lv_has ls 7 [(0, .ref (b0 + x0)), (1, .int x1), (2, .int x2), (3, .int x3), (4, .int x4), (5, .int x5), (6, .int x6)] → W p l e rmX9_front s m args below meth c H locs 0 0 (MQ below (va_Qi K (ME G b0) (AB b0)) args s 0 0 (AB b0)) (F0 m 112 ls []) := by
  intro x0 x1 x2 x3 x4 x5 x6 S H locs ls h hM hl
  unfold wX9_front_112 at h
  refine lv_aload_n hC.1 hC.2.1 dX9_front_112 rfl (lv_at hl 0 rfl) ?_
  obtain ⟨ok_2, h⟩ := h
  refine mm_gr hC hM (ci := 9) (j := 16) ok_2 rfl (by decide) (by decide) tw_807 rfl dX9_front_113 ?_
  refine lv_iload hC.1 hC.2.1 dX9_front_116 (lv_at hl 6 rfl) ?_
  refine lv_iload hC.1 hC.2.1 dX9_front_118 (lv_at hl 5 rfl) ?_
  obtain ⟨ok_3, h⟩ := h
  refine mm_is hC hM ok_3 dX9_front_120 (fun S_4 H locs eS_4 hM => ?_)
  have h := h S_4 eS_4
  obtain ⟨x4_5, ex4_5⟩ : ∃ y : Int32, y = x4 + 1 := ⟨_, rfl⟩
  have h := h x4_5 ex4_5
  refine lv_iinc (v := x4_5) (lv' := [(4, .int x4_5), (0, .ref (b0 + x0)), (1, .int x1), (2, .int x2), (3, .int x3), (5, .int x5), (6, .int x6)]) hC.1 hC.2.1 dX9_front_121 hl (k := 4) rfl (by rw [ex4_5]; rfl) (by decide) rfl (fun ls hl => ?_)
  exact qX9_front_124 hC hr hlk hB24 _ _ _ _ _ _ _ H locs ls h hM (lv_sub hl [1, 2, 3, 4, 0, 5] rfl)
set_option maxHeartbeats 4000000 in
set_option maxRecDepth 100000 in
theorem qX9_front_51 {p : Program} {l : Launch} {e : Env} {s : State} {m : MethodId} {args : Array Value} {below : List Frame} {meth : Method} {c : Code} {G : Gt} {b0 : Nat} (hC : CallFix p m c cX9_front 7 s args lw_g RX9) (hr : meth.sig.returnType = (some .int)) (hlk : meth.locks = false) {K : Int32 → St → Prop} {B24 : Nat → Int32 → Int32 → Int32 → Int32 → Int32 → St → Prop} (hB24 : ∀ (x0 : Nat) (x1 : Int32) (x2 : Int32) (x3 : Int32) (x4 : Int32) (x5 : Int32) (S : St) (H : Heap) (locs : List Loc) (ls : Array Slot), B24 x0 x1 x2 x3 x4 x5 S → MM G b0 s S H locs → lv_has ls 7 [(0, .ref (b0 + x0)), (1, .int x1), (2, .int x2), (3, .int x3), (4, .int x4), (5, .int x5)] → W p l e rmX9_front s m args below meth c H locs 0 0 (MQ below (va_Qi K (ME G b0) (AB b0)) args s 0 0 (AB b0)) (F0 m 24 ls [])) : ∀ (n : Nat) (x0 : Nat) (x1 : Int32) (x2 : Int32) (x3 : Int32) (x4 : Int32) (x5 : Int32) (x6 : Int32) (S : St) (H : Heap) (locs : List Loc) (ls : Array Slot), wX9_front_51 K B24 n x0 x1 x2 x3 x4 x5 x6 S → MM G b0 s S H locs → lv_has ls 7 [(0, .ref (b0 + x0)), (1, .int x1), (2, .int x2), (3, .int x3), (4, .int x4), (5, .int x5), (6, .int x6)] → W p l e rmX9_front s m args below meth c H locs 0 0 (MQ below (va_Qi K (ME G b0) (AB b0)) args s 0 0 (AB b0)) (F0 m 51 ls []) := by
  intro n
  induction n with
  | zero =>
    intro x0 x1 x2 x3 x4 x5 x6 S H locs ls h
    exact False.elim h
  | succ n ih =>
    intro x0 x1 x2 x3 x4 x5 x6 S H locs ls h hM hl
    rw [wX9_front_51] at h
    refine lv_iload hC.1 hC.2.1 dX9_front_51 (lv_at hl 6 rfl) ?_
    refine lv_if_le (tgt := 112) hC.1 hC.2.1 dX9_front_53 (by decide) (fun c_6 => ?_) (fun c_6 => ?_)
    · have h := h.1 c_6
      exact qX9_front_112 hC hr hlk hB24 _ _ _ _ _ _ _ _ H locs ls h hM (lv_sub hl [0, 1, 2, 3, 4, 5, 6] rfl)
    · have h := h.2 c_6
      refine lv_aload_n hC.1 hC.2.1 dX9_front_56 rfl (lv_at hl 0 rfl) ?_
      refine lv_iload_n hC.1 hC.2.1 dX9_front_57 rfl (lv_at hl 1 rfl) ?_
      refine lv_aload_n hC.1 hC.2.1 dX9_front_58 rfl (lv_at hl 0 rfl) ?_
      obtain ⟨ok_7, h⟩ := h
      refine mm_gr hC hM (ci := 9) (j := 12) ok_7 rfl (by decide) (by decide) tw_803 rfl dX9_front_59 ?_
      refine lv_aload_n hC.1 hC.2.1 dX9_front_62 rfl (lv_at hl 0 rfl) ?_
      obtain ⟨ok_8, h⟩ := h
      refine mm_gr hC hM (ci := 9) (j := 16) ⟨ok_7.1, ok_8⟩ rfl (by decide) (by decide) tw_807 rfl dX9_front_63 ?_
      refine lv_iload hC.1 hC.2.1 dX9_front_66 (lv_at hl 6 rfl) ?_
      refine lv_iconst (v := 1) hC.1 hC.2.1 dX9_front_68 (by decide) ?_
      refine lv_isub hC.1 hC.2.1 dX9_front_69 ?_
      obtain ⟨ok_9, h⟩ := h
      refine mm_il hC hM ok_9 dX9_front_70 ?_
      obtain ⟨ok_10, h⟩ := h
      refine mm_il hC hM ok_10 dX9_front_71 ?_
      refine mm_ri hM (mm_V (As := [.int x1, .int (sI S (sR S x0 12) ((sI S (sR S x0 16) ((x6 - 1) : Int32).toNatClampNeg) : Int32).toNatClampNeg)]) (rest := []) hC hM hl.1 (mX9_sumIn l G b0 S x0 x1 (sI S (sR S x0 12) ((sI S (sR S x0 16) ((x6 - 1) : Int32).toNatClampNeg) : Int32).toNatClampNeg) _) h (ci := 9) ok_7.1 rfl rfl kX9_sumIn tw_1014 rfl (by decide) rfl (Nat.le_of_ble_eq_true rfl) dX9_front_72 (by decide)) (fun r_12 S_11 H locs h hM => ?_)
      refine lv_aload_n hC.1 hC.2.1 dX9_front_75 rfl (lv_at hl 0 rfl) ?_
      refine lv_iload_n hC.1 hC.2.1 dX9_front_76 rfl (lv_at hl 1 rfl) ?_
      refine lv_aload_n hC.1 hC.2.1 dX9_front_77 rfl (lv_at hl 0 rfl) ?_
      obtain ⟨ok_13, h⟩ := h
      refine mm_gr hC hM (ci := 9) (j := 12) ok_13 rfl (by decide) (by decide) tw_803 rfl dX9_front_78 ?_
      refine lv_iload hC.1 hC.2.1 dX9_front_81 (lv_at hl 5 rfl) ?_
      obtain ⟨ok_14, h⟩ := h
      refine mm_il hC hM ok_14 dX9_front_83 ?_
      refine mm_ri hM (mm_V (As := [.int x1, .int (sI S_11 (sR S_11 x0 12) (x5 : Int32).toNatClampNeg)]) (rest := [.int r_12]) hC hM hl.1 (mX9_sumIn l G b0 S_11 x0 x1 (sI S_11 (sR S_11 x0 12) (x5 : Int32).toNatClampNeg) _) h (ci := 9) ok_13.1 rfl rfl kX9_sumIn tw_1014 rfl (by decide) rfl (Nat.le_of_ble_eq_true rfl) dX9_front_84 (by decide)) (fun r_16 S_15 H locs h hM => ?_)
      refine lv_icmp_le (tgt := 112) hC.1 hC.2.1 dX9_front_87 (by decide) (fun c_17 => ?_) (fun c_17 => ?_)
      · have h := h.1 c_17
        exact qX9_front_112 hC hr hlk hB24 _ _ _ _ _ _ _ _ H locs ls h hM (lv_sub hl [0, 1, 2, 3, 4, 5, 6] rfl)
      · have h := h.2 c_17
        refine lv_aload_n hC.1 hC.2.1 dX9_front_90 rfl (lv_at hl 0 rfl) ?_
        obtain ⟨ok_18, h⟩ := h
        refine mm_gr hC hM (ci := 9) (j := 16) ok_18 rfl (by decide) (by decide) tw_807 rfl dX9_front_91 ?_
        refine lv_iload hC.1 hC.2.1 dX9_front_94 (lv_at hl 6 rfl) ?_
        refine lv_aload_n hC.1 hC.2.1 dX9_front_96 rfl (lv_at hl 0 rfl) ?_
        refine mm_gr hC hM (ci := 9) (j := 16) ok_18 rfl (by decide) (by decide) tw_807 rfl dX9_front_97 ?_
        refine lv_iload hC.1 hC.2.1 dX9_front_100 (lv_at hl 6 rfl) ?_
        refine lv_iconst (v := 1) hC.1 hC.2.1 dX9_front_102 (by decide) ?_
        refine lv_isub hC.1 hC.2.1 dX9_front_103 ?_
        obtain ⟨ok_19, h⟩ := h
        refine mm_il hC hM ok_19 dX9_front_104 ?_
        obtain ⟨ok_20, h⟩ := h
        refine mm_is hC hM ok_20 dX9_front_105 (fun S_21 H locs eS_21 hM => ?_)
        have h := h S_21 eS_21
        obtain ⟨x6_22, ex6_22⟩ : ∃ y : Int32, y = x6 + (-1) := ⟨_, rfl⟩
        have h := h x6_22 ex6_22
        refine lv_iinc (v := x6_22) (lv' := [(6, .int x6_22), (0, .ref (b0 + x0)), (1, .int x1), (2, .int x2), (3, .int x3), (4, .int x4), (5, .int x5)]) hC.1 hC.2.1 dX9_front_106 hl (k := 6) rfl (by rw [ex6_22]; rfl) (by decide) rfl (fun ls hl => ?_)
        refine lv_goto (tgt := 51) hC.1 hC.2.1 dX9_front_109 (by decide) ?_
        exact ih _ _ _ _ _ _ _ _ H locs ls h hM (lv_sub hl [1, 2, 3, 4, 5, 6, 0] rfl)
set_option maxHeartbeats 4000000 in
set_option maxRecDepth 100000 in
theorem qX9_front_130 {p : Program} {l : Launch} {e : Env} {s : State} {m : MethodId} {args : Array Value} {below : List Frame} {meth : Method} {c : Code} {G : Gt} {b0 : Nat} (hC : CallFix p m c cX9_front 7 s args lw_g RX9) (hr : meth.sig.returnType = (some .int)) (hlk : meth.locks = false) {K : Int32 → St → Prop} : ∀ (x0 : Nat) (x3 : Int32) (x4 : Int32) (S : St) (H : Heap) (locs : List Loc) (ls : Array Slot), wX9_front_130 K x0 x3 x4 S → MM G b0 s S H locs → lv_has ls 7 [(0, .ref (b0 + x0)), (3, .int x3), (4, .int x4)] → W p l e rmX9_front s m args below meth c H locs 0 0 (MQ below (va_Qi K (ME G b0) (AB b0)) args s 0 0 (AB b0)) (F0 m 130 ls []) := by
  intro x0 x3 x4 S H locs ls h hM hl
  unfold wX9_front_130 at h
  refine lv_iload_n hC.1 hC.2.1 dX9_front_130 rfl (lv_at hl 1 rfl) ?_
  refine lv_iconst (v := (-1)) hC.1 hC.2.1 dX9_front_131 (by decide) ?_
  refine lv_icmp_ne (tgt := 140) hC.1 hC.2.1 dX9_front_132 (by decide) (fun c_23 => ?_) (fun c_23 => ?_)
  · have h := h.2 c_23
    refine lv_iload_n hC.1 hC.2.1 dX9_front_140 rfl (lv_at hl 1 rfl) ?_
    refine lv_iconst (v := 0) hC.1 hC.2.1 dX9_front_141 (by decide) ?_
    refine lv_iload hC.1 hC.2.1 dX9_front_142 (lv_at hl 2 rfl) ?_
    refine lv_iconst (v := 1) hC.1 hC.2.1 dX9_front_144 (by decide) ?_
    refine lv_isub hC.1 hC.2.1 dX9_front_145 ?_
    refine mm_ri hM (mm_S (As := [.int x3, .int 0, .int (x4 - 1)]) (rest := []) hC hM hl.1 (mX9_in l G b0 S x3 0 (x4 - 1) _) h kX9_in tw_865 rfl (by decide) rfl (Nat.le_of_ble_eq_true rfl) dX9_front_146 (by decide)) (fun r_25 S_24 H locs h hM => ?_)
    refine lv_if_eq (tgt := 161) hC.1 hC.2.1 dX9_front_149 (by decide) (fun c_26 => ?_) (fun c_26 => ?_)
    · have h := h.1 c_26
      refine lv_iconst (v := (-1)) hC.1 hC.2.1 dX9_front_161 (by decide) ?_
      exact mm_iret hC hr hlk hM h dX9_front_162
    · have h := h.2 c_26
      refine lv_aload_n hC.1 hC.2.1 dX9_front_152 rfl (lv_at hl 0 rfl) ?_
      obtain ⟨ok_27, h⟩ := h
      refine mm_gr hC hM (ci := 9) (j := 16) ok_27 rfl (by decide) (by decide) tw_807 rfl dX9_front_153 ?_
      refine lv_iload_n hC.1 hC.2.1 dX9_front_156 rfl (lv_at hl 1 rfl) ?_
      obtain ⟨ok_28, h⟩ := h
      refine mm_il hC hM ok_28 dX9_front_157 ?_
      refine lv_goto (tgt := 162) hC.1 hC.2.1 dX9_front_158 (by decide) ?_
      exact mm_iret hC hr hlk hM h dX9_front_162
  · have h := h.1 c_23
    refine lv_iload hC.1 hC.2.1 dX9_front_135 (lv_at hl 2 rfl) ?_
    refine lv_goto (tgt := 162) hC.1 hC.2.1 dX9_front_137 (by decide) ?_
    exact mm_iret hC hr hlk hM h dX9_front_162
set_option maxHeartbeats 4000000 in
set_option maxRecDepth 100000 in
theorem qX9_front_24 {p : Program} {l : Launch} {e : Env} {s : State} {m : MethodId} {args : Array Value} {below : List Frame} {meth : Method} {c : Code} {G : Gt} {b0 : Nat} (hC : CallFix p m c cX9_front 7 s args lw_g RX9) (hr : meth.sig.returnType = (some .int)) (hlk : meth.locks = false) {K : Int32 → St → Prop} : ∀ (n : Nat) (x0 : Nat) (x1 : Int32) (x2 : Int32) (x3 : Int32) (x4 : Int32) (x5 : Int32) (S : St) (H : Heap) (locs : List Loc) (ls : Array Slot), wX9_front_24 K n x0 x1 x2 x3 x4 x5 S → MM G b0 s S H locs → lv_has ls 7 [(0, .ref (b0 + x0)), (1, .int x1), (2, .int x2), (3, .int x3), (4, .int x4), (5, .int x5)] → W p l e rmX9_front s m args below meth c H locs 0 0 (MQ below (va_Qi K (ME G b0) (AB b0)) args s 0 0 (AB b0)) (F0 m 24 ls []) := by
  intro n
  induction n with
  | zero =>
    intro x0 x1 x2 x3 x4 x5 S H locs ls h
    exact False.elim h
  | succ n ih =>
    intro x0 x1 x2 x3 x4 x5 S H locs ls h hM hl
    rw [wX9_front_24] at h
    refine lv_iload hC.1 hC.2.1 dX9_front_24 (lv_at hl 5 rfl) ?_
    refine lv_aload_n hC.1 hC.2.1 dX9_front_26 rfl (lv_at hl 0 rfl) ?_
    obtain ⟨ok_29, h⟩ := h
    refine mm_gi hC hM (ci := 9) (j := 11) ok_29 rfl (by decide) (by decide) tw_802 rfl dX9_front_27 ?_
    refine lv_icmp_ge (tgt := 130) hC.1 hC.2.1 dX9_front_30 (by decide) (fun c_30 => ?_) (fun c_30 => ?_)
    · have h := h.1 c_30
      exact qX9_front_130 hC hr hlk _ _ _ _ H locs ls h hM (lv_sub hl [0, 3, 4] rfl)
    · have h := h.2 c_30
      refine lv_aload_n hC.1 hC.2.1 dX9_front_33 rfl (lv_at hl 0 rfl) ?_
      refine lv_iload_n hC.1 hC.2.1 dX9_front_34 rfl (lv_at hl 1 rfl) ?_
      refine lv_iload_n hC.1 hC.2.1 dX9_front_35 rfl (lv_at hl 2 rfl) ?_
      refine lv_iload hC.1 hC.2.1 dX9_front_36 (lv_at hl 5 rfl) ?_
      refine mm_ri hM (mm_V (As := [.int x1, .int x2, .int x5]) (rest := []) hC hM hl.1 (mX9_isFront l G b0 S x0 x1 x2 x5 _) h (ci := 9) ok_29 rfl rfl kX9_isFront tw_1043 rfl (by decide) rfl (Nat.le_of_ble_eq_true rfl) dX9_front_38 (by decide)) (fun r_32 S_31 H locs h hM => ?_)
      refine lv_if_ne (tgt := 47) hC.1 hC.2.1 dX9_front_41 (by decide) (fun c_33 => ?_) (fun c_33 => ?_)
      · have h := h.2 c_33
        refine lv_iload hC.1 hC.2.1 dX9_front_47 (lv_at hl 4 rfl) ?_
        refine lv_istore (lv' := [(6, .int x4), (0, .ref (b0 + x0)), (1, .int x1), (2, .int x2), (3, .int x3), (4, .int x4), (5, .int x5)]) hC.1 hC.2.1 dX9_front_49 hl (by decide) rfl (fun ls hl => ?_)
        obtain ⟨n1, h⟩ := h
        exact qX9_front_51 hC hr hlk ih n1 _ _ _ _ _ _ _ _ H locs ls h hM (lv_sub hl [1, 2, 3, 4, 5, 6, 0] rfl)
      · have h := h.1 c_33
        refine lv_goto (tgt := 124) hC.1 hC.2.1 dX9_front_44 (by decide) ?_
        exact qX9_front_124 hC hr hlk ih _ _ _ _ _ _ _ H locs ls h hM (lv_sub hl [0, 1, 2, 3, 4, 5] rfl)
set_option maxHeartbeats 4000000 in
set_option maxRecDepth 100000 in
theorem mX9_front (l : Launch) (G : Gt) (b0 : Nat) (S : St) (o : Nat) (x1 : Int32) (x2 : Int32) (x3 : Int32) (K : Int32 → St → Prop) : CI l G b0 S yX9_front cX9_front 7 (some .int) rmX9_front [.ref (b0 + o), .int x1, .int x2, .int x3] (wX9_front S o x1 x2 x3 K) K := by
  refine met_of (by decide) (Nat.le_of_ble_eq_true rfl) rfl ?_
  intro p e s m below meth c hC hr hlk hin h H locs ls hM hl
  unfold wX9_front at h
  refine lv_aload_n hC.1 hC.2.1 dX9_front_0 rfl (lv_at hl 0 rfl) ?_
  refine lv_iload_n hC.1 hC.2.1 dX9_front_1 rfl (lv_at hl 1 rfl) ?_
  obtain ⟨ok_36, h⟩ := h
  refine mm_ri hM (mm_V (As := [.int x1]) (rest := []) hC hM hl.1 (mX9_isThere l G b0 S o x1 _) h (ci := 9) ok_36 rfl rfl kX9_isThere tw_1010 rfl (by decide) rfl (Nat.le_of_ble_eq_true rfl) dX9_front_2 (by decide)) (fun r_35 S_34 H locs h hM => ?_)
  refine lv_if_eq (tgt := 16) hC.1 hC.2.1 dX9_front_5 (by decide) (fun c_37 => ?_) (fun c_37 => ?_)
  · have h := h.1 c_37
    refine lv_iconst (v := (-1)) hC.1 hC.2.1 dX9_front_16 (by decide) ?_
    exact mm_iret hC hr hlk hM h dX9_front_17
  · have h := h.2 c_37
    refine lv_aload_n hC.1 hC.2.1 dX9_front_8 rfl (lv_at hl 0 rfl) ?_
    refine lv_iload_n hC.1 hC.2.1 dX9_front_9 rfl (lv_at hl 2 rfl) ?_
    obtain ⟨ok_40, h⟩ := h
    refine mm_ri hM (mm_V (As := [.int x2]) (rest := []) hC hM hl.1 (mX9_isThere l G b0 S_34 o x2 _) h (ci := 9) ok_40 rfl rfl kX9_isThere tw_1010 rfl (by decide) rfl (Nat.le_of_ble_eq_true rfl) dX9_front_10 (by decide)) (fun r_39 S_38 H locs h hM => ?_)
    refine lv_if_ne (tgt := 18) hC.1 hC.2.1 dX9_front_13 (by decide) (fun c_41 => ?_) (fun c_41 => ?_)
    · have h := h.2 c_41
      refine lv_iconst (v := 0) hC.1 hC.2.1 dX9_front_18 (by decide) ?_
      refine lv_istore (lv' := [(4, .int 0), (0, .ref (b0 + o)), (1, .int x1), (2, .int x2), (3, .int x3)]) hC.1 hC.2.1 dX9_front_19 hl (by decide) rfl (fun ls hl => ?_)
      refine lv_iconst (v := 0) hC.1 hC.2.1 dX9_front_21 (by decide) ?_
      refine lv_istore (lv' := [(5, .int 0), (4, .int 0), (0, .ref (b0 + o)), (1, .int x1), (2, .int x2), (3, .int x3)]) hC.1 hC.2.1 dX9_front_22 hl (by decide) rfl (fun ls hl => ?_)
      obtain ⟨n1, h⟩ := h
      exact qX9_front_24 hC hr hlk n1 _ _ _ _ _ _ _ H locs ls h hM (lv_sub hl [2, 3, 4, 5, 1, 0] rfl)
    · have h := h.1 c_41
      refine lv_iconst (v := (-1)) hC.1 hC.2.1 dX9_front_16 (by decide) ?_
      exact mm_iret hC hr hlk hM h dX9_front_17
set_option maxHeartbeats 4000000 in
set_option maxRecDepth 100000 in
theorem qX9_gcd_6 {p : Program} {l : Launch} {e : Env} {s : State} {m : MethodId} {args : Array Value} {below : List Frame} {meth : Method} {c : Code} {G : Gt} {b0 : Nat} (hC : CallFix p m c cX9_gcd 10 s args lw_g RX9) (hr : meth.sig.returnType = (some .long)) (hlk : meth.locks = false) {K : Int64 → St → Prop} : ∀ (n : Nat) (x4 : Int64) (x6 : Int64) (S : St) (H : Heap) (locs : List Loc) (ls : Array Slot), wX9_gcd_6 K n x4 x6 S → MM G b0 s S H locs → lv_has ls 10 [(4, .long x4), (6, .long x6)] → W p l e rmX9_gcd s m args below meth c H locs 0 0 (MQ below (va_Ql K (ME G b0) (AB b0)) args s 0 0 (AB b0)) (F0 m 6 ls []) := by
  intro n
  induction n with
  | zero =>
    intro x4 x6 S H locs ls h
    exact False.elim h
  | succ n ih =>
    intro x4 x6 S H locs ls h hM hl
    rw [wX9_gcd_6] at h
    refine lv_lload hC.1 hC.2.1 dX9_gcd_6 (lv_at hl 1 rfl) ?_
    refine lv_lconst (v := 0) hC.1 hC.2.1 dX9_gcd_8 (by decide) ?_
    refine W.lcmp hC.1 hC.2.1 dX9_gcd_9 ?_
    refine lv_if_le (tgt := 31) hC.1 hC.2.1 dX9_gcd_10 (by decide) (fun c_1 => ?_) (fun c_1 => ?_)
    · have h := h.1 c_1
      refine lv_lload hC.1 hC.2.1 dX9_gcd_31 (lv_at hl 0 rfl) ?_
      exact mm_lret hC hr hlk hM h dX9_gcd_33
    · have h := h.2 c_1
      refine lv_lload hC.1 hC.2.1 dX9_gcd_13 (lv_at hl 0 rfl) ?_
      refine lv_lload hC.1 hC.2.1 dX9_gcd_15 (lv_at hl 1 rfl) ?_
      obtain ⟨nz_2, h⟩ := h
      refine lv_lrem hC.1 hC.2.1 dX9_gcd_17 nz_2 ?_
      refine lv_topl (fun x8_3 ex8_3 => ?_)
      have h := h x8_3 ex8_3
      refine lv_lstore (lv' := [(8, .long x8_3), (4, .long x4), (6, .long x6)]) hC.1 hC.2.1 dX9_gcd_18 hl (by decide) rfl (fun ls hl => ?_)
      refine lv_lload hC.1 hC.2.1 dX9_gcd_20 (lv_at hl 2 rfl) ?_
      refine lv_lstore (lv' := [(4, .long x6), (8, .long x8_3), (6, .long x6)]) hC.1 hC.2.1 dX9_gcd_22 hl (by decide) rfl (fun ls hl => ?_)
      refine lv_lload hC.1 hC.2.1 dX9_gcd_24 (lv_at hl 1 rfl) ?_
      refine lv_lstore (lv' := [(6, .long x8_3), (4, .long x6), (8, .long x8_3)]) hC.1 hC.2.1 dX9_gcd_26 hl (by decide) rfl (fun ls hl => ?_)
      refine lv_goto (tgt := 6) hC.1 hC.2.1 dX9_gcd_28 (by decide) ?_
      exact ih _ _ _ H locs ls h hM (lv_sub hl [1, 0] rfl)
set_option maxHeartbeats 4000000 in
set_option maxRecDepth 100000 in
theorem mX9_gcd (l : Launch) (G : Gt) (b0 : Nat) (S : St) (x0 : Int64) (x2 : Int64) (K : Int64 → St → Prop) : CL l G b0 S yX9_gcd cX9_gcd 10 (some .long) rmX9_gcd [.long x0, .long x2] (wX9_gcd S x0 x2 K) K := by
  refine met_of (by decide) (Nat.le_of_ble_eq_true rfl) rfl ?_
  intro p e s m below meth c hC hr hlk hin h H locs ls hM hl
  unfold wX9_gcd at h
  refine lv_lload_n hC.1 hC.2.1 dX9_gcd_0 rfl (lv_at hl 0 rfl) ?_
  refine lv_lstore (lv' := [(4, .long x0), (0, .long x0), (2, .long x2)]) hC.1 hC.2.1 dX9_gcd_1 hl (by decide) rfl (fun ls hl => ?_)
  refine lv_lload_n hC.1 hC.2.1 dX9_gcd_3 rfl (lv_at hl 2 rfl) ?_
  refine lv_lstore (lv' := [(6, .long x2), (4, .long x0), (0, .long x0), (2, .long x2)]) hC.1 hC.2.1 dX9_gcd_4 hl (by decide) rfl (fun ls hl => ?_)
  obtain ⟨n1, h⟩ := h
  exact qX9_gcd_6 hC hr hlk n1 _ _ _ H locs ls h hM (lv_sub hl [1, 0] rfl)
set_option maxHeartbeats 4000000 in
set_option maxRecDepth 100000 in
theorem qX9_least_62 {p : Program} {l : Launch} {e : Env} {s : State} {m : MethodId} {args : Array Value} {below : List Frame} {meth : Method} {c : Code} {G : Gt} {b0 : Nat} (hC : CallFix p m c cX9_least 6 s args lw_g RX9) (hr : meth.sig.returnType = (some .int)) (hlk : meth.locks = false) {K : Int32 → St → Prop} {B7 : Nat → Int32 → Int32 → Int32 → Int32 → Int32 → St → Prop} (hB7 : ∀ (x0 : Nat) (x1 : Int32) (x2 : Int32) (x3 : Int32) (x4 : Int32) (x5 : Int32) (S : St) (H : Heap) (locs : List Loc) (ls : Array Slot), B7 x0 x1 x2 x3 x4 x5 S → MM G b0 s S H locs → lv_has ls 6 [(0, .ref (b0 + x0)), (1, .int x1), (2, .int x2), (3, .int x3), (4, .int x4), (5, .int x5)] → W p l e rmX9_least s m args below meth c H locs 0 0 (MQ below (va_Qi K (ME G b0) (AB b0)) args s 0 0 (AB b0)) (F0 m 7 ls [])) : ∀ (x0 : Nat) (x1 : Int32) (x2 : Int32) (x3 : Int32) (x4 : Int32) (x5 : Int32) (S : St) (H : Heap) (locs : List Loc) (ls : Array Slot), wX9_least_62 K B7 x0 x1 x2 x3 x4 x5 S → MM G b0 s S H locs → lv_has ls 6 [(0, .ref (b0 + x0)), (1, .int x1), (2, .int x2), (3, .int x3), (4, .int x4), (5, .int x5)] → W p l e rmX9_least s m args below meth c H locs 0 0 (MQ below (va_Qi K (ME G b0) (AB b0)) args s 0 0 (AB b0)) (F0 m 62 ls []) := by
  intro x0 x1 x2 x3 x4 x5 S H locs ls h hM hl
  unfold wX9_least_62 at h
  obtain ⟨x5_1, ex5_1⟩ : ∃ y : Int32, y = x5 + 1 := ⟨_, rfl⟩
  have h := h x5_1 ex5_1
  refine lv_iinc (v := x5_1) (lv' := [(5, .int x5_1), (0, .ref (b0 + x0)), (1, .int x1), (2, .int x2), (3, .int x3), (4, .int x4)]) hC.1 hC.2.1 dX9_least_62 hl (k := 5) rfl (by rw [ex5_1]; rfl) (by decide) rfl (fun ls hl => ?_)
  refine lv_goto (tgt := 7) hC.1 hC.2.1 dX9_least_65 (by decide) ?_
  exact hB7 _ _ _ _ _ _ _ H locs ls h hM (lv_sub hl [1, 2, 3, 4, 5, 0] rfl)
set_option maxHeartbeats 4000000 in
set_option maxRecDepth 100000 in
theorem qX9_least_7 {p : Program} {l : Launch} {e : Env} {s : State} {m : MethodId} {args : Array Value} {below : List Frame} {meth : Method} {c : Code} {G : Gt} {b0 : Nat} (hC : CallFix p m c cX9_least 6 s args lw_g RX9) (hr : meth.sig.returnType = (some .int)) (hlk : meth.locks = false) {K : Int32 → St → Prop} : ∀ (n : Nat) (x0 : Nat) (x1 : Int32) (x2 : Int32) (x3 : Int32) (x4 : Int32) (x5 : Int32) (S : St) (H : Heap) (locs : List Loc) (ls : Array Slot), wX9_least_7 K n x0 x1 x2 x3 x4 x5 S → MM G b0 s S H locs → lv_has ls 6 [(0, .ref (b0 + x0)), (1, .int x1), (2, .int x2), (3, .int x3), (4, .int x4), (5, .int x5)] → W p l e rmX9_least s m args below meth c H locs 0 0 (MQ below (va_Qi K (ME G b0) (AB b0)) args s 0 0 (AB b0)) (F0 m 7 ls []) := by
  intro n
  induction n with
  | zero =>
    intro x0 x1 x2 x3 x4 x5 S H locs ls h
    exact False.elim h
  | succ n ih =>
    intro x0 x1 x2 x3 x4 x5 S H locs ls h hM hl
    rw [wX9_least_7] at h
    refine lv_iload hC.1 hC.2.1 dX9_least_7 (lv_at hl 5 rfl) ?_
    refine lv_aload_n hC.1 hC.2.1 dX9_least_9 rfl (lv_at hl 0 rfl) ?_
    obtain ⟨ok_2, h⟩ := h
    refine mm_gi hC hM (ci := 9) (j := 11) ok_2 rfl (by decide) (by decide) tw_802 rfl dX9_least_10 ?_
    refine lv_icmp_ge (tgt := 68) hC.1 hC.2.1 dX9_least_13 (by decide) (fun c_3 => ?_) (fun c_3 => ?_)
    · have h := h.1 c_3
      refine lv_iload hC.1 hC.2.1 dX9_least_68 (lv_at hl 4 rfl) ?_
      exact mm_iret hC hr hlk hM h dX9_least_70
    · have h := h.2 c_3
      refine lv_aload_n hC.1 hC.2.1 dX9_least_16 rfl (lv_at hl 0 rfl) ?_
      obtain ⟨ok_4, h⟩ := h
      refine mm_gr hC hM (ci := 9) (j := 12) ⟨ok_2, ok_4⟩ rfl (by decide) (by decide) tw_803 rfl dX9_least_17 ?_
      refine lv_iload hC.1 hC.2.1 dX9_least_20 (lv_at hl 5 rfl) ?_
      obtain ⟨ok_5, h⟩ := h
      refine mm_il hC hM ok_5 dX9_least_22 ?_
      refine lv_iload_n hC.1 hC.2.1 dX9_least_23 rfl (lv_at hl 1 rfl) ?_
      refine mm_ri hM (mm_S (As := [.int (sI S (sR S x0 12) (x5 : Int32).toNatClampNeg), .int x1]) (rest := []) hC hM hl.1 (mX9_has l G b0 S (sI S (sR S x0 12) (x5 : Int32).toNatClampNeg) x1 _) h kX9_has tw_772 rfl (by decide) rfl (Nat.le_of_ble_eq_true rfl) dX9_least_24 (by decide)) (fun r_7 S_6 H locs h hM => ?_)
      refine lv_iload_n hC.1 hC.2.1 dX9_least_27 rfl (lv_at hl 2 rfl) ?_
      refine lv_icmp_ne (tgt := 62) hC.1 hC.2.1 dX9_least_28 (by decide) (fun c_8 => ?_) (fun c_8 => ?_)
      · have h := h.2 c_8
        exact qX9_least_62 hC hr hlk ih _ _ _ _ _ _ _ H locs ls h hM (lv_sub hl [0, 1, 2, 3, 4, 5] rfl)
      · have h := h.1 c_8
        refine lv_aload_n hC.1 hC.2.1 dX9_least_31 rfl (lv_at hl 0 rfl) ?_
        refine lv_aload_n hC.1 hC.2.1 dX9_least_32 rfl (lv_at hl 0 rfl) ?_
        obtain ⟨ok_9, h⟩ := h
        refine mm_gr hC hM (ci := 9) (j := 12) ok_9 rfl (by decide) (by decide) tw_803 rfl dX9_least_33 ?_
        refine lv_iload hC.1 hC.2.1 dX9_least_36 (lv_at hl 5 rfl) ?_
        obtain ⟨ok_10, h⟩ := h
        refine mm_il hC hM ok_10 dX9_least_38 ?_
        refine lv_iload_n hC.1 hC.2.1 dX9_least_39 rfl (lv_at hl 3 rfl) ?_
        refine mm_ri hM (mm_V (As := [.int (sI S_6 (sR S_6 x0 12) (x5 : Int32).toNatClampNeg), .int x3]) (rest := []) hC hM hl.1 (mX9_sum l G b0 S_6 x0 (sI S_6 (sR S_6 x0 12) (x5 : Int32).toNatClampNeg) x3 _) h (ci := 9) ok_9.1 rfl rfl kX9_sum tw_944 rfl (by decide) rfl (Nat.le_of_ble_eq_true rfl) dX9_least_40 (by decide)) (fun r_12 S_11 H locs h hM => ?_)
        refine lv_iload hC.1 hC.2.1 dX9_least_43 (lv_at hl 4 rfl) ?_
        refine lv_icmp_ge (tgt := 62) hC.1 hC.2.1 dX9_least_45 (by decide) (fun c_13 => ?_) (fun c_13 => ?_)
        · have h := h.1 c_13
          exact qX9_least_62 hC hr hlk ih _ _ _ _ _ _ _ H locs ls h hM (lv_sub hl [0, 1, 2, 3, 4, 5] rfl)
        · have h := h.2 c_13
          refine lv_aload_n hC.1 hC.2.1 dX9_least_48 rfl (lv_at hl 0 rfl) ?_
          refine lv_aload_n hC.1 hC.2.1 dX9_least_49 rfl (lv_at hl 0 rfl) ?_
          obtain ⟨ok_14, h⟩ := h
          refine mm_gr hC hM (ci := 9) (j := 12) ok_14 rfl (by decide) (by decide) tw_803 rfl dX9_least_50 ?_
          refine lv_iload hC.1 hC.2.1 dX9_least_53 (lv_at hl 5 rfl) ?_
          obtain ⟨ok_15, h⟩ := h
          refine mm_il hC hM ok_15 dX9_least_55 ?_
          refine lv_iload_n hC.1 hC.2.1 dX9_least_56 rfl (lv_at hl 3 rfl) ?_
          refine mm_ri hM (mm_V (As := [.int (sI S_11 (sR S_11 x0 12) (x5 : Int32).toNatClampNeg), .int x3]) (rest := []) hC hM hl.1 (mX9_sum l G b0 S_11 x0 (sI S_11 (sR S_11 x0 12) (x5 : Int32).toNatClampNeg) x3 _) h (ci := 9) ok_14.1 rfl rfl kX9_sum tw_944 rfl (by decide) rfl (Nat.le_of_ble_eq_true rfl) dX9_least_57 (by decide)) (fun r_17 S_16 H locs h hM => ?_)
          refine lv_istore (lv' := [(4, .int r_17), (0, .ref (b0 + x0)), (1, .int x1), (2, .int x2), (3, .int x3), (5, .int x5)]) hC.1 hC.2.1 dX9_least_60 hl (by decide) rfl (fun ls hl => ?_)
          exact qX9_least_62 hC hr hlk ih _ _ _ _ _ _ _ H locs ls h hM (lv_sub hl [1, 2, 3, 4, 0, 5] rfl)
set_option maxHeartbeats 4000000 in
set_option maxRecDepth 100000 in
theorem mX9_least (l : Launch) (G : Gt) (b0 : Nat) (S : St) (o : Nat) (x1 : Int32) (x2 : Int32) (x3 : Int32) (K : Int32 → St → Prop) : CI l G b0 S yX9_least cX9_least 6 (some .int) rmX9_least [.ref (b0 + o), .int x1, .int x2, .int x3] (wX9_least S o x1 x2 x3 K) K := by
  refine met_of (by decide) (Nat.le_of_ble_eq_true rfl) rfl ?_
  intro p e s m below meth c hC hr hlk hin h H locs ls hM hl
  unfold wX9_least at h
  refine lv_ldc (v := 1000000) hC.1 hC.2.1 hC.2.2.2.1 (hC.2.2.2.2 _ tw_993) dX9_least_0 ?_
  refine lv_istore (lv' := [(4, .int 1000000), (0, .ref (b0 + o)), (1, .int x1), (2, .int x2), (3, .int x3)]) hC.1 hC.2.1 dX9_least_2 hl (by decide) rfl (fun ls hl => ?_)
  refine lv_iconst (v := 0) hC.1 hC.2.1 dX9_least_4 (by decide) ?_
  refine lv_istore (lv' := [(5, .int 0), (4, .int 1000000), (0, .ref (b0 + o)), (1, .int x1), (2, .int x2), (3, .int x3)]) hC.1 hC.2.1 dX9_least_5 hl (by decide) rfl (fun ls hl => ?_)
  obtain ⟨n1, h⟩ := h
  exact qX9_least_7 hC hr hlk n1 _ _ _ _ _ _ _ H locs ls h hM (lv_sub hl [2, 3, 4, 5, 1, 0] rfl)
set_option maxHeartbeats 4000000 in
set_option maxRecDepth 100000 in
theorem qX9_hold_195 {p : Program} {l : Launch} {e : Env} {s : State} {m : MethodId} {args : Array Value} {below : List Frame} {meth : Method} {c : Code} {G : Gt} {b0 : Nat} (hC : CallFix p m c cX9_hold 11 s args lw_g RX9) (hr : meth.sig.returnType = (some .int)) (hlk : meth.locks = false) {K : Int32 → St → Prop} {B52 : Nat → Int32 → Int32 → Int32 → Int32 → Int32 → Int32 → St → Prop} (hB52 : ∀ (x0 : Nat) (x1 : Int32) (x2 : Int32) (x3 : Int32) (x4 : Int32) (x5 : Int32) (x6 : Int32) (S : St) (H : Heap) (locs : List Loc) (ls : Array Slot), B52 x0 x1 x2 x3 x4 x5 x6 S → MM G b0 s S H locs → lv_has ls 11 [(0, .ref (b0 + x0)), (1, .int x1), (2, .int x2), (3, .int x3), (4, .int x4), (5, .int x5), (6, .int x6)] → W p l e rmX9_hold s m args below meth c H locs 0 0 (MQ below (va_Qi K (ME G b0) (AB b0)) args s 0 0 (AB b0)) (F0 m 52 ls [])) : ∀ (x0 : Nat) (x1 : Int32) (x2 : Int32) (x3 : Int32) (x4 : Int32) (x5 : Int32) (x6 : Int32) (S : St) (H : Heap) (locs : List Loc) (ls : Array Slot), wX9_hold_195 K B52 x0 x1 x2 x3 x4 x5 x6 S → MM G b0 s S H locs → lv_has ls 11 [(0, .ref (b0 + x0)), (1, .int x1), (2, .int x2), (3, .int x3), (4, .int x4), (5, .int x5), (6, .int x6)] → W p l e rmX9_hold s m args below meth c H locs 0 0 (MQ below (va_Qi K (ME G b0) (AB b0)) args s 0 0 (AB b0)) (F0 m 195 ls []) := by
  intro x0 x1 x2 x3 x4 x5 x6 S H locs ls h hM hl
  unfold wX9_hold_195 at h
  obtain ⟨x6_1, ex6_1⟩ : ∃ y : Int32, y = x6 + 1 := ⟨_, rfl⟩
  have h := h x6_1 ex6_1
  refine lv_iinc (v := x6_1) (lv' := [(6, .int x6_1), (0, .ref (b0 + x0)), (1, .int x1), (2, .int x2), (3, .int x3), (4, .int x4), (5, .int x5)]) hC.1 hC.2.1 dX9_hold_195 hl (k := 6) rfl (by rw [ex6_1]; rfl) (by decide) rfl (fun ls hl => ?_)
  refine lv_goto (tgt := 52) hC.1 hC.2.1 dX9_hold_198 (by decide) ?_
  exact hB52 _ _ _ _ _ _ _ _ H locs ls h hM (lv_sub hl [1, 2, 3, 4, 5, 6, 0] rfl)
set_option maxHeartbeats 4000000 in
set_option maxRecDepth 100000 in
theorem qX9_hold_147 {p : Program} {l : Launch} {e : Env} {s : State} {m : MethodId} {args : Array Value} {below : List Frame} {meth : Method} {c : Code} {G : Gt} {b0 : Nat} (hC : CallFix p m c cX9_hold 11 s args lw_g RX9) (hr : meth.sig.returnType = (some .int)) (hlk : meth.locks = false) {K : Int32 → St → Prop} {B52 : Nat → Int32 → Int32 → Int32 → Int32 → Int32 → Int32 → St → Prop} (hB52 : ∀ (x0 : Nat) (x1 : Int32) (x2 : Int32) (x3 : Int32) (x4 : Int32) (x5 : Int32) (x6 : Int32) (S : St) (H : Heap) (locs : List Loc) (ls : Array Slot), B52 x0 x1 x2 x3 x4 x5 x6 S → MM G b0 s S H locs → lv_has ls 11 [(0, .ref (b0 + x0)), (1, .int x1), (2, .int x2), (3, .int x3), (4, .int x4), (5, .int x5), (6, .int x6)] → W p l e rmX9_hold s m args below meth c H locs 0 0 (MQ below (va_Qi K (ME G b0) (AB b0)) args s 0 0 (AB b0)) (F0 m 52 ls [])) : ∀ (x0 : Nat) (x1 : Int32) (x2 : Int32) (x3 : Int32) (x4 : Int32) (x6 : Int32) (t0 : Int32) (S : St) (H : Heap) (locs : List Loc) (ls : Array Slot), wX9_hold_147 K B52 x0 x1 x2 x3 x4 x6 t0 S → MM G b0 s S H locs → lv_has ls 11 [(0, .ref (b0 + x0)), (1, .int x1), (2, .int x2), (3, .int x3), (4, .int x4), (6, .int x6)] → W p l e rmX9_hold s m args below meth c H locs 0 0 (MQ below (va_Qi K (ME G b0) (AB b0)) args s 0 0 (AB b0)) (F0 m 147 ls [.int t0]) := by
  intro x0 x1 x2 x3 x4 x6 t0 S H locs ls h hM hl
  unfold wX9_hold_147 at h
  refine lv_istore (lv' := [(5, .int t0), (0, .ref (b0 + x0)), (1, .int x1), (2, .int x2), (3, .int x3), (4, .int x4), (6, .int x6)]) hC.1 hC.2.1 dX9_hold_147 hl (by decide) rfl (fun ls hl => ?_)
  refine lv_goto (tgt := 195) hC.1 hC.2.1 dX9_hold_149 (by decide) ?_
  exact qX9_hold_195 hC hr hlk hB52 _ _ _ _ _ _ _ _ H locs ls h hM (lv_sub hl [1, 2, 3, 4, 5, 0, 6] rfl)
set_option maxHeartbeats 4000000 in
set_option maxRecDepth 100000 in
theorem qX9_hold_142 {p : Program} {l : Launch} {e : Env} {s : State} {m : MethodId} {args : Array Value} {below : List Frame} {meth : Method} {c : Code} {G : Gt} {b0 : Nat} (hC : CallFix p m c cX9_hold 11 s args lw_g RX9) (hr : meth.sig.returnType = (some .int)) (hlk : meth.locks = false) {K : Int32 → St → Prop} {B52 : Nat → Int32 → Int32 → Int32 → Int32 → Int32 → Int32 → St → Prop} (hB52 : ∀ (x0 : Nat) (x1 : Int32) (x2 : Int32) (x3 : Int32) (x4 : Int32) (x5 : Int32) (x6 : Int32) (S : St) (H : Heap) (locs : List Loc) (ls : Array Slot), B52 x0 x1 x2 x3 x4 x5 x6 S → MM G b0 s S H locs → lv_has ls 11 [(0, .ref (b0 + x0)), (1, .int x1), (2, .int x2), (3, .int x3), (4, .int x4), (5, .int x5), (6, .int x6)] → W p l e rmX9_hold s m args below meth c H locs 0 0 (MQ below (va_Qi K (ME G b0) (AB b0)) args s 0 0 (AB b0)) (F0 m 52 ls [])) : ∀ (x0 : Nat) (x1 : Int32) (x2 : Int32) (x3 : Int32) (x4 : Int32) (x6 : Int32) (S : St) (H : Heap) (locs : List Loc) (ls : Array Slot), wX9_hold_142 K B52 x0 x1 x2 x3 x4 x6 S → MM G b0 s S H locs → lv_has ls 11 [(0, .ref (b0 + x0)), (1, .int x1), (2, .int x2), (3, .int x3), (4, .int x4), (6, .int x6)] → W p l e rmX9_hold s m args below meth c H locs 0 0 (MQ below (va_Qi K (ME G b0) (AB b0)) args s 0 0 (AB b0)) (F0 m 142 ls []) := by
  intro x0 x1 x2 x3 x4 x6 S H locs ls h hM hl
  unfold wX9_hold_142 at h
  refine lv_iconst (v := 1) hC.1 hC.2.1 dX9_hold_142 (by decide) ?_
  refine lv_goto (tgt := 147) hC.1 hC.2.1 dX9_hold_143 (by decide) ?_
  exact qX9_hold_147 hC hr hlk hB52 _ _ _ _ _ _ _ _ H locs ls h hM (lv_sub hl [0, 1, 2, 3, 4, 5] rfl)
set_option maxHeartbeats 4000000 in
set_option maxRecDepth 100000 in
theorem qX9_hold_146 {p : Program} {l : Launch} {e : Env} {s : State} {m : MethodId} {args : Array Value} {below : List Frame} {meth : Method} {c : Code} {G : Gt} {b0 : Nat} (hC : CallFix p m c cX9_hold 11 s args lw_g RX9) (hr : meth.sig.returnType = (some .int)) (hlk : meth.locks = false) {K : Int32 → St → Prop} {B52 : Nat → Int32 → Int32 → Int32 → Int32 → Int32 → Int32 → St → Prop} (hB52 : ∀ (x0 : Nat) (x1 : Int32) (x2 : Int32) (x3 : Int32) (x4 : Int32) (x5 : Int32) (x6 : Int32) (S : St) (H : Heap) (locs : List Loc) (ls : Array Slot), B52 x0 x1 x2 x3 x4 x5 x6 S → MM G b0 s S H locs → lv_has ls 11 [(0, .ref (b0 + x0)), (1, .int x1), (2, .int x2), (3, .int x3), (4, .int x4), (5, .int x5), (6, .int x6)] → W p l e rmX9_hold s m args below meth c H locs 0 0 (MQ below (va_Qi K (ME G b0) (AB b0)) args s 0 0 (AB b0)) (F0 m 52 ls [])) : ∀ (x0 : Nat) (x1 : Int32) (x2 : Int32) (x3 : Int32) (x4 : Int32) (x6 : Int32) (S : St) (H : Heap) (locs : List Loc) (ls : Array Slot), wX9_hold_146 K B52 x0 x1 x2 x3 x4 x6 S → MM G b0 s S H locs → lv_has ls 11 [(0, .ref (b0 + x0)), (1, .int x1), (2, .int x2), (3, .int x3), (4, .int x4), (6, .int x6)] → W p l e rmX9_hold s m args below meth c H locs 0 0 (MQ below (va_Qi K (ME G b0) (AB b0)) args s 0 0 (AB b0)) (F0 m 146 ls []) := by
  intro x0 x1 x2 x3 x4 x6 S H locs ls h hM hl
  unfold wX9_hold_146 at h
  refine lv_iconst (v := 0) hC.1 hC.2.1 dX9_hold_146 (by decide) ?_
  exact qX9_hold_147 hC hr hlk hB52 _ _ _ _ _ _ _ _ H locs ls h hM (lv_sub hl [0, 1, 2, 3, 4, 5] rfl)
set_option maxHeartbeats 4000000 in
set_option maxRecDepth 100000 in
theorem qX9_hold_194 {p : Program} {l : Launch} {e : Env} {s : State} {m : MethodId} {args : Array Value} {below : List Frame} {meth : Method} {c : Code} {G : Gt} {b0 : Nat} (hC : CallFix p m c cX9_hold 11 s args lw_g RX9) (hr : meth.sig.returnType = (some .int)) (hlk : meth.locks = false) {K : Int32 → St → Prop} {B52 : Nat → Int32 → Int32 → Int32 → Int32 → Int32 → Int32 → St → Prop} (hB52 : ∀ (x0 : Nat) (x1 : Int32) (x2 : Int32) (x3 : Int32) (x4 : Int32) (x5 : Int32) (x6 : Int32) (S : St) (H : Heap) (locs : List Loc) (ls : Array Slot), B52 x0 x1 x2 x3 x4 x5 x6 S → MM G b0 s S H locs → lv_has ls 11 [(0, .ref (b0 + x0)), (1, .int x1), (2, .int x2), (3, .int x3), (4, .int x4), (5, .int x5), (6, .int x6)] → W p l e rmX9_hold s m args below meth c H locs 0 0 (MQ below (va_Qi K (ME G b0) (AB b0)) args s 0 0 (AB b0)) (F0 m 52 ls [])) : ∀ (x0 : Nat) (x1 : Int32) (x2 : Int32) (x4 : Int32) (x5 : Int32) (x6 : Int32) (t0 : Int32) (S : St) (H : Heap) (locs : List Loc) (ls : Array Slot), wX9_hold_194 K B52 x0 x1 x2 x4 x5 x6 t0 S → MM G b0 s S H locs → lv_has ls 11 [(0, .ref (b0 + x0)), (1, .int x1), (2, .int x2), (4, .int x4), (5, .int x5), (6, .int x6)] → W p l e rmX9_hold s m args below meth c H locs 0 0 (MQ below (va_Qi K (ME G b0) (AB b0)) args s 0 0 (AB b0)) (F0 m 194 ls [.int t0]) := by
  intro x0 x1 x2 x4 x5 x6 t0 S H locs ls h hM hl
  unfold wX9_hold_194 at h
  refine lv_istore_n (lv' := [(3, .int t0), (0, .ref (b0 + x0)), (1, .int x1), (2, .int x2), (4, .int x4), (5, .int x5), (6, .int x6)]) hC.1 hC.2.1 dX9_hold_194 rfl hl (by decide) rfl (fun ls hl => ?_)
  exact qX9_hold_195 hC hr hlk hB52 _ _ _ _ _ _ _ _ H locs ls h hM (lv_sub hl [1, 2, 3, 0, 4, 5, 6] rfl)
set_option maxHeartbeats 4000000 in
set_option maxRecDepth 100000 in
theorem qX9_hold_189 {p : Program} {l : Launch} {e : Env} {s : State} {m : MethodId} {args : Array Value} {below : List Frame} {meth : Method} {c : Code} {G : Gt} {b0 : Nat} (hC : CallFix p m c cX9_hold 11 s args lw_g RX9) (hr : meth.sig.returnType = (some .int)) (hlk : meth.locks = false) {K : Int32 → St → Prop} {B52 : Nat → Int32 → Int32 → Int32 → Int32 → Int32 → Int32 → St → Prop} (hB52 : ∀ (x0 : Nat) (x1 : Int32) (x2 : Int32) (x3 : Int32) (x4 : Int32) (x5 : Int32) (x6 : Int32) (S : St) (H : Heap) (locs : List Loc) (ls : Array Slot), B52 x0 x1 x2 x3 x4 x5 x6 S → MM G b0 s S H locs → lv_has ls 11 [(0, .ref (b0 + x0)), (1, .int x1), (2, .int x2), (3, .int x3), (4, .int x4), (5, .int x5), (6, .int x6)] → W p l e rmX9_hold s m args below meth c H locs 0 0 (MQ below (va_Qi K (ME G b0) (AB b0)) args s 0 0 (AB b0)) (F0 m 52 ls [])) : ∀ (x0 : Nat) (x1 : Int32) (x2 : Int32) (x4 : Int32) (x5 : Int32) (x6 : Int32) (S : St) (H : Heap) (locs : List Loc) (ls : Array Slot), wX9_hold_189 K B52 x0 x1 x2 x4 x5 x6 S → MM G b0 s S H locs → lv_has ls 11 [(0, .ref (b0 + x0)), (1, .int x1), (2, .int x2), (4, .int x4), (5, .int x5), (6, .int x6)] → W p l e rmX9_hold s m args below meth c H locs 0 0 (MQ below (va_Qi K (ME G b0) (AB b0)) args s 0 0 (AB b0)) (F0 m 189 ls []) := by
  intro x0 x1 x2 x4 x5 x6 S H locs ls h hM hl
  unfold wX9_hold_189 at h
  refine lv_iconst (v := 1) hC.1 hC.2.1 dX9_hold_189 (by decide) ?_
  refine lv_goto (tgt := 194) hC.1 hC.2.1 dX9_hold_190 (by decide) ?_
  exact qX9_hold_194 hC hr hlk hB52 _ _ _ _ _ _ _ _ H locs ls h hM (lv_sub hl [0, 1, 2, 3, 4, 5] rfl)
set_option maxHeartbeats 4000000 in
set_option maxRecDepth 100000 in
theorem qX9_hold_193 {p : Program} {l : Launch} {e : Env} {s : State} {m : MethodId} {args : Array Value} {below : List Frame} {meth : Method} {c : Code} {G : Gt} {b0 : Nat} (hC : CallFix p m c cX9_hold 11 s args lw_g RX9) (hr : meth.sig.returnType = (some .int)) (hlk : meth.locks = false) {K : Int32 → St → Prop} {B52 : Nat → Int32 → Int32 → Int32 → Int32 → Int32 → Int32 → St → Prop} (hB52 : ∀ (x0 : Nat) (x1 : Int32) (x2 : Int32) (x3 : Int32) (x4 : Int32) (x5 : Int32) (x6 : Int32) (S : St) (H : Heap) (locs : List Loc) (ls : Array Slot), B52 x0 x1 x2 x3 x4 x5 x6 S → MM G b0 s S H locs → lv_has ls 11 [(0, .ref (b0 + x0)), (1, .int x1), (2, .int x2), (3, .int x3), (4, .int x4), (5, .int x5), (6, .int x6)] → W p l e rmX9_hold s m args below meth c H locs 0 0 (MQ below (va_Qi K (ME G b0) (AB b0)) args s 0 0 (AB b0)) (F0 m 52 ls [])) : ∀ (x0 : Nat) (x1 : Int32) (x2 : Int32) (x4 : Int32) (x5 : Int32) (x6 : Int32) (S : St) (H : Heap) (locs : List Loc) (ls : Array Slot), wX9_hold_193 K B52 x0 x1 x2 x4 x5 x6 S → MM G b0 s S H locs → lv_has ls 11 [(0, .ref (b0 + x0)), (1, .int x1), (2, .int x2), (4, .int x4), (5, .int x5), (6, .int x6)] → W p l e rmX9_hold s m args below meth c H locs 0 0 (MQ below (va_Qi K (ME G b0) (AB b0)) args s 0 0 (AB b0)) (F0 m 193 ls []) := by
  intro x0 x1 x2 x4 x5 x6 S H locs ls h hM hl
  unfold wX9_hold_193 at h
  refine lv_iconst (v := 0) hC.1 hC.2.1 dX9_hold_193 (by decide) ?_
  exact qX9_hold_194 hC hr hlk hB52 _ _ _ _ _ _ _ _ H locs ls h hM (lv_sub hl [0, 1, 2, 3, 4, 5] rfl)
set_option maxHeartbeats 4000000 in
set_option maxRecDepth 100000 in
theorem qX9_hold_169 {p : Program} {l : Launch} {e : Env} {s : State} {m : MethodId} {args : Array Value} {below : List Frame} {meth : Method} {c : Code} {G : Gt} {b0 : Nat} (hC : CallFix p m c cX9_hold 11 s args lw_g RX9) (hr : meth.sig.returnType = (some .int)) (hlk : meth.locks = false) {K : Int32 → St → Prop} {B52 : Nat → Int32 → Int32 → Int32 → Int32 → Int32 → Int32 → St → Prop} (hB52 : ∀ (x0 : Nat) (x1 : Int32) (x2 : Int32) (x3 : Int32) (x4 : Int32) (x5 : Int32) (x6 : Int32) (S : St) (H : Heap) (locs : List Loc) (ls : Array Slot), B52 x0 x1 x2 x3 x4 x5 x6 S → MM G b0 s S H locs → lv_has ls 11 [(0, .ref (b0 + x0)), (1, .int x1), (2, .int x2), (3, .int x3), (4, .int x4), (5, .int x5), (6, .int x6)] → W p l e rmX9_hold s m args below meth c H locs 0 0 (MQ below (va_Qi K (ME G b0) (AB b0)) args s 0 0 (AB b0)) (F0 m 52 ls [])) : ∀ (x0 : Nat) (x1 : Int32) (x2 : Int32) (x3 : Int32) (x5 : Int32) (x6 : Int32) (x8 : Int32) (x9 : Int32) (x10 : Int32) (t0 : Int32) (S : St) (H : Heap) (locs : List Loc) (ls : Array Slot), wX9_hold_169 K B52 x0 x1 x2 x3 x5 x6 x8 x9 x10 t0 S → MM G b0 s S H locs → lv_has ls 11 [(0, .ref (b0 + x0)), (1, .int x1), (2, .int x2), (3, .int x3), (5, .int x5), (6, .int x6), (8, .int x8), (9, .int x9), (10, .int x10)] → W p l e rmX9_hold s m args below meth c H locs 0 0 (MQ below (va_Qi K (ME G b0) (AB b0)) args s 0 0 (AB b0)) (F0 m 169 ls [.int t0]) := by
  intro x0 x1 x2 x3 x5 x6 x8 x9 x10 t0 S H locs ls h hM hl
  unfold wX9_hold_169 at h
  refine lv_istore (lv' := [(4, .int t0), (0, .ref (b0 + x0)), (1, .int x1), (2, .int x2), (3, .int x3), (5, .int x5), (6, .int x6), (8, .int x8), (9, .int x9), (10, .int x10)]) hC.1 hC.2.1 dX9_hold_169 hl (by decide) rfl (fun ls hl => ?_)
  refine lv_iload_n hC.1 hC.2.1 dX9_hold_171 rfl (lv_at hl 4 rfl) ?_
  refine lv_if_eq (tgt := 193) hC.1 hC.2.1 dX9_hold_172 (by decide) (fun c_2 => ?_) (fun c_2 => ?_)
  · have h := h.1 c_2
    exact qX9_hold_193 hC hr hlk hB52 _ _ _ _ _ _ _ H locs ls h hM (lv_sub hl [1, 2, 3, 0, 5, 6] rfl)
  · have h := h.2 c_2
    refine lv_iload hC.1 hC.2.1 dX9_hold_175 (lv_at hl 8 rfl) ?_
    refine lv_iload hC.1 hC.2.1 dX9_hold_177 (lv_at hl 7 rfl) ?_
    refine lv_icmp_lt (tgt := 189) hC.1 hC.2.1 dX9_hold_179 (by decide) (fun c_3 => ?_) (fun c_3 => ?_)
    · have h := h.1 c_3
      exact qX9_hold_189 hC hr hlk hB52 _ _ _ _ _ _ _ H locs ls h hM (lv_sub hl [1, 2, 3, 0, 5, 6] rfl)
    · have h := h.2 c_3
      refine lv_iload hC.1 hC.2.1 dX9_hold_182 (lv_at hl 9 rfl) ?_
      refine lv_iload hC.1 hC.2.1 dX9_hold_184 (lv_at hl 7 rfl) ?_
      refine lv_icmp_ge (tgt := 193) hC.1 hC.2.1 dX9_hold_186 (by decide) (fun c_4 => ?_) (fun c_4 => ?_)
      · have h := h.1 c_4
        exact qX9_hold_193 hC hr hlk hB52 _ _ _ _ _ _ _ H locs ls h hM (lv_sub hl [1, 2, 3, 0, 5, 6] rfl)
      · have h := h.2 c_4
        exact qX9_hold_189 hC hr hlk hB52 _ _ _ _ _ _ _ H locs ls h hM (lv_sub hl [1, 2, 3, 0, 5, 6] rfl)
set_option maxHeartbeats 4000000 in
set_option maxRecDepth 100000 in
theorem qX9_hold_168 {p : Program} {l : Launch} {e : Env} {s : State} {m : MethodId} {args : Array Value} {below : List Frame} {meth : Method} {c : Code} {G : Gt} {b0 : Nat} (hC : CallFix p m c cX9_hold 11 s args lw_g RX9) (hr : meth.sig.returnType = (some .int)) (hlk : meth.locks = false) {K : Int32 → St → Prop} {B52 : Nat → Int32 → Int32 → Int32 → Int32 → Int32 → Int32 → St → Prop} (hB52 : ∀ (x0 : Nat) (x1 : Int32) (x2 : Int32) (x3 : Int32) (x4 : Int32) (x5 : Int32) (x6 : Int32) (S : St) (H : Heap) (locs : List Loc) (ls : Array Slot), B52 x0 x1 x2 x3 x4 x5 x6 S → MM G b0 s S H locs → lv_has ls 11 [(0, .ref (b0 + x0)), (1, .int x1), (2, .int x2), (3, .int x3), (4, .int x4), (5, .int x5), (6, .int x6)] → W p l e rmX9_hold s m args below meth c H locs 0 0 (MQ below (va_Qi K (ME G b0) (AB b0)) args s 0 0 (AB b0)) (F0 m 52 ls [])) : ∀ (x0 : Nat) (x1 : Int32) (x2 : Int32) (x3 : Int32) (x5 : Int32) (x6 : Int32) (x8 : Int32) (x9 : Int32) (x10 : Int32) (S : St) (H : Heap) (locs : List Loc) (ls : Array Slot), wX9_hold_168 K B52 x0 x1 x2 x3 x5 x6 x8 x9 x10 S → MM G b0 s S H locs → lv_has ls 11 [(0, .ref (b0 + x0)), (1, .int x1), (2, .int x2), (3, .int x3), (5, .int x5), (6, .int x6), (8, .int x8), (9, .int x9), (10, .int x10)] → W p l e rmX9_hold s m args below meth c H locs 0 0 (MQ below (va_Qi K (ME G b0) (AB b0)) args s 0 0 (AB b0)) (F0 m 168 ls []) := by
  intro x0 x1 x2 x3 x5 x6 x8 x9 x10 S H locs ls h hM hl
  unfold wX9_hold_168 at h
  refine lv_iconst (v := 0) hC.1 hC.2.1 dX9_hold_168 (by decide) ?_
  exact qX9_hold_169 hC hr hlk hB52 _ _ _ _ _ _ _ _ _ _ _ H locs ls h hM (lv_sub hl [0, 1, 2, 3, 4, 5, 6, 7, 8] rfl)
set_option maxHeartbeats 4000000 in
set_option maxRecDepth 100000 in
theorem qX9_hold_201 {p : Program} {l : Launch} {e : Env} {s : State} {m : MethodId} {args : Array Value} {below : List Frame} {meth : Method} {c : Code} {G : Gt} {b0 : Nat} (hC : CallFix p m c cX9_hold 11 s args lw_g RX9) (hr : meth.sig.returnType = (some .int)) (hlk : meth.locks = false) {K : Int32 → St → Prop} : ∀ (x3 : Int32) (x4 : Int32) (x5 : Int32) (S : St) (H : Heap) (locs : List Loc) (ls : Array Slot), wX9_hold_201 K x3 x4 x5 S → MM G b0 s S H locs → lv_has ls 11 [(3, .int x3), (4, .int x4), (5, .int x5)] → W p l e rmX9_hold s m args below meth c H locs 0 0 (MQ below (va_Qi K (ME G b0) (AB b0)) args s 0 0 (AB b0)) (F0 m 201 ls []) := by
  intro x3 x4 x5 S H locs ls h hM hl
  unfold wX9_hold_201 at h
  refine lv_iload_n hC.1 hC.2.1 dX9_hold_201 rfl (lv_at hl 0 rfl) ?_
  refine lv_if_eq (tgt := 209) hC.1 hC.2.1 dX9_hold_202 (by decide) (fun c_5 => ?_) (fun c_5 => ?_)
  · have h := h.1 c_5
    refine lv_iload hC.1 hC.2.1 dX9_hold_209 (lv_at hl 1 rfl) ?_
    refine lv_if_eq (tgt := 218) hC.1 hC.2.1 dX9_hold_211 (by decide) (fun c_6 => ?_) (fun c_6 => ?_)
    · have h := h.1 c_6
      refine lv_iload hC.1 hC.2.1 dX9_hold_218 (lv_at hl 2 rfl) ?_
      refine lv_if_eq (tgt := 227) hC.1 hC.2.1 dX9_hold_220 (by decide) (fun c_7 => ?_) (fun c_7 => ?_)
      · have h := h.1 c_7
        refine lv_iconst (v := 0) hC.1 hC.2.1 dX9_hold_227 (by decide) ?_
        exact mm_iret hC hr hlk hM h dX9_hold_228
      · have h := h.2 c_7
        refine lv_iconst (v := 1) hC.1 hC.2.1 dX9_hold_223 (by decide) ?_
        refine lv_goto (tgt := 228) hC.1 hC.2.1 dX9_hold_224 (by decide) ?_
        exact mm_iret hC hr hlk hM h dX9_hold_228
    · have h := h.2 c_6
      refine lv_iconst (v := 2) hC.1 hC.2.1 dX9_hold_214 (by decide) ?_
      refine lv_goto (tgt := 228) hC.1 hC.2.1 dX9_hold_215 (by decide) ?_
      exact mm_iret hC hr hlk hM h dX9_hold_228
  · have h := h.2 c_5
    refine lv_iconst (v := 3) hC.1 hC.2.1 dX9_hold_205 (by decide) ?_
    refine lv_goto (tgt := 228) hC.1 hC.2.1 dX9_hold_206 (by decide) ?_
    exact mm_iret hC hr hlk hM h dX9_hold_228
set_option maxHeartbeats 4000000 in
set_option maxRecDepth 100000 in
theorem qX9_hold_52 {p : Program} {l : Launch} {e : Env} {s : State} {m : MethodId} {args : Array Value} {below : List Frame} {meth : Method} {c : Code} {G : Gt} {b0 : Nat} (hC : CallFix p m c cX9_hold 11 s args lw_g RX9) (hr : meth.sig.returnType = (some .int)) (hlk : meth.locks = false) {K : Int32 → St → Prop} : ∀ (n : Nat) (x0 : Nat) (x1 : Int32) (x2 : Int32) (x3 : Int32) (x4 : Int32) (x5 : Int32) (x6 : Int32) (S : St) (H : Heap) (locs : List Loc) (ls : Array Slot), wX9_hold_52 K n x0 x1 x2 x3 x4 x5 x6 S → MM G b0 s S H locs → lv_has ls 11 [(0, .ref (b0 + x0)), (1, .int x1), (2, .int x2), (3, .int x3), (4, .int x4), (5, .int x5), (6, .int x6)] → W p l e rmX9_hold s m args below meth c H locs 0 0 (MQ below (va_Qi K (ME G b0) (AB b0)) args s 0 0 (AB b0)) (F0 m 52 ls []) := by
  intro n
  induction n with
  | zero =>
    intro x0 x1 x2 x3 x4 x5 x6 S H locs ls h
    exact False.elim h
  | succ n ih =>
    intro x0 x1 x2 x3 x4 x5 x6 S H locs ls h hM hl
    rw [wX9_hold_52] at h
    refine lv_iload hC.1 hC.2.1 dX9_hold_52 (lv_at hl 6 rfl) ?_
    refine lv_aload_n hC.1 hC.2.1 dX9_hold_54 rfl (lv_at hl 0 rfl) ?_
    obtain ⟨ok_8, h⟩ := h
    refine mm_gi hC hM (ci := 9) (j := 11) ok_8 rfl (by decide) (by decide) tw_802 rfl dX9_hold_55 ?_
    refine lv_icmp_ge (tgt := 201) hC.1 hC.2.1 dX9_hold_58 (by decide) (fun c_9 => ?_) (fun c_9 => ?_)
    · have h := h.1 c_9
      exact qX9_hold_201 hC hr hlk _ _ _ _ H locs ls h hM (lv_sub hl [3, 4, 5] rfl)
    · have h := h.2 c_9
      refine lv_iload_n hC.1 hC.2.1 dX9_hold_61 rfl (lv_at hl 2 rfl) ?_
      refine lv_aload_n hC.1 hC.2.1 dX9_hold_62 rfl (lv_at hl 0 rfl) ?_
      obtain ⟨ok_10, h⟩ := h
      refine mm_gr hC hM (ci := 9) (j := 12) ⟨ok_8, ok_10⟩ rfl (by decide) (by decide) tw_803 rfl dX9_hold_63 ?_
      refine lv_iload hC.1 hC.2.1 dX9_hold_66 (lv_at hl 6 rfl) ?_
      obtain ⟨ok_11, h⟩ := h
      refine mm_il hC hM ok_11 dX9_hold_68 ?_
      refine lv_iconst (v := (-1)) hC.1 hC.2.1 dX9_hold_69 (by decide) ?_
      refine lv_ixor hC.1 hC.2.1 dX9_hold_70 ?_
      refine lv_iand hC.1 hC.2.1 dX9_hold_71 ?_
      refine lv_topi (fun x7_12 ex7_12 => ?_)
      have h := h x7_12 ex7_12
      refine lv_istore (lv' := [(7, .int x7_12), (0, .ref (b0 + x0)), (1, .int x1), (2, .int x2), (3, .int x3), (4, .int x4), (5, .int x5), (6, .int x6)]) hC.1 hC.2.1 dX9_hold_72 hl (by decide) rfl (fun ls hl => ?_)
      refine lv_aload_n hC.1 hC.2.1 dX9_hold_74 rfl (lv_at hl 1 rfl) ?_
      refine lv_aload_n hC.1 hC.2.1 dX9_hold_75 rfl (lv_at hl 1 rfl) ?_
      refine mm_gr hC hM (ci := 9) (j := 12) ⟨ok_8, ok_10⟩ rfl (by decide) (by decide) tw_803 rfl dX9_hold_76 ?_
      refine lv_iload hC.1 hC.2.1 dX9_hold_79 (lv_at hl 7 rfl) ?_
      refine mm_il hC hM ok_11 dX9_hold_81 ?_
      refine lv_iload hC.1 hC.2.1 dX9_hold_82 (lv_at hl 0 rfl) ?_
      refine mm_ri hM (mm_V (As := [.int (sI S (sR S x0 12) (x6 : Int32).toNatClampNeg), .int x7_12]) (rest := []) hC hM hl.1 (mX9_sum l G b0 S x0 (sI S (sR S x0 12) (x6 : Int32).toNatClampNeg) x7_12 _) h (ci := 9) ok_8 rfl rfl kX9_sum tw_944 rfl (by decide) rfl (Nat.le_of_ble_eq_true rfl) dX9_hold_84 (by decide)) (fun r_14 S_13 H locs h hM => ?_)
      refine lv_istore (lv' := [(8, .int r_14), (7, .int x7_12), (0, .ref (b0 + x0)), (1, .int x1), (2, .int x2), (3, .int x3), (4, .int x4), (5, .int x5), (6, .int x6)]) hC.1 hC.2.1 dX9_hold_87 hl (by decide) rfl (fun ls hl => ?_)
      refine lv_aload_n hC.1 hC.2.1 dX9_hold_89 rfl (lv_at hl 2 rfl) ?_
      refine lv_iload_n hC.1 hC.2.1 dX9_hold_90 rfl (lv_at hl 3 rfl) ?_
      refine lv_iconst (v := 1) hC.1 hC.2.1 dX9_hold_91 (by decide) ?_
      refine lv_iload hC.1 hC.2.1 dX9_hold_92 (lv_at hl 1 rfl) ?_
      obtain ⟨ok_17, h⟩ := h
      refine mm_ri hM (mm_V (As := [.int x1, .int 1, .int x7_12]) (rest := []) hC hM hl.1 (mX9_least l G b0 S_13 x0 x1 1 x7_12 _) h (ci := 9) ok_17 rfl rfl kX9_least tw_989 rfl (by decide) rfl (Nat.le_of_ble_eq_true rfl) dX9_hold_94 (by decide)) (fun r_16 S_15 H locs h hM => ?_)
      refine lv_istore (lv' := [(9, .int r_16), (8, .int r_14), (7, .int x7_12), (0, .ref (b0 + x0)), (1, .int x1), (2, .int x2), (3, .int x3), (4, .int x4), (5, .int x5), (6, .int x6)]) hC.1 hC.2.1 dX9_hold_97 hl (by decide) rfl (fun ls hl => ?_)
      refine lv_aload_n hC.1 hC.2.1 dX9_hold_99 rfl (lv_at hl 3 rfl) ?_
      refine lv_iload_n hC.1 hC.2.1 dX9_hold_100 rfl (lv_at hl 4 rfl) ?_
      refine lv_iconst (v := 0) hC.1 hC.2.1 dX9_hold_101 (by decide) ?_
      refine lv_iload hC.1 hC.2.1 dX9_hold_102 (lv_at hl 2 rfl) ?_
      obtain ⟨ok_20, h⟩ := h
      refine mm_ri hM (mm_V (As := [.int x1, .int 0, .int x7_12]) (rest := []) hC hM hl.1 (mX9_least l G b0 S_15 x0 x1 0 x7_12 _) h (ci := 9) ok_20 rfl rfl kX9_least tw_989 rfl (by decide) rfl (Nat.le_of_ble_eq_true rfl) dX9_hold_104 (by decide)) (fun r_19 S_18 H locs h hM => ?_)
      refine lv_istore (lv' := [(10, .int r_19), (9, .int r_16), (8, .int r_14), (7, .int x7_12), (0, .ref (b0 + x0)), (1, .int x1), (2, .int x2), (3, .int x3), (4, .int x4), (5, .int x5), (6, .int x6)]) hC.1 hC.2.1 dX9_hold_107 hl (by decide) rfl (fun ls hl => ?_)
      refine lv_aload_n hC.1 hC.2.1 dX9_hold_109 rfl (lv_at hl 4 rfl) ?_
      obtain ⟨ok_21, h⟩ := h
      refine mm_gr hC hM (ci := 9) (j := 12) ok_21 rfl (by decide) (by decide) tw_803 rfl dX9_hold_110 ?_
      refine lv_iload hC.1 hC.2.1 dX9_hold_113 (lv_at hl 10 rfl) ?_
      obtain ⟨ok_22, h⟩ := h
      refine mm_il hC hM ok_22 dX9_hold_115 ?_
      refine lv_iload_n hC.1 hC.2.1 dX9_hold_116 rfl (lv_at hl 5 rfl) ?_
      refine mm_ri hM (mm_S (As := [.int (sI S_18 (sR S_18 x0 12) (x6 : Int32).toNatClampNeg), .int x1]) (rest := []) hC hM hl.1 (mX9_has l G b0 S_18 (sI S_18 (sR S_18 x0 12) (x6 : Int32).toNatClampNeg) x1 _) h kX9_has tw_772 rfl (by decide) rfl (Nat.le_of_ble_eq_true rfl) dX9_hold_117 (by decide)) (fun r_24 S_23 H locs h hM => ?_)
      refine lv_if_eq (tgt := 152) hC.1 hC.2.1 dX9_hold_120 (by decide) (fun c_25 => ?_) (fun c_25 => ?_)
      · have h := h.1 c_25
        refine lv_iload hC.1 hC.2.1 dX9_hold_152 (lv_at hl 8 rfl) ?_
        refine lv_if_eq (tgt := 168) hC.1 hC.2.1 dX9_hold_154 (by decide) (fun c_26 => ?_) (fun c_26 => ?_)
        · have h := h.1 c_26
          exact qX9_hold_168 hC hr hlk ih _ _ _ _ _ _ _ _ _ _ H locs ls h hM (lv_sub hl [4, 5, 6, 7, 9, 10, 2, 1, 0] rfl)
        · have h := h.2 c_26
          refine lv_iload hC.1 hC.2.1 dX9_hold_157 (lv_at hl 1 rfl) ?_
          refine lv_iload hC.1 hC.2.1 dX9_hold_159 (lv_at hl 2 rfl) ?_
          refine lv_icmp_gt (tgt := 168) hC.1 hC.2.1 dX9_hold_161 (by decide) (fun c_27 => ?_) (fun c_27 => ?_)
          · have h := h.1 c_27
            exact qX9_hold_168 hC hr hlk ih _ _ _ _ _ _ _ _ _ _ H locs ls h hM (lv_sub hl [4, 5, 6, 7, 9, 10, 2, 1, 0] rfl)
          · have h := h.2 c_27
            refine lv_iconst (v := 1) hC.1 hC.2.1 dX9_hold_164 (by decide) ?_
            refine lv_goto (tgt := 169) hC.1 hC.2.1 dX9_hold_165 (by decide) ?_
            exact qX9_hold_169 hC hr hlk ih _ _ _ _ _ _ _ _ _ _ _ H locs ls h hM (lv_sub hl [4, 5, 6, 7, 9, 10, 2, 1, 0] rfl)
      · have h := h.2 c_25
        refine lv_iload hC.1 hC.2.1 dX9_hold_123 (lv_at hl 9 rfl) ?_
        refine lv_if_ne (tgt := 142) hC.1 hC.2.1 dX9_hold_125 (by decide) (fun c_28 => ?_) (fun c_28 => ?_)
        · have h := h.2 c_28
          exact qX9_hold_142 hC hr hlk ih _ _ _ _ _ _ _ H locs ls h hM (lv_sub hl [4, 5, 6, 7, 8, 10] rfl)
        · have h := h.1 c_28
          refine lv_iload hC.1 hC.2.1 dX9_hold_128 (lv_at hl 2 rfl) ?_
          refine lv_iload hC.1 hC.2.1 dX9_hold_130 (lv_at hl 0 rfl) ?_
          refine lv_icmp_gt (tgt := 146) hC.1 hC.2.1 dX9_hold_132 (by decide) (fun c_29 => ?_) (fun c_29 => ?_)
          · have h := h.1 c_29
            exact qX9_hold_146 hC hr hlk ih _ _ _ _ _ _ _ H locs ls h hM (lv_sub hl [4, 5, 6, 7, 8, 10] rfl)
          · have h := h.2 c_29
            refine lv_iload hC.1 hC.2.1 dX9_hold_135 (lv_at hl 2 rfl) ?_
            refine lv_iload hC.1 hC.2.1 dX9_hold_137 (lv_at hl 1 rfl) ?_
            refine lv_icmp_gt (tgt := 146) hC.1 hC.2.1 dX9_hold_139 (by decide) (fun c_30 => ?_) (fun c_30 => ?_)
            · have h := h.1 c_30
              exact qX9_hold_146 hC hr hlk ih _ _ _ _ _ _ _ H locs ls h hM (lv_sub hl [4, 5, 6, 7, 8, 10] rfl)
            · have h := h.2 c_30
              exact qX9_hold_142 hC hr hlk ih _ _ _ _ _ _ _ H locs ls h hM (lv_sub hl [4, 5, 6, 7, 8, 10] rfl)
set_option maxHeartbeats 4000000 in
set_option maxRecDepth 100000 in
theorem qX9_hold_44 {p : Program} {l : Launch} {e : Env} {s : State} {m : MethodId} {args : Array Value} {below : List Frame} {meth : Method} {c : Code} {G : Gt} {b0 : Nat} (hC : CallFix p m c cX9_hold 11 s args lw_g RX9) (hr : meth.sig.returnType = (some .int)) (hlk : meth.locks = false) {K : Int32 → St → Prop} : ∀ (x0 : Nat) (x1 : Int32) (x2 : Int32) (x3 : Int32) (t0 : Int32) (S : St) (H : Heap) (locs : List Loc) (ls : Array Slot), wX9_hold_44 K x0 x1 x2 x3 t0 S → MM G b0 s S H locs → lv_has ls 11 [(0, .ref (b0 + x0)), (1, .int x1), (2, .int x2), (3, .int x3)] → W p l e rmX9_hold s m args below meth c H locs 0 0 (MQ below (va_Qi K (ME G b0) (AB b0)) args s 0 0 (AB b0)) (F0 m 44 ls [.int t0]) := by
  intro x0 x1 x2 x3 t0 S H locs ls h hM hl
  unfold wX9_hold_44 at h
  refine lv_istore (lv' := [(4, .int t0), (0, .ref (b0 + x0)), (1, .int x1), (2, .int x2), (3, .int x3)]) hC.1 hC.2.1 dX9_hold_44 hl (by decide) rfl (fun ls hl => ?_)
  refine lv_iconst (v := 0) hC.1 hC.2.1 dX9_hold_46 (by decide) ?_
  refine lv_istore (lv' := [(5, .int 0), (4, .int t0), (0, .ref (b0 + x0)), (1, .int x1), (2, .int x2), (3, .int x3)]) hC.1 hC.2.1 dX9_hold_47 hl (by decide) rfl (fun ls hl => ?_)
  refine lv_iconst (v := 0) hC.1 hC.2.1 dX9_hold_49 (by decide) ?_
  refine lv_istore (lv' := [(6, .int 0), (5, .int 0), (4, .int t0), (0, .ref (b0 + x0)), (1, .int x1), (2, .int x2), (3, .int x3)]) hC.1 hC.2.1 dX9_hold_50 hl (by decide) rfl (fun ls hl => ?_)
  obtain ⟨n1, h⟩ := h
  exact qX9_hold_52 hC hr hlk n1 _ _ _ _ _ _ _ _ H locs ls h hM (lv_sub hl [3, 4, 5, 6, 2, 1, 0] rfl)
set_option maxHeartbeats 4000000 in
set_option maxRecDepth 100000 in
theorem qX9_hold_31 {p : Program} {l : Launch} {e : Env} {s : State} {m : MethodId} {args : Array Value} {below : List Frame} {meth : Method} {c : Code} {G : Gt} {b0 : Nat} (hC : CallFix p m c cX9_hold 11 s args lw_g RX9) (hr : meth.sig.returnType = (some .int)) (hlk : meth.locks = false) {K : Int32 → St → Prop} : ∀ (x0 : Nat) (x1 : Int32) (x2 : Int32) (t0 : Int32) (S : St) (H : Heap) (locs : List Loc) (ls : Array Slot), wX9_hold_31 K x0 x1 x2 t0 S → MM G b0 s S H locs → lv_has ls 11 [(0, .ref (b0 + x0)), (1, .int x1), (2, .int x2)] → W p l e rmX9_hold s m args below meth c H locs 0 0 (MQ below (va_Qi K (ME G b0) (AB b0)) args s 0 0 (AB b0)) (F0 m 31 ls [.int t0]) := by
  intro x0 x1 x2 t0 S H locs ls h hM hl
  unfold wX9_hold_31 at h
  refine lv_istore_n (lv' := [(3, .int t0), (0, .ref (b0 + x0)), (1, .int x1), (2, .int x2)]) hC.1 hC.2.1 dX9_hold_31 rfl hl (by decide) rfl (fun ls hl => ?_)
  refine lv_aload_n hC.1 hC.2.1 dX9_hold_32 rfl (lv_at hl 1 rfl) ?_
  obtain ⟨ok_31, h⟩ := h
  refine mm_gi hC hM (ci := 9) (j := 11) ok_31 rfl (by decide) (by decide) tw_802 rfl dX9_hold_33 ?_
  refine lv_if_le (tgt := 43) hC.1 hC.2.1 dX9_hold_36 (by decide) (fun c_32 => ?_) (fun c_32 => ?_)
  · have h := h.1 c_32
    refine lv_iconst (v := 0) hC.1 hC.2.1 dX9_hold_43 (by decide) ?_
    exact qX9_hold_44 hC hr hlk _ _ _ _ _ _ H locs ls h hM (lv_sub hl [1, 2, 3, 0] rfl)
  · have h := h.2 c_32
    refine lv_iconst (v := 1) hC.1 hC.2.1 dX9_hold_39 (by decide) ?_
    refine lv_goto (tgt := 44) hC.1 hC.2.1 dX9_hold_40 (by decide) ?_
    exact qX9_hold_44 hC hr hlk _ _ _ _ _ _ H locs ls h hM (lv_sub hl [1, 2, 3, 0] rfl)
set_option maxHeartbeats 4000000 in
set_option maxRecDepth 100000 in
theorem mX9_hold (l : Launch) (G : Gt) (b0 : Nat) (S : St) (o : Nat) (x1 : Int32) (K : Int32 → St → Prop) : CI l G b0 S yX9_hold cX9_hold 11 (some .int) rmX9_hold [.ref (b0 + o), .int x1] (wX9_hold S o x1 K) K := by
  refine met_of (by decide) (Nat.le_of_ble_eq_true rfl) rfl ?_
  intro p e s m below meth c hC hr hlk hin h H locs ls hM hl
  unfold wX9_hold at h
  refine lv_aload_n hC.1 hC.2.1 dX9_hold_0 rfl (lv_at hl 0 rfl) ?_
  refine lv_iload_n hC.1 hC.2.1 dX9_hold_1 rfl (lv_at hl 1 rfl) ?_
  obtain ⟨ok_35, h⟩ := h
  refine mm_ri hM (mm_V (As := [.int x1]) (rest := []) hC hM hl.1 (mX9_isThing l G b0 S o x1 _) h (ci := 9) ok_35 rfl rfl kX9_isThing tw_876 rfl (by decide) rfl (Nat.le_of_ble_eq_true rfl) dX9_hold_2 (by decide)) (fun r_34 S_33 H locs h hM => ?_)
  refine lv_if_ne (tgt := 10) hC.1 hC.2.1 dX9_hold_5 (by decide) (fun c_36 => ?_) (fun c_36 => ?_)
  · have h := h.2 c_36
    refine lv_iconst (v := 1) hC.1 hC.2.1 dX9_hold_10 (by decide) ?_
    refine lv_aload_n hC.1 hC.2.1 dX9_hold_11 rfl (lv_at hl 0 rfl) ?_
    obtain ⟨ok_37, h⟩ := h
    refine mm_gi hC hM (ci := 9) (j := 1) ok_37 rfl (by decide) (by decide) tw_792 rfl dX9_hold_12 ?_
    refine lv_ishl hC.1 hC.2.1 dX9_hold_15 ?_
    refine lv_iconst (v := 1) hC.1 hC.2.1 dX9_hold_16 (by decide) ?_
    refine lv_isub hC.1 hC.2.1 dX9_hold_17 ?_
    refine lv_topi (fun x2_38 ex2_38 => ?_)
    have h := h x2_38 ex2_38
    refine lv_istore_n (lv' := [(2, .int x2_38), (0, .ref (b0 + o)), (1, .int x1)]) hC.1 hC.2.1 dX9_hold_18 rfl hl (by decide) rfl (fun ls hl => ?_)
    refine lv_aload_n hC.1 hC.2.1 dX9_hold_19 rfl (lv_at hl 1 rfl) ?_
    refine mm_gi hC hM (ci := 9) (j := 11) ok_37 rfl (by decide) (by decide) tw_802 rfl dX9_hold_20 ?_
    refine lv_if_le (tgt := 30) hC.1 hC.2.1 dX9_hold_23 (by decide) (fun c_39 => ?_) (fun c_39 => ?_)
    · have h := h.1 c_39
      refine lv_iconst (v := 0) hC.1 hC.2.1 dX9_hold_30 (by decide) ?_
      exact qX9_hold_31 hC hr hlk _ _ _ _ _ H locs ls h hM (lv_sub hl [1, 2, 0] rfl)
    · have h := h.2 c_39
      refine lv_iconst (v := 1) hC.1 hC.2.1 dX9_hold_26 (by decide) ?_
      refine lv_goto (tgt := 31) hC.1 hC.2.1 dX9_hold_27 (by decide) ?_
      exact qX9_hold_31 hC hr hlk _ _ _ _ _ H locs ls h hM (lv_sub hl [1, 2, 0] rfl)
  · have h := h.1 c_36
    refine lv_iconst (v := (-1)) hC.1 hC.2.1 dX9_hold_8 (by decide) ?_
    exact mm_iret hC hr hlk hM h dX9_hold_9
set_option maxHeartbeats 4000000 in
set_option maxRecDepth 100000 in
theorem qX9_keeps_3 {p : Program} {l : Launch} {e : Env} {s : State} {m : MethodId} {args : Array Value} {below : List Frame} {meth : Method} {c : Code} {G : Gt} {b0 : Nat} (hC : CallFix p m c cX9_keeps 5 s args lw_g RX9) (hr : meth.sig.returnType = none) (hlk : meth.locks = false) {K : St → Prop} : ∀ (n : Nat) (x0 : Nat) (x1 : Int32) (x2 : Nat) (x3 : Int32) (x4 : Int32) (S : St) (H : Heap) (locs : List Loc) (ls : Array Slot), wX9_keeps_3 K n x0 x1 x2 x3 x4 S → MM G b0 s S H locs → lv_has ls 5 [(0, .ref (b0 + x0)), (1, .int x1), (2, .ref (b0 + x2)), (3, .int x3), (4, .int x4)] → W p l e rmX9_keeps s m args below meth c H locs 0 0 (MQ below (va_Qv K (ME G b0) (AB b0)) args s 0 0 (AB b0)) (F0 m 3 ls []) := by
  intro n
  induction n with
  | zero =>
    intro x0 x1 x2 x3 x4 S H locs ls h
    exact False.elim h
  | succ n ih =>
    intro x0 x1 x2 x3 x4 S H locs ls h hM hl
    rw [wX9_keeps_3] at h
    refine lv_iload hC.1 hC.2.1 dX9_keeps_3 (lv_at hl 4 rfl) ?_
    refine lv_iload_n hC.1 hC.2.1 dX9_keeps_5 rfl (lv_at hl 3 rfl) ?_
    refine lv_icmp_ge (tgt := 28) hC.1 hC.2.1 dX9_keeps_6 (by decide) (fun c_1 => ?_) (fun c_1 => ?_)
    · have h := h.1 c_1
      exact mm_vret hC hr hlk hM h dX9_keeps_28
    · have h := h.2 c_1
      refine lv_aload_n hC.1 hC.2.1 dX9_keeps_9 rfl (lv_at hl 0 rfl) ?_
      obtain ⟨ok_2, h⟩ := h
      refine mm_gr hC hM (ci := 9) (j := 22) ok_2 rfl (by decide) (by decide) tw_813 rfl dX9_keeps_10 ?_
      refine lv_iload_n hC.1 hC.2.1 dX9_keeps_13 rfl (lv_at hl 1 rfl) ?_
      refine lv_iload hC.1 hC.2.1 dX9_keeps_14 (lv_at hl 4 rfl) ?_
      refine lv_iadd hC.1 hC.2.1 dX9_keeps_16 ?_
      refine lv_aload_n hC.1 hC.2.1 dX9_keeps_17 rfl (lv_at hl 2 rfl) ?_
      refine lv_iload hC.1 hC.2.1 dX9_keeps_18 (lv_at hl 4 rfl) ?_
      obtain ⟨ok_3, h⟩ := h
      refine mm_il hC hM ok_3 dX9_keeps_20 ?_
      obtain ⟨ok_4, h⟩ := h
      refine mm_is hC hM ok_4 dX9_keeps_21 (fun S_5 H locs eS_5 hM => ?_)
      have h := h S_5 eS_5
      obtain ⟨x4_6, ex4_6⟩ : ∃ y : Int32, y = x4 + 1 := ⟨_, rfl⟩
      have h := h x4_6 ex4_6
      refine lv_iinc (v := x4_6) (lv' := [(4, .int x4_6), (0, .ref (b0 + x0)), (1, .int x1), (2, .ref (b0 + x2)), (3, .int x3)]) hC.1 hC.2.1 dX9_keeps_22 hl (k := 4) rfl (by rw [ex4_6]; rfl) (by decide) rfl (fun ls hl => ?_)
      refine lv_goto (tgt := 3) hC.1 hC.2.1 dX9_keeps_25 (by decide) ?_
      exact ih _ _ _ _ _ _ H locs ls h hM (lv_sub hl [1, 2, 3, 4, 0] rfl)
set_option maxHeartbeats 4000000 in
set_option maxRecDepth 100000 in
theorem mX9_keeps (l : Launch) (G : Gt) (b0 : Nat) (S : St) (o : Nat) (x1 : Int32) (x2 : Nat) (x3 : Int32) (K : St → Prop) : CV l G b0 S yX9_keeps cX9_keeps 5 none rmX9_keeps [.ref (b0 + o), .int x1, .ref (b0 + x2), .int x3] (wX9_keeps S o x1 x2 x3 K) K := by
  refine met_of (by decide) (Nat.le_of_ble_eq_true rfl) rfl ?_
  intro p e s m below meth c hC hr hlk hin h H locs ls hM hl
  unfold wX9_keeps at h
  refine lv_iconst (v := 0) hC.1 hC.2.1 dX9_keeps_0 (by decide) ?_
  refine lv_istore (lv' := [(4, .int 0), (0, .ref (b0 + o)), (1, .int x1), (2, .ref (b0 + x2)), (3, .int x3)]) hC.1 hC.2.1 dX9_keeps_1 hl (by decide) rfl (fun ls hl => ?_)
  obtain ⟨n1, h⟩ := h
  exact qX9_keeps_3 hC hr hlk n1 _ _ _ _ _ _ H locs ls h hM (lv_sub hl [1, 2, 3, 4, 0] rfl)
set_option maxHeartbeats 4000000 in
set_option maxRecDepth 100000 in
theorem qX9_image_142 {p : Program} {l : Launch} {e : Env} {s : State} {m : MethodId} {args : Array Value} {below : List Frame} {meth : Method} {c : Code} {G : Gt} {b0 : Nat} (hC : CallFix p m c cX9_image 4 s args lw_g RX9) (hr : meth.sig.returnType = (some .int)) (hlk : meth.locks = false) {K : Int32 → St → Prop} {B111 : Nat → Int32 → Int32 → St → Prop} (hB111 : ∀ (x0 : Nat) (x2 : Int32) (x3 : Int32) (S : St) (H : Heap) (locs : List Loc) (ls : Array Slot), B111 x0 x2 x3 S → MM G b0 s S H locs → lv_has ls 4 [(0, .ref (b0 + x0)), (2, .int x2), (3, .int x3)] → W p l e rmX9_image s m args below meth c H locs 0 0 (MQ below (va_Qi K (ME G b0) (AB b0)) args s 0 0 (AB b0)) (F0 m 111 ls [])) : ∀ (x0 : Nat) (x2 : Int32) (x3 : Int32) (t0 : Nat) (t1 : Int32) (t2 : Int32) (S : St) (H : Heap) (locs : List Loc) (ls : Array Slot), wX9_image_142 K B111 x0 x2 x3 t0 t1 t2 S → MM G b0 s S H locs → lv_has ls 4 [(0, .ref (b0 + x0)), (2, .int x2), (3, .int x3)] → W p l e rmX9_image s m args below meth c H locs 0 0 (MQ below (va_Qi K (ME G b0) (AB b0)) args s 0 0 (AB b0)) (F0 m 142 ls [.int t2, .int t1, .ref (b0 + t0)]) := by
  intro x0 x2 x3 t0 t1 t2 S H locs ls h hM hl
  unfold wX9_image_142 at h
  obtain ⟨ok_1, h⟩ := h
  refine mm_is hC hM ok_1 dX9_image_142 (fun S_2 H locs eS_2 hM => ?_)
  have h := h S_2 eS_2
  obtain ⟨x3_3, ex3_3⟩ : ∃ y : Int32, y = x3 + 1 := ⟨_, rfl⟩
  have h := h x3_3 ex3_3
  refine lv_iinc (v := x3_3) (lv' := [(3, .int x3_3), (0, .ref (b0 + x0)), (2, .int x2)]) hC.1 hC.2.1 dX9_image_143 hl (k := 2) rfl (by rw [ex3_3]; rfl) (by decide) rfl (fun ls hl => ?_)
  refine lv_goto (tgt := 111) hC.1 hC.2.1 dX9_image_146 (by decide) ?_
  exact hB111 _ _ _ _ H locs ls h hM (lv_sub hl [1, 2, 0] rfl)
set_option maxHeartbeats 4000000 in
set_option maxRecDepth 100000 in
theorem qX9_image_149 {p : Program} {l : Launch} {e : Env} {s : State} {m : MethodId} {args : Array Value} {below : List Frame} {meth : Method} {c : Code} {G : Gt} {b0 : Nat} (hC : CallFix p m c cX9_image 4 s args lw_g RX9) (hr : meth.sig.returnType = (some .int)) (hlk : meth.locks = false) {K : Int32 → St → Prop} : ∀ (x0 : Nat) (x2 : Int32) (S : St) (H : Heap) (locs : List Loc) (ls : Array Slot), wX9_image_149 K x0 x2 S → MM G b0 s S H locs → lv_has ls 4 [(0, .ref (b0 + x0)), (2, .int x2)] → W p l e rmX9_image s m args below meth c H locs 0 0 (MQ below (va_Qi K (ME G b0) (AB b0)) args s 0 0 (AB b0)) (F0 m 149 ls []) := by
  intro x0 x2 S H locs ls h hM hl
  unfold wX9_image_149 at h
  refine lv_aload_n hC.1 hC.2.1 dX9_image_149 rfl (lv_at hl 0 rfl) ?_
  obtain ⟨ok_4, h⟩ := h
  refine mm_gr hC hM (ci := 9) (j := 22) ok_4 rfl (by decide) (by decide) tw_813 rfl dX9_image_150 ?_
  refine lv_iload_n hC.1 hC.2.1 dX9_image_153 rfl (lv_at hl 1 rfl) ?_
  refine lv_sipush (v := 164) hC.1 hC.2.1 dX9_image_154 (by decide) ?_
  refine lv_iadd hC.1 hC.2.1 dX9_image_157 ?_
  refine lv_aload_n hC.1 hC.2.1 dX9_image_158 rfl (lv_at hl 0 rfl) ?_
  refine mm_gi hC hM (ci := 9) (j := 1) ok_4.1 rfl (by decide) (by decide) tw_792 rfl dX9_image_159 ?_
  obtain ⟨ok_5, h⟩ := h
  refine mm_is hC hM ok_5 dX9_image_162 (fun S_6 H locs eS_6 hM => ?_)
  have h := h S_6 eS_6
  refine lv_aload_n hC.1 hC.2.1 dX9_image_163 rfl (lv_at hl 0 rfl) ?_
  obtain ⟨ok_7, h⟩ := h
  refine mm_gr hC hM (ci := 9) (j := 22) ok_7 rfl (by decide) (by decide) tw_813 rfl dX9_image_164 ?_
  refine lv_iload_n hC.1 hC.2.1 dX9_image_167 rfl (lv_at hl 1 rfl) ?_
  refine lv_sipush (v := 165) hC.1 hC.2.1 dX9_image_168 (by decide) ?_
  refine lv_iadd hC.1 hC.2.1 dX9_image_171 ?_
  refine lv_aload_n hC.1 hC.2.1 dX9_image_172 rfl (lv_at hl 0 rfl) ?_
  refine mm_gi hC hM (ci := 9) (j := 2) ok_7.1 rfl (by decide) (by decide) tw_793 rfl dX9_image_173 ?_
  obtain ⟨ok_8, h⟩ := h
  refine mm_is hC hM ok_8 dX9_image_176 (fun S_9 H locs eS_9 hM => ?_)
  have h := h S_9 eS_9
  refine lv_aload_n hC.1 hC.2.1 dX9_image_177 rfl (lv_at hl 0 rfl) ?_
  obtain ⟨ok_10, h⟩ := h
  refine mm_gr hC hM (ci := 9) (j := 22) ok_10 rfl (by decide) (by decide) tw_813 rfl dX9_image_178 ?_
  refine lv_iload_n hC.1 hC.2.1 dX9_image_181 rfl (lv_at hl 1 rfl) ?_
  refine lv_sipush (v := 166) hC.1 hC.2.1 dX9_image_182 (by decide) ?_
  refine lv_iadd hC.1 hC.2.1 dX9_image_185 ?_
  refine lv_aload_n hC.1 hC.2.1 dX9_image_186 rfl (lv_at hl 0 rfl) ?_
  refine mm_gi hC hM (ci := 9) (j := 3) ok_10.1 rfl (by decide) (by decide) tw_794 rfl dX9_image_187 ?_
  obtain ⟨ok_11, h⟩ := h
  refine mm_is hC hM ok_11 dX9_image_190 (fun S_12 H locs eS_12 hM => ?_)
  have h := h S_12 eS_12
  refine lv_aload_n hC.1 hC.2.1 dX9_image_191 rfl (lv_at hl 0 rfl) ?_
  refine lv_iconst (v := 0) hC.1 hC.2.1 dX9_image_192 (by decide) ?_
  obtain ⟨ok_15, h⟩ := h
  refine mm_ri hM (mm_V (As := [.int 0]) (rest := []) hC hM hl.1 (mX9_tells l G b0 S_12 x0 0 _) h (ci := 9) ok_15 rfl rfl kX9_tells tw_868 rfl (by decide) rfl (Nat.le_of_ble_eq_true rfl) dX9_image_193 (by decide)) (fun r_14 S_13 H locs h hM => ?_)
  exact mm_iret hC hr hlk hM h dX9_image_196
set_option maxHeartbeats 4000000 in
set_option maxRecDepth 100000 in
theorem qX9_image_111 {p : Program} {l : Launch} {e : Env} {s : State} {m : MethodId} {args : Array Value} {below : List Frame} {meth : Method} {c : Code} {G : Gt} {b0 : Nat} (hC : CallFix p m c cX9_image 4 s args lw_g RX9) (hr : meth.sig.returnType = (some .int)) (hlk : meth.locks = false) {K : Int32 → St → Prop} : ∀ (n : Nat) (x0 : Nat) (x2 : Int32) (x3 : Int32) (S : St) (H : Heap) (locs : List Loc) (ls : Array Slot), wX9_image_111 K n x0 x2 x3 S → MM G b0 s S H locs → lv_has ls 4 [(0, .ref (b0 + x0)), (2, .int x2), (3, .int x3)] → W p l e rmX9_image s m args below meth c H locs 0 0 (MQ below (va_Qi K (ME G b0) (AB b0)) args s 0 0 (AB b0)) (F0 m 111 ls []) := by
  intro n
  induction n with
  | zero =>
    intro x0 x2 x3 S H locs ls h
    exact False.elim h
  | succ n ih =>
    intro x0 x2 x3 S H locs ls h hM hl
    rw [wX9_image_111] at h
    refine lv_iload_n hC.1 hC.2.1 dX9_image_111 rfl (lv_at hl 2 rfl) ?_
    refine lv_bipush (v := 8) hC.1 hC.2.1 dX9_image_112 (by decide) ?_
    refine lv_icmp_ge (tgt := 149) hC.1 hC.2.1 dX9_image_114 (by decide) (fun c_16 => ?_) (fun c_16 => ?_)
    · have h := h.1 c_16
      exact qX9_image_149 hC hr hlk _ _ _ H locs ls h hM (lv_sub hl [0, 1] rfl)
    · have h := h.2 c_16
      refine lv_aload_n hC.1 hC.2.1 dX9_image_117 rfl (lv_at hl 0 rfl) ?_
      obtain ⟨ok_17, h⟩ := h
      refine mm_gr hC hM (ci := 9) (j := 22) ok_17 rfl (by decide) (by decide) tw_813 rfl dX9_image_118 ?_
      refine lv_iload_n hC.1 hC.2.1 dX9_image_121 rfl (lv_at hl 1 rfl) ?_
      refine lv_sipush (v := 156) hC.1 hC.2.1 dX9_image_122 (by decide) ?_
      refine lv_iadd hC.1 hC.2.1 dX9_image_125 ?_
      refine lv_iload_n hC.1 hC.2.1 dX9_image_126 rfl (lv_at hl 2 rfl) ?_
      refine lv_iadd hC.1 hC.2.1 dX9_image_127 ?_
      refine lv_aload_n hC.1 hC.2.1 dX9_image_128 rfl (lv_at hl 0 rfl) ?_
      obtain ⟨ok_18, h⟩ := h
      refine mm_gr hC hM (ci := 9) (j := 9) ⟨ok_17.1, ok_18⟩ rfl (by decide) (by decide) tw_800 rfl dX9_image_129 ?_
      refine lv_iload_n hC.1 hC.2.1 dX9_image_132 rfl (lv_at hl 2 rfl) ?_
      obtain ⟨ok_19, h⟩ := h
      refine mm_zl hC hM ok_19 dX9_image_133 ?_
      refine lv_if_eq (tgt := 141) hC.1 hC.2.1 dX9_image_134 (by decide) (fun c_20 => ?_) (fun c_20 => ?_)
      · have h := h.1 c_20
        refine lv_iconst (v := 0) hC.1 hC.2.1 dX9_image_141 (by decide) ?_
        exact qX9_image_142 hC hr hlk ih _ _ _ _ _ _ _ H locs ls h hM (lv_sub hl [0, 1, 2] rfl)
      · have h := h.2 c_20
        refine lv_iconst (v := 1) hC.1 hC.2.1 dX9_image_137 (by decide) ?_
        refine lv_goto (tgt := 142) hC.1 hC.2.1 dX9_image_138 (by decide) ?_
        exact qX9_image_142 hC hr hlk ih _ _ _ _ _ _ _ H locs ls h hM (lv_sub hl [0, 1, 2] rfl)
set_option maxHeartbeats 4000000 in
set_option maxRecDepth 100000 in
theorem mX9_image (l : Launch) (G : Gt) (b0 : Nat) (S : St) (o : Nat) (x1 : Int32) (K : Int32 → St → Prop) : CI l G b0 S yX9_image cX9_image 4 (some .int) rmX9_image [.ref (b0 + o), .int x1] (wX9_image S o x1 K) K := by
  refine met_of (by decide) (Nat.le_of_ble_eq_true rfl) rfl ?_
  intro p e s m below meth c hC hr hlk hin h H locs ls hM hl
  unfold wX9_image at h
  refine lv_iload_n hC.1 hC.2.1 dX9_image_0 rfl (lv_at hl 1 rfl) ?_
  refine lv_iconst (v := 0) hC.1 hC.2.1 dX9_image_1 (by decide) ?_
  refine lv_iconst (v := 2) hC.1 hC.2.1 dX9_image_2 (by decide) ?_
  refine mm_ri hM (mm_S (As := [.int x1, .int 0, .int 2]) (rest := []) hC hM hl.1 (mX9_in l G b0 S x1 0 2 _) h kX9_in tw_865 rfl (by decide) rfl (Nat.le_of_ble_eq_true rfl) dX9_image_3 (by decide)) (fun r_22 S_21 H locs h hM => ?_)
  refine lv_if_ne (tgt := 15) hC.1 hC.2.1 dX9_image_6 (by decide) (fun c_23 => ?_) (fun c_23 => ?_)
  · have h := h.2 c_23
    refine lv_sipush (v := 200) hC.1 hC.2.1 dX9_image_15 (by decide) ?_
    refine lv_iload_n hC.1 hC.2.1 dX9_image_18 rfl (lv_at hl 1 rfl) ?_
    refine lv_imul hC.1 hC.2.1 dX9_image_19 ?_
    refine lv_topi (fun x2_24 ex2_24 => ?_)
    have h := h x2_24 ex2_24
    refine lv_istore_n (lv' := [(2, .int x2_24), (0, .ref (b0 + o)), (1, .int x1)]) hC.1 hC.2.1 dX9_image_20 rfl hl (by decide) rfl (fun ls hl => ?_)
    refine lv_aload_n hC.1 hC.2.1 dX9_image_21 rfl (lv_at hl 1 rfl) ?_
    obtain ⟨ok_25, h⟩ := h
    refine mm_gr hC hM (ci := 9) (j := 21) ok_25 rfl (by decide) (by decide) tw_812 rfl dX9_image_22 ?_
    refine lv_iload_n hC.1 hC.2.1 dX9_image_25 rfl (lv_at hl 2 rfl) ?_
    refine lv_iconst (v := 1) hC.1 hC.2.1 dX9_image_26 (by decide) ?_
    obtain ⟨ok_26, h⟩ := h
    refine mm_zs hC hM ok_26 dX9_image_27 (fun S_27 H locs eS_27 hM => ?_)
    have h := h S_27 eS_27
    refine lv_aload_n hC.1 hC.2.1 dX9_image_28 rfl (lv_at hl 1 rfl) ?_
    refine lv_iload_n hC.1 hC.2.1 dX9_image_29 rfl (lv_at hl 0 rfl) ?_
    refine lv_aload_n hC.1 hC.2.1 dX9_image_30 rfl (lv_at hl 1 rfl) ?_
    obtain ⟨ok_28, h⟩ := h
    refine mm_gr hC hM (ci := 9) (j := 4) ok_28 rfl (by decide) (by decide) tw_795 rfl dX9_image_31 ?_
    refine lv_bipush (v := 12) hC.1 hC.2.1 dX9_image_34 (by decide) ?_
    refine mm_rv hM (mm_V (As := [.int x2_24, .ref (b0 + (sR S_27 o 4)), .int 12]) (rest := []) hC hM hl.1 (mX9_keeps l G b0 S_27 o x2_24 (sR S_27 o 4) 12 _) h (ci := 9) ok_28.1 rfl rfl kX9_keeps tw_1077 rfl (by decide) rfl (Nat.le_of_ble_eq_true rfl) dX9_image_36 (by decide)) (fun S_29 H locs h hM => ?_)
    refine lv_aload_n hC.1 hC.2.1 dX9_image_39 rfl (lv_at hl 1 rfl) ?_
    refine lv_iload_n hC.1 hC.2.1 dX9_image_40 rfl (lv_at hl 0 rfl) ?_
    refine lv_bipush (v := 12) hC.1 hC.2.1 dX9_image_41 (by decide) ?_
    refine lv_iadd hC.1 hC.2.1 dX9_image_43 ?_
    refine lv_aload_n hC.1 hC.2.1 dX9_image_44 rfl (lv_at hl 1 rfl) ?_
    obtain ⟨ok_31, h⟩ := h
    refine mm_gr hC hM (ci := 9) (j := 5) ok_31 rfl (by decide) (by decide) tw_796 rfl dX9_image_45 ?_
    refine lv_bipush (v := 12) hC.1 hC.2.1 dX9_image_48 (by decide) ?_
    refine mm_rv hM (mm_V (As := [.int (x2_24 + 12), .ref (b0 + (sR S_29 o 5)), .int 12]) (rest := []) hC hM hl.1 (mX9_keeps l G b0 S_29 o (x2_24 + 12) (sR S_29 o 5) 12 _) h (ci := 9) ok_31.1 rfl rfl kX9_keeps tw_1077 rfl (by decide) rfl (Nat.le_of_ble_eq_true rfl) dX9_image_50 (by decide)) (fun S_32 H locs h hM => ?_)
    refine lv_aload_n hC.1 hC.2.1 dX9_image_53 rfl (lv_at hl 1 rfl) ?_
    refine lv_iload_n hC.1 hC.2.1 dX9_image_54 rfl (lv_at hl 0 rfl) ?_
    refine lv_bipush (v := 24) hC.1 hC.2.1 dX9_image_55 (by decide) ?_
    refine lv_iadd hC.1 hC.2.1 dX9_image_57 ?_
    refine lv_aload_n hC.1 hC.2.1 dX9_image_58 rfl (lv_at hl 1 rfl) ?_
    obtain ⟨ok_34, h⟩ := h
    refine mm_gr hC hM (ci := 9) (j := 6) ok_34 rfl (by decide) (by decide) tw_797 rfl dX9_image_59 ?_
    refine lv_bipush (v := 12) hC.1 hC.2.1 dX9_image_62 (by decide) ?_
    refine mm_rv hM (mm_V (As := [.int (x2_24 + 24), .ref (b0 + (sR S_32 o 6)), .int 12]) (rest := []) hC hM hl.1 (mX9_keeps l G b0 S_32 o (x2_24 + 24) (sR S_32 o 6) 12 _) h (ci := 9) ok_34.1 rfl rfl kX9_keeps tw_1077 rfl (by decide) rfl (Nat.le_of_ble_eq_true rfl) dX9_image_64 (by decide)) (fun S_35 H locs h hM => ?_)
    refine lv_aload_n hC.1 hC.2.1 dX9_image_67 rfl (lv_at hl 1 rfl) ?_
    refine lv_iload_n hC.1 hC.2.1 dX9_image_68 rfl (lv_at hl 0 rfl) ?_
    refine lv_bipush (v := 36) hC.1 hC.2.1 dX9_image_69 (by decide) ?_
    refine lv_iadd hC.1 hC.2.1 dX9_image_71 ?_
    refine lv_aload_n hC.1 hC.2.1 dX9_image_72 rfl (lv_at hl 1 rfl) ?_
    obtain ⟨ok_37, h⟩ := h
    refine mm_gr hC hM (ci := 9) (j := 7) ok_37 rfl (by decide) (by decide) tw_798 rfl dX9_image_73 ?_
    refine lv_bipush (v := 12) hC.1 hC.2.1 dX9_image_76 (by decide) ?_
    refine mm_rv hM (mm_V (As := [.int (x2_24 + 36), .ref (b0 + (sR S_35 o 7)), .int 12]) (rest := []) hC hM hl.1 (mX9_keeps l G b0 S_35 o (x2_24 + 36) (sR S_35 o 7) 12 _) h (ci := 9) ok_37.1 rfl rfl kX9_keeps tw_1077 rfl (by decide) rfl (Nat.le_of_ble_eq_true rfl) dX9_image_78 (by decide)) (fun S_38 H locs h hM => ?_)
    refine lv_aload_n hC.1 hC.2.1 dX9_image_81 rfl (lv_at hl 1 rfl) ?_
    refine lv_iload_n hC.1 hC.2.1 dX9_image_82 rfl (lv_at hl 0 rfl) ?_
    refine lv_bipush (v := 48) hC.1 hC.2.1 dX9_image_83 (by decide) ?_
    refine lv_iadd hC.1 hC.2.1 dX9_image_85 ?_
    refine lv_aload_n hC.1 hC.2.1 dX9_image_86 rfl (lv_at hl 1 rfl) ?_
    obtain ⟨ok_40, h⟩ := h
    refine mm_gr hC hM (ci := 9) (j := 8) ok_40 rfl (by decide) (by decide) tw_799 rfl dX9_image_87 ?_
    refine lv_bipush (v := 12) hC.1 hC.2.1 dX9_image_90 (by decide) ?_
    refine mm_rv hM (mm_V (As := [.int (x2_24 + 48), .ref (b0 + (sR S_38 o 8)), .int 12]) (rest := []) hC hM hl.1 (mX9_keeps l G b0 S_38 o (x2_24 + 48) (sR S_38 o 8) 12 _) h (ci := 9) ok_40.1 rfl rfl kX9_keeps tw_1077 rfl (by decide) rfl (Nat.le_of_ble_eq_true rfl) dX9_image_92 (by decide)) (fun S_41 H locs h hM => ?_)
    refine lv_aload_n hC.1 hC.2.1 dX9_image_95 rfl (lv_at hl 1 rfl) ?_
    refine lv_iload_n hC.1 hC.2.1 dX9_image_96 rfl (lv_at hl 0 rfl) ?_
    refine lv_bipush (v := 60) hC.1 hC.2.1 dX9_image_97 (by decide) ?_
    refine lv_iadd hC.1 hC.2.1 dX9_image_99 ?_
    refine lv_aload_n hC.1 hC.2.1 dX9_image_100 rfl (lv_at hl 1 rfl) ?_
    obtain ⟨ok_43, h⟩ := h
    refine mm_gr hC hM (ci := 9) (j := 10) ok_43 rfl (by decide) (by decide) tw_801 rfl dX9_image_101 ?_
    refine lv_bipush (v := 96) hC.1 hC.2.1 dX9_image_104 (by decide) ?_
    refine mm_rv hM (mm_V (As := [.int (x2_24 + 60), .ref (b0 + (sR S_41 o 10)), .int 96]) (rest := []) hC hM hl.1 (mX9_keeps l G b0 S_41 o (x2_24 + 60) (sR S_41 o 10) 96 _) h (ci := 9) ok_43.1 rfl rfl kX9_keeps tw_1077 rfl (by decide) rfl (Nat.le_of_ble_eq_true rfl) dX9_image_106 (by decide)) (fun S_44 H locs h hM => ?_)
    refine lv_iconst (v := 0) hC.1 hC.2.1 dX9_image_109 (by decide) ?_
    refine lv_istore_n (lv' := [(3, .int 0), (2, .int x2_24), (0, .ref (b0 + o)), (1, .int x1)]) hC.1 hC.2.1 dX9_image_110 rfl hl (by decide) rfl (fun ls hl => ?_)
    obtain ⟨n1, h⟩ := h
    exact qX9_image_111 hC hr hlk n1 _ _ _ _ H locs ls h hM (lv_sub hl [2, 1, 0] rfl)
  · have h := h.1 c_23
    refine lv_aload_n hC.1 hC.2.1 dX9_image_9 rfl (lv_at hl 0 rfl) ?_
    refine lv_iconst (v := (-1)) hC.1 hC.2.1 dX9_image_10 (by decide) ?_
    obtain ⟨ok_48, h⟩ := h
    refine mm_ri hM (mm_V (As := [.int (-1)]) (rest := []) hC hM hl.1 (mX9_tells l G b0 S_21 o (-1) _) h (ci := 9) ok_48 rfl rfl kX9_tells tw_868 rfl (by decide) rfl (Nat.le_of_ble_eq_true rfl) dX9_image_11 (by decide)) (fun r_47 S_46 H locs h hM => ?_)
    exact mm_iret hC hr hlk hM h dX9_image_14
set_option maxHeartbeats 4000000 in
set_option maxRecDepth 100000 in
theorem qX9_kind_51 {p : Program} {l : Launch} {e : Env} {s : State} {m : MethodId} {args : Array Value} {below : List Frame} {meth : Method} {c : Code} {G : Gt} {b0 : Nat} (hC : CallFix p m c cX9_kind 5 s args lw_g RX9) (hr : meth.sig.returnType = (some .int)) (hlk : meth.locks = false) {K : Int32 → St → Prop} : ∀ (x0 : Nat) (S : St) (H : Heap) (locs : List Loc) (ls : Array Slot), wX9_kind_51 K x0 S → MM G b0 s S H locs → lv_has ls 5 [(0, .ref (b0 + x0))] → W p l e rmX9_kind s m args below meth c H locs 0 0 (MQ below (va_Qi K (ME G b0) (AB b0)) args s 0 0 (AB b0)) (F0 m 51 ls []) := by
  intro x0 S H locs ls h hM hl
  unfold wX9_kind_51 at h
  refine lv_aload_n hC.1 hC.2.1 dX9_kind_51 rfl (lv_at hl 0 rfl) ?_
  refine lv_iconst (v := (-1)) hC.1 hC.2.1 dX9_kind_52 (by decide) ?_
  obtain ⟨ok_3, h⟩ := h
  refine mm_ri hM (mm_V (As := [.int (-1)]) (rest := []) hC hM hl.1 (mX9_tells l G b0 S x0 (-1) _) h (ci := 9) ok_3 rfl rfl kX9_tells tw_868 rfl (by decide) rfl (Nat.le_of_ble_eq_true rfl) dX9_kind_53 (by decide)) (fun r_2 S_1 H locs h hM => ?_)
  exact mm_iret hC hr hlk hM h dX9_kind_56
set_option maxHeartbeats 4000000 in
set_option maxRecDepth 100000 in
theorem qX9_kind_45 {p : Program} {l : Launch} {e : Env} {s : State} {m : MethodId} {args : Array Value} {below : List Frame} {meth : Method} {c : Code} {G : Gt} {b0 : Nat} (hC : CallFix p m c cX9_kind 5 s args lw_g RX9) (hr : meth.sig.returnType = (some .int)) (hlk : meth.locks = false) {K : Int32 → St → Prop} : ∀ (x0 : Nat) (x1 : Int32) (x2 : Int32) (t0 : Int32) (t1 : Int32) (t2 : Int32) (S : St) (H : Heap) (locs : List Loc) (ls : Array Slot), wX9_kind_45 K x0 x1 x2 t0 t1 t2 S → MM G b0 s S H locs → lv_has ls 5 [(0, .ref (b0 + x0)), (1, .int x1), (2, .int x2)] → W p l e rmX9_kind s m args below meth c H locs 0 0 (MQ below (va_Qi K (ME G b0) (AB b0)) args s 0 0 (AB b0)) (F0 m 45 ls [.int t2, .int t1, .int t0]) := by
  intro x0 x1 x2 t0 t1 t2 S H locs ls h hM hl
  unfold wX9_kind_45 at h
  refine mm_ri hM (mm_S (As := [.int t0, .int t1, .int t2]) (rest := []) hC hM hl.1 (mX9_in l G b0 S t0 t1 t2 _) h kX9_in tw_865 rfl (by decide) rfl (Nat.le_of_ble_eq_true rfl) dX9_kind_45 (by decide)) (fun r_5 S_4 H locs h hM => ?_)
  refine lv_if_ne (tgt := 57) hC.1 hC.2.1 dX9_kind_48 (by decide) (fun c_6 => ?_) (fun c_6 => ?_)
  · have h := h.2 c_6
    refine lv_aload_n hC.1 hC.2.1 dX9_kind_57 rfl (lv_at hl 0 rfl) ?_
    obtain ⟨ok_7, h⟩ := h
    refine mm_gi hC hM (ci := 9) (j := 2) ok_7 rfl (by decide) (by decide) tw_793 rfl dX9_kind_58 ?_
    refine lv_topi (fun x3_8 ex3_8 => ?_)
    have h := h x3_8 ex3_8
    refine lv_istore_n (lv' := [(3, .int x3_8), (0, .ref (b0 + x0)), (1, .int x1), (2, .int x2)]) hC.1 hC.2.1 dX9_kind_61 rfl hl (by decide) rfl (fun ls hl => ?_)
    refine lv_aload_n hC.1 hC.2.1 dX9_kind_62 rfl (lv_at hl 1 rfl) ?_
    refine mm_gi hC hM (ci := 9) (j := 3) ok_7 rfl (by decide) (by decide) tw_794 rfl dX9_kind_63 ?_
    refine lv_topi (fun x4_9 ex4_9 => ?_)
    have h := h x4_9 ex4_9
    refine lv_istore (lv' := [(4, .int x4_9), (3, .int x3_8), (0, .ref (b0 + x0)), (1, .int x1), (2, .int x2)]) hC.1 hC.2.1 dX9_kind_66 hl (by decide) rfl (fun ls hl => ?_)
    refine lv_aload_n hC.1 hC.2.1 dX9_kind_68 rfl (lv_at hl 2 rfl) ?_
    refine lv_iload_n hC.1 hC.2.1 dX9_kind_69 rfl (lv_at hl 3 rfl) ?_
    refine mm_pi hC hM (ci := 9) (j := 2) (ty := .int) ok_7 rfl (by decide) (by decide) tw_793 rfl rfl (by decide +kernel) rfl rfl dX9_kind_70 (fun S_10 H locs eS_10 hM => ?_)
    have h := h S_10 eS_10
    refine lv_aload_n hC.1 hC.2.1 dX9_kind_73 rfl (lv_at hl 2 rfl) ?_
    refine lv_iload_n hC.1 hC.2.1 dX9_kind_74 rfl (lv_at hl 4 rfl) ?_
    obtain ⟨ok_11, h⟩ := h
    refine mm_pi hC hM (ci := 9) (j := 3) (ty := .int) ok_11 rfl (by decide) (by decide) tw_794 rfl rfl (by decide +kernel) rfl rfl dX9_kind_75 (fun S_12 H locs eS_12 hM => ?_)
    have h := h S_12 eS_12
    refine lv_aload_n hC.1 hC.2.1 dX9_kind_78 rfl (lv_at hl 2 rfl) ?_
    obtain ⟨ok_15, h⟩ := h
    refine mm_ri hM (mm_V (As := []) (rest := []) hC hM hl.1 (mX9_gathers l G b0 S_12 x0 _) h (ci := 9) ok_15 rfl rfl kX9_gathers tw_761 rfl (by decide) rfl (Nat.le_of_ble_eq_true rfl) dX9_kind_79 (by decide)) (fun r_14 S_13 H locs h hM => ?_)
    refine lv_if_ne (tgt := 108) hC.1 hC.2.1 dX9_kind_82 (by decide) (fun c_16 => ?_) (fun c_16 => ?_)
    · have h := h.2 c_16
      refine lv_aload_n hC.1 hC.2.1 dX9_kind_108 rfl (lv_at hl 2 rfl) ?_
      refine lv_aload_n hC.1 hC.2.1 dX9_kind_109 rfl (lv_at hl 2 rfl) ?_
      obtain ⟨ok_17, h⟩ := h
      refine mm_gi hC hM (ci := 9) (j := 11) ok_17 rfl (by decide) (by decide) tw_802 rfl dX9_kind_110 ?_
      refine mm_ri hM (mm_V (As := [.int (sI S_13 x0 11)]) (rest := []) hC hM hl.1 (mX9_tells l G b0 S_13 x0 (sI S_13 x0 11) _) h (ci := 9) ok_17 rfl rfl kX9_tells tw_868 rfl (by decide) rfl (Nat.le_of_ble_eq_true rfl) dX9_kind_113 (by decide)) (fun r_19 S_18 H locs h hM => ?_)
      exact mm_iret hC hr hlk hM h dX9_kind_116
    · have h := h.1 c_16
      refine lv_aload_n hC.1 hC.2.1 dX9_kind_85 rfl (lv_at hl 2 rfl) ?_
      refine lv_iload_n hC.1 hC.2.1 dX9_kind_86 rfl (lv_at hl 1 rfl) ?_
      obtain ⟨ok_20, h⟩ := h
      refine mm_pi hC hM (ci := 9) (j := 2) (ty := .int) ok_20 rfl (by decide) (by decide) tw_793 rfl rfl (by decide +kernel) rfl rfl dX9_kind_87 (fun S_21 H locs eS_21 hM => ?_)
      have h := h S_21 eS_21
      refine lv_aload_n hC.1 hC.2.1 dX9_kind_90 rfl (lv_at hl 2 rfl) ?_
      refine lv_iload hC.1 hC.2.1 dX9_kind_91 (lv_at hl 0 rfl) ?_
      obtain ⟨ok_22, h⟩ := h
      refine mm_pi hC hM (ci := 9) (j := 3) (ty := .int) ok_22 rfl (by decide) (by decide) tw_794 rfl rfl (by decide +kernel) rfl rfl dX9_kind_93 (fun S_23 H locs eS_23 hM => ?_)
      have h := h S_23 eS_23
      refine lv_aload_n hC.1 hC.2.1 dX9_kind_96 rfl (lv_at hl 2 rfl) ?_
      obtain ⟨ok_26, h⟩ := h
      refine mm_ri hM (mm_V (As := []) (rest := []) hC hM hl.1 (mX9_gathers l G b0 S_23 x0 _) h (ci := 9) ok_26 rfl rfl kX9_gathers tw_761 rfl (by decide) rfl (Nat.le_of_ble_eq_true rfl) dX9_kind_97 (by decide)) (fun r_25 S_24 H locs h hM => ?_)
      refine lv_pop hC.1 hC.2.1 dX9_kind_100 rfl ?_
      refine lv_aload_n hC.1 hC.2.1 dX9_kind_101 rfl (lv_at hl 2 rfl) ?_
      refine lv_bipush (v := (-5)) hC.1 hC.2.1 dX9_kind_102 (by decide) ?_
      obtain ⟨ok_29, h⟩ := h
      refine mm_ri hM (mm_V (As := [.int (-5)]) (rest := []) hC hM hl.1 (mX9_tells l G b0 S_24 x0 (-5) _) h (ci := 9) ok_29 rfl rfl kX9_tells tw_868 rfl (by decide) rfl (Nat.le_of_ble_eq_true rfl) dX9_kind_104 (by decide)) (fun r_28 S_27 H locs h hM => ?_)
      exact mm_iret hC hr hlk hM h dX9_kind_107
  · have h := h.1 c_6
    exact qX9_kind_51 hC hr hlk _ _ H locs ls h hM (lv_sub hl [0] rfl)
set_option maxHeartbeats 4000000 in
set_option maxRecDepth 100000 in
theorem qX9_kind_25 {p : Program} {l : Launch} {e : Env} {s : State} {m : MethodId} {args : Array Value} {below : List Frame} {meth : Method} {c : Code} {G : Gt} {b0 : Nat} (hC : CallFix p m c cX9_kind 5 s args lw_g RX9) (hr : meth.sig.returnType = (some .int)) (hlk : meth.locks = false) {K : Int32 → St → Prop} : ∀ (x0 : Nat) (x1 : Int32) (x2 : Int32) (t0 : Int32) (t1 : Int32) (S : St) (H : Heap) (locs : List Loc) (ls : Array Slot), wX9_kind_25 K x0 x1 x2 t0 t1 S → MM G b0 s S H locs → lv_has ls 5 [(0, .ref (b0 + x0)), (1, .int x1), (2, .int x2)] → W p l e rmX9_kind s m args below meth c H locs 0 0 (MQ below (va_Qi K (ME G b0) (AB b0)) args s 0 0 (AB b0)) (F0 m 25 ls [.int t1, .int t0]) := by
  intro x0 x1 x2 t0 t1 S H locs ls h hM hl
  unfold wX9_kind_25 at h
  refine lv_iload_n hC.1 hC.2.1 dX9_kind_25 rfl (lv_at hl 1 rfl) ?_
  refine lv_if_ne (tgt := 34) hC.1 hC.2.1 dX9_kind_26 (by decide) (fun c_30 => ?_) (fun c_30 => ?_)
  · have h := h.2 c_30
    refine lv_iload_n hC.1 hC.2.1 dX9_kind_34 rfl (lv_at hl 1 rfl) ?_
    refine lv_iconst (v := 1) hC.1 hC.2.1 dX9_kind_35 (by decide) ?_
    refine lv_icmp_ne (tgt := 43) hC.1 hC.2.1 dX9_kind_36 (by decide) (fun c_31 => ?_) (fun c_31 => ?_)
    · have h := h.2 c_31
      refine lv_bipush (v := 6) hC.1 hC.2.1 dX9_kind_43 (by decide) ?_
      exact qX9_kind_45 hC hr hlk _ _ _ _ _ _ _ H locs ls h hM (lv_sub hl [0, 1, 2] rfl)
    · have h := h.1 c_31
      refine lv_iconst (v := 5) hC.1 hC.2.1 dX9_kind_39 (by decide) ?_
      refine lv_goto (tgt := 45) hC.1 hC.2.1 dX9_kind_40 (by decide) ?_
      exact qX9_kind_45 hC hr hlk _ _ _ _ _ _ _ H locs ls h hM (lv_sub hl [0, 1, 2] rfl)
  · have h := h.1 c_30
    refine lv_bipush (v := 12) hC.1 hC.2.1 dX9_kind_29 (by decide) ?_
    refine lv_goto (tgt := 45) hC.1 hC.2.1 dX9_kind_31 (by decide) ?_
    exact qX9_kind_45 hC hr hlk _ _ _ _ _ _ _ H locs ls h hM (lv_sub hl [0, 1, 2] rfl)
set_option maxHeartbeats 4000000 in
set_option maxRecDepth 100000 in
theorem qX9_kind_20 {p : Program} {l : Launch} {e : Env} {s : State} {m : MethodId} {args : Array Value} {below : List Frame} {meth : Method} {c : Code} {G : Gt} {b0 : Nat} (hC : CallFix p m c cX9_kind 5 s args lw_g RX9) (hr : meth.sig.returnType = (some .int)) (hlk : meth.locks = false) {K : Int32 → St → Prop} : ∀ (x0 : Nat) (x1 : Int32) (x2 : Int32) (t0 : Int32) (S : St) (H : Heap) (locs : List Loc) (ls : Array Slot), wX9_kind_20 K x0 x1 x2 t0 S → MM G b0 s S H locs → lv_has ls 5 [(0, .ref (b0 + x0)), (1, .int x1), (2, .int x2)] → W p l e rmX9_kind s m args below meth c H locs 0 0 (MQ below (va_Qi K (ME G b0) (AB b0)) args s 0 0 (AB b0)) (F0 m 20 ls [.int t0]) := by
  intro x0 x1 x2 t0 S H locs ls h hM hl
  unfold wX9_kind_20 at h
  refine lv_iconst (v := 1) hC.1 hC.2.1 dX9_kind_20 (by decide) ?_
  refine lv_goto (tgt := 25) hC.1 hC.2.1 dX9_kind_21 (by decide) ?_
  exact qX9_kind_25 hC hr hlk _ _ _ _ _ _ H locs ls h hM (lv_sub hl [0, 1, 2] rfl)
set_option maxHeartbeats 4000000 in
set_option maxRecDepth 100000 in
theorem mX9_kind (l : Launch) (G : Gt) (b0 : Nat) (S : St) (o : Nat) (x1 : Int32) (x2 : Int32) (K : Int32 → St → Prop) : CI l G b0 S yX9_kind cX9_kind 5 (some .int) rmX9_kind [.ref (b0 + o), .int x1, .int x2] (wX9_kind S o x1 x2 K) K := by
  refine met_of (by decide) (Nat.le_of_ble_eq_true rfl) rfl ?_
  intro p e s m below meth c hC hr hlk hin h H locs ls hM hl
  unfold wX9_kind at h
  refine lv_iload_n hC.1 hC.2.1 dX9_kind_0 rfl (lv_at hl 1 rfl) ?_
  refine lv_iconst (v := 0) hC.1 hC.2.1 dX9_kind_1 (by decide) ?_
  refine lv_iconst (v := 3) hC.1 hC.2.1 dX9_kind_2 (by decide) ?_
  refine mm_ri hM (mm_S (As := [.int x1, .int 0, .int 3]) (rest := []) hC hM hl.1 (mX9_in l G b0 S x1 0 3 _) h kX9_in tw_865 rfl (by decide) rfl (Nat.le_of_ble_eq_true rfl) dX9_kind_3 (by decide)) (fun r_33 S_32 H locs h hM => ?_)
  refine lv_if_eq (tgt := 51) hC.1 hC.2.1 dX9_kind_6 (by decide) (fun c_34 => ?_) (fun c_34 => ?_)
  · have h := h.1 c_34
    exact qX9_kind_51 hC hr hlk _ _ H locs ls h hM (lv_sub hl [0] rfl)
  · have h := h.2 c_34
    refine lv_iload_n hC.1 hC.2.1 dX9_kind_9 rfl (lv_at hl 2 rfl) ?_
    refine lv_iload_n hC.1 hC.2.1 dX9_kind_10 rfl (lv_at hl 1 rfl) ?_
    refine lv_iconst (v := 1) hC.1 hC.2.1 dX9_kind_11 (by decide) ?_
    refine lv_icmp_eq (tgt := 20) hC.1 hC.2.1 dX9_kind_12 (by decide) (fun c_35 => ?_) (fun c_35 => ?_)
    · have h := h.1 c_35
      exact qX9_kind_20 hC hr hlk _ _ _ _ _ H locs ls h hM (lv_sub hl [0, 1, 2] rfl)
    · have h := h.2 c_35
      refine lv_iload_n hC.1 hC.2.1 dX9_kind_15 rfl (lv_at hl 1 rfl) ?_
      refine lv_iconst (v := 2) hC.1 hC.2.1 dX9_kind_16 (by decide) ?_
      refine lv_icmp_ne (tgt := 24) hC.1 hC.2.1 dX9_kind_17 (by decide) (fun c_36 => ?_) (fun c_36 => ?_)
      · have h := h.2 c_36
        refine lv_iconst (v := 0) hC.1 hC.2.1 dX9_kind_24 (by decide) ?_
        exact qX9_kind_25 hC hr hlk _ _ _ _ _ _ H locs ls h hM (lv_sub hl [0, 1, 2] rfl)
      · have h := h.1 c_36
        exact qX9_kind_20 hC hr hlk _ _ _ _ _ H locs ls h hM (lv_sub hl [0, 1, 2] rfl)
set_option maxHeartbeats 4000000 in
set_option maxRecDepth 100000 in
theorem qX9_takesLess_26 {p : Program} {l : Launch} {e : Env} {s : State} {m : MethodId} {args : Array Value} {below : List Frame} {meth : Method} {c : Code} {G : Gt} {b0 : Nat} (hC : CallFix p m c cX9_takesLess 5 s args lw_g RX9) (hr : meth.sig.returnType = none) (hlk : meth.locks = false) {K : St → Prop} : ∀ (x0 : Nat) (x1 : Int64) (x3 : Int64) (S : St) (H : Heap) (locs : List Loc) (ls : Array Slot), wX9_takesLess_26 K x0 x1 x3 S → MM G b0 s S H locs → lv_has ls 5 [(0, .ref (b0 + x0)), (1, .long x1), (3, .long x3)] → W p l e rmX9_takesLess s m args below meth c H locs 0 0 (MQ below (va_Qv K (ME G b0) (AB b0)) args s 0 0 (AB b0)) (F0 m 26 ls []) := by
  intro x0 x1 x3 S H locs ls h hM hl
  unfold wX9_takesLess_26 at h
  refine lv_aload_n hC.1 hC.2.1 dX9_takesLess_26 rfl (lv_at hl 0 rfl) ?_
  refine lv_lload_n hC.1 hC.2.1 dX9_takesLess_27 rfl (lv_at hl 1 rfl) ?_
  obtain ⟨ok_1, h⟩ := h
  refine mm_pl hC hM (ci := 9) (j := 17) (ty := .long) ok_1 rfl (by decide) (by decide) tw_808 rfl rfl (by decide +kernel) rfl rfl dX9_takesLess_28 (fun S_2 H locs eS_2 hM => ?_)
  have h := h S_2 eS_2
  refine lv_aload_n hC.1 hC.2.1 dX9_takesLess_31 rfl (lv_at hl 0 rfl) ?_
  refine lv_lload_n hC.1 hC.2.1 dX9_takesLess_32 rfl (lv_at hl 2 rfl) ?_
  obtain ⟨ok_3, h⟩ := h
  refine mm_pl hC hM (ci := 9) (j := 18) (ty := .long) ok_3 rfl (by decide) (by decide) tw_809 rfl rfl (by decide +kernel) rfl rfl dX9_takesLess_33 (fun S_4 H locs eS_4 hM => ?_)
  have h := h S_4 eS_4
  exact mm_vret hC hr hlk hM h dX9_takesLess_36
set_option maxHeartbeats 4000000 in
set_option maxRecDepth 100000 in
theorem mX9_takesLess (l : Launch) (G : Gt) (b0 : Nat) (S : St) (o : Nat) (x1 : Int64) (x3 : Int64) (K : St → Prop) : CV l G b0 S yX9_takesLess cX9_takesLess 5 none rmX9_takesLess [.ref (b0 + o), .long x1, .long x3] (wX9_takesLess S o x1 x3 K) K := by
  refine met_of (by decide) (Nat.le_of_ble_eq_true rfl) rfl ?_
  intro p e s m below meth c hC hr hlk hin h H locs ls hM hl
  unfold wX9_takesLess at h
  refine lv_aload_n hC.1 hC.2.1 dX9_takesLess_0 rfl (lv_at hl 0 rfl) ?_
  obtain ⟨ok_5, h⟩ := h
  refine mm_gl hC hM (ci := 9) (j := 18) ok_5 rfl (by decide) (by decide) tw_809 rfl dX9_takesLess_1 ?_
  refine lv_lconst (v := 0) hC.1 hC.2.1 dX9_takesLess_4 (by decide) ?_
  refine W.lcmp hC.1 hC.2.1 dX9_takesLess_5 ?_
  refine lv_if_le (tgt := 26) hC.1 hC.2.1 dX9_takesLess_6 (by decide) (fun c_6 => ?_) (fun c_6 => ?_)
  · have h := h.1 c_6
    exact qX9_takesLess_26 hC hr hlk _ _ _ _ H locs ls h hM (lv_sub hl [0, 1, 2] rfl)
  · have h := h.2 c_6
    refine lv_lload_n hC.1 hC.2.1 dX9_takesLess_9 rfl (lv_at hl 1 rfl) ?_
    refine lv_aload_n hC.1 hC.2.1 dX9_takesLess_10 rfl (lv_at hl 0 rfl) ?_
    refine mm_gl hC hM (ci := 9) (j := 18) ok_5 rfl (by decide) (by decide) tw_809 rfl dX9_takesLess_11 ?_
    refine lv_lmul hC.1 hC.2.1 dX9_takesLess_14 ?_
    refine lv_aload_n hC.1 hC.2.1 dX9_takesLess_15 rfl (lv_at hl 0 rfl) ?_
    refine mm_gl hC hM (ci := 9) (j := 17) ok_5 rfl (by decide) (by decide) tw_808 rfl dX9_takesLess_16 ?_
    refine lv_lload_n hC.1 hC.2.1 dX9_takesLess_19 rfl (lv_at hl 2 rfl) ?_
    refine lv_lmul hC.1 hC.2.1 dX9_takesLess_20 ?_
    refine W.lcmp hC.1 hC.2.1 dX9_takesLess_21 ?_
    refine lv_if_lt (tgt := 26) hC.1 hC.2.1 dX9_takesLess_22 (by decide) (fun c_7 => ?_) (fun c_7 => ?_)
    · have h := h.1 c_7
      exact qX9_takesLess_26 hC hr hlk _ _ _ _ H locs ls h hM (lv_sub hl [0, 1, 2] rfl)
    · have h := h.2 c_7
      exact mm_vret hC hr hlk hM h dX9_takesLess_25
set_option maxHeartbeats 4000000 in
set_option maxRecDepth 100000 in
theorem qX9_lots_29 {p : Program} {l : Launch} {e : Env} {s : State} {m : MethodId} {args : Array Value} {below : List Frame} {meth : Method} {c : Code} {G : Gt} {b0 : Nat} (hC : CallFix p m c cX9_lots 12 s args lw_g RX9) (hr : meth.sig.returnType = (some .long)) (hlk : meth.locks = false) {K : Int64 → St → Prop} : ∀ (S : St) (H : Heap) (locs : List Loc) (ls : Array Slot), wX9_lots_29 K  S → MM G b0 s S H locs → lv_has ls 12 [] → W p l e rmX9_lots s m args below meth c H locs 0 0 (MQ below (va_Ql K (ME G b0) (AB b0)) args s 0 0 (AB b0)) (F0 m 29 ls []) := by
  intro  S H locs ls h hM hl
  unfold wX9_lots_29 at h
  refine lv_ldc2 (v := (-1)) hC.1 hC.2.1 hC.2.2.2.1 (hC.2.2.2.2 _ tw_1051) dX9_lots_29 ?_
  exact mm_lret hC hr hlk hM h dX9_lots_32
set_option maxHeartbeats 4000000 in
set_option maxRecDepth 100000 in
theorem qX9_lots_51 {p : Program} {l : Launch} {e : Env} {s : State} {m : MethodId} {args : Array Value} {below : List Frame} {meth : Method} {c : Code} {G : Gt} {b0 : Nat} (hC : CallFix p m c cX9_lots 12 s args lw_g RX9) (hr : meth.sig.returnType = (some .long)) (hlk : meth.locks = false) {K : Int64 → St → Prop} : ∀ (S : St) (H : Heap) (locs : List Loc) (ls : Array Slot), wX9_lots_51 K  S → MM G b0 s S H locs → lv_has ls 12 [] → W p l e rmX9_lots s m args below meth c H locs 0 0 (MQ below (va_Ql K (ME G b0) (AB b0)) args s 0 0 (AB b0)) (F0 m 51 ls []) := by
  intro  S H locs ls h hM hl
  unfold wX9_lots_51 at h
  refine lv_ldc2 (v := (-2)) hC.1 hC.2.1 hC.2.2.2.1 (hC.2.2.2.2 _ tw_1052) dX9_lots_51 ?_
  exact mm_lret hC hr hlk hM h dX9_lots_54
set_option maxHeartbeats 4000000 in
set_option maxRecDepth 100000 in
theorem qX9_lots_198 {p : Program} {l : Launch} {e : Env} {s : State} {m : MethodId} {args : Array Value} {below : List Frame} {meth : Method} {c : Code} {G : Gt} {b0 : Nat} (hC : CallFix p m c cX9_lots 12 s args lw_g RX9) (hr : meth.sig.returnType = (some .long)) (hlk : meth.locks = false) {K : Int64 → St → Prop} {B108 : Nat → Int32 → Int32 → Int32 → Int32 → Int32 → Int32 → St → Prop} (hB108 : ∀ (x0 : Nat) (x1 : Int32) (x2 : Int32) (x3 : Int32) (x4 : Int32) (x5 : Int32) (x6 : Int32) (S : St) (H : Heap) (locs : List Loc) (ls : Array Slot), B108 x0 x1 x2 x3 x4 x5 x6 S → MM G b0 s S H locs → lv_has ls 12 [(0, .ref (b0 + x0)), (1, .int x1), (2, .int x2), (3, .int x3), (4, .int x4), (5, .int x5), (6, .int x6)] → W p l e rmX9_lots s m args below meth c H locs 0 0 (MQ below (va_Ql K (ME G b0) (AB b0)) args s 0 0 (AB b0)) (F0 m 108 ls [])) : ∀ (x0 : Nat) (x1 : Int32) (x2 : Int32) (x3 : Int32) (x4 : Int32) (x5 : Int32) (x6 : Int32) (t0 : Nat) (t1 : Int64) (S : St) (H : Heap) (locs : List Loc) (ls : Array Slot), wX9_lots_198 K B108 x0 x1 x2 x3 x4 x5 x6 t0 t1 S → MM G b0 s S H locs → lv_has ls 12 [(0, .ref (b0 + x0)), (1, .int x1), (2, .int x2), (3, .int x3), (4, .int x4), (5, .int x5), (6, .int x6)] → W p l e rmX9_lots s m args below meth c H locs 0 0 (MQ below (va_Ql K (ME G b0) (AB b0)) args s 0 0 (AB b0)) (F0 m 198 ls [.long t1, .ref (b0 + t0)]) := by
  intro x0 x1 x2 x3 x4 x5 x6 t0 t1 S H locs ls h hM hl
  unfold wX9_lots_198 at h
  refine lv_lconst (v := 1) hC.1 hC.2.1 dX9_lots_198 (by decide) ?_
  obtain ⟨ok_3, h⟩ := h
  refine mm_rv hM (mm_V (As := [.long t1, .long 1]) (rest := []) hC hM hl.1 (mX9_takesLess l G b0 S t0 t1 1 _) h (ci := 9) ok_3 rfl rfl kX9_takesLess tw_1054 rfl (by decide) rfl (Nat.le_of_ble_eq_true rfl) dX9_lots_199 (by decide)) (fun S_1 H locs h hM => ?_)
  obtain ⟨x6_4, ex6_4⟩ : ∃ y : Int32, y = x6 + 1 := ⟨_, rfl⟩
  have h := h x6_4 ex6_4
  refine lv_iinc (v := x6_4) (lv' := [(6, .int x6_4), (0, .ref (b0 + x0)), (1, .int x1), (2, .int x2), (3, .int x3), (4, .int x4), (5, .int x5)]) hC.1 hC.2.1 dX9_lots_202 hl (k := 6) rfl (by rw [ex6_4]; rfl) (by decide) rfl (fun ls hl => ?_)
  refine lv_goto (tgt := 108) hC.1 hC.2.1 dX9_lots_205 (by decide) ?_
  exact hB108 _ _ _ _ _ _ _ _ H locs ls h hM (lv_sub hl [1, 2, 3, 4, 5, 6, 0] rfl)
set_option maxHeartbeats 4000000 in
set_option maxRecDepth 100000 in
theorem qX9_lots_317 {p : Program} {l : Launch} {e : Env} {s : State} {m : MethodId} {args : Array Value} {below : List Frame} {meth : Method} {c : Code} {G : Gt} {b0 : Nat} (hC : CallFix p m c cX9_lots 12 s args lw_g RX9) (hr : meth.sig.returnType = (some .long)) (hlk : meth.locks = false) {K : Int64 → St → Prop} {B223 : Nat → Int32 → Int32 → Int32 → St → Prop} (hB223 : ∀ (x0 : Nat) (x3 : Int32) (x6 : Int32) (x7 : Int32) (S : St) (H : Heap) (locs : List Loc) (ls : Array Slot), B223 x0 x3 x6 x7 S → MM G b0 s S H locs → lv_has ls 12 [(0, .ref (b0 + x0)), (3, .int x3), (6, .int x6), (7, .int x7)] → W p l e rmX9_lots s m args below meth c H locs 0 0 (MQ below (va_Ql K (ME G b0) (AB b0)) args s 0 0 (AB b0)) (F0 m 223 ls [])) : ∀ (x0 : Nat) (x3 : Int32) (x6 : Int32) (x7 : Int32) (S : St) (H : Heap) (locs : List Loc) (ls : Array Slot), wX9_lots_317 K B223 x0 x3 x6 x7 S → MM G b0 s S H locs → lv_has ls 12 [(0, .ref (b0 + x0)), (3, .int x3), (6, .int x6), (7, .int x7)] → W p l e rmX9_lots s m args below meth c H locs 0 0 (MQ below (va_Ql K (ME G b0) (AB b0)) args s 0 0 (AB b0)) (F0 m 317 ls []) := by
  intro x0 x3 x6 x7 S H locs ls h hM hl
  unfold wX9_lots_317 at h
  obtain ⟨x7_5, ex7_5⟩ : ∃ y : Int32, y = x7 + 1 := ⟨_, rfl⟩
  have h := h x7_5 ex7_5
  refine lv_iinc (v := x7_5) (lv' := [(7, .int x7_5), (0, .ref (b0 + x0)), (3, .int x3), (6, .int x6)]) hC.1 hC.2.1 dX9_lots_317 hl (k := 3) rfl (by rw [ex7_5]; rfl) (by decide) rfl (fun ls hl => ?_)
  refine lv_goto (tgt := 223) hC.1 hC.2.1 dX9_lots_320 (by decide) ?_
  exact hB223 _ _ _ _ _ H locs ls h hM (lv_sub hl [1, 2, 3, 0] rfl)
set_option maxHeartbeats 4000000 in
set_option maxRecDepth 100000 in
theorem qX9_lots_323 {p : Program} {l : Launch} {e : Env} {s : State} {m : MethodId} {args : Array Value} {below : List Frame} {meth : Method} {c : Code} {G : Gt} {b0 : Nat} (hC : CallFix p m c cX9_lots 12 s args lw_g RX9) (hr : meth.sig.returnType = (some .long)) (hlk : meth.locks = false) {K : Int64 → St → Prop} {B211 : Nat → Int32 → Int32 → St → Prop} (hB211 : ∀ (x0 : Nat) (x3 : Int32) (x6 : Int32) (S : St) (H : Heap) (locs : List Loc) (ls : Array Slot), B211 x0 x3 x6 S → MM G b0 s S H locs → lv_has ls 12 [(0, .ref (b0 + x0)), (3, .int x3), (6, .int x6)] → W p l e rmX9_lots s m args below meth c H locs 0 0 (MQ below (va_Ql K (ME G b0) (AB b0)) args s 0 0 (AB b0)) (F0 m 211 ls [])) : ∀ (x0 : Nat) (x3 : Int32) (x6 : Int32) (S : St) (H : Heap) (locs : List Loc) (ls : Array Slot), wX9_lots_323 K B211 x0 x3 x6 S → MM G b0 s S H locs → lv_has ls 12 [(0, .ref (b0 + x0)), (3, .int x3), (6, .int x6)] → W p l e rmX9_lots s m args below meth c H locs 0 0 (MQ below (va_Ql K (ME G b0) (AB b0)) args s 0 0 (AB b0)) (F0 m 323 ls []) := by
  intro x0 x3 x6 S H locs ls h hM hl
  unfold wX9_lots_323 at h
  obtain ⟨x6_6, ex6_6⟩ : ∃ y : Int32, y = x6 + 1 := ⟨_, rfl⟩
  have h := h x6_6 ex6_6
  refine lv_iinc (v := x6_6) (lv' := [(6, .int x6_6), (0, .ref (b0 + x0)), (3, .int x3)]) hC.1 hC.2.1 dX9_lots_323 hl (k := 2) rfl (by rw [ex6_6]; rfl) (by decide) rfl (fun ls hl => ?_)
  refine lv_goto (tgt := 211) hC.1 hC.2.1 dX9_lots_326 (by decide) ?_
  exact hB211 _ _ _ _ H locs ls h hM (lv_sub hl [1, 2, 0] rfl)
set_option maxHeartbeats 4000000 in
set_option maxRecDepth 100000 in
theorem qX9_lots_223 {p : Program} {l : Launch} {e : Env} {s : State} {m : MethodId} {args : Array Value} {below : List Frame} {meth : Method} {c : Code} {G : Gt} {b0 : Nat} (hC : CallFix p m c cX9_lots 12 s args lw_g RX9) (hr : meth.sig.returnType = (some .long)) (hlk : meth.locks = false) {K : Int64 → St → Prop} {B211 : Nat → Int32 → Int32 → St → Prop} (hB211 : ∀ (x0 : Nat) (x3 : Int32) (x6 : Int32) (S : St) (H : Heap) (locs : List Loc) (ls : Array Slot), B211 x0 x3 x6 S → MM G b0 s S H locs → lv_has ls 12 [(0, .ref (b0 + x0)), (3, .int x3), (6, .int x6)] → W p l e rmX9_lots s m args below meth c H locs 0 0 (MQ below (va_Ql K (ME G b0) (AB b0)) args s 0 0 (AB b0)) (F0 m 211 ls [])) : ∀ (n : Nat) (x0 : Nat) (x3 : Int32) (x6 : Int32) (x7 : Int32) (S : St) (H : Heap) (locs : List Loc) (ls : Array Slot), wX9_lots_223 K B211 n x0 x3 x6 x7 S → MM G b0 s S H locs → lv_has ls 12 [(0, .ref (b0 + x0)), (3, .int x3), (6, .int x6), (7, .int x7)] → W p l e rmX9_lots s m args below meth c H locs 0 0 (MQ below (va_Ql K (ME G b0) (AB b0)) args s 0 0 (AB b0)) (F0 m 223 ls []) := by
  intro n
  induction n with
  | zero =>
    intro x0 x3 x6 x7 S H locs ls h
    exact False.elim h
  | succ n ih =>
    intro x0 x3 x6 x7 S H locs ls h hM hl
    rw [wX9_lots_223] at h
    refine lv_iload hC.1 hC.2.1 dX9_lots_223 (lv_at hl 3 rfl) ?_
    refine lv_aload_n hC.1 hC.2.1 dX9_lots_225 rfl (lv_at hl 0 rfl) ?_
    obtain ⟨ok_7, h⟩ := h
    refine mm_gi hC hM (ci := 9) (j := 11) ok_7 rfl (by decide) (by decide) tw_802 rfl dX9_lots_226 ?_
    refine lv_icmp_ge (tgt := 323) hC.1 hC.2.1 dX9_lots_229 (by decide) (fun c_8 => ?_) (fun c_8 => ?_)
    · have h := h.1 c_8
      exact qX9_lots_323 hC hr hlk hB211 _ _ _ _ H locs ls h hM (lv_sub hl [0, 1, 2] rfl)
    · have h := h.2 c_8
      refine lv_aload_n hC.1 hC.2.1 dX9_lots_232 rfl (lv_at hl 0 rfl) ?_
      obtain ⟨ok_9, h⟩ := h
      refine mm_gr hC hM (ci := 9) (j := 20) ⟨ok_7, ok_9⟩ rfl (by decide) (by decide) tw_811 rfl dX9_lots_233 ?_
      refine lv_iload hC.1 hC.2.1 dX9_lots_236 (lv_at hl 2 rfl) ?_
      obtain ⟨ok_10, h⟩ := h
      refine mm_il hC hM ok_10 dX9_lots_238 ?_
      refine lv_aload_n hC.1 hC.2.1 dX9_lots_239 rfl (lv_at hl 0 rfl) ?_
      obtain ⟨ok_11, h⟩ := h
      refine mm_gr hC hM (ci := 9) (j := 19) ⟨ok_7, ok_11⟩ rfl (by decide) (by decide) tw_810 rfl dX9_lots_240 ?_
      refine lv_iload hC.1 hC.2.1 dX9_lots_243 (lv_at hl 2 rfl) ?_
      obtain ⟨ok_12, h⟩ := h
      refine mm_il hC hM ok_12 dX9_lots_245 ?_
      refine lv_isub hC.1 hC.2.1 dX9_lots_246 ?_
      refine lv_i2l hC.1 hC.2.1 dX9_lots_247 rfl ?_
      refine lv_topl (fun x8_13 ex8_13 => ?_)
      have h := h x8_13 ex8_13
      refine lv_lstore (lv' := [(8, .long x8_13), (0, .ref (b0 + x0)), (3, .int x3), (6, .int x6), (7, .int x7)]) hC.1 hC.2.1 dX9_lots_248 hl (by decide) rfl (fun ls hl => ?_)
      refine lv_aload_n hC.1 hC.2.1 dX9_lots_250 rfl (lv_at hl 1 rfl) ?_
      refine mm_gr hC hM (ci := 9) (j := 19) ⟨ok_7, ok_11⟩ rfl (by decide) (by decide) tw_810 rfl dX9_lots_251 ?_
      refine lv_iload hC.1 hC.2.1 dX9_lots_254 (lv_at hl 4 rfl) ?_
      obtain ⟨ok_14, h⟩ := h
      refine mm_il hC hM ok_14 dX9_lots_256 ?_
      refine lv_aload_n hC.1 hC.2.1 dX9_lots_257 rfl (lv_at hl 1 rfl) ?_
      refine mm_gr hC hM (ci := 9) (j := 20) ⟨ok_7, ok_9⟩ rfl (by decide) (by decide) tw_811 rfl dX9_lots_258 ?_
      refine lv_iload hC.1 hC.2.1 dX9_lots_261 (lv_at hl 4 rfl) ?_
      obtain ⟨ok_15, h⟩ := h
      refine mm_il hC hM ok_15 dX9_lots_263 ?_
      refine lv_isub hC.1 hC.2.1 dX9_lots_264 ?_
      refine lv_i2l hC.1 hC.2.1 dX9_lots_265 rfl ?_
      refine lv_topl (fun x10_16 ex10_16 => ?_)
      have h := h x10_16 ex10_16
      refine lv_lstore (lv' := [(10, .long x10_16), (8, .long x8_13), (0, .ref (b0 + x0)), (3, .int x3), (6, .int x6), (7, .int x7)]) hC.1 hC.2.1 dX9_lots_266 hl (by decide) rfl (fun ls hl => ?_)
      refine lv_lload hC.1 hC.2.1 dX9_lots_268 (lv_at hl 1 rfl) ?_
      refine lv_lconst (v := 0) hC.1 hC.2.1 dX9_lots_270 (by decide) ?_
      refine W.lcmp hC.1 hC.2.1 dX9_lots_271 ?_
      refine lv_if_le (tgt := 317) hC.1 hC.2.1 dX9_lots_272 (by decide) (fun c_17 => ?_) (fun c_17 => ?_)
      · have h := h.1 c_17
        exact qX9_lots_317 hC hr hlk ih _ _ _ _ _ H locs ls h hM (lv_sub hl [2, 3, 4, 5] rfl)
      · have h := h.2 c_17
        refine lv_lload hC.1 hC.2.1 dX9_lots_275 (lv_at hl 0 rfl) ?_
        refine lv_lconst (v := 0) hC.1 hC.2.1 dX9_lots_277 (by decide) ?_
        refine W.lcmp hC.1 hC.2.1 dX9_lots_278 ?_
        refine lv_if_gt (tgt := 285) hC.1 hC.2.1 dX9_lots_279 (by decide) (fun c_18 => ?_) (fun c_18 => ?_)
        · have h := h.1 c_18
          refine lv_aload_n hC.1 hC.2.1 dX9_lots_285 rfl (lv_at hl 2 rfl) ?_
          refine lv_aload_n hC.1 hC.2.1 dX9_lots_286 rfl (lv_at hl 2 rfl) ?_
          refine mm_gr hC hM (ci := 9) (j := 19) ⟨ok_7, ok_11⟩ rfl (by decide) (by decide) tw_810 rfl dX9_lots_287 ?_
          refine lv_iload hC.1 hC.2.1 dX9_lots_290 (lv_at hl 4 rfl) ?_
          refine mm_il hC hM ok_12 dX9_lots_292 ?_
          refine lv_i2l hC.1 hC.2.1 dX9_lots_293 rfl ?_
          refine lv_lload hC.1 hC.2.1 dX9_lots_294 (lv_at hl 0 rfl) ?_
          refine lv_lmul hC.1 hC.2.1 dX9_lots_296 ?_
          refine lv_aload_n hC.1 hC.2.1 dX9_lots_297 rfl (lv_at hl 2 rfl) ?_
          refine mm_gr hC hM (ci := 9) (j := 19) ⟨ok_7, ok_11⟩ rfl (by decide) (by decide) tw_810 rfl dX9_lots_298 ?_
          refine lv_iload hC.1 hC.2.1 dX9_lots_301 (lv_at hl 5 rfl) ?_
          refine mm_il hC hM ok_14 dX9_lots_303 ?_
          refine lv_i2l hC.1 hC.2.1 dX9_lots_304 rfl ?_
          refine lv_lload hC.1 hC.2.1 dX9_lots_305 (lv_at hl 1 rfl) ?_
          refine lv_lmul hC.1 hC.2.1 dX9_lots_307 ?_
          refine lv_ladd hC.1 hC.2.1 dX9_lots_308 ?_
          refine lv_lload hC.1 hC.2.1 dX9_lots_309 (lv_at hl 1 rfl) ?_
          refine lv_lload hC.1 hC.2.1 dX9_lots_311 (lv_at hl 0 rfl) ?_
          refine lv_ladd hC.1 hC.2.1 dX9_lots_313 ?_
          refine mm_rv hM (mm_V (As := [.long (((((sI S (sR S x0 19) (x6 : Int32).toNatClampNeg) : Int32).toInt64) * x10_16) + ((((sI S (sR S x0 19) (x7 : Int32).toNatClampNeg) : Int32).toInt64) * x8_13)), .long (x8_13 + x10_16)]) (rest := []) hC hM hl.1 (mX9_takesLess l G b0 S x0 (((((sI S (sR S x0 19) (x6 : Int32).toNatClampNeg) : Int32).toInt64) * x10_16) + ((((sI S (sR S x0 19) (x7 : Int32).toNatClampNeg) : Int32).toInt64) * x8_13)) (x8_13 + x10_16) _) h (ci := 9) ok_7 rfl rfl kX9_takesLess tw_1054 rfl (by decide) rfl (Nat.le_of_ble_eq_true rfl) dX9_lots_314 (by decide)) (fun S_19 H locs h hM => ?_)
          exact qX9_lots_317 hC hr hlk ih _ _ _ _ _ H locs ls h hM (lv_sub hl [2, 3, 4, 5] rfl)
        · have h := h.2 c_18
          refine lv_goto (tgt := 317) hC.1 hC.2.1 dX9_lots_282 (by decide) ?_
          exact qX9_lots_317 hC hr hlk ih _ _ _ _ _ H locs ls h hM (lv_sub hl [2, 3, 4, 5] rfl)
set_option maxHeartbeats 4000000 in
set_option maxRecDepth 100000 in
theorem qX9_lots_329 {p : Program} {l : Launch} {e : Env} {s : State} {m : MethodId} {args : Array Value} {below : List Frame} {meth : Method} {c : Code} {G : Gt} {b0 : Nat} (hC : CallFix p m c cX9_lots 12 s args lw_g RX9) (hr : meth.sig.returnType = (some .long)) (hlk : meth.locks = false) {K : Int64 → St → Prop} : ∀ (x0 : Nat) (x3 : Int32) (S : St) (H : Heap) (locs : List Loc) (ls : Array Slot), wX9_lots_329 K x0 x3 S → MM G b0 s S H locs → lv_has ls 12 [(0, .ref (b0 + x0)), (3, .int x3)] → W p l e rmX9_lots s m args below meth c H locs 0 0 (MQ below (va_Ql K (ME G b0) (AB b0)) args s 0 0 (AB b0)) (F0 m 329 ls []) := by
  intro x0 x3 S H locs ls h hM hl
  unfold wX9_lots_329 at h
  refine lv_aload_n hC.1 hC.2.1 dX9_lots_329 rfl (lv_at hl 0 rfl) ?_
  obtain ⟨ok_21, h⟩ := h
  refine mm_gl hC hM (ci := 9) (j := 18) ok_21 rfl (by decide) (by decide) tw_809 rfl dX9_lots_330 ?_
  refine lv_aload_n hC.1 hC.2.1 dX9_lots_333 rfl (lv_at hl 0 rfl) ?_
  refine mm_gl hC hM (ci := 9) (j := 17) ok_21 rfl (by decide) (by decide) tw_808 rfl dX9_lots_334 ?_
  refine mm_rl hM (mm_S (As := [.long (sL S x0 18), .long (sL S x0 17)]) (rest := []) hC hM hl.1 (mX9_gcd l G b0 S (sL S x0 18) (sL S x0 17) _) h kX9_gcd tw_1058 rfl (by decide) rfl (Nat.le_of_ble_eq_true rfl) dX9_lots_337 (by decide)) (fun r_23 S_22 H locs h hM => ?_)
  refine lv_lstore (lv' := [(6, .long r_23), (0, .ref (b0 + x0)), (3, .int x3)]) hC.1 hC.2.1 dX9_lots_340 hl (by decide) rfl (fun ls hl => ?_)
  refine lv_iload_n hC.1 hC.2.1 dX9_lots_342 rfl (lv_at hl 2 rfl) ?_
  refine lv_if_ne (tgt := 356) hC.1 hC.2.1 dX9_lots_343 (by decide) (fun c_24 => ?_) (fun c_24 => ?_)
  · have h := h.2 c_24
    refine lv_aload_n hC.1 hC.2.1 dX9_lots_356 rfl (lv_at hl 1 rfl) ?_
    obtain ⟨ok_25, h⟩ := h
    refine mm_gl hC hM (ci := 9) (j := 18) ok_25 rfl (by decide) (by decide) tw_809 rfl dX9_lots_357 ?_
    refine lv_lload hC.1 hC.2.1 dX9_lots_360 (lv_at hl 0 rfl) ?_
    obtain ⟨nz_26, h⟩ := h
    refine lv_ldiv hC.1 hC.2.1 dX9_lots_362 nz_26 ?_
    exact mm_lret hC hr hlk hM h dX9_lots_363
  · have h := h.1 c_24
    refine lv_aload_n hC.1 hC.2.1 dX9_lots_346 rfl (lv_at hl 1 rfl) ?_
    obtain ⟨ok_27, h⟩ := h
    refine mm_gl hC hM (ci := 9) (j := 17) ok_27 rfl (by decide) (by decide) tw_808 rfl dX9_lots_347 ?_
    refine lv_lload hC.1 hC.2.1 dX9_lots_350 (lv_at hl 0 rfl) ?_
    obtain ⟨nz_28, h⟩ := h
    refine lv_ldiv hC.1 hC.2.1 dX9_lots_352 nz_28 ?_
    refine lv_goto (tgt := 363) hC.1 hC.2.1 dX9_lots_353 (by decide) ?_
    exact mm_lret hC hr hlk hM h dX9_lots_363
set_option maxHeartbeats 4000000 in
set_option maxRecDepth 100000 in
theorem qX9_lots_211 {p : Program} {l : Launch} {e : Env} {s : State} {m : MethodId} {args : Array Value} {below : List Frame} {meth : Method} {c : Code} {G : Gt} {b0 : Nat} (hC : CallFix p m c cX9_lots 12 s args lw_g RX9) (hr : meth.sig.returnType = (some .long)) (hlk : meth.locks = false) {K : Int64 → St → Prop} : ∀ (n : Nat) (x0 : Nat) (x3 : Int32) (x6 : Int32) (S : St) (H : Heap) (locs : List Loc) (ls : Array Slot), wX9_lots_211 K n x0 x3 x6 S → MM G b0 s S H locs → lv_has ls 12 [(0, .ref (b0 + x0)), (3, .int x3), (6, .int x6)] → W p l e rmX9_lots s m args below meth c H locs 0 0 (MQ below (va_Ql K (ME G b0) (AB b0)) args s 0 0 (AB b0)) (F0 m 211 ls []) := by
  intro n
  induction n with
  | zero =>
    intro x0 x3 x6 S H locs ls h
    exact False.elim h
  | succ n ih =>
    intro x0 x3 x6 S H locs ls h hM hl
    rw [wX9_lots_211] at h
    refine lv_iload hC.1 hC.2.1 dX9_lots_211 (lv_at hl 2 rfl) ?_
    refine lv_aload_n hC.1 hC.2.1 dX9_lots_213 rfl (lv_at hl 0 rfl) ?_
    obtain ⟨ok_29, h⟩ := h
    refine mm_gi hC hM (ci := 9) (j := 11) ok_29 rfl (by decide) (by decide) tw_802 rfl dX9_lots_214 ?_
    refine lv_icmp_ge (tgt := 329) hC.1 hC.2.1 dX9_lots_217 (by decide) (fun c_30 => ?_) (fun c_30 => ?_)
    · have h := h.1 c_30
      exact qX9_lots_329 hC hr hlk _ _ _ H locs ls h hM (lv_sub hl [0, 1] rfl)
    · have h := h.2 c_30
      refine lv_iconst (v := 0) hC.1 hC.2.1 dX9_lots_220 (by decide) ?_
      refine lv_istore (lv' := [(7, .int 0), (0, .ref (b0 + x0)), (3, .int x3), (6, .int x6)]) hC.1 hC.2.1 dX9_lots_221 hl (by decide) rfl (fun ls hl => ?_)
      obtain ⟨n1, h⟩ := h
      exact qX9_lots_223 hC hr hlk ih n1 _ _ _ _ _ H locs ls h hM (lv_sub hl [1, 2, 3, 0] rfl)
set_option maxHeartbeats 4000000 in
set_option maxRecDepth 100000 in
theorem qX9_lots_208 {p : Program} {l : Launch} {e : Env} {s : State} {m : MethodId} {args : Array Value} {below : List Frame} {meth : Method} {c : Code} {G : Gt} {b0 : Nat} (hC : CallFix p m c cX9_lots 12 s args lw_g RX9) (hr : meth.sig.returnType = (some .long)) (hlk : meth.locks = false) {K : Int64 → St → Prop} : ∀ (x0 : Nat) (x3 : Int32) (S : St) (H : Heap) (locs : List Loc) (ls : Array Slot), wX9_lots_208 K x0 x3 S → MM G b0 s S H locs → lv_has ls 12 [(0, .ref (b0 + x0)), (3, .int x3)] → W p l e rmX9_lots s m args below meth c H locs 0 0 (MQ below (va_Ql K (ME G b0) (AB b0)) args s 0 0 (AB b0)) (F0 m 208 ls []) := by
  intro x0 x3 S H locs ls h hM hl
  unfold wX9_lots_208 at h
  refine lv_iconst (v := 0) hC.1 hC.2.1 dX9_lots_208 (by decide) ?_
  refine lv_istore (lv' := [(6, .int 0), (0, .ref (b0 + x0)), (3, .int x3)]) hC.1 hC.2.1 dX9_lots_209 hl (by decide) rfl (fun ls hl => ?_)
  obtain ⟨n1, h⟩ := h
  exact qX9_lots_211 hC hr hlk n1 _ _ _ _ H locs ls h hM (lv_sub hl [1, 2, 0] rfl)
set_option maxHeartbeats 4000000 in
set_option maxRecDepth 100000 in
theorem qX9_lots_108 {p : Program} {l : Launch} {e : Env} {s : State} {m : MethodId} {args : Array Value} {below : List Frame} {meth : Method} {c : Code} {G : Gt} {b0 : Nat} (hC : CallFix p m c cX9_lots 12 s args lw_g RX9) (hr : meth.sig.returnType = (some .long)) (hlk : meth.locks = false) {K : Int64 → St → Prop} : ∀ (n : Nat) (x0 : Nat) (x1 : Int32) (x2 : Int32) (x3 : Int32) (x4 : Int32) (x5 : Int32) (x6 : Int32) (S : St) (H : Heap) (locs : List Loc) (ls : Array Slot), wX9_lots_108 K n x0 x1 x2 x3 x4 x5 x6 S → MM G b0 s S H locs → lv_has ls 12 [(0, .ref (b0 + x0)), (1, .int x1), (2, .int x2), (3, .int x3), (4, .int x4), (5, .int x5), (6, .int x6)] → W p l e rmX9_lots s m args below meth c H locs 0 0 (MQ below (va_Ql K (ME G b0) (AB b0)) args s 0 0 (AB b0)) (F0 m 108 ls []) := by
  intro n
  induction n with
  | zero =>
    intro x0 x1 x2 x3 x4 x5 x6 S H locs ls h
    exact False.elim h
  | succ n ih =>
    intro x0 x1 x2 x3 x4 x5 x6 S H locs ls h hM hl
    rw [wX9_lots_108] at h
    refine lv_iload hC.1 hC.2.1 dX9_lots_108 (lv_at hl 6 rfl) ?_
    refine lv_aload_n hC.1 hC.2.1 dX9_lots_110 rfl (lv_at hl 0 rfl) ?_
    obtain ⟨ok_31, h⟩ := h
    refine mm_gi hC hM (ci := 9) (j := 11) ok_31 rfl (by decide) (by decide) tw_802 rfl dX9_lots_111 ?_
    refine lv_icmp_ge (tgt := 208) hC.1 hC.2.1 dX9_lots_114 (by decide) (fun c_32 => ?_) (fun c_32 => ?_)
    · have h := h.1 c_32
      exact qX9_lots_208 hC hr hlk _ _ _ H locs ls h hM (lv_sub hl [0, 3] rfl)
    · have h := h.2 c_32
      refine lv_aload_n hC.1 hC.2.1 dX9_lots_117 rfl (lv_at hl 0 rfl) ?_
      obtain ⟨ok_33, h⟩ := h
      refine mm_gr hC hM (ci := 9) (j := 19) ⟨ok_31, ok_33⟩ rfl (by decide) (by decide) tw_810 rfl dX9_lots_118 ?_
      refine lv_iload hC.1 hC.2.1 dX9_lots_121 (lv_at hl 6 rfl) ?_
      refine lv_aload_n hC.1 hC.2.1 dX9_lots_123 rfl (lv_at hl 0 rfl) ?_
      refine lv_iload_n hC.1 hC.2.1 dX9_lots_124 rfl (lv_at hl 1 rfl) ?_
      refine lv_aload_n hC.1 hC.2.1 dX9_lots_125 rfl (lv_at hl 0 rfl) ?_
      obtain ⟨ok_34, h⟩ := h
      refine mm_gr hC hM (ci := 9) (j := 12) ⟨ok_31, ok_34⟩ rfl (by decide) (by decide) tw_803 rfl dX9_lots_126 ?_
      refine lv_iload hC.1 hC.2.1 dX9_lots_129 (lv_at hl 6 rfl) ?_
      obtain ⟨ok_35, h⟩ := h
      refine mm_il hC hM ok_35 dX9_lots_131 ?_
      refine mm_ri hM (mm_V (As := [.int x1, .int (sI S (sR S x0 12) (x6 : Int32).toNatClampNeg)]) (rest := [.int x6, .ref (b0 + (sR S x0 19))]) hC hM hl.1 (mX9_sumIn l G b0 S x0 x1 (sI S (sR S x0 12) (x6 : Int32).toNatClampNeg) _) h (ci := 9) ok_31 rfl rfl kX9_sumIn tw_1014 rfl (by decide) rfl (Nat.le_of_ble_eq_true rfl) dX9_lots_132 (by decide)) (fun r_37 S_36 H locs h hM => ?_)
      refine lv_iload hC.1 hC.2.1 dX9_lots_135 (lv_at hl 4 rfl) ?_
      refine lv_isub hC.1 hC.2.1 dX9_lots_137 ?_
      obtain ⟨ok_38, h⟩ := h
      refine mm_is hC hM ok_38 dX9_lots_138 (fun S_39 H locs eS_39 hM => ?_)
      have h := h S_39 eS_39
      refine lv_aload_n hC.1 hC.2.1 dX9_lots_139 rfl (lv_at hl 0 rfl) ?_
      obtain ⟨ok_40, h⟩ := h
      refine mm_gr hC hM (ci := 9) (j := 20) ok_40 rfl (by decide) (by decide) tw_811 rfl dX9_lots_140 ?_
      refine lv_iload hC.1 hC.2.1 dX9_lots_143 (lv_at hl 6 rfl) ?_
      refine lv_aload_n hC.1 hC.2.1 dX9_lots_145 rfl (lv_at hl 0 rfl) ?_
      refine lv_iload_n hC.1 hC.2.1 dX9_lots_146 rfl (lv_at hl 2 rfl) ?_
      refine lv_aload_n hC.1 hC.2.1 dX9_lots_147 rfl (lv_at hl 0 rfl) ?_
      obtain ⟨ok_41, h⟩ := h
      refine mm_gr hC hM (ci := 9) (j := 12) ⟨ok_40.1, ok_41⟩ rfl (by decide) (by decide) tw_803 rfl dX9_lots_148 ?_
      refine lv_iload hC.1 hC.2.1 dX9_lots_151 (lv_at hl 6 rfl) ?_
      obtain ⟨ok_42, h⟩ := h
      refine mm_il hC hM ok_42 dX9_lots_153 ?_
      refine mm_ri hM (mm_V (As := [.int x2, .int (sI S_39 (sR S_39 x0 12) (x6 : Int32).toNatClampNeg)]) (rest := [.int x6, .ref (b0 + (sR S_39 x0 20))]) hC hM hl.1 (mX9_sumIn l G b0 S_39 x0 x2 (sI S_39 (sR S_39 x0 12) (x6 : Int32).toNatClampNeg) _) h (ci := 9) ok_40.1 rfl rfl kX9_sumIn tw_1014 rfl (by decide) rfl (Nat.le_of_ble_eq_true rfl) dX9_lots_154 (by decide)) (fun r_44 S_43 H locs h hM => ?_)
      refine lv_iload hC.1 hC.2.1 dX9_lots_157 (lv_at hl 5 rfl) ?_
      refine lv_isub hC.1 hC.2.1 dX9_lots_159 ?_
      obtain ⟨ok_45, h⟩ := h
      refine mm_is hC hM ok_45 dX9_lots_160 (fun S_46 H locs eS_46 hM => ?_)
      have h := h S_46 eS_46
      refine lv_aload_n hC.1 hC.2.1 dX9_lots_161 rfl (lv_at hl 0 rfl) ?_
      refine lv_aload_n hC.1 hC.2.1 dX9_lots_162 rfl (lv_at hl 0 rfl) ?_
      obtain ⟨ok_47, h⟩ := h
      refine mm_gr hC hM (ci := 9) (j := 19) ok_47 rfl (by decide) (by decide) tw_810 rfl dX9_lots_163 ?_
      refine lv_iload hC.1 hC.2.1 dX9_lots_166 (lv_at hl 6 rfl) ?_
      obtain ⟨ok_48, h⟩ := h
      refine mm_il hC hM ok_48 dX9_lots_168 ?_
      refine lv_aload_n hC.1 hC.2.1 dX9_lots_169 rfl (lv_at hl 0 rfl) ?_
      obtain ⟨ok_49, h⟩ := h
      refine mm_gr hC hM (ci := 9) (j := 20) ⟨ok_47.1, ok_49⟩ rfl (by decide) (by decide) tw_811 rfl dX9_lots_170 ?_
      refine lv_iload hC.1 hC.2.1 dX9_lots_173 (lv_at hl 6 rfl) ?_
      obtain ⟨ok_50, h⟩ := h
      refine mm_il hC hM ok_50 dX9_lots_175 ?_
      refine lv_icmp_le (tgt := 190) hC.1 hC.2.1 dX9_lots_176 (by decide) (fun c_51 => ?_) (fun c_51 => ?_)
      · have h := h.1 c_51
        refine lv_aload_n hC.1 hC.2.1 dX9_lots_190 rfl (lv_at hl 0 rfl) ?_
        refine mm_gr hC hM (ci := 9) (j := 20) ⟨ok_47.1, ok_49⟩ rfl (by decide) (by decide) tw_811 rfl dX9_lots_191 ?_
        refine lv_iload hC.1 hC.2.1 dX9_lots_194 (lv_at hl 6 rfl) ?_
        refine mm_il hC hM ok_50 dX9_lots_196 ?_
        refine lv_i2l hC.1 hC.2.1 dX9_lots_197 rfl ?_
        exact qX9_lots_198 hC hr hlk ih _ _ _ _ _ _ _ _ _ _ H locs ls h hM (lv_sub hl [0, 1, 2, 3, 4, 5, 6] rfl)
      · have h := h.2 c_51
        refine lv_aload_n hC.1 hC.2.1 dX9_lots_179 rfl (lv_at hl 0 rfl) ?_
        refine mm_gr hC hM (ci := 9) (j := 19) ok_47 rfl (by decide) (by decide) tw_810 rfl dX9_lots_180 ?_
        refine lv_iload hC.1 hC.2.1 dX9_lots_183 (lv_at hl 6 rfl) ?_
        refine mm_il hC hM ok_48 dX9_lots_185 ?_
        refine lv_i2l hC.1 hC.2.1 dX9_lots_186 rfl ?_
        refine lv_goto (tgt := 198) hC.1 hC.2.1 dX9_lots_187 (by decide) ?_
        exact qX9_lots_198 hC hr hlk ih _ _ _ _ _ _ _ _ _ _ H locs ls h hM (lv_sub hl [0, 1, 2, 3, 4, 5, 6] rfl)
set_option maxHeartbeats 4000000 in
set_option maxRecDepth 100000 in
theorem mX9_lots (l : Launch) (G : Gt) (b0 : Nat) (S : St) (o : Nat) (x1 : Int32) (x2 : Int32) (x3 : Int32) (K : Int64 → St → Prop) : CL l G b0 S yX9_lots cX9_lots 12 (some .long) rmX9_lots [.ref (b0 + o), .int x1, .int x2, .int x3] (wX9_lots S o x1 x2 x3 K) K := by
  refine met_of (by decide) (Nat.le_of_ble_eq_true rfl) rfl ?_
  intro p e s m below meth c hC hr hlk hin h H locs ls hM hl
  unfold wX9_lots at h
  refine lv_iload_n hC.1 hC.2.1 dX9_lots_0 rfl (lv_at hl 1 rfl) ?_
  refine lv_iconst (v := 0) hC.1 hC.2.1 dX9_lots_1 (by decide) ?_
  refine lv_bipush (v := 7) hC.1 hC.2.1 dX9_lots_2 (by decide) ?_
  refine mm_ri hM (mm_S (As := [.int x1, .int 0, .int 7]) (rest := []) hC hM hl.1 (mX9_in l G b0 S x1 0 7 _) h kX9_in tw_865 rfl (by decide) rfl (Nat.le_of_ble_eq_true rfl) dX9_lots_4 (by decide)) (fun r_53 S_52 H locs h hM => ?_)
  refine lv_if_eq (tgt := 29) hC.1 hC.2.1 dX9_lots_7 (by decide) (fun c_54 => ?_) (fun c_54 => ?_)
  · have h := h.1 c_54
    exact qX9_lots_29 hC hr hlk  _ H locs ls h hM (lv_sub hl [] rfl)
  · have h := h.2 c_54
    refine lv_iload_n hC.1 hC.2.1 dX9_lots_10 rfl (lv_at hl 2 rfl) ?_
    refine lv_iconst (v := 0) hC.1 hC.2.1 dX9_lots_11 (by decide) ?_
    refine lv_bipush (v := 7) hC.1 hC.2.1 dX9_lots_12 (by decide) ?_
    refine mm_ri hM (mm_S (As := [.int x2, .int 0, .int 7]) (rest := []) hC hM hl.1 (mX9_in l G b0 S_52 x2 0 7 _) h kX9_in tw_865 rfl (by decide) rfl (Nat.le_of_ble_eq_true rfl) dX9_lots_14 (by decide)) (fun r_56 S_55 H locs h hM => ?_)
    refine lv_if_eq (tgt := 29) hC.1 hC.2.1 dX9_lots_17 (by decide) (fun c_57 => ?_) (fun c_57 => ?_)
    · have h := h.1 c_57
      exact qX9_lots_29 hC hr hlk  _ H locs ls h hM (lv_sub hl [] rfl)
    · have h := h.2 c_57
      refine lv_iload_n hC.1 hC.2.1 dX9_lots_20 rfl (lv_at hl 3 rfl) ?_
      refine lv_iconst (v := 0) hC.1 hC.2.1 dX9_lots_21 (by decide) ?_
      refine lv_iconst (v := 1) hC.1 hC.2.1 dX9_lots_22 (by decide) ?_
      refine mm_ri hM (mm_S (As := [.int x3, .int 0, .int 1]) (rest := []) hC hM hl.1 (mX9_in l G b0 S_55 x3 0 1 _) h kX9_in tw_865 rfl (by decide) rfl (Nat.le_of_ble_eq_true rfl) dX9_lots_23 (by decide)) (fun r_59 S_58 H locs h hM => ?_)
      refine lv_if_ne (tgt := 33) hC.1 hC.2.1 dX9_lots_26 (by decide) (fun c_60 => ?_) (fun c_60 => ?_)
      · have h := h.2 c_60
        refine lv_aload_n hC.1 hC.2.1 dX9_lots_33 rfl (lv_at hl 0 rfl) ?_
        obtain ⟨ok_61, h⟩ := h
        refine mm_gr hC hM (ci := 9) (j := 9) ok_61 rfl (by decide) (by decide) tw_800 rfl dX9_lots_34 ?_
        refine lv_iload_n hC.1 hC.2.1 dX9_lots_37 rfl (lv_at hl 1 rfl) ?_
        obtain ⟨ok_62, h⟩ := h
        refine mm_zl hC hM ok_62 dX9_lots_38 ?_
        refine lv_if_eq (tgt := 51) hC.1 hC.2.1 dX9_lots_39 (by decide) (fun c_63 => ?_) (fun c_63 => ?_)
        · have h := h.1 c_63
          exact qX9_lots_51 hC hr hlk  _ H locs ls h hM (lv_sub hl [] rfl)
        · have h := h.2 c_63
          refine lv_aload_n hC.1 hC.2.1 dX9_lots_42 rfl (lv_at hl 0 rfl) ?_
          refine mm_gr hC hM (ci := 9) (j := 9) ok_61 rfl (by decide) (by decide) tw_800 rfl dX9_lots_43 ?_
          refine lv_iload_n hC.1 hC.2.1 dX9_lots_46 rfl (lv_at hl 2 rfl) ?_
          obtain ⟨ok_64, h⟩ := h
          refine mm_zl hC hM ok_64 dX9_lots_47 ?_
          refine lv_if_ne (tgt := 55) hC.1 hC.2.1 dX9_lots_48 (by decide) (fun c_65 => ?_) (fun c_65 => ?_)
          · have h := h.2 c_65
            refine lv_aload_n hC.1 hC.2.1 dX9_lots_55 rfl (lv_at hl 0 rfl) ?_
            refine mm_gi hC hM (ci := 9) (j := 11) ok_61.1 rfl (by decide) (by decide) tw_802 rfl dX9_lots_56 ?_
            refine lv_if_ne (tgt := 66) hC.1 hC.2.1 dX9_lots_59 (by decide) (fun c_66 => ?_) (fun c_66 => ?_)
            · have h := h.2 c_66
              refine lv_aload_n hC.1 hC.2.1 dX9_lots_66 rfl (lv_at hl 0 rfl) ?_
              refine lv_iload_n hC.1 hC.2.1 dX9_lots_67 rfl (lv_at hl 1 rfl) ?_
              refine lv_aload_n hC.1 hC.2.1 dX9_lots_68 rfl (lv_at hl 0 rfl) ?_
              obtain ⟨ok_67, h⟩ := h
              refine mm_gr hC hM (ci := 9) (j := 12) ⟨ok_61.1, ok_67⟩ rfl (by decide) (by decide) tw_803 rfl dX9_lots_69 ?_
              refine lv_aload_n hC.1 hC.2.1 dX9_lots_72 rfl (lv_at hl 0 rfl) ?_
              refine lv_iload_n hC.1 hC.2.1 dX9_lots_73 rfl (lv_at hl 1 rfl) ?_
              refine mm_ri hM (mm_V (As := [.int x1]) (rest := [.ref (b0 + (sR S_58 o 12)), .int x1, .ref (b0 + o)]) hC hM hl.1 (mX9_firstIn l G b0 S_58 o x1 _) h (ci := 9) ok_61.1 rfl rfl kX9_firstIn tw_1022 rfl (by decide) rfl (Nat.le_of_ble_eq_true rfl) dX9_lots_74 (by decide)) (fun r_69 S_68 H locs h hM => ?_)
              obtain ⟨ok_70, h⟩ := h
              refine mm_il hC hM ok_70 dX9_lots_77 ?_
              obtain ⟨ok_73, h⟩ := h
              refine mm_ri hM (mm_V (As := [.int x1, .int (sI S_68 (sR S_58 o 12) (r_69 : Int32).toNatClampNeg)]) (rest := []) hC hM hl.1 (mX9_sumIn l G b0 S_68 o x1 (sI S_68 (sR S_58 o 12) (r_69 : Int32).toNatClampNeg) _) h (ci := 9) ok_73 rfl rfl kX9_sumIn tw_1014 rfl (by decide) rfl (Nat.le_of_ble_eq_true rfl) dX9_lots_78 (by decide)) (fun r_72 S_71 H locs h hM => ?_)
              refine lv_istore (lv' := [(4, .int r_72), (0, .ref (b0 + o)), (1, .int x1), (2, .int x2), (3, .int x3)]) hC.1 hC.2.1 dX9_lots_81 hl (by decide) rfl (fun ls hl => ?_)
              refine lv_aload_n hC.1 hC.2.1 dX9_lots_83 rfl (lv_at hl 1 rfl) ?_
              refine lv_iload_n hC.1 hC.2.1 dX9_lots_84 rfl (lv_at hl 3 rfl) ?_
              refine lv_aload_n hC.1 hC.2.1 dX9_lots_85 rfl (lv_at hl 1 rfl) ?_
              obtain ⟨ok_74, h⟩ := h
              refine mm_gr hC hM (ci := 9) (j := 12) ok_74 rfl (by decide) (by decide) tw_803 rfl dX9_lots_86 ?_
              refine lv_aload_n hC.1 hC.2.1 dX9_lots_89 rfl (lv_at hl 1 rfl) ?_
              refine lv_iload_n hC.1 hC.2.1 dX9_lots_90 rfl (lv_at hl 3 rfl) ?_
              refine mm_ri hM (mm_V (As := [.int x2]) (rest := [.ref (b0 + (sR S_71 o 12)), .int x2, .ref (b0 + o)]) hC hM hl.1 (mX9_firstIn l G b0 S_71 o x2 _) h (ci := 9) ok_74.1 rfl rfl kX9_firstIn tw_1022 rfl (by decide) rfl (Nat.le_of_ble_eq_true rfl) dX9_lots_91 (by decide)) (fun r_76 S_75 H locs h hM => ?_)
              obtain ⟨ok_77, h⟩ := h
              refine mm_il hC hM ok_77 dX9_lots_94 ?_
              obtain ⟨ok_80, h⟩ := h
              refine mm_ri hM (mm_V (As := [.int x2, .int (sI S_75 (sR S_71 o 12) (r_76 : Int32).toNatClampNeg)]) (rest := []) hC hM hl.1 (mX9_sumIn l G b0 S_75 o x2 (sI S_75 (sR S_71 o 12) (r_76 : Int32).toNatClampNeg) _) h (ci := 9) ok_80 rfl rfl kX9_sumIn tw_1014 rfl (by decide) rfl (Nat.le_of_ble_eq_true rfl) dX9_lots_95 (by decide)) (fun r_79 S_78 H locs h hM => ?_)
              refine lv_istore (lv' := [(5, .int r_79), (4, .int r_72), (0, .ref (b0 + o)), (1, .int x1), (2, .int x2), (3, .int x3)]) hC.1 hC.2.1 dX9_lots_98 hl (by decide) rfl (fun ls hl => ?_)
              refine lv_aload_n hC.1 hC.2.1 dX9_lots_100 rfl (lv_at hl 2 rfl) ?_
              refine lv_lconst (v := 0) hC.1 hC.2.1 dX9_lots_101 (by decide) ?_
              obtain ⟨ok_81, h⟩ := h
              refine mm_pl hC hM (ci := 9) (j := 18) (ty := .long) ok_81 rfl (by decide) (by decide) tw_809 rfl rfl (by decide +kernel) rfl rfl dX9_lots_102 (fun S_82 H locs eS_82 hM => ?_)
              have h := h S_82 eS_82
              refine lv_iconst (v := 0) hC.1 hC.2.1 dX9_lots_105 (by decide) ?_
              refine lv_istore (lv' := [(6, .int 0), (5, .int r_79), (4, .int r_72), (0, .ref (b0 + o)), (1, .int x1), (2, .int x2), (3, .int x3)]) hC.1 hC.2.1 dX9_lots_106 hl (by decide) rfl (fun ls hl => ?_)
              obtain ⟨n1, h⟩ := h
              exact qX9_lots_108 hC hr hlk n1 _ _ _ _ _ _ _ _ H locs ls h hM (lv_sub hl [3, 4, 5, 6, 2, 1, 0] rfl)
            · have h := h.1 c_66
              refine lv_ldc2 (v := (-6)) hC.1 hC.2.1 hC.2.2.2.1 (hC.2.2.2.2 _ tw_1053) dX9_lots_62 ?_
              exact mm_lret hC hr hlk hM h dX9_lots_65
          · have h := h.1 c_65
            exact qX9_lots_51 hC hr hlk  _ H locs ls h hM (lv_sub hl [] rfl)
      · have h := h.1 c_60
        exact qX9_lots_29 hC hr hlk  _ H locs ls h hM (lv_sub hl [] rfl)
set_option maxHeartbeats 4000000 in
set_option maxRecDepth 100000 in
theorem qX9_many_45 {p : Program} {l : Launch} {e : Env} {s : State} {m : MethodId} {args : Array Value} {below : List Frame} {meth : Method} {c : Code} {G : Gt} {b0 : Nat} (hC : CallFix p m c cX9_many 4 s args lw_g RX9) (hr : meth.sig.returnType = (some .int)) (hlk : meth.locks = false) {K : Int32 → St → Prop} {B22 : Nat → Int32 → Int32 → Int32 → St → Prop} (hB22 : ∀ (x0 : Nat) (x1 : Int32) (x2 : Int32) (x3 : Int32) (S : St) (H : Heap) (locs : List Loc) (ls : Array Slot), B22 x0 x1 x2 x3 S → MM G b0 s S H locs → lv_has ls 4 [(0, .ref (b0 + x0)), (1, .int x1), (2, .int x2), (3, .int x3)] → W p l e rmX9_many s m args below meth c H locs 0 0 (MQ below (va_Qi K (ME G b0) (AB b0)) args s 0 0 (AB b0)) (F0 m 22 ls [])) : ∀ (x0 : Nat) (x1 : Int32) (x3 : Int32) (t0 : Int32) (t1 : Int32) (S : St) (H : Heap) (locs : List Loc) (ls : Array Slot), wX9_many_45 K B22 x0 x1 x3 t0 t1 S → MM G b0 s S H locs → lv_has ls 4 [(0, .ref (b0 + x0)), (1, .int x1), (3, .int x3)] → W p l e rmX9_many s m args below meth c H locs 0 0 (MQ below (va_Qi K (ME G b0) (AB b0)) args s 0 0 (AB b0)) (F0 m 45 ls [.int t1, .int t0]) := by
  intro x0 x1 x3 t0 t1 S H locs ls h hM hl
  unfold wX9_many_45 at h
  refine lv_iadd hC.1 hC.2.1 dX9_many_45 ?_
  refine lv_topi (fun x2_1 ex2_1 => ?_)
  have h := h x2_1 ex2_1
  refine lv_istore_n (lv' := [(2, .int x2_1), (0, .ref (b0 + x0)), (1, .int x1), (3, .int x3)]) hC.1 hC.2.1 dX9_many_46 rfl hl (by decide) rfl (fun ls hl => ?_)
  obtain ⟨x3_2, ex3_2⟩ : ∃ y : Int32, y = x3 + 1 := ⟨_, rfl⟩
  have h := h x3_2 ex3_2
  refine lv_iinc (v := x3_2) (lv' := [(3, .int x3_2), (2, .int x2_1), (0, .ref (b0 + x0)), (1, .int x1)]) hC.1 hC.2.1 dX9_many_47 hl (k := 3) rfl (by rw [ex3_2]; rfl) (by decide) rfl (fun ls hl => ?_)
  refine lv_goto (tgt := 22) hC.1 hC.2.1 dX9_many_50 (by decide) ?_
  exact hB22 _ _ _ _ _ H locs ls h hM (lv_sub hl [2, 3, 1, 0] rfl)
set_option maxHeartbeats 4000000 in
set_option maxRecDepth 100000 in
theorem qX9_many_22 {p : Program} {l : Launch} {e : Env} {s : State} {m : MethodId} {args : Array Value} {below : List Frame} {meth : Method} {c : Code} {G : Gt} {b0 : Nat} (hC : CallFix p m c cX9_many 4 s args lw_g RX9) (hr : meth.sig.returnType = (some .int)) (hlk : meth.locks = false) {K : Int32 → St → Prop} : ∀ (n : Nat) (x0 : Nat) (x1 : Int32) (x2 : Int32) (x3 : Int32) (S : St) (H : Heap) (locs : List Loc) (ls : Array Slot), wX9_many_22 K n x0 x1 x2 x3 S → MM G b0 s S H locs → lv_has ls 4 [(0, .ref (b0 + x0)), (1, .int x1), (2, .int x2), (3, .int x3)] → W p l e rmX9_many s m args below meth c H locs 0 0 (MQ below (va_Qi K (ME G b0) (AB b0)) args s 0 0 (AB b0)) (F0 m 22 ls []) := by
  intro n
  induction n with
  | zero =>
    intro x0 x1 x2 x3 S H locs ls h
    exact False.elim h
  | succ n ih =>
    intro x0 x1 x2 x3 S H locs ls h hM hl
    rw [wX9_many_22] at h
    refine lv_iload_n hC.1 hC.2.1 dX9_many_22 rfl (lv_at hl 3 rfl) ?_
    refine lv_aload_n hC.1 hC.2.1 dX9_many_23 rfl (lv_at hl 0 rfl) ?_
    obtain ⟨ok_3, h⟩ := h
    refine mm_gi hC hM (ci := 9) (j := 11) ok_3 rfl (by decide) (by decide) tw_802 rfl dX9_many_24 ?_
    refine lv_icmp_ge (tgt := 53) hC.1 hC.2.1 dX9_many_27 (by decide) (fun c_4 => ?_) (fun c_4 => ?_)
    · have h := h.1 c_4
      refine lv_iload_n hC.1 hC.2.1 dX9_many_53 rfl (lv_at hl 2 rfl) ?_
      exact mm_iret hC hr hlk hM h dX9_many_54
    · have h := h.2 c_4
      refine lv_iload_n hC.1 hC.2.1 dX9_many_30 rfl (lv_at hl 2 rfl) ?_
      refine lv_aload_n hC.1 hC.2.1 dX9_many_31 rfl (lv_at hl 0 rfl) ?_
      refine lv_iload_n hC.1 hC.2.1 dX9_many_32 rfl (lv_at hl 3 rfl) ?_
      refine mm_ri hM (mm_V (As := [.int x3]) (rest := [.int x2]) hC hM hl.1 (mX9_rueAt l G b0 S x0 x3 _) h (ci := 9) ok_3 rfl rfl kX9_rueAt tw_960 rfl (by decide) rfl (Nat.le_of_ble_eq_true rfl) dX9_many_33 (by decide)) (fun r_6 S_5 H locs h hM => ?_)
      refine lv_iload_n hC.1 hC.2.1 dX9_many_36 rfl (lv_at hl 1 rfl) ?_
      refine lv_icmp_ne (tgt := 44) hC.1 hC.2.1 dX9_many_37 (by decide) (fun c_7 => ?_) (fun c_7 => ?_)
      · have h := h.2 c_7
        refine lv_iconst (v := 0) hC.1 hC.2.1 dX9_many_44 (by decide) ?_
        exact qX9_many_45 hC hr hlk ih _ _ _ _ _ _ H locs ls h hM (lv_sub hl [0, 1, 3] rfl)
      · have h := h.1 c_7
        refine lv_iconst (v := 1) hC.1 hC.2.1 dX9_many_40 (by decide) ?_
        refine lv_goto (tgt := 45) hC.1 hC.2.1 dX9_many_41 (by decide) ?_
        exact qX9_many_45 hC hr hlk ih _ _ _ _ _ _ H locs ls h hM (lv_sub hl [0, 1, 3] rfl)
set_option maxHeartbeats 4000000 in
set_option maxRecDepth 100000 in
theorem mX9_many (l : Launch) (G : Gt) (b0 : Nat) (S : St) (o : Nat) (K : Int32 → St → Prop) : CI l G b0 S yX9_many cX9_many 4 (some .int) rmX9_many [.ref (b0 + o)] (wX9_many S o K) K := by
  refine met_of (by decide) (Nat.le_of_ble_eq_true rfl) rfl ?_
  intro p e s m below meth c hC hr hlk hin h H locs ls hM hl
  unfold wX9_many at h
  refine lv_aload_n hC.1 hC.2.1 dX9_many_0 rfl (lv_at hl 0 rfl) ?_
  obtain ⟨ok_8, h⟩ := h
  refine mm_gi hC hM (ci := 9) (j := 11) ok_8 rfl (by decide) (by decide) tw_802 rfl dX9_many_1 ?_
  refine lv_if_ne (tgt := 9) hC.1 hC.2.1 dX9_many_4 (by decide) (fun c_9 => ?_) (fun c_9 => ?_)
  · have h := h.2 c_9
    refine lv_aload_n hC.1 hC.2.1 dX9_many_9 rfl (lv_at hl 0 rfl) ?_
    refine lv_aload_n hC.1 hC.2.1 dX9_many_10 rfl (lv_at hl 0 rfl) ?_
    refine mm_ri hM (mm_V (As := []) (rest := [.ref (b0 + o)]) hC hM hl.1 (mX9_best l G b0 S o _) h (ci := 9) ok_8 rfl rfl kX9_best tw_976 rfl (by decide) rfl (Nat.le_of_ble_eq_true rfl) dX9_many_11 (by decide)) (fun r_11 S_10 H locs h hM => ?_)
    obtain ⟨ok_14, h⟩ := h
    refine mm_ri hM (mm_V (As := [.int r_11]) (rest := []) hC hM hl.1 (mX9_rueAt l G b0 S_10 o r_11 _) h (ci := 9) ok_14 rfl rfl kX9_rueAt tw_960 rfl (by decide) rfl (Nat.le_of_ble_eq_true rfl) dX9_many_14 (by decide)) (fun r_13 S_12 H locs h hM => ?_)
    refine lv_istore_n (lv' := [(1, .int r_13), (0, .ref (b0 + o))]) hC.1 hC.2.1 dX9_many_17 rfl hl (by decide) rfl (fun ls hl => ?_)
    refine lv_iconst (v := 0) hC.1 hC.2.1 dX9_many_18 (by decide) ?_
    refine lv_istore_n (lv' := [(2, .int 0), (1, .int r_13), (0, .ref (b0 + o))]) hC.1 hC.2.1 dX9_many_19 rfl hl (by decide) rfl (fun ls hl => ?_)
    refine lv_iconst (v := 0) hC.1 hC.2.1 dX9_many_20 (by decide) ?_
    refine lv_istore_n (lv' := [(3, .int 0), (2, .int 0), (1, .int r_13), (0, .ref (b0 + o))]) hC.1 hC.2.1 dX9_many_21 rfl hl (by decide) rfl (fun ls hl => ?_)
    obtain ⟨n1, h⟩ := h
    exact qX9_many_22 hC hr hlk n1 _ _ _ _ _ H locs ls h hM (lv_sub hl [3, 2, 1, 0] rfl)
  · have h := h.1 c_9
    refine lv_iconst (v := 0) hC.1 hC.2.1 dX9_many_7 (by decide) ?_
    exact mm_iret hC hr hlk hM h dX9_many_8
set_option maxHeartbeats 4000000 in
set_option maxRecDepth 100000 in
theorem qX9_middle_37 {p : Program} {l : Launch} {e : Env} {s : State} {m : MethodId} {args : Array Value} {below : List Frame} {meth : Method} {c : Code} {G : Gt} {b0 : Nat} (hC : CallFix p m c cX9_middle 3 s args lw_g RX9) (hr : meth.sig.returnType = (some .int)) (hlk : meth.locks = false) {K : Int32 → St → Prop} {B14 : Nat → Int32 → Int32 → St → Prop} (hB14 : ∀ (x0 : Nat) (x1 : Int32) (x2 : Int32) (S : St) (H : Heap) (locs : List Loc) (ls : Array Slot), B14 x0 x1 x2 S → MM G b0 s S H locs → lv_has ls 3 [(0, .ref (b0 + x0)), (1, .int x1), (2, .int x2)] → W p l e rmX9_middle s m args below meth c H locs 0 0 (MQ below (va_Qi K (ME G b0) (AB b0)) args s 0 0 (AB b0)) (F0 m 14 ls [])) : ∀ (x0 : Nat) (x1 : Int32) (x2 : Int32) (S : St) (H : Heap) (locs : List Loc) (ls : Array Slot), wX9_middle_37 K B14 x0 x1 x2 S → MM G b0 s S H locs → lv_has ls 3 [(0, .ref (b0 + x0)), (1, .int x1), (2, .int x2)] → W p l e rmX9_middle s m args below meth c H locs 0 0 (MQ below (va_Qi K (ME G b0) (AB b0)) args s 0 0 (AB b0)) (F0 m 37 ls []) := by
  intro x0 x1 x2 S H locs ls h hM hl
  unfold wX9_middle_37 at h
  obtain ⟨x2_1, ex2_1⟩ : ∃ y : Int32, y = x2 + 1 := ⟨_, rfl⟩
  have h := h x2_1 ex2_1
  refine lv_iinc (v := x2_1) (lv' := [(2, .int x2_1), (0, .ref (b0 + x0)), (1, .int x1)]) hC.1 hC.2.1 dX9_middle_37 hl (k := 2) rfl (by rw [ex2_1]; rfl) (by decide) rfl (fun ls hl => ?_)
  refine lv_goto (tgt := 14) hC.1 hC.2.1 dX9_middle_40 (by decide) ?_
  exact hB14 _ _ _ _ H locs ls h hM (lv_sub hl [1, 2, 0] rfl)
set_option maxHeartbeats 4000000 in
set_option maxRecDepth 100000 in
theorem qX9_middle_14 {p : Program} {l : Launch} {e : Env} {s : State} {m : MethodId} {args : Array Value} {below : List Frame} {meth : Method} {c : Code} {G : Gt} {b0 : Nat} (hC : CallFix p m c cX9_middle 3 s args lw_g RX9) (hr : meth.sig.returnType = (some .int)) (hlk : meth.locks = false) {K : Int32 → St → Prop} : ∀ (n : Nat) (x0 : Nat) (x1 : Int32) (x2 : Int32) (S : St) (H : Heap) (locs : List Loc) (ls : Array Slot), wX9_middle_14 K n x0 x1 x2 S → MM G b0 s S H locs → lv_has ls 3 [(0, .ref (b0 + x0)), (1, .int x1), (2, .int x2)] → W p l e rmX9_middle s m args below meth c H locs 0 0 (MQ below (va_Qi K (ME G b0) (AB b0)) args s 0 0 (AB b0)) (F0 m 14 ls []) := by
  intro n
  induction n with
  | zero =>
    intro x0 x1 x2 S H locs ls h
    exact False.elim h
  | succ n ih =>
    intro x0 x1 x2 S H locs ls h hM hl
    rw [wX9_middle_14] at h
    refine lv_iload_n hC.1 hC.2.1 dX9_middle_14 rfl (lv_at hl 2 rfl) ?_
    refine lv_aload_n hC.1 hC.2.1 dX9_middle_15 rfl (lv_at hl 0 rfl) ?_
    obtain ⟨ok_2, h⟩ := h
    refine mm_gi hC hM (ci := 9) (j := 11) ok_2 rfl (by decide) (by decide) tw_802 rfl dX9_middle_16 ?_
    refine lv_icmp_ge (tgt := 43) hC.1 hC.2.1 dX9_middle_19 (by decide) (fun c_3 => ?_) (fun c_3 => ?_)
    · have h := h.1 c_3
      refine lv_iload_n hC.1 hC.2.1 dX9_middle_43 rfl (lv_at hl 1 rfl) ?_
      exact mm_iret hC hr hlk hM h dX9_middle_44
    · have h := h.2 c_3
      refine lv_aload_n hC.1 hC.2.1 dX9_middle_22 rfl (lv_at hl 0 rfl) ?_
      refine lv_iload_n hC.1 hC.2.1 dX9_middle_23 rfl (lv_at hl 2 rfl) ?_
      refine mm_ri hM (mm_V (As := [.int x2]) (rest := []) hC hM hl.1 (mX9_doubled l G b0 S x0 x2 _) h (ci := 9) ok_2 rfl rfl kX9_doubled tw_981 rfl (by decide) rfl (Nat.le_of_ble_eq_true rfl) dX9_middle_24 (by decide)) (fun r_5 S_4 H locs h hM => ?_)
      refine lv_aload_n hC.1 hC.2.1 dX9_middle_27 rfl (lv_at hl 0 rfl) ?_
      refine lv_iload_n hC.1 hC.2.1 dX9_middle_28 rfl (lv_at hl 1 rfl) ?_
      obtain ⟨ok_8, h⟩ := h
      refine mm_ri hM (mm_V (As := [.int x1]) (rest := [.int r_5]) hC hM hl.1 (mX9_doubled l G b0 S_4 x0 x1 _) h (ci := 9) ok_8 rfl rfl kX9_doubled tw_981 rfl (by decide) rfl (Nat.le_of_ble_eq_true rfl) dX9_middle_29 (by decide)) (fun r_7 S_6 H locs h hM => ?_)
      refine lv_icmp_ge (tgt := 37) hC.1 hC.2.1 dX9_middle_32 (by decide) (fun c_9 => ?_) (fun c_9 => ?_)
      · have h := h.1 c_9
        exact qX9_middle_37 hC hr hlk ih _ _ _ _ H locs ls h hM (lv_sub hl [0, 1, 2] rfl)
      · have h := h.2 c_9
        refine lv_iload_n hC.1 hC.2.1 dX9_middle_35 rfl (lv_at hl 2 rfl) ?_
        refine lv_istore_n (lv' := [(1, .int x2), (0, .ref (b0 + x0)), (2, .int x2)]) hC.1 hC.2.1 dX9_middle_36 rfl hl (by decide) rfl (fun ls hl => ?_)
        exact qX9_middle_37 hC hr hlk ih _ _ _ _ H locs ls h hM (lv_sub hl [1, 0, 2] rfl)
set_option maxHeartbeats 4000000 in
set_option maxRecDepth 100000 in
theorem mX9_middle (l : Launch) (G : Gt) (b0 : Nat) (S : St) (o : Nat) (K : Int32 → St → Prop) : CI l G b0 S yX9_middle cX9_middle 3 (some .int) rmX9_middle [.ref (b0 + o)] (wX9_middle S o K) K := by
  refine met_of (by decide) (Nat.le_of_ble_eq_true rfl) rfl ?_
  intro p e s m below meth c hC hr hlk hin h H locs ls hM hl
  unfold wX9_middle at h
  refine lv_aload_n hC.1 hC.2.1 dX9_middle_0 rfl (lv_at hl 0 rfl) ?_
  obtain ⟨ok_10, h⟩ := h
  refine mm_gi hC hM (ci := 9) (j := 11) ok_10 rfl (by decide) (by decide) tw_802 rfl dX9_middle_1 ?_
  refine lv_if_ne (tgt := 10) hC.1 hC.2.1 dX9_middle_4 (by decide) (fun c_11 => ?_) (fun c_11 => ?_)
  · have h := h.2 c_11
    refine lv_iconst (v := 0) hC.1 hC.2.1 dX9_middle_10 (by decide) ?_
    refine lv_istore_n (lv' := [(1, .int 0), (0, .ref (b0 + o))]) hC.1 hC.2.1 dX9_middle_11 rfl hl (by decide) rfl (fun ls hl => ?_)
    refine lv_iconst (v := 1) hC.1 hC.2.1 dX9_middle_12 (by decide) ?_
    refine lv_istore_n (lv' := [(2, .int 1), (1, .int 0), (0, .ref (b0 + o))]) hC.1 hC.2.1 dX9_middle_13 rfl hl (by decide) rfl (fun ls hl => ?_)
    obtain ⟨n1, h⟩ := h
    exact qX9_middle_14 hC hr hlk n1 _ _ _ _ H locs ls h hM (lv_sub hl [2, 1, 0] rfl)
  · have h := h.1 c_11
    refine lv_bipush (v := (-6)) hC.1 hC.2.1 dX9_middle_7 (by decide) ?_
    exact mm_iret hC hr hlk hM h dX9_middle_9
set_option maxHeartbeats 4000000 in
set_option maxRecDepth 100000 in
theorem mX9_of (l : Launch) (G : Gt) (b0 : Nat) (S : St) (o : Nat) (x1 : Int32) (x2 : Int32) (K : Int32 → St → Prop) : CI l G b0 S yX9_of cX9_of 3 (some .int) rmX9_of [.ref (b0 + o), .int x1, .int x2] (wX9_of S o x1 x2 K) K := by
  refine met_of (by decide) (Nat.le_of_ble_eq_true rfl) rfl ?_
  intro p e s m below meth c hC hr hlk hin h H locs ls hM hl
  unfold wX9_of at h
  refine lv_aload_n hC.1 hC.2.1 dX9_of_0 rfl (lv_at hl 0 rfl) ?_
  refine lv_iload_n hC.1 hC.2.1 dX9_of_1 rfl (lv_at hl 1 rfl) ?_
  obtain ⟨ok_3, h⟩ := h
  refine mm_ri hM (mm_V (As := [.int x1]) (rest := []) hC hM hl.1 (mX9_isThing l G b0 S o x1 _) h (ci := 9) ok_3 rfl rfl kX9_isThing tw_876 rfl (by decide) rfl (Nat.le_of_ble_eq_true rfl) dX9_of_2 (by decide)) (fun r_2 S_1 H locs h hM => ?_)
  refine lv_if_ne (tgt := 10) hC.1 hC.2.1 dX9_of_5 (by decide) (fun c_4 => ?_) (fun c_4 => ?_)
  · have h := h.2 c_4
    refine lv_iload_n hC.1 hC.2.1 dX9_of_10 rfl (lv_at hl 2 rfl) ?_
    refine mm_sw (lo := 0) (hi := 4) hC.1 hC.2.1 dX9_of_11 (by decide) (fun c_5 => ?_) ?_
    · have h := h.1 c_5
      refine ⟨79, by decide, ?_⟩
      refine lv_iload_n hC.1 hC.2.1 dX9_of_79 rfl (lv_at hl 2 rfl) ?_
      refine lv_bipush (v := 10) hC.1 hC.2.1 dX9_of_80 (by decide) ?_
      refine lv_bipush (v := 17) hC.1 hC.2.1 dX9_of_82 (by decide) ?_
      refine mm_ri hM (mm_S (As := [.int x2, .int 10, .int 17]) (rest := []) hC hM hl.1 (mX9_in l G b0 S_1 x2 10 17 _) h kX9_in tw_865 rfl (by decide) rfl (Nat.le_of_ble_eq_true rfl) dX9_of_84 (by decide)) (fun r_17 S_16 H locs h hM => ?_)
      refine lv_if_eq (tgt := 119) hC.1 hC.2.1 dX9_of_87 (by decide) (fun c_18 => ?_) (fun c_18 => ?_)
      · have h := h.1 c_18
        refine lv_iconst (v := (-1)) hC.1 hC.2.1 dX9_of_119 (by decide) ?_
        exact mm_iret hC hr hlk hM h dX9_of_120
      · have h := h.2 c_18
        refine lv_aload_n hC.1 hC.2.1 dX9_of_90 rfl (lv_at hl 0 rfl) ?_
        obtain ⟨ok_19, h⟩ := h
        refine mm_gr hC hM (ci := 9) (j := 9) ok_19 rfl (by decide) (by decide) tw_800 rfl dX9_of_91 ?_
        refine lv_iload_n hC.1 hC.2.1 dX9_of_94 rfl (lv_at hl 2 rfl) ?_
        refine lv_bipush (v := 10) hC.1 hC.2.1 dX9_of_95 (by decide) ?_
        refine lv_isub hC.1 hC.2.1 dX9_of_97 ?_
        obtain ⟨ok_20, h⟩ := h
        refine mm_zl hC hM ok_20 dX9_of_98 ?_
        refine lv_if_eq (tgt := 119) hC.1 hC.2.1 dX9_of_99 (by decide) (fun c_21 => ?_) (fun c_21 => ?_)
        · have h := h.1 c_21
          refine lv_iconst (v := (-1)) hC.1 hC.2.1 dX9_of_119 (by decide) ?_
          exact mm_iret hC hr hlk hM h dX9_of_120
        · have h := h.2 c_21
          refine lv_aload_n hC.1 hC.2.1 dX9_of_102 rfl (lv_at hl 0 rfl) ?_
          obtain ⟨ok_22, h⟩ := h
          refine mm_gr hC hM (ci := 9) (j := 10) ⟨ok_19.1, ok_22⟩ rfl (by decide) (by decide) tw_801 rfl dX9_of_103 ?_
          refine lv_bipush (v := 12) hC.1 hC.2.1 dX9_of_106 (by decide) ?_
          refine lv_iload_n hC.1 hC.2.1 dX9_of_108 rfl (lv_at hl 2 rfl) ?_
          refine lv_bipush (v := 10) hC.1 hC.2.1 dX9_of_109 (by decide) ?_
          refine lv_isub hC.1 hC.2.1 dX9_of_111 ?_
          refine lv_imul hC.1 hC.2.1 dX9_of_112 ?_
          refine lv_iload_n hC.1 hC.2.1 dX9_of_113 rfl (lv_at hl 1 rfl) ?_
          refine lv_iadd hC.1 hC.2.1 dX9_of_114 ?_
          obtain ⟨ok_23, h⟩ := h
          refine mm_il hC hM ok_23 dX9_of_115 ?_
          refine lv_goto (tgt := 120) hC.1 hC.2.1 dX9_of_116 (by decide) ?_
          exact mm_iret hC hr hlk hM h dX9_of_120
    · intro i hi
      match i, hi with
      | 0, _ =>
        intro c_5
        have h := h.2.1 (c_5.trans (by decide))
        refine ⟨44, by decide, ?_⟩
        refine lv_aload_n hC.1 hC.2.1 dX9_of_44 rfl (lv_at hl 0 rfl) ?_
        obtain ⟨ok_6, h⟩ := h
        refine mm_gr hC hM (ci := 9) (j := 4) ok_6 rfl (by decide) (by decide) tw_795 rfl dX9_of_45 ?_
        refine lv_iload_n hC.1 hC.2.1 dX9_of_48 rfl (lv_at hl 1 rfl) ?_
        obtain ⟨ok_7, h⟩ := h
        refine mm_il hC hM ok_7 dX9_of_49 ?_
        exact mm_iret hC hr hlk hM h dX9_of_50
      | 1, _ =>
        intro c_5
        have h := h.2.2.1 (c_5.trans (by decide))
        refine ⟨51, by decide, ?_⟩
        refine lv_aload_n hC.1 hC.2.1 dX9_of_51 rfl (lv_at hl 0 rfl) ?_
        obtain ⟨ok_8, h⟩ := h
        refine mm_gr hC hM (ci := 9) (j := 5) ok_8 rfl (by decide) (by decide) tw_796 rfl dX9_of_52 ?_
        refine lv_iload_n hC.1 hC.2.1 dX9_of_55 rfl (lv_at hl 1 rfl) ?_
        obtain ⟨ok_9, h⟩ := h
        refine mm_il hC hM ok_9 dX9_of_56 ?_
        exact mm_iret hC hr hlk hM h dX9_of_57
      | 2, _ =>
        intro c_5
        have h := h.2.2.2.1 (c_5.trans (by decide))
        refine ⟨58, by decide, ?_⟩
        refine lv_aload_n hC.1 hC.2.1 dX9_of_58 rfl (lv_at hl 0 rfl) ?_
        obtain ⟨ok_10, h⟩ := h
        refine mm_gr hC hM (ci := 9) (j := 6) ok_10 rfl (by decide) (by decide) tw_797 rfl dX9_of_59 ?_
        refine lv_iload_n hC.1 hC.2.1 dX9_of_62 rfl (lv_at hl 1 rfl) ?_
        obtain ⟨ok_11, h⟩ := h
        refine mm_il hC hM ok_11 dX9_of_63 ?_
        exact mm_iret hC hr hlk hM h dX9_of_64
      | 3, _ =>
        intro c_5
        have h := h.2.2.2.2.1 (c_5.trans (by decide))
        refine ⟨65, by decide, ?_⟩
        refine lv_aload_n hC.1 hC.2.1 dX9_of_65 rfl (lv_at hl 0 rfl) ?_
        obtain ⟨ok_12, h⟩ := h
        refine mm_gr hC hM (ci := 9) (j := 7) ok_12 rfl (by decide) (by decide) tw_798 rfl dX9_of_66 ?_
        refine lv_iload_n hC.1 hC.2.1 dX9_of_69 rfl (lv_at hl 1 rfl) ?_
        obtain ⟨ok_13, h⟩ := h
        refine mm_il hC hM ok_13 dX9_of_70 ?_
        exact mm_iret hC hr hlk hM h dX9_of_71
      | 4, _ =>
        intro c_5
        have h := h.2.2.2.2.2 (c_5.trans (by decide))
        refine ⟨72, by decide, ?_⟩
        refine lv_aload_n hC.1 hC.2.1 dX9_of_72 rfl (lv_at hl 0 rfl) ?_
        obtain ⟨ok_14, h⟩ := h
        refine mm_gr hC hM (ci := 9) (j := 8) ok_14 rfl (by decide) (by decide) tw_799 rfl dX9_of_73 ?_
        refine lv_iload_n hC.1 hC.2.1 dX9_of_76 rfl (lv_at hl 1 rfl) ?_
        obtain ⟨ok_15, h⟩ := h
        refine mm_il hC hM ok_15 dX9_of_77 ?_
        exact mm_iret hC hr hlk hM h dX9_of_78
      | q + 5, hi => exact absurd hi (by simp)
  · have h := h.1 c_4
    refine lv_iconst (v := (-1)) hC.1 hC.2.1 dX9_of_8 (by decide) ?_
    exact mm_iret hC hr hlk hM h dX9_of_9
set_option maxHeartbeats 4000000 in
set_option maxRecDepth 100000 in
theorem qX9_posts_18 {p : Program} {l : Launch} {e : Env} {s : State} {m : MethodId} {args : Array Value} {below : List Frame} {meth : Method} {c : Code} {G : Gt} {b0 : Nat} (hC : CallFix p m c cX9_posts 6 s args lw_g RX9) (hr : meth.sig.returnType = (some .int)) (hlk : meth.locks = false) {K : Int32 → St → Prop} : ∀ (x0 : Nat) (S : St) (H : Heap) (locs : List Loc) (ls : Array Slot), wX9_posts_18 K x0 S → MM G b0 s S H locs → lv_has ls 6 [(0, .ref (b0 + x0))] → W p l e rmX9_posts s m args below meth c H locs 0 0 (MQ below (va_Qi K (ME G b0) (AB b0)) args s 0 0 (AB b0)) (F0 m 18 ls []) := by
  intro x0 S H locs ls h hM hl
  unfold wX9_posts_18 at h
  refine lv_aload_n hC.1 hC.2.1 dX9_posts_18 rfl (lv_at hl 0 rfl) ?_
  refine lv_iconst (v := (-1)) hC.1 hC.2.1 dX9_posts_19 (by decide) ?_
  obtain ⟨ok_3, h⟩ := h
  refine mm_ri hM (mm_V (As := [.int (-1)]) (rest := []) hC hM hl.1 (mX9_tells l G b0 S x0 (-1) _) h (ci := 9) ok_3 rfl rfl kX9_tells tw_868 rfl (by decide) rfl (Nat.le_of_ble_eq_true rfl) dX9_posts_20 (by decide)) (fun r_2 S_1 H locs h hM => ?_)
  exact mm_iret hC hr hlk hM h dX9_posts_23
set_option maxHeartbeats 4000000 in
set_option maxRecDepth 100000 in
theorem mX9_posts (l : Launch) (G : Gt) (b0 : Nat) (S : St) (o : Nat) (x1 : Int32) (x2 : Int32) (x3 : Int32) (K : Int32 → St → Prop) : CI l G b0 S yX9_posts cX9_posts 6 (some .int) rmX9_posts [.ref (b0 + o), .int x1, .int x2, .int x3] (wX9_posts S o x1 x2 x3 K) K := by
  refine met_of (by decide) (Nat.le_of_ble_eq_true rfl) rfl ?_
  intro p e s m below meth c hC hr hlk hin h H locs ls hM hl
  unfold wX9_posts at h
  refine lv_iload_n hC.1 hC.2.1 dX9_posts_0 rfl (lv_at hl 2 rfl) ?_
  refine lv_iconst (v := 0) hC.1 hC.2.1 dX9_posts_1 (by decide) ?_
  refine lv_iconst (v := 5) hC.1 hC.2.1 dX9_posts_2 (by decide) ?_
  refine mm_ri hM (mm_S (As := [.int x2, .int 0, .int 5]) (rest := []) hC hM hl.1 (mX9_in l G b0 S x2 0 5 _) h kX9_in tw_865 rfl (by decide) rfl (Nat.le_of_ble_eq_true rfl) dX9_posts_3 (by decide)) (fun r_5 S_4 H locs h hM => ?_)
  refine lv_if_eq (tgt := 18) hC.1 hC.2.1 dX9_posts_6 (by decide) (fun c_6 => ?_) (fun c_6 => ?_)
  · have h := h.1 c_6
    exact qX9_posts_18 hC hr hlk _ _ H locs ls h hM (lv_sub hl [0] rfl)
  · have h := h.2 c_6
    refine lv_iload_n hC.1 hC.2.1 dX9_posts_9 rfl (lv_at hl 3 rfl) ?_
    refine lv_iconst (v := 0) hC.1 hC.2.1 dX9_posts_10 (by decide) ?_
    refine lv_iconst (v := 5) hC.1 hC.2.1 dX9_posts_11 (by decide) ?_
    refine mm_ri hM (mm_S (As := [.int x3, .int 0, .int 5]) (rest := []) hC hM hl.1 (mX9_in l G b0 S_4 x3 0 5 _) h kX9_in tw_865 rfl (by decide) rfl (Nat.le_of_ble_eq_true rfl) dX9_posts_12 (by decide)) (fun r_8 S_7 H locs h hM => ?_)
    refine lv_if_ne (tgt := 24) hC.1 hC.2.1 dX9_posts_15 (by decide) (fun c_9 => ?_) (fun c_9 => ?_)
    · have h := h.2 c_9
      refine lv_aload_n hC.1 hC.2.1 dX9_posts_24 rfl (lv_at hl 0 rfl) ?_
      refine lv_iload_n hC.1 hC.2.1 dX9_posts_25 rfl (lv_at hl 1 rfl) ?_
      obtain ⟨ok_12, h⟩ := h
      refine mm_ri hM (mm_V (As := [.int x1]) (rest := []) hC hM hl.1 (mX9_isThing l G b0 S_7 o x1 _) h (ci := 9) ok_12 rfl rfl kX9_isThing tw_876 rfl (by decide) rfl (Nat.le_of_ble_eq_true rfl) dX9_posts_26 (by decide)) (fun r_11 S_10 H locs h hM => ?_)
      refine lv_if_ne (tgt := 39) hC.1 hC.2.1 dX9_posts_29 (by decide) (fun c_13 => ?_) (fun c_13 => ?_)
      · have h := h.2 c_13
        refine lv_aload_n hC.1 hC.2.1 dX9_posts_39 rfl (lv_at hl 0 rfl) ?_
        obtain ⟨ok_14, h⟩ := h
        refine mm_gr hC hM (ci := 9) (j := 6) ok_14 rfl (by decide) (by decide) tw_797 rfl dX9_posts_40 ?_
        refine lv_iload_n hC.1 hC.2.1 dX9_posts_43 rfl (lv_at hl 1 rfl) ?_
        obtain ⟨ok_15, h⟩ := h
        refine mm_il hC hM ok_15 dX9_posts_44 ?_
        refine lv_topi (fun x4_16 ex4_16 => ?_)
        have h := h x4_16 ex4_16
        refine lv_istore (lv' := [(4, .int x4_16), (0, .ref (b0 + o)), (1, .int x1), (2, .int x2), (3, .int x3)]) hC.1 hC.2.1 dX9_posts_45 hl (by decide) rfl (fun ls hl => ?_)
        refine lv_aload_n hC.1 hC.2.1 dX9_posts_47 rfl (lv_at hl 1 rfl) ?_
        obtain ⟨ok_17, h⟩ := h
        refine mm_gr hC hM (ci := 9) (j := 7) ⟨ok_14.1, ok_17⟩ rfl (by decide) (by decide) tw_798 rfl dX9_posts_48 ?_
        refine lv_iload_n hC.1 hC.2.1 dX9_posts_51 rfl (lv_at hl 2 rfl) ?_
        obtain ⟨ok_18, h⟩ := h
        refine mm_il hC hM ok_18 dX9_posts_52 ?_
        refine lv_topi (fun x5_19 ex5_19 => ?_)
        have h := h x5_19 ex5_19
        refine lv_istore (lv' := [(5, .int x5_19), (4, .int x4_16), (0, .ref (b0 + o)), (1, .int x1), (2, .int x2), (3, .int x3)]) hC.1 hC.2.1 dX9_posts_53 hl (by decide) rfl (fun ls hl => ?_)
        refine lv_aload_n hC.1 hC.2.1 dX9_posts_55 rfl (lv_at hl 2 rfl) ?_
        refine mm_gr hC hM (ci := 9) (j := 6) ok_14 rfl (by decide) (by decide) tw_797 rfl dX9_posts_56 ?_
        refine lv_iload_n hC.1 hC.2.1 dX9_posts_59 rfl (lv_at hl 3 rfl) ?_
        refine lv_iload_n hC.1 hC.2.1 dX9_posts_60 rfl (lv_at hl 4 rfl) ?_
        refine mm_is hC hM ok_15 dX9_posts_61 (fun S_20 H locs eS_20 hM => ?_)
        have h := h S_20 eS_20
        refine lv_aload_n hC.1 hC.2.1 dX9_posts_62 rfl (lv_at hl 2 rfl) ?_
        obtain ⟨ok_21, h⟩ := h
        refine mm_gr hC hM (ci := 9) (j := 7) ok_21 rfl (by decide) (by decide) tw_798 rfl dX9_posts_63 ?_
        refine lv_iload_n hC.1 hC.2.1 dX9_posts_66 rfl (lv_at hl 3 rfl) ?_
        refine lv_iload_n hC.1 hC.2.1 dX9_posts_67 rfl (lv_at hl 5 rfl) ?_
        obtain ⟨ok_22, h⟩ := h
        refine mm_is hC hM ok_22 dX9_posts_68 (fun S_23 H locs eS_23 hM => ?_)
        have h := h S_23 eS_23
        refine lv_aload_n hC.1 hC.2.1 dX9_posts_69 rfl (lv_at hl 2 rfl) ?_
        obtain ⟨ok_26, h⟩ := h
        refine mm_ri hM (mm_V (As := []) (rest := []) hC hM hl.1 (mX9_gathers l G b0 S_23 o _) h (ci := 9) ok_26 rfl rfl kX9_gathers tw_761 rfl (by decide) rfl (Nat.le_of_ble_eq_true rfl) dX9_posts_70 (by decide)) (fun r_25 S_24 H locs h hM => ?_)
        refine lv_if_ne (tgt := 104) hC.1 hC.2.1 dX9_posts_73 (by decide) (fun c_27 => ?_) (fun c_27 => ?_)
        · have h := h.2 c_27
          refine lv_aload_n hC.1 hC.2.1 dX9_posts_104 rfl (lv_at hl 2 rfl) ?_
          refine lv_iconst (v := 0) hC.1 hC.2.1 dX9_posts_105 (by decide) ?_
          obtain ⟨ok_30, h⟩ := h
          refine mm_ri hM (mm_V (As := [.int 0]) (rest := []) hC hM hl.1 (mX9_tells l G b0 S_24 o 0 _) h (ci := 9) ok_30 rfl rfl kX9_tells tw_868 rfl (by decide) rfl (Nat.le_of_ble_eq_true rfl) dX9_posts_106 (by decide)) (fun r_29 S_28 H locs h hM => ?_)
          exact mm_iret hC hr hlk hM h dX9_posts_109
        · have h := h.1 c_27
          refine lv_aload_n hC.1 hC.2.1 dX9_posts_76 rfl (lv_at hl 2 rfl) ?_
          obtain ⟨ok_31, h⟩ := h
          refine mm_gr hC hM (ci := 9) (j := 6) ok_31 rfl (by decide) (by decide) tw_797 rfl dX9_posts_77 ?_
          refine lv_iload_n hC.1 hC.2.1 dX9_posts_80 rfl (lv_at hl 3 rfl) ?_
          refine lv_iload hC.1 hC.2.1 dX9_posts_81 (lv_at hl 1 rfl) ?_
          obtain ⟨ok_32, h⟩ := h
          refine mm_is hC hM ok_32 dX9_posts_83 (fun S_33 H locs eS_33 hM => ?_)
          have h := h S_33 eS_33
          refine lv_aload_n hC.1 hC.2.1 dX9_posts_84 rfl (lv_at hl 2 rfl) ?_
          obtain ⟨ok_34, h⟩ := h
          refine mm_gr hC hM (ci := 9) (j := 7) ok_34 rfl (by decide) (by decide) tw_798 rfl dX9_posts_85 ?_
          refine lv_iload_n hC.1 hC.2.1 dX9_posts_88 rfl (lv_at hl 3 rfl) ?_
          refine lv_iload hC.1 hC.2.1 dX9_posts_89 (lv_at hl 0 rfl) ?_
          obtain ⟨ok_35, h⟩ := h
          refine mm_is hC hM ok_35 dX9_posts_91 (fun S_36 H locs eS_36 hM => ?_)
          have h := h S_36 eS_36
          refine lv_aload_n hC.1 hC.2.1 dX9_posts_92 rfl (lv_at hl 2 rfl) ?_
          obtain ⟨ok_39, h⟩ := h
          refine mm_ri hM (mm_V (As := []) (rest := []) hC hM hl.1 (mX9_gathers l G b0 S_36 o _) h (ci := 9) ok_39 rfl rfl kX9_gathers tw_761 rfl (by decide) rfl (Nat.le_of_ble_eq_true rfl) dX9_posts_93 (by decide)) (fun r_38 S_37 H locs h hM => ?_)
          refine lv_pop hC.1 hC.2.1 dX9_posts_96 rfl ?_
          refine lv_aload_n hC.1 hC.2.1 dX9_posts_97 rfl (lv_at hl 2 rfl) ?_
          refine lv_bipush (v := (-5)) hC.1 hC.2.1 dX9_posts_98 (by decide) ?_
          obtain ⟨ok_42, h⟩ := h
          refine mm_ri hM (mm_V (As := [.int (-5)]) (rest := []) hC hM hl.1 (mX9_tells l G b0 S_37 o (-5) _) h (ci := 9) ok_42 rfl rfl kX9_tells tw_868 rfl (by decide) rfl (Nat.le_of_ble_eq_true rfl) dX9_posts_100 (by decide)) (fun r_41 S_40 H locs h hM => ?_)
          exact mm_iret hC hr hlk hM h dX9_posts_103
      · have h := h.1 c_13
        refine lv_aload_n hC.1 hC.2.1 dX9_posts_32 rfl (lv_at hl 0 rfl) ?_
        refine lv_bipush (v := (-2)) hC.1 hC.2.1 dX9_posts_33 (by decide) ?_
        obtain ⟨ok_45, h⟩ := h
        refine mm_ri hM (mm_V (As := [.int (-2)]) (rest := []) hC hM hl.1 (mX9_tells l G b0 S_10 o (-2) _) h (ci := 9) ok_45 rfl rfl kX9_tells tw_868 rfl (by decide) rfl (Nat.le_of_ble_eq_true rfl) dX9_posts_35 (by decide)) (fun r_44 S_43 H locs h hM => ?_)
        exact mm_iret hC hr hlk hM h dX9_posts_38
    · have h := h.1 c_9
      exact qX9_posts_18 hC hr hlk _ _ H locs ls h hM (lv_sub hl [0] rfl)
set_option maxHeartbeats 4000000 in
set_option maxRecDepth 100000 in
theorem mX9_price (l : Launch) (G : Gt) (b0 : Nat) (S : St) (o : Nat) (x1 : Int32) (x2 : Int32) (K : Int32 → St → Prop) : CI l G b0 S yX9_price cX9_price 4 (some .int) rmX9_price [.ref (b0 + o), .int x1, .int x2] (wX9_price S o x1 x2 K) K := by
  refine met_of (by decide) (Nat.le_of_ble_eq_true rfl) rfl ?_
  intro p e s m below meth c hC hr hlk hin h H locs ls hM hl
  unfold wX9_price at h
  refine lv_iload_n hC.1 hC.2.1 dX9_price_0 rfl (lv_at hl 2 rfl) ?_
  refine lv_iconst (v := 0) hC.1 hC.2.1 dX9_price_1 (by decide) ?_
  refine lv_sipush (v := 1000) hC.1 hC.2.1 dX9_price_2 (by decide) ?_
  refine mm_ri hM (mm_S (As := [.int x2, .int 0, .int 1000]) (rest := []) hC hM hl.1 (mX9_in l G b0 S x2 0 1000 _) h kX9_in tw_865 rfl (by decide) rfl (Nat.le_of_ble_eq_true rfl) dX9_price_5 (by decide)) (fun r_2 S_1 H locs h hM => ?_)
  refine lv_if_ne (tgt := 17) hC.1 hC.2.1 dX9_price_8 (by decide) (fun c_3 => ?_) (fun c_3 => ?_)
  · have h := h.2 c_3
    refine lv_aload_n hC.1 hC.2.1 dX9_price_17 rfl (lv_at hl 0 rfl) ?_
    refine lv_iload_n hC.1 hC.2.1 dX9_price_18 rfl (lv_at hl 1 rfl) ?_
    obtain ⟨ok_6, h⟩ := h
    refine mm_ri hM (mm_V (As := [.int x1]) (rest := []) hC hM hl.1 (mX9_isThing l G b0 S_1 o x1 _) h (ci := 9) ok_6 rfl rfl kX9_isThing tw_876 rfl (by decide) rfl (Nat.le_of_ble_eq_true rfl) dX9_price_19 (by decide)) (fun r_5 S_4 H locs h hM => ?_)
    refine lv_if_ne (tgt := 32) hC.1 hC.2.1 dX9_price_22 (by decide) (fun c_7 => ?_) (fun c_7 => ?_)
    · have h := h.2 c_7
      refine lv_aload_n hC.1 hC.2.1 dX9_price_32 rfl (lv_at hl 0 rfl) ?_
      obtain ⟨ok_8, h⟩ := h
      refine mm_gr hC hM (ci := 9) (j := 8) ok_8 rfl (by decide) (by decide) tw_799 rfl dX9_price_33 ?_
      refine lv_iload_n hC.1 hC.2.1 dX9_price_36 rfl (lv_at hl 1 rfl) ?_
      obtain ⟨ok_9, h⟩ := h
      refine mm_il hC hM ok_9 dX9_price_37 ?_
      refine lv_topi (fun x3_10 ex3_10 => ?_)
      have h := h x3_10 ex3_10
      refine lv_istore_n (lv' := [(3, .int x3_10), (0, .ref (b0 + o)), (1, .int x1), (2, .int x2)]) hC.1 hC.2.1 dX9_price_38 rfl hl (by decide) rfl (fun ls hl => ?_)
      refine lv_aload_n hC.1 hC.2.1 dX9_price_39 rfl (lv_at hl 1 rfl) ?_
      refine mm_gr hC hM (ci := 9) (j := 8) ok_8 rfl (by decide) (by decide) tw_799 rfl dX9_price_40 ?_
      refine lv_iload_n hC.1 hC.2.1 dX9_price_43 rfl (lv_at hl 2 rfl) ?_
      refine lv_iload_n hC.1 hC.2.1 dX9_price_44 rfl (lv_at hl 3 rfl) ?_
      refine mm_is hC hM ok_9 dX9_price_45 (fun S_11 H locs eS_11 hM => ?_)
      have h := h S_11 eS_11
      refine lv_aload_n hC.1 hC.2.1 dX9_price_46 rfl (lv_at hl 1 rfl) ?_
      refine lv_iload_n hC.1 hC.2.1 dX9_price_47 rfl (lv_at hl 0 rfl) ?_
      obtain ⟨ok_14, h⟩ := h
      refine mm_ri hM (mm_V (As := [.int x3_10]) (rest := []) hC hM hl.1 (mX9_tells l G b0 S_11 o x3_10 _) h (ci := 9) ok_14 rfl rfl kX9_tells tw_868 rfl (by decide) rfl (Nat.le_of_ble_eq_true rfl) dX9_price_48 (by decide)) (fun r_13 S_12 H locs h hM => ?_)
      exact mm_iret hC hr hlk hM h dX9_price_51
    · have h := h.1 c_7
      refine lv_aload_n hC.1 hC.2.1 dX9_price_25 rfl (lv_at hl 0 rfl) ?_
      refine lv_bipush (v := (-2)) hC.1 hC.2.1 dX9_price_26 (by decide) ?_
      obtain ⟨ok_17, h⟩ := h
      refine mm_ri hM (mm_V (As := [.int (-2)]) (rest := []) hC hM hl.1 (mX9_tells l G b0 S_4 o (-2) _) h (ci := 9) ok_17 rfl rfl kX9_tells tw_868 rfl (by decide) rfl (Nat.le_of_ble_eq_true rfl) dX9_price_28 (by decide)) (fun r_16 S_15 H locs h hM => ?_)
      exact mm_iret hC hr hlk hM h dX9_price_31
  · have h := h.1 c_3
    refine lv_aload_n hC.1 hC.2.1 dX9_price_11 rfl (lv_at hl 0 rfl) ?_
    refine lv_iconst (v := (-1)) hC.1 hC.2.1 dX9_price_12 (by decide) ?_
    obtain ⟨ok_20, h⟩ := h
    refine mm_ri hM (mm_V (As := [.int (-1)]) (rest := []) hC hM hl.1 (mX9_tells l G b0 S_1 o (-1) _) h (ci := 9) ok_20 rfl rfl kX9_tells tw_868 rfl (by decide) rfl (Nat.le_of_ble_eq_true rfl) dX9_price_13 (by decide)) (fun r_19 S_18 H locs h hM => ?_)
    exact mm_iret hC hr hlk hM h dX9_price_16
set_option maxHeartbeats 4000000 in
set_option maxRecDepth 100000 in
theorem mX9_rival (l : Launch) (G : Gt) (b0 : Nat) (S : St) (o : Nat) (x1 : Int32) (K : Int32 → St → Prop) : CI l G b0 S yX9_rival cX9_rival 2 (some .int) rmX9_rival [.ref (b0 + o), .int x1] (wX9_rival S o x1 K) K := by
  refine met_of (by decide) (Nat.le_of_ble_eq_true rfl) rfl ?_
  intro p e s m below meth c hC hr hlk hin h H locs ls hM hl
  unfold wX9_rival at h
  refine lv_aload_n hC.1 hC.2.1 dX9_rival_0 rfl (lv_at hl 0 rfl) ?_
  refine lv_iload_n hC.1 hC.2.1 dX9_rival_1 rfl (lv_at hl 1 rfl) ?_
  obtain ⟨ok_3, h⟩ := h
  refine mm_ri hM (mm_V (As := [.int x1]) (rest := []) hC hM hl.1 (mX9_isChoiceNumber l G b0 S o x1 _) h (ci := 9) ok_3 rfl rfl kX9_isChoiceNumber tw_924 rfl (by decide) rfl (Nat.le_of_ble_eq_true rfl) dX9_rival_2 (by decide)) (fun r_2 S_1 H locs h hM => ?_)
  refine lv_if_eq (tgt := 21) hC.1 hC.2.1 dX9_rival_5 (by decide) (fun c_4 => ?_) (fun c_4 => ?_)
  · have h := h.1 c_4
    refine lv_iconst (v := (-1)) hC.1 hC.2.1 dX9_rival_21 (by decide) ?_
    exact mm_iret hC hr hlk hM h dX9_rival_22
  · have h := h.2 c_4
    refine lv_aload_n hC.1 hC.2.1 dX9_rival_8 rfl (lv_at hl 0 rfl) ?_
    refine lv_aload_n hC.1 hC.2.1 dX9_rival_9 rfl (lv_at hl 0 rfl) ?_
    obtain ⟨ok_5, h⟩ := h
    refine mm_gr hC hM (ci := 9) (j := 12) ok_5 rfl (by decide) (by decide) tw_803 rfl dX9_rival_10 ?_
    refine lv_iload_n hC.1 hC.2.1 dX9_rival_13 rfl (lv_at hl 1 rfl) ?_
    obtain ⟨ok_6, h⟩ := h
    refine mm_il hC hM ok_6 dX9_rival_14 ?_
    refine mm_ri hM (mm_V (As := [.int (sI S_1 (sR S_1 o 12) (x1 : Int32).toNatClampNeg)]) (rest := []) hC hM hl.1 (mX9_firstCheapest l G b0 S_1 o (sI S_1 (sR S_1 o 12) (x1 : Int32).toNatClampNeg) _) h (ci := 9) ok_5.1 rfl rfl kX9_firstCheapest tw_952 rfl (by decide) rfl (Nat.le_of_ble_eq_true rfl) dX9_rival_15 (by decide)) (fun r_8 S_7 H locs h hM => ?_)
    refine lv_goto (tgt := 22) hC.1 hC.2.1 dX9_rival_18 (by decide) ?_
    exact mm_iret hC hr hlk hM h dX9_rival_22
set_option maxHeartbeats 4000000 in
set_option maxRecDepth 100000 in
theorem mX9_rue (l : Launch) (G : Gt) (b0 : Nat) (S : St) (o : Nat) (x1 : Int32) (K : Int32 → St → Prop) : CI l G b0 S yX9_rue cX9_rue 2 (some .int) rmX9_rue [.ref (b0 + o), .int x1] (wX9_rue S o x1 K) K := by
  refine met_of (by decide) (Nat.le_of_ble_eq_true rfl) rfl ?_
  intro p e s m below meth c hC hr hlk hin h H locs ls hM hl
  unfold wX9_rue at h
  refine lv_aload_n hC.1 hC.2.1 dX9_rue_0 rfl (lv_at hl 0 rfl) ?_
  refine lv_iload_n hC.1 hC.2.1 dX9_rue_1 rfl (lv_at hl 1 rfl) ?_
  obtain ⟨ok_3, h⟩ := h
  refine mm_ri hM (mm_V (As := [.int x1]) (rest := []) hC hM hl.1 (mX9_isChoiceNumber l G b0 S o x1 _) h (ci := 9) ok_3 rfl rfl kX9_isChoiceNumber tw_924 rfl (by decide) rfl (Nat.le_of_ble_eq_true rfl) dX9_rue_2 (by decide)) (fun r_2 S_1 H locs h hM => ?_)
  refine lv_if_eq (tgt := 16) hC.1 hC.2.1 dX9_rue_5 (by decide) (fun c_4 => ?_) (fun c_4 => ?_)
  · have h := h.1 c_4
    refine lv_iconst (v := (-1)) hC.1 hC.2.1 dX9_rue_16 (by decide) ?_
    exact mm_iret hC hr hlk hM h dX9_rue_17
  · have h := h.2 c_4
    refine lv_aload_n hC.1 hC.2.1 dX9_rue_8 rfl (lv_at hl 0 rfl) ?_
    refine lv_iload_n hC.1 hC.2.1 dX9_rue_9 rfl (lv_at hl 1 rfl) ?_
    obtain ⟨ok_7, h⟩ := h
    refine mm_ri hM (mm_V (As := [.int x1]) (rest := []) hC hM hl.1 (mX9_rueAt l G b0 S_1 o x1 _) h (ci := 9) ok_7 rfl rfl kX9_rueAt tw_960 rfl (by decide) rfl (Nat.le_of_ble_eq_true rfl) dX9_rue_10 (by decide)) (fun r_6 S_5 H locs h hM => ?_)
    refine lv_goto (tgt := 17) hC.1 hC.2.1 dX9_rue_13 (by decide) ?_
    exact mm_iret hC hr hlk hM h dX9_rue_17
set_option maxHeartbeats 4000000 in
set_option maxRecDepth 100000 in
theorem qX9_sheet_24 {p : Program} {l : Launch} {e : Env} {s : State} {m : MethodId} {args : Array Value} {below : List Frame} {meth : Method} {c : Code} {G : Gt} {b0 : Nat} (hC : CallFix p m c cX9_sheet 5 s args lw_g RX9) (hr : meth.sig.returnType = (some .int)) (hlk : meth.locks = false) {K : Int32 → St → Prop} : ∀ (x0 : Nat) (S : St) (H : Heap) (locs : List Loc) (ls : Array Slot), wX9_sheet_24 K x0 S → MM G b0 s S H locs → lv_has ls 5 [(0, .ref (b0 + x0))] → W p l e rmX9_sheet s m args below meth c H locs 0 0 (MQ below (va_Qi K (ME G b0) (AB b0)) args s 0 0 (AB b0)) (F0 m 24 ls []) := by
  intro x0 S H locs ls h hM hl
  unfold wX9_sheet_24 at h
  refine lv_aload_n hC.1 hC.2.1 dX9_sheet_24 rfl (lv_at hl 0 rfl) ?_
  refine lv_iconst (v := (-1)) hC.1 hC.2.1 dX9_sheet_25 (by decide) ?_
  obtain ⟨ok_3, h⟩ := h
  refine mm_ri hM (mm_V (As := [.int (-1)]) (rest := []) hC hM hl.1 (mX9_tells l G b0 S x0 (-1) _) h (ci := 9) ok_3 rfl rfl kX9_tells tw_868 rfl (by decide) rfl (Nat.le_of_ble_eq_true rfl) dX9_sheet_26 (by decide)) (fun r_2 S_1 H locs h hM => ?_)
  exact mm_iret hC hr hlk hM h dX9_sheet_29
set_option maxHeartbeats 4000000 in
set_option maxRecDepth 100000 in
theorem qX9_sheet_91 {p : Program} {l : Launch} {e : Env} {s : State} {m : MethodId} {args : Array Value} {below : List Frame} {meth : Method} {c : Code} {G : Gt} {b0 : Nat} (hC : CallFix p m c cX9_sheet 5 s args lw_g RX9) (hr : meth.sig.returnType = (some .int)) (hlk : meth.locks = false) {K : Int32 → St → Prop} : ∀ (x0 : Nat) (x3 : Int32) (S : St) (H : Heap) (locs : List Loc) (ls : Array Slot), wX9_sheet_91 K x0 x3 S → MM G b0 s S H locs → lv_has ls 5 [(0, .ref (b0 + x0)), (3, .int x3)] → W p l e rmX9_sheet s m args below meth c H locs 0 0 (MQ below (va_Qi K (ME G b0) (AB b0)) args s 0 0 (AB b0)) (F0 m 91 ls []) := by
  intro x0 x3 S H locs ls h hM hl
  unfold wX9_sheet_91 at h
  refine lv_aload_n hC.1 hC.2.1 dX9_sheet_91 rfl (lv_at hl 0 rfl) ?_
  refine lv_iload_n hC.1 hC.2.1 dX9_sheet_92 rfl (lv_at hl 1 rfl) ?_
  obtain ⟨ok_6, h⟩ := h
  refine mm_ri hM (mm_V (As := [.int x3]) (rest := []) hC hM hl.1 (mX9_tells l G b0 S x0 x3 _) h (ci := 9) ok_6 rfl rfl kX9_tells tw_868 rfl (by decide) rfl (Nat.le_of_ble_eq_true rfl) dX9_sheet_93 (by decide)) (fun r_5 S_4 H locs h hM => ?_)
  exact mm_iret hC hr hlk hM h dX9_sheet_96
set_option maxHeartbeats 4000000 in
set_option maxRecDepth 100000 in
theorem qX9_sheet_65 {p : Program} {l : Launch} {e : Env} {s : State} {m : MethodId} {args : Array Value} {below : List Frame} {meth : Method} {c : Code} {G : Gt} {b0 : Nat} (hC : CallFix p m c cX9_sheet 5 s args lw_g RX9) (hr : meth.sig.returnType = (some .int)) (hlk : meth.locks = false) {K : Int32 → St → Prop} : ∀ (n : Nat) (x0 : Nat) (x1 : Int32) (x3 : Int32) (x4 : Int32) (S : St) (H : Heap) (locs : List Loc) (ls : Array Slot), wX9_sheet_65 K n x0 x1 x3 x4 S → MM G b0 s S H locs → lv_has ls 5 [(0, .ref (b0 + x0)), (1, .int x1), (3, .int x3), (4, .int x4)] → W p l e rmX9_sheet s m args below meth c H locs 0 0 (MQ below (va_Qi K (ME G b0) (AB b0)) args s 0 0 (AB b0)) (F0 m 65 ls []) := by
  intro n
  induction n with
  | zero =>
    intro x0 x1 x3 x4 S H locs ls h
    exact False.elim h
  | succ n ih =>
    intro x0 x1 x3 x4 S H locs ls h hM hl
    rw [wX9_sheet_65] at h
    refine lv_iload hC.1 hC.2.1 dX9_sheet_65 (lv_at hl 3 rfl) ?_
    refine lv_bipush (v := 100) hC.1 hC.2.1 dX9_sheet_67 (by decide) ?_
    refine lv_icmp_ge (tgt := 91) hC.1 hC.2.1 dX9_sheet_69 (by decide) (fun c_7 => ?_) (fun c_7 => ?_)
    · have h := h.1 c_7
      exact qX9_sheet_91 hC hr hlk _ _ _ H locs ls h hM (lv_sub hl [0, 2] rfl)
    · have h := h.2 c_7
      refine lv_aload_n hC.1 hC.2.1 dX9_sheet_72 rfl (lv_at hl 0 rfl) ?_
      obtain ⟨ok_8, h⟩ := h
      refine mm_gr hC hM (ci := 9) (j := 15) ok_8 rfl (by decide) (by decide) tw_806 rfl dX9_sheet_73 ?_
      refine lv_bipush (v := 100) hC.1 hC.2.1 dX9_sheet_76 (by decide) ?_
      refine lv_iload_n hC.1 hC.2.1 dX9_sheet_78 rfl (lv_at hl 1 rfl) ?_
      refine lv_imul hC.1 hC.2.1 dX9_sheet_79 ?_
      refine lv_iload hC.1 hC.2.1 dX9_sheet_80 (lv_at hl 3 rfl) ?_
      refine lv_iadd hC.1 hC.2.1 dX9_sheet_82 ?_
      refine lv_iconst (v := 0) hC.1 hC.2.1 dX9_sheet_83 (by decide) ?_
      obtain ⟨ok_9, h⟩ := h
      refine mm_is hC hM ok_9 dX9_sheet_84 (fun S_10 H locs eS_10 hM => ?_)
      have h := h S_10 eS_10
      obtain ⟨x4_11, ex4_11⟩ : ∃ y : Int32, y = x4 + 1 := ⟨_, rfl⟩
      have h := h x4_11 ex4_11
      refine lv_iinc (v := x4_11) (lv' := [(4, .int x4_11), (0, .ref (b0 + x0)), (1, .int x1), (3, .int x3)]) hC.1 hC.2.1 dX9_sheet_85 hl (k := 3) rfl (by rw [ex4_11]; rfl) (by decide) rfl (fun ls hl => ?_)
      refine lv_goto (tgt := 65) hC.1 hC.2.1 dX9_sheet_88 (by decide) ?_
      exact ih _ _ _ _ _ H locs ls h hM (lv_sub hl [1, 2, 3, 0] rfl)
set_option maxHeartbeats 4000000 in
set_option maxRecDepth 100000 in
theorem mX9_sheet (l : Launch) (G : Gt) (b0 : Nat) (S : St) (o : Nat) (x1 : Int32) (x2 : Int32) (x3 : Int32) (K : Int32 → St → Prop) : CI l G b0 S yX9_sheet cX9_sheet 5 (some .int) rmX9_sheet [.ref (b0 + o), .int x1, .int x2, .int x3] (wX9_sheet S o x1 x2 x3 K) K := by
  refine met_of (by decide) (Nat.le_of_ble_eq_true rfl) rfl ?_
  intro p e s m below meth c hC hr hlk hin h H locs ls hM hl
  unfold wX9_sheet at h
  refine lv_iload_n hC.1 hC.2.1 dX9_sheet_0 rfl (lv_at hl 1 rfl) ?_
  refine lv_iconst (v := 0) hC.1 hC.2.1 dX9_sheet_1 (by decide) ?_
  refine lv_iconst (v := 3) hC.1 hC.2.1 dX9_sheet_2 (by decide) ?_
  refine mm_ri hM (mm_S (As := [.int x1, .int 0, .int 3]) (rest := []) hC hM hl.1 (mX9_in l G b0 S x1 0 3 _) h kX9_in tw_865 rfl (by decide) rfl (Nat.le_of_ble_eq_true rfl) dX9_sheet_3 (by decide)) (fun r_13 S_12 H locs h hM => ?_)
  refine lv_if_eq (tgt := 24) hC.1 hC.2.1 dX9_sheet_6 (by decide) (fun c_14 => ?_) (fun c_14 => ?_)
  · have h := h.1 c_14
    exact qX9_sheet_24 hC hr hlk _ _ H locs ls h hM (lv_sub hl [0] rfl)
  · have h := h.2 c_14
    refine lv_iload_n hC.1 hC.2.1 dX9_sheet_9 rfl (lv_at hl 2 rfl) ?_
    refine lv_iconst (v := 0) hC.1 hC.2.1 dX9_sheet_10 (by decide) ?_
    refine lv_iconst (v := 2) hC.1 hC.2.1 dX9_sheet_11 (by decide) ?_
    refine mm_ri hM (mm_S (As := [.int x2, .int 0, .int 2]) (rest := []) hC hM hl.1 (mX9_in l G b0 S_12 x2 0 2 _) h kX9_in tw_865 rfl (by decide) rfl (Nat.le_of_ble_eq_true rfl) dX9_sheet_12 (by decide)) (fun r_16 S_15 H locs h hM => ?_)
    refine lv_if_eq (tgt := 24) hC.1 hC.2.1 dX9_sheet_15 (by decide) (fun c_17 => ?_) (fun c_17 => ?_)
    · have h := h.1 c_17
      exact qX9_sheet_24 hC hr hlk _ _ H locs ls h hM (lv_sub hl [0] rfl)
    · have h := h.2 c_17
      refine lv_iload_n hC.1 hC.2.1 dX9_sheet_18 rfl (lv_at hl 3 rfl) ?_
      refine lv_bipush (v := 100) hC.1 hC.2.1 dX9_sheet_19 (by decide) ?_
      refine lv_icmp_le (tgt := 30) hC.1 hC.2.1 dX9_sheet_21 (by decide) (fun c_18 => ?_) (fun c_18 => ?_)
      · have h := h.1 c_18
        refine lv_aload_n hC.1 hC.2.1 dX9_sheet_30 rfl (lv_at hl 0 rfl) ?_
        obtain ⟨ok_19, h⟩ := h
        refine mm_gr hC hM (ci := 9) (j := 14) ok_19 rfl (by decide) (by decide) tw_805 rfl dX9_sheet_31 ?_
        refine lv_iload_n hC.1 hC.2.1 dX9_sheet_34 rfl (lv_at hl 1 rfl) ?_
        refine lv_iconst (v := (-1)) hC.1 hC.2.1 dX9_sheet_35 (by decide) ?_
        obtain ⟨ok_20, h⟩ := h
        refine mm_is hC hM ok_20 dX9_sheet_36 (fun S_21 H locs eS_21 hM => ?_)
        have h := h S_21 eS_21
        refine lv_iload_n hC.1 hC.2.1 dX9_sheet_37 rfl (lv_at hl 3 rfl) ?_
        refine lv_if_ge (tgt := 48) hC.1 hC.2.1 dX9_sheet_38 (by decide) (fun c_22 => ?_) (fun c_22 => ?_)
        · have h := h.1 c_22
          refine lv_aload_n hC.1 hC.2.1 dX9_sheet_48 rfl (lv_at hl 0 rfl) ?_
          obtain ⟨ok_23, h⟩ := h
          refine mm_gr hC hM (ci := 9) (j := 13) ok_23 rfl (by decide) (by decide) tw_804 rfl dX9_sheet_49 ?_
          refine lv_iload_n hC.1 hC.2.1 dX9_sheet_52 rfl (lv_at hl 1 rfl) ?_
          refine lv_iload_n hC.1 hC.2.1 dX9_sheet_53 rfl (lv_at hl 2 rfl) ?_
          obtain ⟨ok_24, h⟩ := h
          refine mm_is hC hM ok_24 dX9_sheet_54 (fun S_25 H locs eS_25 hM => ?_)
          have h := h S_25 eS_25
          refine lv_aload_n hC.1 hC.2.1 dX9_sheet_55 rfl (lv_at hl 0 rfl) ?_
          obtain ⟨ok_26, h⟩ := h
          refine mm_gr hC hM (ci := 9) (j := 14) ok_26 rfl (by decide) (by decide) tw_805 rfl dX9_sheet_56 ?_
          refine lv_iload_n hC.1 hC.2.1 dX9_sheet_59 rfl (lv_at hl 1 rfl) ?_
          refine lv_iload_n hC.1 hC.2.1 dX9_sheet_60 rfl (lv_at hl 3 rfl) ?_
          obtain ⟨ok_27, h⟩ := h
          refine mm_is hC hM ok_27 dX9_sheet_61 (fun S_28 H locs eS_28 hM => ?_)
          have h := h S_28 eS_28
          refine lv_iconst (v := 0) hC.1 hC.2.1 dX9_sheet_62 (by decide) ?_
          refine lv_istore (lv' := [(4, .int 0), (0, .ref (b0 + o)), (1, .int x1), (2, .int x2), (3, .int x3)]) hC.1 hC.2.1 dX9_sheet_63 hl (by decide) rfl (fun ls hl => ?_)
          obtain ⟨n1, h⟩ := h
          exact qX9_sheet_65 hC hr hlk n1 _ _ _ _ _ H locs ls h hM (lv_sub hl [1, 2, 4, 0] rfl)
        · have h := h.2 c_22
          refine lv_aload_n hC.1 hC.2.1 dX9_sheet_41 rfl (lv_at hl 0 rfl) ?_
          refine lv_bipush (v := (-4)) hC.1 hC.2.1 dX9_sheet_42 (by decide) ?_
          obtain ⟨ok_31, h⟩ := h
          refine mm_ri hM (mm_V (As := [.int (-4)]) (rest := []) hC hM hl.1 (mX9_tells l G b0 S_21 o (-4) _) h (ci := 9) ok_31 rfl rfl kX9_tells tw_868 rfl (by decide) rfl (Nat.le_of_ble_eq_true rfl) dX9_sheet_44 (by decide)) (fun r_30 S_29 H locs h hM => ?_)
          exact mm_iret hC hr hlk hM h dX9_sheet_47
      · have h := h.2 c_18
        exact qX9_sheet_24 hC hr hlk _ _ H locs ls h hM (lv_sub hl [0] rfl)
set_option maxHeartbeats 4000000 in
set_option maxRecDepth 100000 in
theorem mX9_stands (l : Launch) (G : Gt) (b0 : Nat) (S : St) (o : Nat) (x1 : Int32) (x2 : Int32) (x3 : Int32) (K : Int32 → St → Prop) : CI l G b0 S yX9_stands cX9_stands 4 (some .int) rmX9_stands [.ref (b0 + o), .int x1, .int x2, .int x3] (wX9_stands S o x1 x2 x3 K) K := by
  refine met_of (by decide) (Nat.le_of_ble_eq_true rfl) rfl ?_
  intro p e s m below meth c hC hr hlk hin h H locs ls hM hl
  unfold wX9_stands at h
  refine lv_iload_n hC.1 hC.2.1 dX9_stands_0 rfl (lv_at hl 2 rfl) ?_
  refine lv_aload_n hC.1 hC.2.1 dX9_stands_1 rfl (lv_at hl 0 rfl) ?_
  obtain ⟨ok_1, h⟩ := h
  refine mm_gr hC hM (ci := 9) (j := 14) ok_1 rfl (by decide) (by decide) tw_805 rfl dX9_stands_2 ?_
  refine lv_iload_n hC.1 hC.2.1 dX9_stands_5 rfl (lv_at hl 1 rfl) ?_
  obtain ⟨ok_2, h⟩ := h
  refine mm_il hC hM ok_2 dX9_stands_6 ?_
  refine lv_iload_n hC.1 hC.2.1 dX9_stands_7 rfl (lv_at hl 3 rfl) ?_
  refine lv_isub hC.1 hC.2.1 dX9_stands_8 ?_
  refine lv_icmp_ge (tgt := 28) hC.1 hC.2.1 dX9_stands_9 (by decide) (fun c_3 => ?_) (fun c_3 => ?_)
  · have h := h.1 c_3
    refine lv_iconst (v := 0) hC.1 hC.2.1 dX9_stands_28 (by decide) ?_
    exact mm_iret hC hr hlk hM h dX9_stands_29
  · have h := h.2 c_3
    refine lv_aload_n hC.1 hC.2.1 dX9_stands_12 rfl (lv_at hl 0 rfl) ?_
    obtain ⟨ok_4, h⟩ := h
    refine mm_gr hC hM (ci := 9) (j := 15) ⟨ok_1.1, ok_4⟩ rfl (by decide) (by decide) tw_806 rfl dX9_stands_13 ?_
    refine lv_bipush (v := 100) hC.1 hC.2.1 dX9_stands_16 (by decide) ?_
    refine lv_iload_n hC.1 hC.2.1 dX9_stands_18 rfl (lv_at hl 1 rfl) ?_
    refine lv_imul hC.1 hC.2.1 dX9_stands_19 ?_
    refine lv_iload_n hC.1 hC.2.1 dX9_stands_20 rfl (lv_at hl 2 rfl) ?_
    refine lv_iadd hC.1 hC.2.1 dX9_stands_21 ?_
    refine lv_iload_n hC.1 hC.2.1 dX9_stands_22 rfl (lv_at hl 3 rfl) ?_
    refine lv_iadd hC.1 hC.2.1 dX9_stands_23 ?_
    obtain ⟨ok_5, h⟩ := h
    refine mm_il hC hM ok_5 dX9_stands_24 ?_
    refine lv_goto (tgt := 29) hC.1 hC.2.1 dX9_stands_25 (by decide) ?_
    exact mm_iret hC hr hlk hM h dX9_stands_29
set_option maxHeartbeats 4000000 in
set_option maxRecDepth 100000 in
theorem mX9_status (l : Launch) (G : Gt) (b0 : Nat) (S : St) (o : Nat) (K : Int32 → St → Prop) : CI l G b0 S yX9_status cX9_status 1 (some .int) rmX9_status [.ref (b0 + o)] (wX9_status S o K) K := by
  refine met_of (by decide) (Nat.le_of_ble_eq_true rfl) rfl ?_
  intro p e s m below meth c hC hr hlk hin h H locs ls hM hl
  unfold wX9_status at h
  refine lv_aload_n hC.1 hC.2.1 dX9_status_0 rfl (lv_at hl 0 rfl) ?_
  obtain ⟨ok_1, h⟩ := h
  refine mm_gi hC hM (ci := 9) (j := 0) ok_1 rfl (by decide) (by decide) tw_791 rfl dX9_status_1 ?_
  exact mm_iret hC hr hlk hM h dX9_status_4
set_option maxHeartbeats 4000000 in
set_option maxRecDepth 100000 in
theorem qX9_thing_22 {p : Program} {l : Launch} {e : Env} {s : State} {m : MethodId} {args : Array Value} {below : List Frame} {meth : Method} {c : Code} {G : Gt} {b0 : Nat} (hC : CallFix p m c cX9_thing 5 s args lw_g RX9) (hr : meth.sig.returnType = (some .int)) (hlk : meth.locks = false) {K : Int32 → St → Prop} : ∀ (x0 : Nat) (S : St) (H : Heap) (locs : List Loc) (ls : Array Slot), wX9_thing_22 K x0 S → MM G b0 s S H locs → lv_has ls 5 [(0, .ref (b0 + x0))] → W p l e rmX9_thing s m args below meth c H locs 0 0 (MQ below (va_Qi K (ME G b0) (AB b0)) args s 0 0 (AB b0)) (F0 m 22 ls []) := by
  intro x0 S H locs ls h hM hl
  unfold wX9_thing_22 at h
  refine lv_aload_n hC.1 hC.2.1 dX9_thing_22 rfl (lv_at hl 0 rfl) ?_
  refine lv_iconst (v := (-1)) hC.1 hC.2.1 dX9_thing_23 (by decide) ?_
  obtain ⟨ok_3, h⟩ := h
  refine mm_ri hM (mm_V (As := [.int (-1)]) (rest := []) hC hM hl.1 (mX9_tells l G b0 S x0 (-1) _) h (ci := 9) ok_3 rfl rfl kX9_tells tw_868 rfl (by decide) rfl (Nat.le_of_ble_eq_true rfl) dX9_thing_24 (by decide)) (fun r_2 S_1 H locs h hM => ?_)
  exact mm_iret hC hr hlk hM h dX9_thing_27
set_option maxHeartbeats 4000000 in
set_option maxRecDepth 100000 in
theorem qX9_thing_113 {p : Program} {l : Launch} {e : Env} {s : State} {m : MethodId} {args : Array Value} {below : List Frame} {meth : Method} {c : Code} {G : Gt} {b0 : Nat} (hC : CallFix p m c cX9_thing 5 s args lw_g RX9) (hr : meth.sig.returnType = (some .int)) (hlk : meth.locks = false) {K : Int32 → St → Prop} : ∀ (x0 : Nat) (x3 : Int32) (S : St) (H : Heap) (locs : List Loc) (ls : Array Slot), wX9_thing_113 K x0 x3 S → MM G b0 s S H locs → lv_has ls 5 [(0, .ref (b0 + x0)), (3, .int x3)] → W p l e rmX9_thing s m args below meth c H locs 0 0 (MQ below (va_Qi K (ME G b0) (AB b0)) args s 0 0 (AB b0)) (F0 m 113 ls []) := by
  intro x0 x3 S H locs ls h hM hl
  unfold wX9_thing_113 at h
  refine lv_aload_n hC.1 hC.2.1 dX9_thing_113 rfl (lv_at hl 0 rfl) ?_
  refine lv_dup hC.1 hC.2.1 dX9_thing_114 rfl ?_
  obtain ⟨ok_4, h⟩ := h
  refine mm_gi hC hM (ci := 9) (j := 1) ok_4 rfl (by decide) (by decide) tw_792 rfl dX9_thing_115 ?_
  refine lv_iconst (v := 1) hC.1 hC.2.1 dX9_thing_118 (by decide) ?_
  refine lv_iadd hC.1 hC.2.1 dX9_thing_119 ?_
  refine mm_pi hC hM (ci := 9) (j := 1) (ty := .int) ok_4 rfl (by decide) (by decide) tw_792 rfl rfl (by decide +kernel) rfl rfl dX9_thing_120 (fun S_5 H locs eS_5 hM => ?_)
  have h := h S_5 eS_5
  refine lv_aload_n hC.1 hC.2.1 dX9_thing_123 rfl (lv_at hl 0 rfl) ?_
  obtain ⟨ok_8, h⟩ := h
  refine mm_ri hM (mm_V (As := []) (rest := []) hC hM hl.1 (mX9_gathers l G b0 S_5 x0 _) h (ci := 9) ok_8 rfl rfl kX9_gathers tw_761 rfl (by decide) rfl (Nat.le_of_ble_eq_true rfl) dX9_thing_124 (by decide)) (fun r_7 S_6 H locs h hM => ?_)
  refine lv_if_ne (tgt := 152) hC.1 hC.2.1 dX9_thing_127 (by decide) (fun c_9 => ?_) (fun c_9 => ?_)
  · have h := h.2 c_9
    refine lv_aload_n hC.1 hC.2.1 dX9_thing_152 rfl (lv_at hl 0 rfl) ?_
    refine lv_iload_n hC.1 hC.2.1 dX9_thing_153 rfl (lv_at hl 1 rfl) ?_
    obtain ⟨ok_12, h⟩ := h
    refine mm_ri hM (mm_V (As := [.int x3]) (rest := []) hC hM hl.1 (mX9_tells l G b0 S_6 x0 x3 _) h (ci := 9) ok_12 rfl rfl kX9_tells tw_868 rfl (by decide) rfl (Nat.le_of_ble_eq_true rfl) dX9_thing_154 (by decide)) (fun r_11 S_10 H locs h hM => ?_)
    exact mm_iret hC hr hlk hM h dX9_thing_157
  · have h := h.1 c_9
    refine lv_aload_n hC.1 hC.2.1 dX9_thing_130 rfl (lv_at hl 0 rfl) ?_
    refine lv_dup hC.1 hC.2.1 dX9_thing_131 rfl ?_
    obtain ⟨ok_13, h⟩ := h
    refine mm_gi hC hM (ci := 9) (j := 1) ok_13 rfl (by decide) (by decide) tw_792 rfl dX9_thing_132 ?_
    refine lv_iconst (v := 1) hC.1 hC.2.1 dX9_thing_135 (by decide) ?_
    refine lv_isub hC.1 hC.2.1 dX9_thing_136 ?_
    refine mm_pi hC hM (ci := 9) (j := 1) (ty := .int) ok_13 rfl (by decide) (by decide) tw_792 rfl rfl (by decide +kernel) rfl rfl dX9_thing_137 (fun S_14 H locs eS_14 hM => ?_)
    have h := h S_14 eS_14
    refine lv_aload_n hC.1 hC.2.1 dX9_thing_140 rfl (lv_at hl 0 rfl) ?_
    obtain ⟨ok_17, h⟩ := h
    refine mm_ri hM (mm_V (As := []) (rest := []) hC hM hl.1 (mX9_gathers l G b0 S_14 x0 _) h (ci := 9) ok_17 rfl rfl kX9_gathers tw_761 rfl (by decide) rfl (Nat.le_of_ble_eq_true rfl) dX9_thing_141 (by decide)) (fun r_16 S_15 H locs h hM => ?_)
    refine lv_pop hC.1 hC.2.1 dX9_thing_144 rfl ?_
    refine lv_aload_n hC.1 hC.2.1 dX9_thing_145 rfl (lv_at hl 0 rfl) ?_
    refine lv_bipush (v := (-5)) hC.1 hC.2.1 dX9_thing_146 (by decide) ?_
    obtain ⟨ok_20, h⟩ := h
    refine mm_ri hM (mm_V (As := [.int (-5)]) (rest := []) hC hM hl.1 (mX9_tells l G b0 S_15 x0 (-5) _) h (ci := 9) ok_20 rfl rfl kX9_tells tw_868 rfl (by decide) rfl (Nat.le_of_ble_eq_true rfl) dX9_thing_148 (by decide)) (fun r_19 S_18 H locs h hM => ?_)
    exact mm_iret hC hr hlk hM h dX9_thing_151
set_option maxHeartbeats 4000000 in
set_option maxRecDepth 100000 in
theorem qX9_thing_87 {p : Program} {l : Launch} {e : Env} {s : State} {m : MethodId} {args : Array Value} {below : List Frame} {meth : Method} {c : Code} {G : Gt} {b0 : Nat} (hC : CallFix p m c cX9_thing 5 s args lw_g RX9) (hr : meth.sig.returnType = (some .int)) (hlk : meth.locks = false) {K : Int32 → St → Prop} : ∀ (n : Nat) (x0 : Nat) (x3 : Int32) (x4 : Int32) (S : St) (H : Heap) (locs : List Loc) (ls : Array Slot), wX9_thing_87 K n x0 x3 x4 S → MM G b0 s S H locs → lv_has ls 5 [(0, .ref (b0 + x0)), (3, .int x3), (4, .int x4)] → W p l e rmX9_thing s m args below meth c H locs 0 0 (MQ below (va_Qi K (ME G b0) (AB b0)) args s 0 0 (AB b0)) (F0 m 87 ls []) := by
  intro n
  induction n with
  | zero =>
    intro x0 x3 x4 S H locs ls h
    exact False.elim h
  | succ n ih =>
    intro x0 x3 x4 S H locs ls h hM hl
    rw [wX9_thing_87] at h
    refine lv_iload hC.1 hC.2.1 dX9_thing_87 (lv_at hl 2 rfl) ?_
    refine lv_bipush (v := 8) hC.1 hC.2.1 dX9_thing_89 (by decide) ?_
    refine lv_icmp_ge (tgt := 113) hC.1 hC.2.1 dX9_thing_91 (by decide) (fun c_21 => ?_) (fun c_21 => ?_)
    · have h := h.1 c_21
      exact qX9_thing_113 hC hr hlk _ _ _ H locs ls h hM (lv_sub hl [0, 1] rfl)
    · have h := h.2 c_21
      refine lv_aload_n hC.1 hC.2.1 dX9_thing_94 rfl (lv_at hl 0 rfl) ?_
      obtain ⟨ok_22, h⟩ := h
      refine mm_gr hC hM (ci := 9) (j := 10) ok_22 rfl (by decide) (by decide) tw_801 rfl dX9_thing_95 ?_
      refine lv_bipush (v := 12) hC.1 hC.2.1 dX9_thing_98 (by decide) ?_
      refine lv_iload hC.1 hC.2.1 dX9_thing_100 (lv_at hl 2 rfl) ?_
      refine lv_imul hC.1 hC.2.1 dX9_thing_102 ?_
      refine lv_iload_n hC.1 hC.2.1 dX9_thing_103 rfl (lv_at hl 1 rfl) ?_
      refine lv_iadd hC.1 hC.2.1 dX9_thing_104 ?_
      refine lv_iconst (v := 0) hC.1 hC.2.1 dX9_thing_105 (by decide) ?_
      obtain ⟨ok_23, h⟩ := h
      refine mm_is hC hM ok_23 dX9_thing_106 (fun S_24 H locs eS_24 hM => ?_)
      have h := h S_24 eS_24
      obtain ⟨x4_25, ex4_25⟩ : ∃ y : Int32, y = x4 + 1 := ⟨_, rfl⟩
      have h := h x4_25 ex4_25
      refine lv_iinc (v := x4_25) (lv' := [(4, .int x4_25), (0, .ref (b0 + x0)), (3, .int x3)]) hC.1 hC.2.1 dX9_thing_107 hl (k := 2) rfl (by rw [ex4_25]; rfl) (by decide) rfl (fun ls hl => ?_)
      refine lv_goto (tgt := 87) hC.1 hC.2.1 dX9_thing_110 (by decide) ?_
      exact ih _ _ _ _ H locs ls h hM (lv_sub hl [1, 2, 0] rfl)
set_option maxHeartbeats 4000000 in
set_option maxRecDepth 100000 in
theorem mX9_thing (l : Launch) (G : Gt) (b0 : Nat) (S : St) (o : Nat) (x1 : Int32) (x2 : Int32) (K : Int32 → St → Prop) : CI l G b0 S yX9_thing cX9_thing 5 (some .int) rmX9_thing [.ref (b0 + o), .int x1, .int x2] (wX9_thing S o x1 x2 K) K := by
  refine met_of (by decide) (Nat.le_of_ble_eq_true rfl) rfl ?_
  intro p e s m below meth c hC hr hlk hin h H locs ls hM hl
  unfold wX9_thing at h
  refine lv_iload_n hC.1 hC.2.1 dX9_thing_0 rfl (lv_at hl 1 rfl) ?_
  refine lv_iconst (v := 0) hC.1 hC.2.1 dX9_thing_1 (by decide) ?_
  refine lv_sipush (v := 1000) hC.1 hC.2.1 dX9_thing_2 (by decide) ?_
  refine mm_ri hM (mm_S (As := [.int x1, .int 0, .int 1000]) (rest := []) hC hM hl.1 (mX9_in l G b0 S x1 0 1000 _) h kX9_in tw_865 rfl (by decide) rfl (Nat.le_of_ble_eq_true rfl) dX9_thing_5 (by decide)) (fun r_27 S_26 H locs h hM => ?_)
  refine lv_if_eq (tgt := 22) hC.1 hC.2.1 dX9_thing_8 (by decide) (fun c_28 => ?_) (fun c_28 => ?_)
  · have h := h.1 c_28
    exact qX9_thing_22 hC hr hlk _ _ H locs ls h hM (lv_sub hl [0] rfl)
  · have h := h.2 c_28
    refine lv_iload_n hC.1 hC.2.1 dX9_thing_11 rfl (lv_at hl 2 rfl) ?_
    refine lv_iload_n hC.1 hC.2.1 dX9_thing_12 rfl (lv_at hl 1 rfl) ?_
    refine lv_sipush (v := 1000) hC.1 hC.2.1 dX9_thing_13 (by decide) ?_
    refine mm_ri hM (mm_S (As := [.int x2, .int x1, .int 1000]) (rest := []) hC hM hl.1 (mX9_in l G b0 S_26 x2 x1 1000 _) h kX9_in tw_865 rfl (by decide) rfl (Nat.le_of_ble_eq_true rfl) dX9_thing_16 (by decide)) (fun r_30 S_29 H locs h hM => ?_)
    refine lv_if_ne (tgt := 28) hC.1 hC.2.1 dX9_thing_19 (by decide) (fun c_31 => ?_) (fun c_31 => ?_)
    · have h := h.2 c_31
      refine lv_aload_n hC.1 hC.2.1 dX9_thing_28 rfl (lv_at hl 0 rfl) ?_
      obtain ⟨ok_32, h⟩ := h
      refine mm_gi hC hM (ci := 9) (j := 1) ok_32 rfl (by decide) (by decide) tw_792 rfl dX9_thing_29 ?_
      refine lv_bipush (v := 12) hC.1 hC.2.1 dX9_thing_32 (by decide) ?_
      refine lv_icmp_ne (tgt := 44) hC.1 hC.2.1 dX9_thing_34 (by decide) (fun c_33 => ?_) (fun c_33 => ?_)
      · have h := h.2 c_33
        refine lv_aload_n hC.1 hC.2.1 dX9_thing_44 rfl (lv_at hl 0 rfl) ?_
        refine mm_gi hC hM (ci := 9) (j := 1) ok_32 rfl (by decide) (by decide) tw_792 rfl dX9_thing_45 ?_
        refine lv_topi (fun x3_34 ex3_34 => ?_)
        have h := h x3_34 ex3_34
        refine lv_istore_n (lv' := [(3, .int x3_34), (0, .ref (b0 + o)), (1, .int x1), (2, .int x2)]) hC.1 hC.2.1 dX9_thing_48 rfl hl (by decide) rfl (fun ls hl => ?_)
        refine lv_aload_n hC.1 hC.2.1 dX9_thing_49 rfl (lv_at hl 1 rfl) ?_
        obtain ⟨ok_35, h⟩ := h
        refine mm_gr hC hM (ci := 9) (j := 4) ⟨ok_32, ok_35⟩ rfl (by decide) (by decide) tw_795 rfl dX9_thing_50 ?_
        refine lv_iload_n hC.1 hC.2.1 dX9_thing_53 rfl (lv_at hl 0 rfl) ?_
        refine lv_iload_n hC.1 hC.2.1 dX9_thing_54 rfl (lv_at hl 2 rfl) ?_
        obtain ⟨ok_36, h⟩ := h
        refine mm_is hC hM ok_36 dX9_thing_55 (fun S_37 H locs eS_37 hM => ?_)
        have h := h S_37 eS_37
        refine lv_aload_n hC.1 hC.2.1 dX9_thing_56 rfl (lv_at hl 1 rfl) ?_
        obtain ⟨ok_38, h⟩ := h
        refine mm_gr hC hM (ci := 9) (j := 5) ok_38 rfl (by decide) (by decide) tw_796 rfl dX9_thing_57 ?_
        refine lv_iload_n hC.1 hC.2.1 dX9_thing_60 rfl (lv_at hl 0 rfl) ?_
        refine lv_iload_n hC.1 hC.2.1 dX9_thing_61 rfl (lv_at hl 3 rfl) ?_
        obtain ⟨ok_39, h⟩ := h
        refine mm_is hC hM ok_39 dX9_thing_62 (fun S_40 H locs eS_40 hM => ?_)
        have h := h S_40 eS_40
        refine lv_aload_n hC.1 hC.2.1 dX9_thing_63 rfl (lv_at hl 1 rfl) ?_
        obtain ⟨ok_41, h⟩ := h
        refine mm_gr hC hM (ci := 9) (j := 6) ok_41 rfl (by decide) (by decide) tw_797 rfl dX9_thing_64 ?_
        refine lv_iload_n hC.1 hC.2.1 dX9_thing_67 rfl (lv_at hl 0 rfl) ?_
        refine lv_iconst (v := 0) hC.1 hC.2.1 dX9_thing_68 (by decide) ?_
        obtain ⟨ok_42, h⟩ := h
        refine mm_is hC hM ok_42 dX9_thing_69 (fun S_43 H locs eS_43 hM => ?_)
        have h := h S_43 eS_43
        refine lv_aload_n hC.1 hC.2.1 dX9_thing_70 rfl (lv_at hl 1 rfl) ?_
        obtain ⟨ok_44, h⟩ := h
        refine mm_gr hC hM (ci := 9) (j := 7) ok_44 rfl (by decide) (by decide) tw_798 rfl dX9_thing_71 ?_
        refine lv_iload_n hC.1 hC.2.1 dX9_thing_74 rfl (lv_at hl 0 rfl) ?_
        refine lv_iconst (v := 0) hC.1 hC.2.1 dX9_thing_75 (by decide) ?_
        obtain ⟨ok_45, h⟩ := h
        refine mm_is hC hM ok_45 dX9_thing_76 (fun S_46 H locs eS_46 hM => ?_)
        have h := h S_46 eS_46
        refine lv_aload_n hC.1 hC.2.1 dX9_thing_77 rfl (lv_at hl 1 rfl) ?_
        obtain ⟨ok_47, h⟩ := h
        refine mm_gr hC hM (ci := 9) (j := 8) ok_47 rfl (by decide) (by decide) tw_799 rfl dX9_thing_78 ?_
        refine lv_iload_n hC.1 hC.2.1 dX9_thing_81 rfl (lv_at hl 0 rfl) ?_
        refine lv_iconst (v := 0) hC.1 hC.2.1 dX9_thing_82 (by decide) ?_
        obtain ⟨ok_48, h⟩ := h
        refine mm_is hC hM ok_48 dX9_thing_83 (fun S_49 H locs eS_49 hM => ?_)
        have h := h S_49 eS_49
        refine lv_iconst (v := 0) hC.1 hC.2.1 dX9_thing_84 (by decide) ?_
        refine lv_istore (lv' := [(4, .int 0), (3, .int x3_34), (0, .ref (b0 + o)), (1, .int x1), (2, .int x2)]) hC.1 hC.2.1 dX9_thing_85 hl (by decide) rfl (fun ls hl => ?_)
        obtain ⟨n1, h⟩ := h
        exact qX9_thing_87 hC hr hlk n1 _ _ _ _ H locs ls h hM (lv_sub hl [2, 1, 0] rfl)
      · have h := h.1 c_33
        refine lv_aload_n hC.1 hC.2.1 dX9_thing_37 rfl (lv_at hl 0 rfl) ?_
        refine lv_bipush (v := (-5)) hC.1 hC.2.1 dX9_thing_38 (by decide) ?_
        refine mm_ri hM (mm_V (As := [.int (-5)]) (rest := []) hC hM hl.1 (mX9_tells l G b0 S_29 o (-5) _) h (ci := 9) ok_32 rfl rfl kX9_tells tw_868 rfl (by decide) rfl (Nat.le_of_ble_eq_true rfl) dX9_thing_40 (by decide)) (fun r_51 S_50 H locs h hM => ?_)
        exact mm_iret hC hr hlk hM h dX9_thing_43
    · have h := h.1 c_31
      exact qX9_thing_22 hC hr hlk _ _ H locs ls h hM (lv_sub hl [0] rfl)
set_option maxHeartbeats 4000000 in
set_option maxRecDepth 100000 in
theorem mX9_two (l : Launch) (G : Gt) (b0 : Nat) (S : St) (o : Nat) (x1 : Int32) (K : Int32 → St → Prop) : CI l G b0 S yX9_two cX9_two 2 (some .int) rmX9_two [.ref (b0 + o), .int x1] (wX9_two S o x1 K) K := by
  refine met_of (by decide) (Nat.le_of_ble_eq_true rfl) rfl ?_
  intro p e s m below meth c hC hr hlk hin h H locs ls hM hl
  unfold wX9_two at h
  refine lv_aload_n hC.1 hC.2.1 dX9_two_0 rfl (lv_at hl 0 rfl) ?_
  refine lv_iload_n hC.1 hC.2.1 dX9_two_1 rfl (lv_at hl 1 rfl) ?_
  obtain ⟨ok_3, h⟩ := h
  refine mm_ri hM (mm_V (As := [.int x1]) (rest := []) hC hM hl.1 (mX9_isSet l G b0 S o x1 _) h (ci := 9) ok_3 rfl rfl kX9_isSet tw_940 rfl (by decide) rfl (Nat.le_of_ble_eq_true rfl) dX9_two_2 (by decide)) (fun r_2 S_1 H locs h hM => ?_)
  refine lv_if_ne (tgt := 10) hC.1 hC.2.1 dX9_two_5 (by decide) (fun c_4 => ?_) (fun c_4 => ?_)
  · have h := h.2 c_4
    refine lv_aload_n hC.1 hC.2.1 dX9_two_10 rfl (lv_at hl 0 rfl) ?_
    obtain ⟨ok_7, h⟩ := h
    refine mm_ri hM (mm_V (As := []) (rest := []) hC hM hl.1 (mX9_worlds l G b0 S_1 o _) h (ci := 9) ok_7 rfl rfl kX9_worlds tw_908 rfl (by decide) rfl (Nat.le_of_ble_eq_true rfl) dX9_two_11 (by decide)) (fun r_6 S_5 H locs h hM => ?_)
    refine lv_if_ne (tgt := 20) hC.1 hC.2.1 dX9_two_14 (by decide) (fun c_8 => ?_) (fun c_8 => ?_)
    · have h := h.2 c_8
      refine lv_aload_n hC.1 hC.2.1 dX9_two_20 rfl (lv_at hl 0 rfl) ?_
      obtain ⟨ok_9, h⟩ := h
      refine mm_gi hC hM (ci := 9) (j := 11) ok_9 rfl (by decide) (by decide) tw_802 rfl dX9_two_21 ?_
      refine lv_if_ne (tgt := 32) hC.1 hC.2.1 dX9_two_24 (by decide) (fun c_10 => ?_) (fun c_10 => ?_)
      · have h := h.2 c_10
        refine lv_aload_n hC.1 hC.2.1 dX9_two_32 rfl (lv_at hl 0 rfl) ?_
        refine lv_iload_n hC.1 hC.2.1 dX9_two_33 rfl (lv_at hl 1 rfl) ?_
        refine mm_ri hM (mm_V (As := [.int x1]) (rest := []) hC hM hl.1 (mX9_twoOf l G b0 S_5 o x1 _) h (ci := 9) ok_9 rfl rfl kX9_twoOf tw_1065 rfl (by decide) rfl (Nat.le_of_ble_eq_true rfl) dX9_two_34 (by decide)) (fun r_12 S_11 H locs h hM => ?_)
        exact mm_iret hC hr hlk hM h dX9_two_37
      · have h := h.1 c_10
        refine lv_bipush (v := (-6)) hC.1 hC.2.1 dX9_two_27 (by decide) ?_
        refine lv_goto (tgt := 37) hC.1 hC.2.1 dX9_two_29 (by decide) ?_
        exact mm_iret hC hr hlk hM h dX9_two_37
    · have h := h.1 c_8
      refine lv_bipush (v := (-2)) hC.1 hC.2.1 dX9_two_17 (by decide) ?_
      exact mm_iret hC hr hlk hM h dX9_two_19
  · have h := h.1 c_4
    refine lv_iconst (v := (-1)) hC.1 hC.2.1 dX9_two_8 (by decide) ?_
    exact mm_iret hC hr hlk hM h dX9_two_9
set_option maxHeartbeats 4000000 in
set_option maxRecDepth 100000 in
theorem qX9_world_23 {p : Program} {l : Launch} {e : Env} {s : State} {m : MethodId} {args : Array Value} {below : List Frame} {meth : Method} {c : Code} {G : Gt} {b0 : Nat} (hC : CallFix p m c cX9_world 5 s args lw_g RX9) (hr : meth.sig.returnType = (some .int)) (hlk : meth.locks = false) {K : Int32 → St → Prop} : ∀ (x0 : Nat) (S : St) (H : Heap) (locs : List Loc) (ls : Array Slot), wX9_world_23 K x0 S → MM G b0 s S H locs → lv_has ls 5 [(0, .ref (b0 + x0))] → W p l e rmX9_world s m args below meth c H locs 0 0 (MQ below (va_Qi K (ME G b0) (AB b0)) args s 0 0 (AB b0)) (F0 m 23 ls []) := by
  intro x0 S H locs ls h hM hl
  unfold wX9_world_23 at h
  refine lv_aload_n hC.1 hC.2.1 dX9_world_23 rfl (lv_at hl 0 rfl) ?_
  refine lv_iconst (v := (-1)) hC.1 hC.2.1 dX9_world_24 (by decide) ?_
  obtain ⟨ok_3, h⟩ := h
  refine mm_ri hM (mm_V (As := [.int (-1)]) (rest := []) hC hM hl.1 (mX9_tells l G b0 S x0 (-1) _) h (ci := 9) ok_3 rfl rfl kX9_tells tw_868 rfl (by decide) rfl (Nat.le_of_ble_eq_true rfl) dX9_world_25 (by decide)) (fun r_2 S_1 H locs h hM => ?_)
  exact mm_iret hC hr hlk hM h dX9_world_28
set_option maxHeartbeats 4000000 in
set_option maxRecDepth 100000 in
theorem qX9_world_59 {p : Program} {l : Launch} {e : Env} {s : State} {m : MethodId} {args : Array Value} {below : List Frame} {meth : Method} {c : Code} {G : Gt} {b0 : Nat} (hC : CallFix p m c cX9_world 5 s args lw_g RX9) (hr : meth.sig.returnType = (some .int)) (hlk : meth.locks = false) {K : Int32 → St → Prop} : ∀ (x0 : Nat) (S : St) (H : Heap) (locs : List Loc) (ls : Array Slot), wX9_world_59 K x0 S → MM G b0 s S H locs → lv_has ls 5 [(0, .ref (b0 + x0))] → W p l e rmX9_world s m args below meth c H locs 0 0 (MQ below (va_Qi K (ME G b0) (AB b0)) args s 0 0 (AB b0)) (F0 m 59 ls []) := by
  intro x0 S H locs ls h hM hl
  unfold wX9_world_59 at h
  refine lv_aload_n hC.1 hC.2.1 dX9_world_59 rfl (lv_at hl 0 rfl) ?_
  refine lv_iconst (v := (-1)) hC.1 hC.2.1 dX9_world_60 (by decide) ?_
  obtain ⟨ok_6, h⟩ := h
  refine mm_ri hM (mm_V (As := [.int (-1)]) (rest := []) hC hM hl.1 (mX9_tells l G b0 S x0 (-1) _) h (ci := 9) ok_6 rfl rfl kX9_tells tw_868 rfl (by decide) rfl (Nat.le_of_ble_eq_true rfl) dX9_world_61 (by decide)) (fun r_5 S_4 H locs h hM => ?_)
  exact mm_iret hC hr hlk hM h dX9_world_64
set_option maxHeartbeats 4000000 in
set_option maxRecDepth 100000 in
theorem qX9_world_120 {p : Program} {l : Launch} {e : Env} {s : State} {m : MethodId} {args : Array Value} {below : List Frame} {meth : Method} {c : Code} {G : Gt} {b0 : Nat} (hC : CallFix p m c cX9_world 5 s args lw_g RX9) (hr : meth.sig.returnType = (some .int)) (hlk : meth.locks = false) {K : Int32 → St → Prop} {B81 : Nat → Int32 → Int32 → Int32 → Int32 → St → Prop} (hB81 : ∀ (x0 : Nat) (x1 : Int32) (x2 : Int32) (x3 : Int32) (x4 : Int32) (S : St) (H : Heap) (locs : List Loc) (ls : Array Slot), B81 x0 x1 x2 x3 x4 S → MM G b0 s S H locs → lv_has ls 5 [(0, .ref (b0 + x0)), (1, .int x1), (2, .int x2), (3, .int x3), (4, .int x4)] → W p l e rmX9_world s m args below meth c H locs 0 0 (MQ below (va_Qi K (ME G b0) (AB b0)) args s 0 0 (AB b0)) (F0 m 81 ls [])) : ∀ (x0 : Nat) (x1 : Int32) (x2 : Int32) (x3 : Int32) (x4 : Int32) (t0 : Nat) (t1 : Int32) (t2 : Int32) (S : St) (H : Heap) (locs : List Loc) (ls : Array Slot), wX9_world_120 K B81 x0 x1 x2 x3 x4 t0 t1 t2 S → MM G b0 s S H locs → lv_has ls 5 [(0, .ref (b0 + x0)), (1, .int x1), (2, .int x2), (3, .int x3), (4, .int x4)] → W p l e rmX9_world s m args below meth c H locs 0 0 (MQ below (va_Qi K (ME G b0) (AB b0)) args s 0 0 (AB b0)) (F0 m 120 ls [.int t2, .int t1, .ref (b0 + t0)]) := by
  intro x0 x1 x2 x3 x4 t0 t1 t2 S H locs ls h hM hl
  unfold wX9_world_120 at h
  obtain ⟨ok_7, h⟩ := h
  refine mm_is hC hM ok_7 dX9_world_120 (fun S_8 H locs eS_8 hM => ?_)
  have h := h S_8 eS_8
  obtain ⟨x4_9, ex4_9⟩ : ∃ y : Int32, y = x4 + 1 := ⟨_, rfl⟩
  have h := h x4_9 ex4_9
  refine lv_iinc (v := x4_9) (lv' := [(4, .int x4_9), (0, .ref (b0 + x0)), (1, .int x1), (2, .int x2), (3, .int x3)]) hC.1 hC.2.1 dX9_world_121 hl (k := 4) rfl (by rw [ex4_9]; rfl) (by decide) rfl (fun ls hl => ?_)
  refine lv_goto (tgt := 81) hC.1 hC.2.1 dX9_world_124 (by decide) ?_
  exact hB81 _ _ _ _ _ _ H locs ls h hM (lv_sub hl [1, 2, 3, 4, 0] rfl)
set_option maxHeartbeats 4000000 in
set_option maxRecDepth 100000 in
theorem qX9_world_127 {p : Program} {l : Launch} {e : Env} {s : State} {m : MethodId} {args : Array Value} {below : List Frame} {meth : Method} {c : Code} {G : Gt} {b0 : Nat} (hC : CallFix p m c cX9_world 5 s args lw_g RX9) (hr : meth.sig.returnType = (some .int)) (hlk : meth.locks = false) {K : Int32 → St → Prop} : ∀ (x0 : Nat) (S : St) (H : Heap) (locs : List Loc) (ls : Array Slot), wX9_world_127 K x0 S → MM G b0 s S H locs → lv_has ls 5 [(0, .ref (b0 + x0))] → W p l e rmX9_world s m args below meth c H locs 0 0 (MQ below (va_Qi K (ME G b0) (AB b0)) args s 0 0 (AB b0)) (F0 m 127 ls []) := by
  intro x0 S H locs ls h hM hl
  unfold wX9_world_127 at h
  refine lv_aload_n hC.1 hC.2.1 dX9_world_127 rfl (lv_at hl 0 rfl) ?_
  refine lv_aload_n hC.1 hC.2.1 dX9_world_128 rfl (lv_at hl 0 rfl) ?_
  obtain ⟨ok_12, h⟩ := h
  refine mm_ri hM (mm_V (As := []) (rest := [.ref (b0 + x0)]) hC hM hl.1 (mX9_worlds l G b0 S x0 _) h (ci := 9) ok_12 rfl rfl kX9_worlds tw_908 rfl (by decide) rfl (Nat.le_of_ble_eq_true rfl) dX9_world_129 (by decide)) (fun r_11 S_10 H locs h hM => ?_)
  obtain ⟨ok_15, h⟩ := h
  refine mm_ri hM (mm_V (As := [.int r_11]) (rest := []) hC hM hl.1 (mX9_tells l G b0 S_10 x0 r_11 _) h (ci := 9) ok_15 rfl rfl kX9_tells tw_868 rfl (by decide) rfl (Nat.le_of_ble_eq_true rfl) dX9_world_132 (by decide)) (fun r_14 S_13 H locs h hM => ?_)
  exact mm_iret hC hr hlk hM h dX9_world_135
set_option maxHeartbeats 4000000 in
set_option maxRecDepth 100000 in
theorem qX9_world_81 {p : Program} {l : Launch} {e : Env} {s : State} {m : MethodId} {args : Array Value} {below : List Frame} {meth : Method} {c : Code} {G : Gt} {b0 : Nat} (hC : CallFix p m c cX9_world 5 s args lw_g RX9) (hr : meth.sig.returnType = (some .int)) (hlk : meth.locks = false) {K : Int32 → St → Prop} : ∀ (n : Nat) (x0 : Nat) (x1 : Int32) (x2 : Int32) (x3 : Int32) (x4 : Int32) (S : St) (H : Heap) (locs : List Loc) (ls : Array Slot), wX9_world_81 K n x0 x1 x2 x3 x4 S → MM G b0 s S H locs → lv_has ls 5 [(0, .ref (b0 + x0)), (1, .int x1), (2, .int x2), (3, .int x3), (4, .int x4)] → W p l e rmX9_world s m args below meth c H locs 0 0 (MQ below (va_Qi K (ME G b0) (AB b0)) args s 0 0 (AB b0)) (F0 m 81 ls []) := by
  intro n
  induction n with
  | zero =>
    intro x0 x1 x2 x3 x4 S H locs ls h
    exact False.elim h
  | succ n ih =>
    intro x0 x1 x2 x3 x4 S H locs ls h hM hl
    rw [wX9_world_81] at h
    refine lv_iload hC.1 hC.2.1 dX9_world_81 (lv_at hl 4 rfl) ?_
    refine lv_bipush (v := 12) hC.1 hC.2.1 dX9_world_83 (by decide) ?_
    refine lv_icmp_ge (tgt := 127) hC.1 hC.2.1 dX9_world_85 (by decide) (fun c_16 => ?_) (fun c_16 => ?_)
    · have h := h.1 c_16
      exact qX9_world_127 hC hr hlk _ _ H locs ls h hM (lv_sub hl [0] rfl)
    · have h := h.2 c_16
      refine lv_aload_n hC.1 hC.2.1 dX9_world_88 rfl (lv_at hl 0 rfl) ?_
      obtain ⟨ok_17, h⟩ := h
      refine mm_gr hC hM (ci := 9) (j := 10) ok_17 rfl (by decide) (by decide) tw_801 rfl dX9_world_89 ?_
      refine lv_bipush (v := 12) hC.1 hC.2.1 dX9_world_92 (by decide) ?_
      refine lv_iload_n hC.1 hC.2.1 dX9_world_94 rfl (lv_at hl 1 rfl) ?_
      refine lv_imul hC.1 hC.2.1 dX9_world_95 ?_
      refine lv_iload hC.1 hC.2.1 dX9_world_96 (lv_at hl 4 rfl) ?_
      refine lv_iadd hC.1 hC.2.1 dX9_world_98 ?_
      refine lv_iload hC.1 hC.2.1 dX9_world_99 (lv_at hl 4 rfl) ?_
      refine lv_aload_n hC.1 hC.2.1 dX9_world_101 rfl (lv_at hl 0 rfl) ?_
      refine mm_gi hC hM (ci := 9) (j := 1) ok_17.1 rfl (by decide) (by decide) tw_792 rfl dX9_world_102 ?_
      refine lv_icmp_ge (tgt := 119) hC.1 hC.2.1 dX9_world_105 (by decide) (fun c_18 => ?_) (fun c_18 => ?_)
      · have h := h.1 c_18
        refine lv_iconst (v := 0) hC.1 hC.2.1 dX9_world_119 (by decide) ?_
        exact qX9_world_120 hC hr hlk ih _ _ _ _ _ _ _ _ _ H locs ls h hM (lv_sub hl [0, 1, 2, 3, 4] rfl)
      · have h := h.2 c_18
        refine lv_aload_n hC.1 hC.2.1 dX9_world_108 rfl (lv_at hl 0 rfl) ?_
        refine lv_iload_n hC.1 hC.2.1 dX9_world_109 rfl (lv_at hl 2 rfl) ?_
        refine lv_iload_n hC.1 hC.2.1 dX9_world_110 rfl (lv_at hl 3 rfl) ?_
        refine lv_iload hC.1 hC.2.1 dX9_world_111 (lv_at hl 4 rfl) ?_
        refine mm_ri hM (mm_V (As := [.int x2, .int x3, .int x4]) (rest := [.int ((12 * x1) + x4), .ref (b0 + (sR S x0 10))]) hC hM hl.1 (mX9_stands l G b0 S x0 x2 x3 x4 _) h (ci := 9) ok_17.1 rfl rfl kX9_stands tw_904 rfl (by decide) rfl (Nat.le_of_ble_eq_true rfl) dX9_world_113 (by decide)) (fun r_20 S_19 H locs h hM => ?_)
        refine lv_goto (tgt := 120) hC.1 hC.2.1 dX9_world_116 (by decide) ?_
        exact qX9_world_120 hC hr hlk ih _ _ _ _ _ _ _ _ _ H locs ls h hM (lv_sub hl [0, 1, 2, 3, 4] rfl)
set_option maxHeartbeats 4000000 in
set_option maxRecDepth 100000 in
theorem qX9_world_71 {p : Program} {l : Launch} {e : Env} {s : State} {m : MethodId} {args : Array Value} {below : List Frame} {meth : Method} {c : Code} {G : Gt} {b0 : Nat} (hC : CallFix p m c cX9_world 5 s args lw_g RX9) (hr : meth.sig.returnType = (some .int)) (hlk : meth.locks = false) {K : Int32 → St → Prop} : ∀ (x0 : Nat) (x1 : Int32) (x2 : Int32) (x3 : Int32) (S : St) (H : Heap) (locs : List Loc) (ls : Array Slot), wX9_world_71 K x0 x1 x2 x3 S → MM G b0 s S H locs → lv_has ls 5 [(0, .ref (b0 + x0)), (1, .int x1), (2, .int x2), (3, .int x3)] → W p l e rmX9_world s m args below meth c H locs 0 0 (MQ below (va_Qi K (ME G b0) (AB b0)) args s 0 0 (AB b0)) (F0 m 71 ls []) := by
  intro x0 x1 x2 x3 S H locs ls h hM hl
  unfold wX9_world_71 at h
  refine lv_aload_n hC.1 hC.2.1 dX9_world_71 rfl (lv_at hl 0 rfl) ?_
  obtain ⟨ok_21, h⟩ := h
  refine mm_gr hC hM (ci := 9) (j := 9) ok_21 rfl (by decide) (by decide) tw_800 rfl dX9_world_72 ?_
  refine lv_iload_n hC.1 hC.2.1 dX9_world_75 rfl (lv_at hl 1 rfl) ?_
  refine lv_iconst (v := 1) hC.1 hC.2.1 dX9_world_76 (by decide) ?_
  obtain ⟨ok_22, h⟩ := h
  refine mm_zs hC hM ok_22 dX9_world_77 (fun S_23 H locs eS_23 hM => ?_)
  have h := h S_23 eS_23
  refine lv_iconst (v := 0) hC.1 hC.2.1 dX9_world_78 (by decide) ?_
  refine lv_istore (lv' := [(4, .int 0), (0, .ref (b0 + x0)), (1, .int x1), (2, .int x2), (3, .int x3)]) hC.1 hC.2.1 dX9_world_79 hl (by decide) rfl (fun ls hl => ?_)
  obtain ⟨n1, h⟩ := h
  exact qX9_world_81 hC hr hlk n1 _ _ _ _ _ _ H locs ls h hM (lv_sub hl [1, 2, 3, 4, 0] rfl)
set_option maxHeartbeats 4000000 in
set_option maxRecDepth 100000 in
theorem qX9_world_32 {p : Program} {l : Launch} {e : Env} {s : State} {m : MethodId} {args : Array Value} {below : List Frame} {meth : Method} {c : Code} {G : Gt} {b0 : Nat} (hC : CallFix p m c cX9_world 5 s args lw_g RX9) (hr : meth.sig.returnType = (some .int)) (hlk : meth.locks = false) {K : Int32 → St → Prop} : ∀ (n : Nat) (x0 : Nat) (x1 : Int32) (x2 : Int32) (x3 : Int32) (x4 : Int32) (S : St) (H : Heap) (locs : List Loc) (ls : Array Slot), wX9_world_32 K n x0 x1 x2 x3 x4 S → MM G b0 s S H locs → lv_has ls 5 [(0, .ref (b0 + x0)), (1, .int x1), (2, .int x2), (3, .int x3), (4, .int x4)] → W p l e rmX9_world s m args below meth c H locs 0 0 (MQ below (va_Qi K (ME G b0) (AB b0)) args s 0 0 (AB b0)) (F0 m 32 ls []) := by
  intro n
  induction n with
  | zero =>
    intro x0 x1 x2 x3 x4 S H locs ls h
    exact False.elim h
  | succ n ih =>
    intro x0 x1 x2 x3 x4 S H locs ls h hM hl
    rw [wX9_world_32] at h
    refine lv_iload hC.1 hC.2.1 dX9_world_32 (lv_at hl 4 rfl) ?_
    refine lv_aload_n hC.1 hC.2.1 dX9_world_34 rfl (lv_at hl 0 rfl) ?_
    obtain ⟨ok_24, h⟩ := h
    refine mm_gi hC hM (ci := 9) (j := 1) ok_24 rfl (by decide) (by decide) tw_792 rfl dX9_world_35 ?_
    refine lv_icmp_ge (tgt := 71) hC.1 hC.2.1 dX9_world_38 (by decide) (fun c_25 => ?_) (fun c_25 => ?_)
    · have h := h.1 c_25
      exact qX9_world_71 hC hr hlk _ _ _ _ _ H locs ls h hM (lv_sub hl [0, 1, 2, 3] rfl)
    · have h := h.2 c_25
      refine lv_aload_n hC.1 hC.2.1 dX9_world_41 rfl (lv_at hl 0 rfl) ?_
      refine lv_iload_n hC.1 hC.2.1 dX9_world_42 rfl (lv_at hl 2 rfl) ?_
      refine lv_iload_n hC.1 hC.2.1 dX9_world_43 rfl (lv_at hl 3 rfl) ?_
      refine lv_iload hC.1 hC.2.1 dX9_world_44 (lv_at hl 4 rfl) ?_
      refine mm_ri hM (mm_V (As := [.int x2, .int x3, .int x4]) (rest := []) hC hM hl.1 (mX9_stands l G b0 S x0 x2 x3 x4 _) h (ci := 9) ok_24 rfl rfl kX9_stands tw_904 rfl (by decide) rfl (Nat.le_of_ble_eq_true rfl) dX9_world_46 (by decide)) (fun r_27 S_26 H locs h hM => ?_)
      refine lv_iconst (v := 0) hC.1 hC.2.1 dX9_world_49 (by decide) ?_
      refine lv_sipush (v := 1000) hC.1 hC.2.1 dX9_world_50 (by decide) ?_
      refine mm_ri hM (mm_S (As := [.int r_27, .int 0, .int 1000]) (rest := []) hC hM hl.1 (mX9_in l G b0 S_26 r_27 0 1000 _) h kX9_in tw_865 rfl (by decide) rfl (Nat.le_of_ble_eq_true rfl) dX9_world_53 (by decide)) (fun r_29 S_28 H locs h hM => ?_)
      refine lv_if_ne (tgt := 65) hC.1 hC.2.1 dX9_world_56 (by decide) (fun c_30 => ?_) (fun c_30 => ?_)
      · have h := h.2 c_30
        obtain ⟨x4_31, ex4_31⟩ : ∃ y : Int32, y = x4 + 1 := ⟨_, rfl⟩
        have h := h x4_31 ex4_31
        refine lv_iinc (v := x4_31) (lv' := [(4, .int x4_31), (0, .ref (b0 + x0)), (1, .int x1), (2, .int x2), (3, .int x3)]) hC.1 hC.2.1 dX9_world_65 hl (k := 4) rfl (by rw [ex4_31]; rfl) (by decide) rfl (fun ls hl => ?_)
        refine lv_goto (tgt := 32) hC.1 hC.2.1 dX9_world_68 (by decide) ?_
        exact ih _ _ _ _ _ _ H locs ls h hM (lv_sub hl [1, 2, 3, 4, 0] rfl)
      · have h := h.1 c_30
        exact qX9_world_59 hC hr hlk _ _ H locs ls h hM (lv_sub hl [0] rfl)
set_option maxHeartbeats 4000000 in
set_option maxRecDepth 100000 in
theorem mX9_world (l : Launch) (G : Gt) (b0 : Nat) (S : St) (o : Nat) (x1 : Int32) (x2 : Int32) (x3 : Int32) (K : Int32 → St → Prop) : CI l G b0 S yX9_world cX9_world 5 (some .int) rmX9_world [.ref (b0 + o), .int x1, .int x2, .int x3] (wX9_world S o x1 x2 x3 K) K := by
  refine met_of (by decide) (Nat.le_of_ble_eq_true rfl) rfl ?_
  intro p e s m below meth c hC hr hlk hin h H locs ls hM hl
  unfold wX9_world at h
  refine lv_iload_n hC.1 hC.2.1 dX9_world_0 rfl (lv_at hl 1 rfl) ?_
  refine lv_iconst (v := 0) hC.1 hC.2.1 dX9_world_1 (by decide) ?_
  refine lv_bipush (v := 7) hC.1 hC.2.1 dX9_world_2 (by decide) ?_
  refine mm_ri hM (mm_S (As := [.int x1, .int 0, .int 7]) (rest := []) hC hM hl.1 (mX9_in l G b0 S x1 0 7 _) h kX9_in tw_865 rfl (by decide) rfl (Nat.le_of_ble_eq_true rfl) dX9_world_4 (by decide)) (fun r_33 S_32 H locs h hM => ?_)
  refine lv_if_eq (tgt := 23) hC.1 hC.2.1 dX9_world_7 (by decide) (fun c_34 => ?_) (fun c_34 => ?_)
  · have h := h.1 c_34
    exact qX9_world_23 hC hr hlk _ _ H locs ls h hM (lv_sub hl [0] rfl)
  · have h := h.2 c_34
    refine lv_iload_n hC.1 hC.2.1 dX9_world_10 rfl (lv_at hl 2 rfl) ?_
    refine lv_iconst (v := 0) hC.1 hC.2.1 dX9_world_11 (by decide) ?_
    refine lv_iconst (v := 3) hC.1 hC.2.1 dX9_world_12 (by decide) ?_
    refine mm_ri hM (mm_S (As := [.int x2, .int 0, .int 3]) (rest := []) hC hM hl.1 (mX9_in l G b0 S_32 x2 0 3 _) h kX9_in tw_865 rfl (by decide) rfl (Nat.le_of_ble_eq_true rfl) dX9_world_13 (by decide)) (fun r_36 S_35 H locs h hM => ?_)
    refine lv_if_eq (tgt := 23) hC.1 hC.2.1 dX9_world_16 (by decide) (fun c_37 => ?_) (fun c_37 => ?_)
    · have h := h.1 c_37
      exact qX9_world_23 hC hr hlk _ _ H locs ls h hM (lv_sub hl [0] rfl)
    · have h := h.2 c_37
      refine lv_iload_n hC.1 hC.2.1 dX9_world_19 rfl (lv_at hl 3 rfl) ?_
      refine lv_if_ge (tgt := 29) hC.1 hC.2.1 dX9_world_20 (by decide) (fun c_38 => ?_) (fun c_38 => ?_)
      · have h := h.1 c_38
        refine lv_iconst (v := 0) hC.1 hC.2.1 dX9_world_29 (by decide) ?_
        refine lv_istore (lv' := [(4, .int 0), (0, .ref (b0 + o)), (1, .int x1), (2, .int x2), (3, .int x3)]) hC.1 hC.2.1 dX9_world_30 hl (by decide) rfl (fun ls hl => ?_)
        obtain ⟨n1, h⟩ := h
        exact qX9_world_32 hC hr hlk n1 _ _ _ _ _ _ H locs ls h hM (lv_sub hl [1, 2, 3, 4, 0] rfl)
      · have h := h.2 c_38
        exact qX9_world_23 hC hr hlk _ _ H locs ls h hM (lv_sub hl [0] rfl)
set_option maxHeartbeats 4000000 in
set_option maxRecDepth 100000 in
theorem qX9_write_95 {p : Program} {l : Launch} {e : Env} {s : State} {m : MethodId} {args : Array Value} {below : List Frame} {meth : Method} {c : Code} {G : Gt} {b0 : Nat} (hC : CallFix p m c cX9_write 4 s args lw_g RX9) (hr : meth.sig.returnType = (some .int)) (hlk : meth.locks = false) {K : Int32 → St → Prop} : ∀ (x0 : Nat) (t0 : Nat) (t1 : Int32) (t2 : Int32) (S : St) (H : Heap) (locs : List Loc) (ls : Array Slot), wX9_write_95 K x0 t0 t1 t2 S → MM G b0 s S H locs → lv_has ls 4 [(0, .ref (b0 + x0))] → W p l e rmX9_write s m args below meth c H locs 0 0 (MQ below (va_Qi K (ME G b0) (AB b0)) args s 0 0 (AB b0)) (F0 m 95 ls [.int t2, .int t1, .ref (b0 + t0)]) := by
  intro x0 t0 t1 t2 S H locs ls h hM hl
  unfold wX9_write_95 at h
  obtain ⟨ok_1, h⟩ := h
  refine mm_is hC hM ok_1 dX9_write_95 (fun S_2 H locs eS_2 hM => ?_)
  have h := h S_2 eS_2
  refine lv_aload_n hC.1 hC.2.1 dX9_write_96 rfl (lv_at hl 0 rfl) ?_
  refine lv_iconst (v := 0) hC.1 hC.2.1 dX9_write_97 (by decide) ?_
  obtain ⟨ok_5, h⟩ := h
  refine mm_ri hM (mm_V (As := [.int 0]) (rest := []) hC hM hl.1 (mX9_tells l G b0 S_2 x0 0 _) h (ci := 9) ok_5 rfl rfl kX9_tells tw_868 rfl (by decide) rfl (Nat.le_of_ble_eq_true rfl) dX9_write_98 (by decide)) (fun r_4 S_3 H locs h hM => ?_)
  exact mm_iret hC hr hlk hM h dX9_write_101
set_option maxHeartbeats 4000000 in
set_option maxRecDepth 100000 in
theorem mX9_write (l : Launch) (G : Gt) (b0 : Nat) (S : St) (o : Nat) (x1 : Int32) (x2 : Int32) (x3 : Int32) (K : Int32 → St → Prop) : CI l G b0 S yX9_write cX9_write 4 (some .int) rmX9_write [.ref (b0 + o), .int x1, .int x2, .int x3] (wX9_write S o x1 x2 x3 K) K := by
  refine met_of (by decide) (Nat.le_of_ble_eq_true rfl) rfl ?_
  intro p e s m below meth c hC hr hlk hin h H locs ls hM hl
  unfold wX9_write at h
  refine lv_iload_n hC.1 hC.2.1 dX9_write_0 rfl (lv_at hl 1 rfl) ?_
  refine lv_iconst (v := 0) hC.1 hC.2.1 dX9_write_1 (by decide) ?_
  refine lv_iconst (v := 3) hC.1 hC.2.1 dX9_write_2 (by decide) ?_
  refine mm_ri hM (mm_S (As := [.int x1, .int 0, .int 3]) (rest := []) hC hM hl.1 (mX9_in l G b0 S x1 0 3 _) h kX9_in tw_865 rfl (by decide) rfl (Nat.le_of_ble_eq_true rfl) dX9_write_3 (by decide)) (fun r_7 S_6 H locs h hM => ?_)
  refine lv_if_ne (tgt := 15) hC.1 hC.2.1 dX9_write_6 (by decide) (fun c_8 => ?_) (fun c_8 => ?_)
  · have h := h.2 c_8
    refine lv_aload_n hC.1 hC.2.1 dX9_write_15 rfl (lv_at hl 0 rfl) ?_
    obtain ⟨ok_9, h⟩ := h
    refine mm_gr hC hM (ci := 9) (j := 14) ok_9 rfl (by decide) (by decide) tw_805 rfl dX9_write_16 ?_
    refine lv_iload_n hC.1 hC.2.1 dX9_write_19 rfl (lv_at hl 1 rfl) ?_
    obtain ⟨ok_10, h⟩ := h
    refine mm_il hC hM ok_10 dX9_write_20 ?_
    refine lv_iconst (v := (-1)) hC.1 hC.2.1 dX9_write_21 (by decide) ?_
    refine lv_icmp_ne (tgt := 32) hC.1 hC.2.1 dX9_write_22 (by decide) (fun c_11 => ?_) (fun c_11 => ?_)
    · have h := h.2 c_11
      refine lv_iload_n hC.1 hC.2.1 dX9_write_32 rfl (lv_at hl 2 rfl) ?_
      refine lv_iconst (v := 0) hC.1 hC.2.1 dX9_write_33 (by decide) ?_
      refine lv_aload_n hC.1 hC.2.1 dX9_write_34 rfl (lv_at hl 0 rfl) ?_
      refine mm_gr hC hM (ci := 9) (j := 14) ok_9 rfl (by decide) (by decide) tw_805 rfl dX9_write_35 ?_
      refine lv_iload_n hC.1 hC.2.1 dX9_write_38 rfl (lv_at hl 1 rfl) ?_
      refine mm_il hC hM ok_10 dX9_write_39 ?_
      refine lv_iconst (v := 1) hC.1 hC.2.1 dX9_write_40 (by decide) ?_
      refine lv_isub hC.1 hC.2.1 dX9_write_41 ?_
      refine mm_ri hM (mm_S (As := [.int x2, .int 0, .int ((sI S_6 (sR S_6 o 14) (x1 : Int32).toNatClampNeg) - 1)]) (rest := []) hC hM hl.1 (mX9_in l G b0 S_6 x2 0 ((sI S_6 (sR S_6 o 14) (x1 : Int32).toNatClampNeg) - 1) _) h kX9_in tw_865 rfl (by decide) rfl (Nat.le_of_ble_eq_true rfl) dX9_write_42 (by decide)) (fun r_13 S_12 H locs h hM => ?_)
      refine lv_if_ne (tgt := 55) hC.1 hC.2.1 dX9_write_45 (by decide) (fun c_14 => ?_) (fun c_14 => ?_)
      · have h := h.2 c_14
        refine lv_aload_n hC.1 hC.2.1 dX9_write_55 rfl (lv_at hl 0 rfl) ?_
        obtain ⟨ok_15, h⟩ := h
        refine mm_gr hC hM (ci := 9) (j := 15) ok_15 rfl (by decide) (by decide) tw_806 rfl dX9_write_56 ?_
        refine lv_bipush (v := 100) hC.1 hC.2.1 dX9_write_59 (by decide) ?_
        refine lv_iload_n hC.1 hC.2.1 dX9_write_61 rfl (lv_at hl 1 rfl) ?_
        refine lv_imul hC.1 hC.2.1 dX9_write_62 ?_
        refine lv_iload_n hC.1 hC.2.1 dX9_write_63 rfl (lv_at hl 2 rfl) ?_
        refine lv_iadd hC.1 hC.2.1 dX9_write_64 ?_
        refine lv_aload_n hC.1 hC.2.1 dX9_write_65 rfl (lv_at hl 0 rfl) ?_
        obtain ⟨ok_16, h⟩ := h
        refine mm_gr hC hM (ci := 9) (j := 13) ⟨ok_15.1, ok_16⟩ rfl (by decide) (by decide) tw_804 rfl dX9_write_66 ?_
        refine lv_iload_n hC.1 hC.2.1 dX9_write_69 rfl (lv_at hl 1 rfl) ?_
        obtain ⟨ok_17, h⟩ := h
        refine mm_il hC hM ok_17 dX9_write_70 ?_
        refine lv_if_ne (tgt := 79) hC.1 hC.2.1 dX9_write_71 (by decide) (fun c_18 => ?_) (fun c_18 => ?_)
        · have h := h.2 c_18
          refine lv_aload_n hC.1 hC.2.1 dX9_write_79 rfl (lv_at hl 0 rfl) ?_
          refine mm_gr hC hM (ci := 9) (j := 13) ⟨ok_15.1, ok_16⟩ rfl (by decide) (by decide) tw_804 rfl dX9_write_80 ?_
          refine lv_iload_n hC.1 hC.2.1 dX9_write_83 rfl (lv_at hl 1 rfl) ?_
          refine mm_il hC hM ok_17 dX9_write_84 ?_
          refine lv_iconst (v := 1) hC.1 hC.2.1 dX9_write_85 (by decide) ?_
          refine lv_icmp_ne (tgt := 94) hC.1 hC.2.1 dX9_write_86 (by decide) (fun c_19 => ?_) (fun c_19 => ?_)
          · have h := h.2 c_19
            refine lv_iload_n hC.1 hC.2.1 dX9_write_94 rfl (lv_at hl 3 rfl) ?_
            exact qX9_write_95 hC hr hlk _ _ _ _ _ H locs ls h hM (lv_sub hl [0] rfl)
          · have h := h.1 c_19
            refine lv_iload_n hC.1 hC.2.1 dX9_write_89 rfl (lv_at hl 3 rfl) ?_
            refine lv_i2s hC.1 hC.2.1 dX9_write_90 rfl ?_
            refine lv_goto (tgt := 95) hC.1 hC.2.1 dX9_write_91 (by decide) ?_
            exact qX9_write_95 hC hr hlk _ _ _ _ _ H locs ls h hM (lv_sub hl [0] rfl)
        · have h := h.1 c_18
          refine lv_iload_n hC.1 hC.2.1 dX9_write_74 rfl (lv_at hl 3 rfl) ?_
          refine lv_i2b hC.1 hC.2.1 dX9_write_75 rfl ?_
          refine lv_goto (tgt := 95) hC.1 hC.2.1 dX9_write_76 (by decide) ?_
          exact qX9_write_95 hC hr hlk _ _ _ _ _ H locs ls h hM (lv_sub hl [0] rfl)
      · have h := h.1 c_14
        refine lv_aload_n hC.1 hC.2.1 dX9_write_48 rfl (lv_at hl 0 rfl) ?_
        refine lv_bipush (v := (-3)) hC.1 hC.2.1 dX9_write_49 (by decide) ?_
        obtain ⟨ok_22, h⟩ := h
        refine mm_ri hM (mm_V (As := [.int (-3)]) (rest := []) hC hM hl.1 (mX9_tells l G b0 S_12 o (-3) _) h (ci := 9) ok_22 rfl rfl kX9_tells tw_868 rfl (by decide) rfl (Nat.le_of_ble_eq_true rfl) dX9_write_51 (by decide)) (fun r_21 S_20 H locs h hM => ?_)
        exact mm_iret hC hr hlk hM h dX9_write_54
    · have h := h.1 c_11
      refine lv_aload_n hC.1 hC.2.1 dX9_write_25 rfl (lv_at hl 0 rfl) ?_
      refine lv_bipush (v := (-2)) hC.1 hC.2.1 dX9_write_26 (by decide) ?_
      refine mm_ri hM (mm_V (As := [.int (-2)]) (rest := []) hC hM hl.1 (mX9_tells l G b0 S_6 o (-2) _) h (ci := 9) ok_9.1 rfl rfl kX9_tells tw_868 rfl (by decide) rfl (Nat.le_of_ble_eq_true rfl) dX9_write_28 (by decide)) (fun r_24 S_23 H locs h hM => ?_)
      exact mm_iret hC hr hlk hM h dX9_write_31
  · have h := h.1 c_8
    refine lv_aload_n hC.1 hC.2.1 dX9_write_9 rfl (lv_at hl 0 rfl) ?_
    refine lv_iconst (v := (-1)) hC.1 hC.2.1 dX9_write_10 (by decide) ?_
    obtain ⟨ok_27, h⟩ := h
    refine mm_ri hM (mm_V (As := [.int (-1)]) (rest := []) hC hM hl.1 (mX9_tells l G b0 S_6 o (-1) _) h (ci := 9) ok_27 rfl rfl kX9_tells tw_868 rfl (by decide) rfl (Nat.le_of_ble_eq_true rfl) dX9_write_11 (by decide)) (fun r_26 S_25 H locs h hM => ?_)
    exact mm_iret hC hr hlk hM h dX9_write_14
