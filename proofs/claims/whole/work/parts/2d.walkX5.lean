set_option maxHeartbeats 4000000 in
set_option maxRecDepth 100000 in
theorem qX5_fill_70 {p : Program} {l : Launch} {e : Env} {s : State} {m : MethodId} {args : Array Value} {below : List Frame} {meth : Method} {c : Code} {G : Gt} {b0 : Nat} (hC : CallFix p m c cX5_fill 5 s args lw_g RX5) (hr : meth.sig.returnType = none) (hlk : meth.locks = false) {K : St → Prop} {B2 : Nat → Nat → Int32 → St → Prop} (hB2 : ∀ (x0 : Nat) (x1 : Nat) (x2 : Int32) (S : St) (H : Heap) (locs : List Loc) (ls : Array Slot), B2 x0 x1 x2 S → MM G b0 s S H locs → lv_has ls 5 [(0, .ref (b0 + x0)), (1, .ref (b0 + x1)), (2, .int x2)] → W p l e rmX5_fill s m args below meth c H locs 0 0 (MQ below (va_Qv K (ME G b0) (AB b0)) args s 0 0 (AB b0)) (F0 m 2 ls [])) : ∀ (x0 : Nat) (x1 : Nat) (x2 : Int32) (S : St) (H : Heap) (locs : List Loc) (ls : Array Slot), wX5_fill_70 K B2 x0 x1 x2 S → MM G b0 s S H locs → lv_has ls 5 [(0, .ref (b0 + x0)), (1, .ref (b0 + x1)), (2, .int x2)] → W p l e rmX5_fill s m args below meth c H locs 0 0 (MQ below (va_Qv K (ME G b0) (AB b0)) args s 0 0 (AB b0)) (F0 m 70 ls []) := by
  intro x0 x1 x2 S H locs ls h hM hl
  unfold wX5_fill_70 at h
  obtain ⟨x2_1, ex2_1⟩ : ∃ y : Int32, y = x2 + 1 := ⟨_, rfl⟩
  have h := h x2_1 ex2_1
  refine lv_iinc (v := x2_1) (lv' := [(2, .int x2_1), (0, .ref (b0 + x0)), (1, .ref (b0 + x1))]) hC.1 hC.2.1 dX5_fill_70 hl (k := 2) rfl (by rw [ex2_1]; rfl) (by decide) rfl (fun ls hl => ?_)
  refine lv_goto (tgt := 2) hC.1 hC.2.1 dX5_fill_73 (by decide) ?_
  exact hB2 _ _ _ _ H locs ls h hM (lv_sub hl [1, 2, 0] rfl)
set_option maxHeartbeats 4000000 in
set_option maxRecDepth 100000 in
theorem qX5_fill_15 {p : Program} {l : Launch} {e : Env} {s : State} {m : MethodId} {args : Array Value} {below : List Frame} {meth : Method} {c : Code} {G : Gt} {b0 : Nat} (hC : CallFix p m c cX5_fill 5 s args lw_g RX5) (hr : meth.sig.returnType = none) (hlk : meth.locks = false) {K : St → Prop} {B2 : Nat → Nat → Int32 → St → Prop} (hB2 : ∀ (x0 : Nat) (x1 : Nat) (x2 : Int32) (S : St) (H : Heap) (locs : List Loc) (ls : Array Slot), B2 x0 x1 x2 S → MM G b0 s S H locs → lv_has ls 5 [(0, .ref (b0 + x0)), (1, .ref (b0 + x1)), (2, .int x2)] → W p l e rmX5_fill s m args below meth c H locs 0 0 (MQ below (va_Qv K (ME G b0) (AB b0)) args s 0 0 (AB b0)) (F0 m 2 ls [])) : ∀ (n : Nat) (x0 : Nat) (x1 : Nat) (x2 : Int32) (x3 : Int32) (x4 : Int32) (S : St) (H : Heap) (locs : List Loc) (ls : Array Slot), wX5_fill_15 K B2 n x0 x1 x2 x3 x4 S → MM G b0 s S H locs → lv_has ls 5 [(0, .ref (b0 + x0)), (1, .ref (b0 + x1)), (2, .int x2), (3, .int x3), (4, .int x4)] → W p l e rmX5_fill s m args below meth c H locs 0 0 (MQ below (va_Qv K (ME G b0) (AB b0)) args s 0 0 (AB b0)) (F0 m 15 ls []) := by
  intro n
  induction n with
  | zero =>
    intro x0 x1 x2 x3 x4 S H locs ls h
    exact False.elim h
  | succ n ih =>
    intro x0 x1 x2 x3 x4 S H locs ls h hM hl
    rw [wX5_fill_15] at h
    refine lv_iload hC.1 hC.2.1 dX5_fill_15 (lv_at hl 4 rfl) ?_
    refine lv_iload_n hC.1 hC.2.1 dX5_fill_17 rfl (lv_at hl 3 rfl) ?_
    refine lv_icmp_ge (tgt := 70) hC.1 hC.2.1 dX5_fill_18 (by decide) (fun c_2 => ?_) (fun c_2 => ?_)
    · have h := h.1 c_2
      exact qX5_fill_70 hC hr hlk hB2 _ _ _ _ H locs ls h hM (lv_sub hl [0, 1, 2] rfl)
    · have h := h.2 c_2
      refine lv_aload_n hC.1 hC.2.1 dX5_fill_21 rfl (lv_at hl 0 rfl) ?_
      obtain ⟨ok_3, h⟩ := h
      refine mm_gr hC hM (ci := 5) (j := 0) ok_3 rfl (by decide) (by decide) tw_168 rfl dX5_fill_22 ?_
      refine lv_iload hC.1 hC.2.1 dX5_fill_25 (lv_at hl 4 rfl) ?_
      refine lv_iload_n hC.1 hC.2.1 dX5_fill_27 rfl (lv_at hl 3 rfl) ?_
      refine lv_ior hC.1 hC.2.1 dX5_fill_28 ?_
      refine lv_aload_n hC.1 hC.2.1 dX5_fill_29 rfl (lv_at hl 0 rfl) ?_
      refine mm_gr hC hM (ci := 5) (j := 0) ok_3 rfl (by decide) (by decide) tw_168 rfl dX5_fill_30 ?_
      refine lv_iload hC.1 hC.2.1 dX5_fill_33 (lv_at hl 4 rfl) ?_
      obtain ⟨ok_4, h⟩ := h
      refine mm_il hC hM ok_4 dX5_fill_35 ?_
      refine lv_aload_n hC.1 hC.2.1 dX5_fill_36 rfl (lv_at hl 1 rfl) ?_
      refine lv_iload_n hC.1 hC.2.1 dX5_fill_37 rfl (lv_at hl 2 rfl) ?_
      obtain ⟨ok_5, h⟩ := h
      refine mm_il hC hM ok_5 dX5_fill_38 ?_
      refine lv_iadd hC.1 hC.2.1 dX5_fill_39 ?_
      obtain ⟨ok_6, h⟩ := h
      refine mm_is hC hM ok_6 dX5_fill_40 (fun S_7 H locs eS_7 hM => ?_)
      have h := h S_7 eS_7
      refine lv_aload_n hC.1 hC.2.1 dX5_fill_41 rfl (lv_at hl 0 rfl) ?_
      obtain ⟨ok_8, h⟩ := h
      refine mm_gr hC hM (ci := 5) (j := 1) ok_8 rfl (by decide) (by decide) tw_169 rfl dX5_fill_42 ?_
      refine lv_iload hC.1 hC.2.1 dX5_fill_45 (lv_at hl 4 rfl) ?_
      refine lv_iload_n hC.1 hC.2.1 dX5_fill_47 rfl (lv_at hl 3 rfl) ?_
      refine lv_ior hC.1 hC.2.1 dX5_fill_48 ?_
      refine lv_aload_n hC.1 hC.2.1 dX5_fill_49 rfl (lv_at hl 0 rfl) ?_
      refine mm_gr hC hM (ci := 5) (j := 1) ok_8 rfl (by decide) (by decide) tw_169 rfl dX5_fill_50 ?_
      refine lv_iload hC.1 hC.2.1 dX5_fill_53 (lv_at hl 4 rfl) ?_
      obtain ⟨ok_9, h⟩ := h
      refine mm_il hC hM ok_9 dX5_fill_55 ?_
      refine lv_aload_n hC.1 hC.2.1 dX5_fill_56 rfl (lv_at hl 1 rfl) ?_
      refine lv_iload_n hC.1 hC.2.1 dX5_fill_57 rfl (lv_at hl 2 rfl) ?_
      refine lv_bipush (v := 6) hC.1 hC.2.1 dX5_fill_58 (by decide) ?_
      refine lv_iadd hC.1 hC.2.1 dX5_fill_60 ?_
      obtain ⟨ok_10, h⟩ := h
      refine mm_il hC hM ok_10 dX5_fill_61 ?_
      refine lv_iadd hC.1 hC.2.1 dX5_fill_62 ?_
      obtain ⟨ok_11, h⟩ := h
      refine mm_is hC hM ok_11 dX5_fill_63 (fun S_12 H locs eS_12 hM => ?_)
      have h := h S_12 eS_12
      obtain ⟨x4_13, ex4_13⟩ : ∃ y : Int32, y = x4 + 1 := ⟨_, rfl⟩
      have h := h x4_13 ex4_13
      refine lv_iinc (v := x4_13) (lv' := [(4, .int x4_13), (0, .ref (b0 + x0)), (1, .ref (b0 + x1)), (2, .int x2), (3, .int x3)]) hC.1 hC.2.1 dX5_fill_64 hl (k := 4) rfl (by rw [ex4_13]; rfl) (by decide) rfl (fun ls hl => ?_)
      refine lv_goto (tgt := 15) hC.1 hC.2.1 dX5_fill_67 (by decide) ?_
      exact ih _ _ _ _ _ _ H locs ls h hM (lv_sub hl [1, 2, 3, 4, 0] rfl)
set_option maxHeartbeats 4000000 in
set_option maxRecDepth 100000 in
theorem qX5_fill_2 {p : Program} {l : Launch} {e : Env} {s : State} {m : MethodId} {args : Array Value} {below : List Frame} {meth : Method} {c : Code} {G : Gt} {b0 : Nat} (hC : CallFix p m c cX5_fill 5 s args lw_g RX5) (hr : meth.sig.returnType = none) (hlk : meth.locks = false) {K : St → Prop} : ∀ (n : Nat) (x0 : Nat) (x1 : Nat) (x2 : Int32) (S : St) (H : Heap) (locs : List Loc) (ls : Array Slot), wX5_fill_2 K n x0 x1 x2 S → MM G b0 s S H locs → lv_has ls 5 [(0, .ref (b0 + x0)), (1, .ref (b0 + x1)), (2, .int x2)] → W p l e rmX5_fill s m args below meth c H locs 0 0 (MQ below (va_Qv K (ME G b0) (AB b0)) args s 0 0 (AB b0)) (F0 m 2 ls []) := by
  intro n
  induction n with
  | zero =>
    intro x0 x1 x2 S H locs ls h
    exact False.elim h
  | succ n ih =>
    intro x0 x1 x2 S H locs ls h hM hl
    rw [wX5_fill_2] at h
    refine lv_iload_n hC.1 hC.2.1 dX5_fill_2 rfl (lv_at hl 2 rfl) ?_
    refine lv_bipush (v := 6) hC.1 hC.2.1 dX5_fill_3 (by decide) ?_
    refine lv_icmp_ge (tgt := 76) hC.1 hC.2.1 dX5_fill_5 (by decide) (fun c_14 => ?_) (fun c_14 => ?_)
    · have h := h.1 c_14
      exact mm_vret hC hr hlk hM h dX5_fill_76
    · have h := h.2 c_14
      refine lv_iconst (v := 1) hC.1 hC.2.1 dX5_fill_8 (by decide) ?_
      refine lv_iload_n hC.1 hC.2.1 dX5_fill_9 rfl (lv_at hl 2 rfl) ?_
      refine lv_ishl hC.1 hC.2.1 dX5_fill_10 ?_
      refine lv_topi (fun x3_15 ex3_15 => ?_)
      have h := h x3_15 ex3_15
      refine lv_istore_n (lv' := [(3, .int x3_15), (0, .ref (b0 + x0)), (1, .ref (b0 + x1)), (2, .int x2)]) hC.1 hC.2.1 dX5_fill_11 rfl hl (by decide) rfl (fun ls hl => ?_)
      refine lv_iconst (v := 0) hC.1 hC.2.1 dX5_fill_12 (by decide) ?_
      refine lv_istore (lv' := [(4, .int 0), (3, .int x3_15), (0, .ref (b0 + x0)), (1, .ref (b0 + x1)), (2, .int x2)]) hC.1 hC.2.1 dX5_fill_13 hl (by decide) rfl (fun ls hl => ?_)
      obtain ⟨n1, h⟩ := h
      exact qX5_fill_15 hC hr hlk ih n1 _ _ _ _ _ _ H locs ls h hM (lv_sub hl [2, 3, 4, 1, 0] rfl)
set_option maxHeartbeats 4000000 in
set_option maxRecDepth 100000 in
theorem mX5_fill (l : Launch) (G : Gt) (b0 : Nat) (S : St) (o : Nat) (x1 : Nat) (K : St → Prop) : CV l G b0 S yX5_fill cX5_fill 5 none rmX5_fill [.ref (b0 + o), .ref (b0 + x1)] (wX5_fill S o x1 K) K := by
  refine met_of (by decide) (Nat.le_of_ble_eq_true rfl) rfl ?_
  intro p e s m below meth c hC hr hlk hin h H locs ls hM hl
  unfold wX5_fill at h
  refine lv_iconst (v := 0) hC.1 hC.2.1 dX5_fill_0 (by decide) ?_
  refine lv_istore_n (lv' := [(2, .int 0), (0, .ref (b0 + o)), (1, .ref (b0 + x1))]) hC.1 hC.2.1 dX5_fill_1 rfl hl (by decide) rfl (fun ls hl => ?_)
  obtain ⟨n1, h⟩ := h
  exact qX5_fill_2 hC hr hlk n1 _ _ _ _ H locs ls h hM (lv_sub hl [1, 2, 0] rfl)
set_option maxHeartbeats 4000000 in
set_option maxRecDepth 100000 in
theorem mX5_total (l : Launch) (G : Gt) (b0 : Nat) (S : St) (o : Nat) (x1 : Int32) (K : Int32 → St → Prop) : CI l G b0 S yX5_total cX5_total 2 (some .int) rmX5_total [.ref (b0 + o), .int x1] (wX5_total S o x1 K) K := by
  refine met_of (by decide) (Nat.le_of_ble_eq_true rfl) rfl ?_
  intro p e s m below meth c hC hr hlk hin h H locs ls hM hl
  unfold wX5_total at h
  refine lv_aload_n hC.1 hC.2.1 dX5_total_0 rfl (lv_at hl 0 rfl) ?_
  obtain ⟨ok_1, h⟩ := h
  refine mm_gr hC hM (ci := 5) (j := 0) ok_1 rfl (by decide) (by decide) tw_168 rfl dX5_total_1 ?_
  refine lv_iload_n hC.1 hC.2.1 dX5_total_4 rfl (lv_at hl 1 rfl) ?_
  refine lv_bipush (v := 63) hC.1 hC.2.1 dX5_total_5 (by decide) ?_
  refine lv_iand hC.1 hC.2.1 dX5_total_7 ?_
  obtain ⟨ok_2, h⟩ := h
  refine mm_il hC hM ok_2 dX5_total_8 ?_
  refine lv_aload_n hC.1 hC.2.1 dX5_total_9 rfl (lv_at hl 0 rfl) ?_
  obtain ⟨ok_3, h⟩ := h
  refine mm_gr hC hM (ci := 5) (j := 1) ⟨ok_1.1, ok_3⟩ rfl (by decide) (by decide) tw_169 rfl dX5_total_10 ?_
  refine lv_iload_n hC.1 hC.2.1 dX5_total_13 rfl (lv_at hl 1 rfl) ?_
  refine lv_bipush (v := 6) hC.1 hC.2.1 dX5_total_14 (by decide) ?_
  refine lv_ishr hC.1 hC.2.1 dX5_total_16 ?_
  refine lv_bipush (v := 63) hC.1 hC.2.1 dX5_total_17 (by decide) ?_
  refine lv_iand hC.1 hC.2.1 dX5_total_19 ?_
  obtain ⟨ok_4, h⟩ := h
  refine mm_il hC hM ok_4 dX5_total_20 ?_
  refine lv_iadd hC.1 hC.2.1 dX5_total_21 ?_
  exact mm_iret hC hr hlk hM h dX5_total_22
