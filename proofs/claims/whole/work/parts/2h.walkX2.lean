set_option maxHeartbeats 4000000 in
set_option maxRecDepth 100000 in
theorem qX2_cheapestThere_57 {p : Program} {l : Launch} {e : Env} {s : State} {m : MethodId} {args : Array Value} {below : List Frame} {meth : Method} {c : Code} {G : Gt} {b0 : Nat} (hC : CallFix p m c cX2_cheapestThere 3 s args lw_g RX2) (hr : meth.sig.returnType = (some .int)) (hlk : meth.locks = false) {K : Int32 → St → Prop} : ∀ (x0 : Nat) (S : St) (H : Heap) (locs : List Loc) (ls : Array Slot), wX2_cheapestThere_57 K x0 S → MM G b0 s S H locs → lv_has ls 3 [(0, .ref (b0 + x0))] → W p l e rmX2_cheapestThere s m args below meth c H locs 0 0 (MQ below (va_Qi K (ME G b0) (AB b0)) args s 0 0 (AB b0)) (F0 m 57 ls []) := by
  intro x0 S H locs ls h hM hl
  unfold wX2_cheapestThere_57 at h
  refine lv_aload_n hC.1 hC.2.1 dX2_cheapestThere_57 rfl (lv_at hl 0 rfl) ?_
  obtain ⟨ok_1, h⟩ := h
  refine mm_gr hC hM (ci := 2) (j := 3) ok_1 rfl (by decide) (by decide) tw_230 rfl dX2_cheapestThere_58 ?_
  refine lv_aload_n hC.1 hC.2.1 dX2_cheapestThere_61 rfl (lv_at hl 0 rfl) ?_
  obtain ⟨ok_2, h⟩ := h
  refine mm_gr hC hM (ci := 2) (j := 1) ⟨ok_1.1, ok_2⟩ rfl (by decide) (by decide) tw_228 rfl dX2_cheapestThere_62 ?_
  obtain ⟨ok_3, h⟩ := h
  refine mm_gi hC hM (ci := 3) (j := 0) ok_3 rfl (by decide) (by decide) tw_89 rfl dX2_cheapestThere_65 ?_
  refine mm_ri hM (mm_SN (As := [.ref (b0 + (sR S x0 3)), .int (sI S (sR S x0 1) 0)]) (rest := []) hC hM hl.1 (mX8_firstLeast l G b0 S (sR S x0 3) (sI S (sR S x0 1) 0) _) h kX8_firstLeast nn_10 rfl (by decide) rfl (Nat.le_of_ble_eq_true rfl) dX2_cheapestThere_68 (by decide)) (fun r_5 S_4 H locs h hM => ?_)
  exact mm_iret hC hr hlk hM h dX2_cheapestThere_71
set_option maxHeartbeats 4000000 in
set_option maxRecDepth 100000 in
theorem qX2_cheapestThere_18 {p : Program} {l : Launch} {e : Env} {s : State} {m : MethodId} {args : Array Value} {below : List Frame} {meth : Method} {c : Code} {G : Gt} {b0 : Nat} (hC : CallFix p m c cX2_cheapestThere 3 s args lw_g RX2) (hr : meth.sig.returnType = (some .int)) (hlk : meth.locks = false) {K : Int32 → St → Prop} : ∀ (n : Nat) (x0 : Nat) (x2 : Int32) (S : St) (H : Heap) (locs : List Loc) (ls : Array Slot), wX2_cheapestThere_18 K n x0 x2 S → MM G b0 s S H locs → lv_has ls 3 [(0, .ref (b0 + x0)), (2, .int x2)] → W p l e rmX2_cheapestThere s m args below meth c H locs 0 0 (MQ below (va_Qi K (ME G b0) (AB b0)) args s 0 0 (AB b0)) (F0 m 18 ls []) := by
  intro n
  induction n with
  | zero =>
    intro x0 x2 S H locs ls h
    exact False.elim h
  | succ n ih =>
    intro x0 x2 S H locs ls h hM hl
    rw [wX2_cheapestThere_18] at h
    refine lv_iload_n hC.1 hC.2.1 dX2_cheapestThere_18 rfl (lv_at hl 1 rfl) ?_
    refine lv_aload_n hC.1 hC.2.1 dX2_cheapestThere_19 rfl (lv_at hl 0 rfl) ?_
    obtain ⟨ok_6, h⟩ := h
    refine mm_gr hC hM (ci := 2) (j := 1) ok_6 rfl (by decide) (by decide) tw_228 rfl dX2_cheapestThere_20 ?_
    obtain ⟨ok_7, h⟩ := h
    refine mm_gi hC hM (ci := 3) (j := 0) ok_7 rfl (by decide) (by decide) tw_89 rfl dX2_cheapestThere_23 ?_
    refine lv_icmp_ge (tgt := 57) hC.1 hC.2.1 dX2_cheapestThere_26 (by decide) (fun c_8 => ?_) (fun c_8 => ?_)
    · have h := h.1 c_8
      exact qX2_cheapestThere_57 hC hr hlk _ _ H locs ls h hM (lv_sub hl [0] rfl)
    · have h := h.2 c_8
      refine lv_aload_n hC.1 hC.2.1 dX2_cheapestThere_29 rfl (lv_at hl 0 rfl) ?_
      obtain ⟨ok_9, h⟩ := h
      refine mm_gr hC hM (ci := 2) (j := 3) ⟨ok_6.1, ok_9⟩ rfl (by decide) (by decide) tw_230 rfl dX2_cheapestThere_30 ?_
      refine lv_iload_n hC.1 hC.2.1 dX2_cheapestThere_33 rfl (lv_at hl 1 rfl) ?_
      refine lv_aload_n hC.1 hC.2.1 dX2_cheapestThere_34 rfl (lv_at hl 0 rfl) ?_
      obtain ⟨ok_10, h⟩ := h
      refine mm_gr hC hM (ci := 2) (j := 2) ⟨ok_6.1, ok_10⟩ rfl (by decide) (by decide) tw_229 rfl dX2_cheapestThere_35 ?_
      refine lv_aload_n hC.1 hC.2.1 dX2_cheapestThere_38 rfl (lv_at hl 0 rfl) ?_
      refine mm_gr hC hM (ci := 2) (j := 1) ok_6 rfl (by decide) (by decide) tw_228 rfl dX2_cheapestThere_39 ?_
      obtain ⟨ok_11, h⟩ := h
      refine mm_gr hC hM (ci := 3) (j := 1) ⟨ok_7, ok_11⟩ rfl (by decide) (by decide) tw_95 rfl dX2_cheapestThere_42 ?_
      refine lv_iload_n hC.1 hC.2.1 dX2_cheapestThere_45 rfl (lv_at hl 1 rfl) ?_
      obtain ⟨ok_12, h⟩ := h
      refine mm_il hC hM ok_12 dX2_cheapestThere_46 ?_
      obtain ⟨ok_15, h⟩ := h
      refine mm_ri hM (mm_V (As := [.int (sI S (sR S (sR S x0 1) 1) (x2 : Int32).toNatClampNeg)]) (rest := [.int x2, .ref (b0 + (sR S x0 3))]) hC hM hl.1 (mX5_total l G b0 S (sR S x0 2) (sI S (sR S (sR S x0 1) 1) (x2 : Int32).toNatClampNeg) _) h (ci := 5) ok_15 rfl rfl kX5_total tw_612 rfl (by decide) rfl (Nat.le_of_ble_eq_true rfl) dX2_cheapestThere_47 (by decide)) (fun r_14 S_13 H locs h hM => ?_)
      obtain ⟨ok_16, h⟩ := h
      refine mm_is hC hM ok_16 dX2_cheapestThere_50 (fun S_17 H locs eS_17 hM => ?_)
      have h := h S_17 eS_17
      obtain ⟨x2_18, ex2_18⟩ : ∃ y : Int32, y = x2 + 1 := ⟨_, rfl⟩
      have h := h x2_18 ex2_18
      refine lv_iinc (v := x2_18) (lv' := [(2, .int x2_18), (0, .ref (b0 + x0))]) hC.1 hC.2.1 dX2_cheapestThere_51 hl (k := 1) rfl (by rw [ex2_18]; rfl) (by decide) rfl (fun ls hl => ?_)
      refine lv_goto (tgt := 18) hC.1 hC.2.1 dX2_cheapestThere_54 (by decide) ?_
      exact ih _ _ _ H locs ls h hM (lv_sub hl [1, 0] rfl)
set_option maxHeartbeats 4000000 in
set_option maxRecDepth 100000 in
theorem mX2_cheapestThere (l : Launch) (G : Gt) (b0 : Nat) (S : St) (o : Nat) (x1 : Int32) (K : Int32 → St → Prop) : CI l G b0 S yX2_cheapestThere cX2_cheapestThere 3 (some .int) rmX2_cheapestThere [.ref (b0 + o), .int x1] (wX2_cheapestThere S o x1 K) K := by
  refine met_of (by decide) (Nat.le_of_ble_eq_true rfl) rfl ?_
  intro p e s m below meth c hC hr hlk hin h H locs ls hM hl
  unfold wX2_cheapestThere at h
  refine lv_aload_n hC.1 hC.2.1 dX2_cheapestThere_0 rfl (lv_at hl 0 rfl) ?_
  obtain ⟨ok_19, h⟩ := h
  refine mm_gr hC hM (ci := 2) (j := 2) ok_19 rfl (by decide) (by decide) tw_229 rfl dX2_cheapestThere_1 ?_
  refine lv_aload_n hC.1 hC.2.1 dX2_cheapestThere_4 rfl (lv_at hl 0 rfl) ?_
  obtain ⟨ok_20, h⟩ := h
  refine mm_gr hC hM (ci := 2) (j := 0) ⟨ok_19.1, ok_20⟩ rfl (by decide) (by decide) tw_227 rfl dX2_cheapestThere_5 ?_
  obtain ⟨ok_21, h⟩ := h
  refine mm_gr hC hM (ci := 0) (j := 9) ok_21 rfl (by decide) (by decide) tw_56 rfl dX2_cheapestThere_8 ?_
  refine lv_iload_n hC.1 hC.2.1 dX2_cheapestThere_11 rfl (lv_at hl 1 rfl) ?_
  obtain ⟨ok_22, h⟩ := h
  refine mm_al hC hM (t0 := 4) ok_22 (by decide) rfl rfl dX2_cheapestThere_12 ?_
  obtain ⟨ok_25, h⟩ := h
  refine mm_rv hM (mm_V (As := [.ref (b0 + (sR S (sR S (sR S o 0) 9) (x1 : Int32).toNatClampNeg))]) (rest := []) hC hM hl.1 (mX5_fill l G b0 S (sR S o 2) (sR S (sR S (sR S o 0) 9) (x1 : Int32).toNatClampNeg) _) h (ci := 5) ok_25 rfl rfl kX5_fill tw_611 rfl (by decide) rfl (Nat.le_of_ble_eq_true rfl) dX2_cheapestThere_13 (by decide)) (fun S_23 H locs h hM => ?_)
  refine lv_iconst (v := 0) hC.1 hC.2.1 dX2_cheapestThere_16 (by decide) ?_
  refine lv_istore_n (lv' := [(2, .int 0), (0, .ref (b0 + o)), (1, .int x1)]) hC.1 hC.2.1 dX2_cheapestThere_17 rfl hl (by decide) rfl (fun ls hl => ?_)
  obtain ⟨n1, h⟩ := h
  exact qX2_cheapestThere_18 hC hr hlk n1 _ _ _ H locs ls h hM (lv_sub hl [1, 0] rfl)
set_option maxHeartbeats 4000000 in
set_option maxRecDepth 100000 in
theorem qX2_rueThere_8 {p : Program} {l : Launch} {e : Env} {s : State} {m : MethodId} {args : Array Value} {below : List Frame} {meth : Method} {c : Code} {G : Gt} {b0 : Nat} (hC : CallFix p m c cX2_rueThere 4 s args lw_g RX2) (hr : meth.sig.returnType = none) (hlk : meth.locks = false) {K : St → Prop} : ∀ (n : Nat) (x0 : Nat) (x2 : Int32) (x3 : Int32) (S : St) (H : Heap) (locs : List Loc) (ls : Array Slot), wX2_rueThere_8 K n x0 x2 x3 S → MM G b0 s S H locs → lv_has ls 4 [(0, .ref (b0 + x0)), (2, .int x2), (3, .int x3)] → W p l e rmX2_rueThere s m args below meth c H locs 0 0 (MQ below (va_Qv K (ME G b0) (AB b0)) args s 0 0 (AB b0)) (F0 m 8 ls []) := by
  intro n
  induction n with
  | zero =>
    intro x0 x2 x3 S H locs ls h
    exact False.elim h
  | succ n ih =>
    intro x0 x2 x3 S H locs ls h hM hl
    rw [wX2_rueThere_8] at h
    refine lv_iload_n hC.1 hC.2.1 dX2_rueThere_8 rfl (lv_at hl 1 rfl) ?_
    refine lv_iconst (v := (-1)) hC.1 hC.2.1 dX2_rueThere_9 (by decide) ?_
    refine lv_icmp_eq (tgt := 58) hC.1 hC.2.1 dX2_rueThere_10 (by decide) (fun c_1 => ?_) (fun c_1 => ?_)
    · have h := h.1 c_1
      exact mm_vret hC hr hlk hM h dX2_rueThere_58
    · have h := h.2 c_1
      refine lv_iload_n hC.1 hC.2.1 dX2_rueThere_13 rfl (lv_at hl 2 rfl) ?_
      refine lv_aload_n hC.1 hC.2.1 dX2_rueThere_14 rfl (lv_at hl 0 rfl) ?_
      obtain ⟨ok_2, h⟩ := h
      refine mm_gr hC hM (ci := 2) (j := 1) ok_2 rfl (by decide) (by decide) tw_228 rfl dX2_rueThere_15 ?_
      obtain ⟨ok_3, h⟩ := h
      refine mm_gi hC hM (ci := 3) (j := 0) ok_3 rfl (by decide) (by decide) tw_89 rfl dX2_rueThere_18 ?_
      refine lv_icmp_ge (tgt := 58) hC.1 hC.2.1 dX2_rueThere_21 (by decide) (fun c_4 => ?_) (fun c_4 => ?_)
      · have h := h.1 c_4
        exact mm_vret hC hr hlk hM h dX2_rueThere_58
      · have h := h.2 c_4
        refine lv_aload_n hC.1 hC.2.1 dX2_rueThere_24 rfl (lv_at hl 0 rfl) ?_
        obtain ⟨ok_5, h⟩ := h
        refine mm_gr hC hM (ci := 2) (j := 4) ⟨ok_2.1, ok_5⟩ rfl (by decide) (by decide) tw_231 rfl dX2_rueThere_25 ?_
        refine lv_iload_n hC.1 hC.2.1 dX2_rueThere_28 rfl (lv_at hl 2 rfl) ?_
        refine lv_aload_n hC.1 hC.2.1 dX2_rueThere_29 rfl (lv_at hl 0 rfl) ?_
        refine mm_gr hC hM (ci := 2) (j := 4) ⟨ok_2.1, ok_5⟩ rfl (by decide) (by decide) tw_231 rfl dX2_rueThere_30 ?_
        refine lv_iload_n hC.1 hC.2.1 dX2_rueThere_33 rfl (lv_at hl 2 rfl) ?_
        obtain ⟨ok_6, h⟩ := h
        refine mm_il hC hM ok_6 dX2_rueThere_34 ?_
        refine lv_aload_n hC.1 hC.2.1 dX2_rueThere_35 rfl (lv_at hl 0 rfl) ?_
        obtain ⟨ok_7, h⟩ := h
        refine mm_gr hC hM (ci := 2) (j := 3) ⟨ok_2.1, ok_7⟩ rfl (by decide) (by decide) tw_230 rfl dX2_rueThere_36 ?_
        refine lv_iload_n hC.1 hC.2.1 dX2_rueThere_39 rfl (lv_at hl 2 rfl) ?_
        obtain ⟨ok_8, h⟩ := h
        refine mm_il hC hM ok_8 dX2_rueThere_40 ?_
        refine lv_aload_n hC.1 hC.2.1 dX2_rueThere_41 rfl (lv_at hl 0 rfl) ?_
        refine mm_gr hC hM (ci := 2) (j := 3) ⟨ok_2.1, ok_7⟩ rfl (by decide) (by decide) tw_230 rfl dX2_rueThere_42 ?_
        refine lv_iload_n hC.1 hC.2.1 dX2_rueThere_45 rfl (lv_at hl 1 rfl) ?_
        obtain ⟨ok_9, h⟩ := h
        refine mm_il hC hM ok_9 dX2_rueThere_46 ?_
        refine lv_isub hC.1 hC.2.1 dX2_rueThere_47 ?_
        refine va_mmax hC.1 hC.2.1 (hC.2.2.1.trans hl.1.symm) hC.2.2.2.1 (hC.2.2.2.2 _ tw_633) (hC.2.2.2.2 _ tw_634) (hC.2.2.2.2 _ tw_13) (hC.2.2.2.2 _ tw_635) (by decide) (Nat.le_of_ble_eq_true rfl) (by decide) (by decide) dX2_rueThere_48 ?_
        refine mm_is hC hM ok_6 dX2_rueThere_51 (fun S_10 H locs eS_10 hM => ?_)
        have h := h S_10 eS_10
        obtain ⟨x3_11, ex3_11⟩ : ∃ y : Int32, y = x3 + 1 := ⟨_, rfl⟩
        have h := h x3_11 ex3_11
        refine lv_iinc (v := x3_11) (lv' := [(3, .int x3_11), (0, .ref (b0 + x0)), (2, .int x2)]) hC.1 hC.2.1 dX2_rueThere_52 hl (k := 2) rfl (by rw [ex3_11]; rfl) (by decide) rfl (fun ls hl => ?_)
        refine lv_goto (tgt := 8) hC.1 hC.2.1 dX2_rueThere_55 (by decide) ?_
        exact ih _ _ _ _ H locs ls h hM (lv_sub hl [1, 2, 0] rfl)
set_option maxHeartbeats 4000000 in
set_option maxRecDepth 100000 in
theorem mX2_rueThere (l : Launch) (G : Gt) (b0 : Nat) (S : St) (o : Nat) (x1 : Int32) (K : St → Prop) : CV l G b0 S yX2_rueThere cX2_rueThere 4 none rmX2_rueThere [.ref (b0 + o), .int x1] (wX2_rueThere S o x1 K) K := by
  refine met_of (by decide) (Nat.le_of_ble_eq_true rfl) rfl ?_
  intro p e s m below meth c hC hr hlk hin h H locs ls hM hl
  unfold wX2_rueThere at h
  refine lv_aload_n hC.1 hC.2.1 dX2_rueThere_0 rfl (lv_at hl 0 rfl) ?_
  refine lv_iload_n hC.1 hC.2.1 dX2_rueThere_1 rfl (lv_at hl 1 rfl) ?_
  obtain ⟨ok_14, h⟩ := h
  refine mm_ri hM (mm_V (As := [.int x1]) (rest := []) hC hM hl.1 (mX2_cheapestThere l G b0 S o x1 _) h (ci := 2) ok_14 rfl rfl kX2_cheapestThere tw_632 rfl (by decide) rfl (Nat.le_of_ble_eq_true rfl) dX2_rueThere_2 (by decide)) (fun r_13 S_12 H locs h hM => ?_)
  refine lv_istore_n (lv' := [(2, .int r_13), (0, .ref (b0 + o)), (1, .int x1)]) hC.1 hC.2.1 dX2_rueThere_5 rfl hl (by decide) rfl (fun ls hl => ?_)
  refine lv_iconst (v := 0) hC.1 hC.2.1 dX2_rueThere_6 (by decide) ?_
  refine lv_istore_n (lv' := [(3, .int 0), (2, .int r_13), (0, .ref (b0 + o)), (1, .int x1)]) hC.1 hC.2.1 dX2_rueThere_7 rfl hl (by decide) rfl (fun ls hl => ?_)
  obtain ⟨n1, h⟩ := h
  exact qX2_rueThere_8 hC hr hlk n1 _ _ _ _ H locs ls h hM (lv_sub hl [2, 1, 0] rfl)
set_option maxHeartbeats 4000000 in
set_option maxRecDepth 100000 in
theorem qX2_rueAll_32 {p : Program} {l : Launch} {e : Env} {s : State} {m : MethodId} {args : Array Value} {below : List Frame} {meth : Method} {c : Code} {G : Gt} {b0 : Nat} (hC : CallFix p m c cX2_rueAll 2 s args lw_g RX2) (hr : meth.sig.returnType = none) (hlk : meth.locks = false) {K : St → Prop} {B10 : Nat → Int32 → St → Prop} (hB10 : ∀ (x0 : Nat) (x1 : Int32) (S : St) (H : Heap) (locs : List Loc) (ls : Array Slot), B10 x0 x1 S → MM G b0 s S H locs → lv_has ls 2 [(0, .ref (b0 + x0)), (1, .int x1)] → W p l e rmX2_rueAll s m args below meth c H locs 0 0 (MQ below (va_Qv K (ME G b0) (AB b0)) args s 0 0 (AB b0)) (F0 m 10 ls [])) : ∀ (x0 : Nat) (x1 : Int32) (S : St) (H : Heap) (locs : List Loc) (ls : Array Slot), wX2_rueAll_32 K B10 x0 x1 S → MM G b0 s S H locs → lv_has ls 2 [(0, .ref (b0 + x0)), (1, .int x1)] → W p l e rmX2_rueAll s m args below meth c H locs 0 0 (MQ below (va_Qv K (ME G b0) (AB b0)) args s 0 0 (AB b0)) (F0 m 32 ls []) := by
  intro x0 x1 S H locs ls h hM hl
  unfold wX2_rueAll_32 at h
  obtain ⟨x1_1, ex1_1⟩ : ∃ y : Int32, y = x1 + 1 := ⟨_, rfl⟩
  have h := h x1_1 ex1_1
  refine lv_iinc (v := x1_1) (lv' := [(1, .int x1_1), (0, .ref (b0 + x0))]) hC.1 hC.2.1 dX2_rueAll_32 hl (k := 1) rfl (by rw [ex1_1]; rfl) (by decide) rfl (fun ls hl => ?_)
  refine lv_goto (tgt := 10) hC.1 hC.2.1 dX2_rueAll_35 (by decide) ?_
  exact hB10 _ _ _ H locs ls h hM (lv_sub hl [1, 0] rfl)
set_option maxHeartbeats 4000000 in
set_option maxRecDepth 100000 in
theorem qX2_rueAll_10 {p : Program} {l : Launch} {e : Env} {s : State} {m : MethodId} {args : Array Value} {below : List Frame} {meth : Method} {c : Code} {G : Gt} {b0 : Nat} (hC : CallFix p m c cX2_rueAll 2 s args lw_g RX2) (hr : meth.sig.returnType = none) (hlk : meth.locks = false) {K : St → Prop} : ∀ (n : Nat) (x0 : Nat) (x1 : Int32) (S : St) (H : Heap) (locs : List Loc) (ls : Array Slot), wX2_rueAll_10 K n x0 x1 S → MM G b0 s S H locs → lv_has ls 2 [(0, .ref (b0 + x0)), (1, .int x1)] → W p l e rmX2_rueAll s m args below meth c H locs 0 0 (MQ below (va_Qv K (ME G b0) (AB b0)) args s 0 0 (AB b0)) (F0 m 10 ls []) := by
  intro n
  induction n with
  | zero =>
    intro x0 x1 S H locs ls h
    exact False.elim h
  | succ n ih =>
    intro x0 x1 S H locs ls h hM hl
    rw [wX2_rueAll_10] at h
    refine lv_iload_n hC.1 hC.2.1 dX2_rueAll_10 rfl (lv_at hl 1 rfl) ?_
    refine lv_bipush (v := 8) hC.1 hC.2.1 dX2_rueAll_11 (by decide) ?_
    refine lv_icmp_ge (tgt := 38) hC.1 hC.2.1 dX2_rueAll_13 (by decide) (fun c_2 => ?_) (fun c_2 => ?_)
    · have h := h.1 c_2
      exact mm_vret hC hr hlk hM h dX2_rueAll_38
    · have h := h.2 c_2
      refine lv_aload_n hC.1 hC.2.1 dX2_rueAll_16 rfl (lv_at hl 0 rfl) ?_
      obtain ⟨ok_3, h⟩ := h
      refine mm_gr hC hM (ci := 2) (j := 0) ok_3 rfl (by decide) (by decide) tw_227 rfl dX2_rueAll_17 ?_
      refine lv_iload_n hC.1 hC.2.1 dX2_rueAll_20 rfl (lv_at hl 1 rfl) ?_
      obtain ⟨ok_6, h⟩ := h
      refine mm_ri hM (mm_V (As := [.int x1]) (rest := []) hC hM hl.1 (mX0_hasWorld l G b0 S (sR S x0 0) x1 _) h (ci := 0) ok_6 rfl rfl kX0_hasWorld tw_627 rfl (by decide) rfl (Nat.le_of_ble_eq_true rfl) dX2_rueAll_21 (by decide)) (fun r_5 S_4 H locs h hM => ?_)
      refine lv_if_eq (tgt := 32) hC.1 hC.2.1 dX2_rueAll_24 (by decide) (fun c_7 => ?_) (fun c_7 => ?_)
      · have h := h.1 c_7
        exact qX2_rueAll_32 hC hr hlk ih _ _ _ H locs ls h hM (lv_sub hl [0, 1] rfl)
      · have h := h.2 c_7
        refine lv_aload_n hC.1 hC.2.1 dX2_rueAll_27 rfl (lv_at hl 0 rfl) ?_
        refine lv_iload_n hC.1 hC.2.1 dX2_rueAll_28 rfl (lv_at hl 1 rfl) ?_
        obtain ⟨ok_10, h⟩ := h
        refine mm_rv hM (mm_V (As := [.int x1]) (rest := []) hC hM hl.1 (mX2_rueThere l G b0 S_4 x0 x1 _) h (ci := 2) ok_10 rfl rfl kX2_rueThere tw_628 rfl (by decide) rfl (Nat.le_of_ble_eq_true rfl) dX2_rueAll_29 (by decide)) (fun S_8 H locs h hM => ?_)
        exact qX2_rueAll_32 hC hr hlk ih _ _ _ H locs ls h hM (lv_sub hl [0, 1] rfl)
set_option maxHeartbeats 4000000 in
set_option maxRecDepth 100000 in
theorem mX2_rueAll (l : Launch) (G : Gt) (b0 : Nat) (S : St) (o : Nat) (K : St → Prop) : CV l G b0 S yX2_rueAll cX2_rueAll 2 none rmX2_rueAll [.ref (b0 + o)] (wX2_rueAll S o K) K := by
  refine met_of (by decide) (Nat.le_of_ble_eq_true rfl) rfl ?_
  intro p e s m below meth c hC hr hlk hin h H locs ls hM hl
  unfold wX2_rueAll at h
  refine lv_aload_n hC.1 hC.2.1 dX2_rueAll_0 rfl (lv_at hl 0 rfl) ?_
  obtain ⟨ok_11, h⟩ := h
  refine mm_gr hC hM (ci := 2) (j := 4) ok_11 rfl (by decide) (by decide) tw_231 rfl dX2_rueAll_1 ?_
  refine lv_iconst (v := 0) hC.1 hC.2.1 dX2_rueAll_4 (by decide) ?_
  refine mm_rv hM (mm_S (As := [.ref (b0 + (sR S o 4)), .int 0]) (rest := []) hC hM hl.1 (mJ7_fill_53178 l G b0 S (sR S o 4) 0 _) h kJ7_fill_53178 tw_626 rfl (by decide) rfl (Nat.le_of_ble_eq_true rfl) dX2_rueAll_5 (by decide)) (fun S_12 H locs h hM => ?_)
  refine lv_iconst (v := 0) hC.1 hC.2.1 dX2_rueAll_8 (by decide) ?_
  refine lv_istore_n (lv' := [(1, .int 0), (0, .ref (b0 + o))]) hC.1 hC.2.1 dX2_rueAll_9 rfl hl (by decide) rfl (fun ls hl => ?_)
  obtain ⟨n1, h⟩ := h
  exact qX2_rueAll_10 hC hr hlk n1 _ _ _ H locs ls h hM (lv_sub hl [1, 0] rfl)
set_option maxHeartbeats 4000000 in
set_option maxRecDepth 100000 in
theorem mX2_greatestRue (l : Launch) (G : Gt) (b0 : Nat) (S : St) (o : Nat) (x1 : Int32) (K : Int32 → St → Prop) : CI l G b0 S yX2_greatestRue cX2_greatestRue 2 (some .int) rmX2_greatestRue [.ref (b0 + o), .int x1] (wX2_greatestRue S o x1 K) K := by
  refine met_of (by decide) (Nat.le_of_ble_eq_true rfl) rfl ?_
  intro p e s m below meth c hC hr hlk hin h H locs ls hM hl
  unfold wX2_greatestRue at h
  refine lv_aload_n hC.1 hC.2.1 dX2_greatestRue_0 rfl (lv_at hl 0 rfl) ?_
  obtain ⟨ok_3, h⟩ := h
  refine mm_rv hM (mm_V (As := []) (rest := []) hC hM hl.1 (mX2_rueAll l G b0 S o _) h (ci := 2) ok_3 rfl rfl kX2_rueAll tw_622 rfl (by decide) rfl (Nat.le_of_ble_eq_true rfl) dX2_greatestRue_1 (by decide)) (fun S_1 H locs h hM => ?_)
  refine lv_aload_n hC.1 hC.2.1 dX2_greatestRue_4 rfl (lv_at hl 0 rfl) ?_
  obtain ⟨ok_4, h⟩ := h
  refine mm_gr hC hM (ci := 2) (j := 4) ok_4 rfl (by decide) (by decide) tw_231 rfl dX2_greatestRue_5 ?_
  refine lv_iload_n hC.1 hC.2.1 dX2_greatestRue_8 rfl (lv_at hl 1 rfl) ?_
  obtain ⟨ok_5, h⟩ := h
  refine mm_il hC hM ok_5 dX2_greatestRue_9 ?_
  exact mm_iret hC hr hlk hM h dX2_greatestRue_10
set_option maxHeartbeats 4000000 in
set_option maxRecDepth 100000 in
theorem mX2_leastRued (l : Launch) (G : Gt) (b0 : Nat) (S : St) (o : Nat) (K : Int32 → St → Prop) : CI l G b0 S yX2_leastRued cX2_leastRued 1 (some .int) rmX2_leastRued [.ref (b0 + o)] (wX2_leastRued S o K) K := by
  refine met_of (by decide) (Nat.le_of_ble_eq_true rfl) rfl ?_
  intro p e s m below meth c hC hr hlk hin h H locs ls hM hl
  unfold wX2_leastRued at h
  refine lv_aload_n hC.1 hC.2.1 dX2_leastRued_0 rfl (lv_at hl 0 rfl) ?_
  obtain ⟨ok_3, h⟩ := h
  refine mm_rv hM (mm_V (As := []) (rest := []) hC hM hl.1 (mX2_rueAll l G b0 S o _) h (ci := 2) ok_3 rfl rfl kX2_rueAll tw_622 rfl (by decide) rfl (Nat.le_of_ble_eq_true rfl) dX2_leastRued_1 (by decide)) (fun S_1 H locs h hM => ?_)
  refine lv_aload_n hC.1 hC.2.1 dX2_leastRued_4 rfl (lv_at hl 0 rfl) ?_
  obtain ⟨ok_4, h⟩ := h
  refine mm_gr hC hM (ci := 2) (j := 4) ok_4 rfl (by decide) (by decide) tw_231 rfl dX2_leastRued_5 ?_
  refine lv_aload_n hC.1 hC.2.1 dX2_leastRued_8 rfl (lv_at hl 0 rfl) ?_
  obtain ⟨ok_5, h⟩ := h
  refine mm_gr hC hM (ci := 2) (j := 1) ⟨ok_4.1, ok_5⟩ rfl (by decide) (by decide) tw_228 rfl dX2_leastRued_9 ?_
  obtain ⟨ok_6, h⟩ := h
  refine mm_gi hC hM (ci := 3) (j := 0) ok_6 rfl (by decide) (by decide) tw_89 rfl dX2_leastRued_12 ?_
  refine mm_ri hM (mm_SN (As := [.ref (b0 + (sR S_1 o 4)), .int (sI S_1 (sR S_1 o 1) 0)]) (rest := []) hC hM hl.1 (mX8_firstLeast l G b0 S_1 (sR S_1 o 4) (sI S_1 (sR S_1 o 1) 0) _) h kX8_firstLeast nn_10 rfl (by decide) rfl (Nat.le_of_ble_eq_true rfl) dX2_leastRued_15 (by decide)) (fun r_8 S_7 H locs h hM => ?_)
  exact mm_iret hC hr hlk hM h dX2_leastRued_18
