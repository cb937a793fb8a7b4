set_option maxHeartbeats 4000000 in
set_option maxRecDepth 100000 in
theorem qX1_sumUp_113 {p : Program} {l : Launch} {e : Env} {s : State} {m : MethodId} {args : Array Value} {below : List Frame} {meth : Method} {c : Code} {G : Gt} {b0 : Nat} (hC : CallFix p m c cX1_sumUp 2 s args lw_g RX1) (hr : meth.sig.returnType = none) (hlk : meth.locks = false) {K : St → Prop} : ∀ (x0 : Nat) (S : St) (H : Heap) (locs : List Loc) (ls : Array Slot), wX1_sumUp_113 K x0 S → MM G b0 s S H locs → lv_has ls 2 [(0, .ref (b0 + x0))] → W p l e rmX1_sumUp s m args below meth c H locs 0 0 (MQ below (va_Qv K (ME G b0) (AB b0)) args s 0 0 (AB b0)) (F0 m 113 ls []) := by
  intro x0 S H locs ls h hM hl
  unfold wX1_sumUp_113 at h
  refine lv_aload_n hC.1 hC.2.1 dX1_sumUp_113 rfl (lv_at hl 0 rfl) ?_
  refine lv_iconst (v := 1) hC.1 hC.2.1 dX1_sumUp_114 (by decide) ?_
  obtain ⟨ok_1, h⟩ := h
  refine mm_pi hC hM (ci := 1) (j := 8) (ty := .boolean) ok_1 rfl (by decide) (by decide) tw_184 rfl rfl (by decide +kernel) rfl rfl dX1_sumUp_115 (fun S_2 H locs eS_2 hM => ?_)
  have h := h S_2 eS_2
  exact mm_vret hC hr hlk hM h dX1_sumUp_118
set_option maxHeartbeats 4000000 in
set_option maxRecDepth 100000 in
theorem qX1_sumUp_74 {p : Program} {l : Launch} {e : Env} {s : State} {m : MethodId} {args : Array Value} {below : List Frame} {meth : Method} {c : Code} {G : Gt} {b0 : Nat} (hC : CallFix p m c cX1_sumUp 2 s args lw_g RX1) (hr : meth.sig.returnType = none) (hlk : meth.locks = false) {K : St → Prop} : ∀ (n : Nat) (x0 : Nat) (x1 : Int32) (S : St) (H : Heap) (locs : List Loc) (ls : Array Slot), wX1_sumUp_74 K n x0 x1 S → MM G b0 s S H locs → lv_has ls 2 [(0, .ref (b0 + x0)), (1, .int x1)] → W p l e rmX1_sumUp s m args below meth c H locs 0 0 (MQ below (va_Qv K (ME G b0) (AB b0)) args s 0 0 (AB b0)) (F0 m 74 ls []) := by
  intro n
  induction n with
  | zero =>
    intro x0 x1 S H locs ls h
    exact False.elim h
  | succ n ih =>
    intro x0 x1 S H locs ls h hM hl
    rw [wX1_sumUp_74] at h
    refine lv_iload_n hC.1 hC.2.1 dX1_sumUp_74 rfl (lv_at hl 1 rfl) ?_
    refine lv_aload_n hC.1 hC.2.1 dX1_sumUp_75 rfl (lv_at hl 0 rfl) ?_
    obtain ⟨ok_3, h⟩ := h
    refine mm_gr hC hM (ci := 1) (j := 1) ok_3 rfl (by decide) (by decide) tw_177 rfl dX1_sumUp_76 ?_
    obtain ⟨ok_4, h⟩ := h
    refine mm_gi hC hM (ci := 3) (j := 0) ok_4 rfl (by decide) (by decide) tw_90 rfl dX1_sumUp_79 ?_
    refine lv_icmp_ge (tgt := 113) hC.1 hC.2.1 dX1_sumUp_82 (by decide) (fun c_5 => ?_) (fun c_5 => ?_)
    · have h := h.1 c_5
      exact qX1_sumUp_113 hC hr hlk _ _ H locs ls h hM (lv_sub hl [0] rfl)
    · have h := h.2 c_5
      refine lv_aload_n hC.1 hC.2.1 dX1_sumUp_85 rfl (lv_at hl 0 rfl) ?_
      obtain ⟨ok_6, h⟩ := h
      refine mm_gr hC hM (ci := 1) (j := 5) ⟨ok_3.1, ok_6⟩ rfl (by decide) (by decide) tw_181 rfl dX1_sumUp_86 ?_
      refine lv_iload_n hC.1 hC.2.1 dX1_sumUp_89 rfl (lv_at hl 1 rfl) ?_
      refine lv_aload_n hC.1 hC.2.1 dX1_sumUp_90 rfl (lv_at hl 0 rfl) ?_
      obtain ⟨ok_7, h⟩ := h
      refine mm_gr hC hM (ci := 1) (j := 3) ⟨ok_3.1, ok_7⟩ rfl (by decide) (by decide) tw_179 rfl dX1_sumUp_91 ?_
      refine lv_aload_n hC.1 hC.2.1 dX1_sumUp_94 rfl (lv_at hl 0 rfl) ?_
      refine mm_gr hC hM (ci := 1) (j := 1) ok_3 rfl (by decide) (by decide) tw_177 rfl dX1_sumUp_95 ?_
      obtain ⟨ok_8, h⟩ := h
      refine mm_gr hC hM (ci := 3) (j := 1) ⟨ok_4, ok_8⟩ rfl (by decide) (by decide) tw_96 rfl dX1_sumUp_98 ?_
      refine lv_iload_n hC.1 hC.2.1 dX1_sumUp_101 rfl (lv_at hl 1 rfl) ?_
      obtain ⟨ok_9, h⟩ := h
      refine mm_il hC hM ok_9 dX1_sumUp_102 ?_
      obtain ⟨ok_12, h⟩ := h
      refine mm_ri hM (mm_V (As := [.int (sI S (sR S (sR S x0 1) 1) (x1 : Int32).toNatClampNeg)]) (rest := [.int x1, .ref (b0 + (sR S x0 5))]) hC hM hl.1 (mX5_total l G b0 S (sR S x0 3) (sI S (sR S (sR S x0 1) 1) (x1 : Int32).toNatClampNeg) _) h (ci := 5) ok_12 rfl rfl kX5_total tw_489 rfl (by decide) rfl (Nat.le_of_ble_eq_true rfl) dX1_sumUp_103 (by decide)) (fun r_11 S_10 H locs h hM => ?_)
      obtain ⟨ok_13, h⟩ := h
      refine mm_is hC hM ok_13 dX1_sumUp_106 (fun S_14 H locs eS_14 hM => ?_)
      have h := h S_14 eS_14
      obtain ⟨x1_15, ex1_15⟩ : ∃ y : Int32, y = x1 + 1 := ⟨_, rfl⟩
      have h := h x1_15 ex1_15
      refine lv_iinc (v := x1_15) (lv' := [(1, .int x1_15), (0, .ref (b0 + x0))]) hC.1 hC.2.1 dX1_sumUp_107 hl (k := 1) rfl (by rw [ex1_15]; rfl) (by decide) rfl (fun ls hl => ?_)
      refine lv_goto (tgt := 74) hC.1 hC.2.1 dX1_sumUp_110 (by decide) ?_
      exact ih _ _ _ H locs ls h hM (lv_sub hl [1, 0] rfl)
set_option maxHeartbeats 4000000 in
set_option maxRecDepth 100000 in
theorem qX1_sumUp_47 {p : Program} {l : Launch} {e : Env} {s : State} {m : MethodId} {args : Array Value} {below : List Frame} {meth : Method} {c : Code} {G : Gt} {b0 : Nat} (hC : CallFix p m c cX1_sumUp 2 s args lw_g RX1) (hr : meth.sig.returnType = none) (hlk : meth.locks = false) {K : St → Prop} : ∀ (x0 : Nat) (S : St) (H : Heap) (locs : List Loc) (ls : Array Slot), wX1_sumUp_47 K x0 S → MM G b0 s S H locs → lv_has ls 2 [(0, .ref (b0 + x0))] → W p l e rmX1_sumUp s m args below meth c H locs 0 0 (MQ below (va_Qv K (ME G b0) (AB b0)) args s 0 0 (AB b0)) (F0 m 47 ls []) := by
  intro x0 S H locs ls h hM hl
  unfold wX1_sumUp_47 at h
  refine lv_aload_n hC.1 hC.2.1 dX1_sumUp_47 rfl (lv_at hl 0 rfl) ?_
  obtain ⟨ok_16, h⟩ := h
  refine mm_gr hC hM (ci := 1) (j := 3) ok_16 rfl (by decide) (by decide) tw_179 rfl dX1_sumUp_48 ?_
  refine lv_aload_n hC.1 hC.2.1 dX1_sumUp_51 rfl (lv_at hl 0 rfl) ?_
  obtain ⟨ok_17, h⟩ := h
  refine mm_gr hC hM (ci := 1) (j := 0) ⟨ok_16.1, ok_17⟩ rfl (by decide) (by decide) tw_176 rfl dX1_sumUp_52 ?_
  obtain ⟨ok_18, h⟩ := h
  refine mm_gr hC hM (ci := 0) (j := 4) ok_18 rfl (by decide) (by decide) tw_44 rfl dX1_sumUp_55 ?_
  obtain ⟨ok_21, h⟩ := h
  refine mm_rv hM (mm_V (As := [.ref (b0 + (sR S (sR S x0 0) 4))]) (rest := []) hC hM hl.1 (mX5_fill l G b0 S (sR S x0 3) (sR S (sR S x0 0) 4) _) h (ci := 5) ok_21 rfl rfl kX5_fill tw_485 rfl (by decide) rfl (Nat.le_of_ble_eq_true rfl) dX1_sumUp_58 (by decide)) (fun S_19 H locs h hM => ?_)
  refine lv_aload_n hC.1 hC.2.1 dX1_sumUp_61 rfl (lv_at hl 0 rfl) ?_
  obtain ⟨ok_22, h⟩ := h
  refine mm_gr hC hM (ci := 1) (j := 4) ok_22 rfl (by decide) (by decide) tw_180 rfl dX1_sumUp_62 ?_
  refine lv_aload_n hC.1 hC.2.1 dX1_sumUp_65 rfl (lv_at hl 0 rfl) ?_
  obtain ⟨ok_23, h⟩ := h
  refine mm_gr hC hM (ci := 1) (j := 2) ⟨ok_22.1, ok_23⟩ rfl (by decide) (by decide) tw_178 rfl dX1_sumUp_66 ?_
  obtain ⟨ok_26, h⟩ := h
  refine mm_rv hM (mm_V (As := [.ref (b0 + (sR S_19 x0 2))]) (rest := []) hC hM hl.1 (mX5_fill l G b0 S_19 (sR S_19 x0 4) (sR S_19 x0 2) _) h (ci := 5) ok_26 rfl rfl kX5_fill tw_485 rfl (by decide) rfl (Nat.le_of_ble_eq_true rfl) dX1_sumUp_69 (by decide)) (fun S_24 H locs h hM => ?_)
  refine lv_iconst (v := 0) hC.1 hC.2.1 dX1_sumUp_72 (by decide) ?_
  refine lv_istore_n (lv' := [(1, .int 0), (0, .ref (b0 + x0))]) hC.1 hC.2.1 dX1_sumUp_73 rfl hl (by decide) rfl (fun ls hl => ?_)
  obtain ⟨n1, h⟩ := h
  exact qX1_sumUp_74 hC hr hlk n1 _ _ _ H locs ls h hM (lv_sub hl [1, 0] rfl)
set_option maxHeartbeats 4000000 in
set_option maxRecDepth 100000 in
theorem qX1_sumUp_10 {p : Program} {l : Launch} {e : Env} {s : State} {m : MethodId} {args : Array Value} {below : List Frame} {meth : Method} {c : Code} {G : Gt} {b0 : Nat} (hC : CallFix p m c cX1_sumUp 2 s args lw_g RX1) (hr : meth.sig.returnType = none) (hlk : meth.locks = false) {K : St → Prop} : ∀ (n : Nat) (x0 : Nat) (x1 : Int32) (S : St) (H : Heap) (locs : List Loc) (ls : Array Slot), wX1_sumUp_10 K n x0 x1 S → MM G b0 s S H locs → lv_has ls 2 [(0, .ref (b0 + x0)), (1, .int x1)] → W p l e rmX1_sumUp s m args below meth c H locs 0 0 (MQ below (va_Qv K (ME G b0) (AB b0)) args s 0 0 (AB b0)) (F0 m 10 ls []) := by
  intro n
  induction n with
  | zero =>
    intro x0 x1 S H locs ls h
    exact False.elim h
  | succ n ih =>
    intro x0 x1 S H locs ls h hM hl
    rw [wX1_sumUp_10] at h
    refine lv_iload_n hC.1 hC.2.1 dX1_sumUp_10 rfl (lv_at hl 1 rfl) ?_
    refine lv_bipush (v := 12) hC.1 hC.2.1 dX1_sumUp_11 (by decide) ?_
    refine lv_icmp_ge (tgt := 47) hC.1 hC.2.1 dX1_sumUp_13 (by decide) (fun c_27 => ?_) (fun c_27 => ?_)
    · have h := h.1 c_27
      exact qX1_sumUp_47 hC hr hlk _ _ H locs ls h hM (lv_sub hl [0] rfl)
    · have h := h.2 c_27
      refine lv_aload_n hC.1 hC.2.1 dX1_sumUp_16 rfl (lv_at hl 0 rfl) ?_
      obtain ⟨ok_28, h⟩ := h
      refine mm_gr hC hM (ci := 1) (j := 2) ok_28 rfl (by decide) (by decide) tw_178 rfl dX1_sumUp_17 ?_
      refine lv_iload_n hC.1 hC.2.1 dX1_sumUp_20 rfl (lv_at hl 1 rfl) ?_
      refine lv_aload_n hC.1 hC.2.1 dX1_sumUp_21 rfl (lv_at hl 0 rfl) ?_
      obtain ⟨ok_29, h⟩ := h
      refine mm_gr hC hM (ci := 1) (j := 0) ⟨ok_28.1, ok_29⟩ rfl (by decide) (by decide) tw_176 rfl dX1_sumUp_22 ?_
      obtain ⟨ok_30, h⟩ := h
      refine mm_gr hC hM (ci := 0) (j := 5) ok_30 rfl (by decide) (by decide) tw_47 rfl dX1_sumUp_25 ?_
      refine lv_iload_n hC.1 hC.2.1 dX1_sumUp_28 rfl (lv_at hl 1 rfl) ?_
      obtain ⟨ok_31, h⟩ := h
      refine mm_il hC hM ok_31 dX1_sumUp_29 ?_
      refine lv_aload_n hC.1 hC.2.1 dX1_sumUp_30 rfl (lv_at hl 0 rfl) ?_
      refine mm_gr hC hM (ci := 1) (j := 0) ⟨ok_28.1, ok_29⟩ rfl (by decide) (by decide) tw_176 rfl dX1_sumUp_31 ?_
      obtain ⟨ok_32, h⟩ := h
      refine mm_gr hC hM (ci := 0) (j := 4) ⟨ok_30.1, ok_32⟩ rfl (by decide) (by decide) tw_44 rfl dX1_sumUp_34 ?_
      refine lv_iload_n hC.1 hC.2.1 dX1_sumUp_37 rfl (lv_at hl 1 rfl) ?_
      obtain ⟨ok_33, h⟩ := h
      refine mm_il hC hM ok_33 dX1_sumUp_38 ?_
      refine lv_isub hC.1 hC.2.1 dX1_sumUp_39 ?_
      obtain ⟨ok_34, h⟩ := h
      refine mm_is hC hM ok_34 dX1_sumUp_40 (fun S_35 H locs eS_35 hM => ?_)
      have h := h S_35 eS_35
      obtain ⟨x1_36, ex1_36⟩ : ∃ y : Int32, y = x1 + 1 := ⟨_, rfl⟩
      have h := h x1_36 ex1_36
      refine lv_iinc (v := x1_36) (lv' := [(1, .int x1_36), (0, .ref (b0 + x0))]) hC.1 hC.2.1 dX1_sumUp_41 hl (k := 1) rfl (by rw [ex1_36]; rfl) (by decide) rfl (fun ls hl => ?_)
      refine lv_goto (tgt := 10) hC.1 hC.2.1 dX1_sumUp_44 (by decide) ?_
      exact ih _ _ _ H locs ls h hM (lv_sub hl [1, 0] rfl)
set_option maxHeartbeats 4000000 in
set_option maxRecDepth 100000 in
theorem mX1_sumUp (l : Launch) (G : Gt) (b0 : Nat) (S : St) (o : Nat) (K : St → Prop) : CV l G b0 S yX1_sumUp cX1_sumUp 2 none rmX1_sumUp [.ref (b0 + o)] (wX1_sumUp S o K) K := by
  refine met_of (by decide) (Nat.le_of_ble_eq_true rfl) rfl ?_
  intro p e s m below meth c hC hr hlk hin h H locs ls hM hl
  unfold wX1_sumUp at h
  refine lv_aload_n hC.1 hC.2.1 dX1_sumUp_0 rfl (lv_at hl 0 rfl) ?_
  obtain ⟨ok_37, h⟩ := h
  refine mm_gi hC hM (ci := 1) (j := 8) ok_37 rfl (by decide) (by decide) tw_184 rfl dX1_sumUp_1 ?_
  refine lv_if_eq (tgt := 8) hC.1 hC.2.1 dX1_sumUp_4 (by decide) (fun c_38 => ?_) (fun c_38 => ?_)
  · have h := h.1 c_38
    refine lv_iconst (v := 0) hC.1 hC.2.1 dX1_sumUp_8 (by decide) ?_
    refine lv_istore_n (lv' := [(1, .int 0), (0, .ref (b0 + o))]) hC.1 hC.2.1 dX1_sumUp_9 rfl hl (by decide) rfl (fun ls hl => ?_)
    obtain ⟨n1, h⟩ := h
    exact qX1_sumUp_10 hC hr hlk n1 _ _ _ H locs ls h hM (lv_sub hl [1, 0] rfl)
  · have h := h.2 c_38
    exact mm_vret hC hr hlk hM h dX1_sumUp_7
set_option maxHeartbeats 4000000 in
set_option maxRecDepth 100000 in
theorem qX1_cheapestAt_54 {p : Program} {l : Launch} {e : Env} {s : State} {m : MethodId} {args : Array Value} {below : List Frame} {meth : Method} {c : Code} {G : Gt} {b0 : Nat} (hC : CallFix p m c cX1_cheapestAt 3 s args lw_g RX1) (hr : meth.sig.returnType = (some .int)) (hlk : meth.locks = false) {K : Int32 → St → Prop} : ∀ (x0 : Nat) (S : St) (H : Heap) (locs : List Loc) (ls : Array Slot), wX1_cheapestAt_54 K x0 S → MM G b0 s S H locs → lv_has ls 3 [(0, .ref (b0 + x0))] → W p l e rmX1_cheapestAt s m args below meth c H locs 0 0 (MQ below (va_Qi K (ME G b0) (AB b0)) args s 0 0 (AB b0)) (F0 m 54 ls []) := by
  intro x0 S H locs ls h hM hl
  unfold wX1_cheapestAt_54 at h
  refine lv_aload_n hC.1 hC.2.1 dX1_cheapestAt_54 rfl (lv_at hl 0 rfl) ?_
  obtain ⟨ok_1, h⟩ := h
  refine mm_gr hC hM (ci := 1) (j := 7) ok_1 rfl (by decide) (by decide) tw_183 rfl dX1_cheapestAt_55 ?_
  refine lv_aload_n hC.1 hC.2.1 dX1_cheapestAt_58 rfl (lv_at hl 0 rfl) ?_
  obtain ⟨ok_2, h⟩ := h
  refine mm_gr hC hM (ci := 1) (j := 1) ⟨ok_1.1, ok_2⟩ rfl (by decide) (by decide) tw_177 rfl dX1_cheapestAt_59 ?_
  obtain ⟨ok_3, h⟩ := h
  refine mm_gi hC hM (ci := 3) (j := 0) ok_3 rfl (by decide) (by decide) tw_90 rfl dX1_cheapestAt_62 ?_
  refine mm_ri hM (mm_SN (As := [.ref (b0 + (sR S x0 7)), .int (sI S (sR S x0 1) 0)]) (rest := []) hC hM hl.1 (mX8_firstLeast l G b0 S (sR S x0 7) (sI S (sR S x0 1) 0) _) h kX8_firstLeast nn_9 rfl (by decide) rfl (Nat.le_of_ble_eq_true rfl) dX1_cheapestAt_65 (by decide)) (fun r_5 S_4 H locs h hM => ?_)
  exact mm_iret hC hr hlk hM h dX1_cheapestAt_68
set_option maxHeartbeats 4000000 in
set_option maxRecDepth 100000 in
theorem qX1_cheapestAt_6 {p : Program} {l : Launch} {e : Env} {s : State} {m : MethodId} {args : Array Value} {below : List Frame} {meth : Method} {c : Code} {G : Gt} {b0 : Nat} (hC : CallFix p m c cX1_cheapestAt 3 s args lw_g RX1) (hr : meth.sig.returnType = (some .int)) (hlk : meth.locks = false) {K : Int32 → St → Prop} : ∀ (n : Nat) (x0 : Nat) (x1 : Int32) (x2 : Int32) (S : St) (H : Heap) (locs : List Loc) (ls : Array Slot), wX1_cheapestAt_6 K n x0 x1 x2 S → MM G b0 s S H locs → lv_has ls 3 [(0, .ref (b0 + x0)), (1, .int x1), (2, .int x2)] → W p l e rmX1_cheapestAt s m args below meth c H locs 0 0 (MQ below (va_Qi K (ME G b0) (AB b0)) args s 0 0 (AB b0)) (F0 m 6 ls []) := by
  intro n
  induction n with
  | zero =>
    intro x0 x1 x2 S H locs ls h
    exact False.elim h
  | succ n ih =>
    intro x0 x1 x2 S H locs ls h hM hl
    rw [wX1_cheapestAt_6] at h
    refine lv_iload_n hC.1 hC.2.1 dX1_cheapestAt_6 rfl (lv_at hl 2 rfl) ?_
    refine lv_aload_n hC.1 hC.2.1 dX1_cheapestAt_7 rfl (lv_at hl 0 rfl) ?_
    obtain ⟨ok_6, h⟩ := h
    refine mm_gr hC hM (ci := 1) (j := 1) ok_6 rfl (by decide) (by decide) tw_177 rfl dX1_cheapestAt_8 ?_
    obtain ⟨ok_7, h⟩ := h
    refine mm_gi hC hM (ci := 3) (j := 0) ok_7 rfl (by decide) (by decide) tw_90 rfl dX1_cheapestAt_11 ?_
    refine lv_icmp_ge (tgt := 54) hC.1 hC.2.1 dX1_cheapestAt_14 (by decide) (fun c_8 => ?_) (fun c_8 => ?_)
    · have h := h.1 c_8
      exact qX1_cheapestAt_54 hC hr hlk _ _ H locs ls h hM (lv_sub hl [0] rfl)
    · have h := h.2 c_8
      refine lv_aload_n hC.1 hC.2.1 dX1_cheapestAt_17 rfl (lv_at hl 0 rfl) ?_
      obtain ⟨ok_9, h⟩ := h
      refine mm_gr hC hM (ci := 1) (j := 7) ⟨ok_6.1, ok_9⟩ rfl (by decide) (by decide) tw_183 rfl dX1_cheapestAt_18 ?_
      refine lv_iload_n hC.1 hC.2.1 dX1_cheapestAt_21 rfl (lv_at hl 2 rfl) ?_
      refine lv_aload_n hC.1 hC.2.1 dX1_cheapestAt_22 rfl (lv_at hl 0 rfl) ?_
      obtain ⟨ok_10, h⟩ := h
      refine mm_gr hC hM (ci := 1) (j := 5) ⟨ok_6.1, ok_10⟩ rfl (by decide) (by decide) tw_181 rfl dX1_cheapestAt_23 ?_
      refine lv_iload_n hC.1 hC.2.1 dX1_cheapestAt_26 rfl (lv_at hl 2 rfl) ?_
      obtain ⟨ok_11, h⟩ := h
      refine mm_il hC hM ok_11 dX1_cheapestAt_27 ?_
      refine lv_aload_n hC.1 hC.2.1 dX1_cheapestAt_28 rfl (lv_at hl 0 rfl) ?_
      obtain ⟨ok_12, h⟩ := h
      refine mm_gr hC hM (ci := 1) (j := 4) ⟨ok_6.1, ok_12⟩ rfl (by decide) (by decide) tw_180 rfl dX1_cheapestAt_29 ?_
      refine lv_aload_n hC.1 hC.2.1 dX1_cheapestAt_32 rfl (lv_at hl 0 rfl) ?_
      refine mm_gr hC hM (ci := 1) (j := 1) ok_6 rfl (by decide) (by decide) tw_177 rfl dX1_cheapestAt_33 ?_
      obtain ⟨ok_13, h⟩ := h
      refine mm_gr hC hM (ci := 3) (j := 1) ⟨ok_7, ok_13⟩ rfl (by decide) (by decide) tw_96 rfl dX1_cheapestAt_36 ?_
      refine lv_iload_n hC.1 hC.2.1 dX1_cheapestAt_39 rfl (lv_at hl 2 rfl) ?_
      obtain ⟨ok_14, h⟩ := h
      refine mm_il hC hM ok_14 dX1_cheapestAt_40 ?_
      refine lv_iload_n hC.1 hC.2.1 dX1_cheapestAt_41 rfl (lv_at hl 1 rfl) ?_
      refine lv_iand hC.1 hC.2.1 dX1_cheapestAt_42 ?_
      obtain ⟨ok_17, h⟩ := h
      refine mm_ri hM (mm_V (As := [.int ((sI S (sR S (sR S x0 1) 1) (x2 : Int32).toNatClampNeg) &&& x1)]) (rest := [.int (sI S (sR S x0 5) (x2 : Int32).toNatClampNeg), .int x2, .ref (b0 + (sR S x0 7))]) hC hM hl.1 (mX5_total l G b0 S (sR S x0 4) ((sI S (sR S (sR S x0 1) 1) (x2 : Int32).toNatClampNeg) &&& x1) _) h (ci := 5) ok_17 rfl rfl kX5_total tw_489 rfl (by decide) rfl (Nat.le_of_ble_eq_true rfl) dX1_cheapestAt_43 (by decide)) (fun r_16 S_15 H locs h hM => ?_)
      refine lv_iadd hC.1 hC.2.1 dX1_cheapestAt_46 ?_
      obtain ⟨ok_18, h⟩ := h
      refine mm_is hC hM ok_18 dX1_cheapestAt_47 (fun S_19 H locs eS_19 hM => ?_)
      have h := h S_19 eS_19
      obtain ⟨x2_20, ex2_20⟩ : ∃ y : Int32, y = x2 + 1 := ⟨_, rfl⟩
      have h := h x2_20 ex2_20
      refine lv_iinc (v := x2_20) (lv' := [(2, .int x2_20), (0, .ref (b0 + x0)), (1, .int x1)]) hC.1 hC.2.1 dX1_cheapestAt_48 hl (k := 2) rfl (by rw [ex2_20]; rfl) (by decide) rfl (fun ls hl => ?_)
      refine lv_goto (tgt := 6) hC.1 hC.2.1 dX1_cheapestAt_51 (by decide) ?_
      exact ih _ _ _ _ H locs ls h hM (lv_sub hl [1, 2, 0] rfl)
set_option maxHeartbeats 4000000 in
set_option maxRecDepth 100000 in
theorem mX1_cheapestAt (l : Launch) (G : Gt) (b0 : Nat) (S : St) (o : Nat) (x1 : Int32) (K : Int32 → St → Prop) : CI l G b0 S yX1_cheapestAt cX1_cheapestAt 3 (some .int) rmX1_cheapestAt [.ref (b0 + o), .int x1] (wX1_cheapestAt S o x1 K) K := by
  refine met_of (by decide) (Nat.le_of_ble_eq_true rfl) rfl ?_
  intro p e s m below meth c hC hr hlk hin h H locs ls hM hl
  unfold wX1_cheapestAt at h
  refine lv_aload_n hC.1 hC.2.1 dX1_cheapestAt_0 rfl (lv_at hl 0 rfl) ?_
  obtain ⟨ok_23, h⟩ := h
  refine mm_rv hM (mm_V (As := []) (rest := []) hC hM hl.1 (mX1_sumUp l G b0 S o _) h (ci := 1) ok_23 rfl rfl kX1_sumUp tw_481 rfl (by decide) rfl (Nat.le_of_ble_eq_true rfl) dX1_cheapestAt_1 (by decide)) (fun S_21 H locs h hM => ?_)
  refine lv_iconst (v := 0) hC.1 hC.2.1 dX1_cheapestAt_4 (by decide) ?_
  refine lv_istore_n (lv' := [(2, .int 0), (0, .ref (b0 + o)), (1, .int x1)]) hC.1 hC.2.1 dX1_cheapestAt_5 rfl hl (by decide) rfl (fun ls hl => ?_)
  obtain ⟨n1, h⟩ := h
  exact qX1_cheapestAt_6 hC hr hlk n1 _ _ _ _ H locs ls h hM (lv_sub hl [1, 2, 0] rfl)
set_option maxHeartbeats 4000000 in
set_option maxRecDepth 100000 in
theorem qX1_cheapestAtMiddles_54 {p : Program} {l : Launch} {e : Env} {s : State} {m : MethodId} {args : Array Value} {below : List Frame} {meth : Method} {c : Code} {G : Gt} {b0 : Nat} (hC : CallFix p m c cX1_cheapestAtMiddles 2 s args lw_g RX1) (hr : meth.sig.returnType = (some .int)) (hlk : meth.locks = false) {K : Int32 → St → Prop} : ∀ (x0 : Nat) (S : St) (H : Heap) (locs : List Loc) (ls : Array Slot), wX1_cheapestAtMiddles_54 K x0 S → MM G b0 s S H locs → lv_has ls 2 [(0, .ref (b0 + x0))] → W p l e rmX1_cheapestAtMiddles s m args below meth c H locs 0 0 (MQ below (va_Qi K (ME G b0) (AB b0)) args s 0 0 (AB b0)) (F0 m 54 ls []) := by
  intro x0 S H locs ls h hM hl
  unfold wX1_cheapestAtMiddles_54 at h
  refine lv_aload_n hC.1 hC.2.1 dX1_cheapestAtMiddles_54 rfl (lv_at hl 0 rfl) ?_
  obtain ⟨ok_1, h⟩ := h
  refine mm_gr hC hM (ci := 1) (j := 7) ok_1 rfl (by decide) (by decide) tw_183 rfl dX1_cheapestAtMiddles_55 ?_
  refine lv_aload_n hC.1 hC.2.1 dX1_cheapestAtMiddles_58 rfl (lv_at hl 0 rfl) ?_
  obtain ⟨ok_2, h⟩ := h
  refine mm_gr hC hM (ci := 1) (j := 1) ⟨ok_1.1, ok_2⟩ rfl (by decide) (by decide) tw_177 rfl dX1_cheapestAtMiddles_59 ?_
  obtain ⟨ok_3, h⟩ := h
  refine mm_gi hC hM (ci := 3) (j := 0) ok_3 rfl (by decide) (by decide) tw_90 rfl dX1_cheapestAtMiddles_62 ?_
  refine mm_ri hM (mm_SN (As := [.ref (b0 + (sR S x0 7)), .int (sI S (sR S x0 1) 0)]) (rest := []) hC hM hl.1 (mX8_firstLeast l G b0 S (sR S x0 7) (sI S (sR S x0 1) 0) _) h kX8_firstLeast nn_9 rfl (by decide) rfl (Nat.le_of_ble_eq_true rfl) dX1_cheapestAtMiddles_65 (by decide)) (fun r_5 S_4 H locs h hM => ?_)
  exact mm_iret hC hr hlk hM h dX1_cheapestAtMiddles_68
set_option maxHeartbeats 4000000 in
set_option maxRecDepth 100000 in
theorem qX1_cheapestAtMiddles_6 {p : Program} {l : Launch} {e : Env} {s : State} {m : MethodId} {args : Array Value} {below : List Frame} {meth : Method} {c : Code} {G : Gt} {b0 : Nat} (hC : CallFix p m c cX1_cheapestAtMiddles 2 s args lw_g RX1) (hr : meth.sig.returnType = (some .int)) (hlk : meth.locks = false) {K : Int32 → St → Prop} : ∀ (n : Nat) (x0 : Nat) (x1 : Int32) (S : St) (H : Heap) (locs : List Loc) (ls : Array Slot), wX1_cheapestAtMiddles_6 K n x0 x1 S → MM G b0 s S H locs → lv_has ls 2 [(0, .ref (b0 + x0)), (1, .int x1)] → W p l e rmX1_cheapestAtMiddles s m args below meth c H locs 0 0 (MQ below (va_Qi K (ME G b0) (AB b0)) args s 0 0 (AB b0)) (F0 m 6 ls []) := by
  intro n
  induction n with
  | zero =>
    intro x0 x1 S H locs ls h
    exact False.elim h
  | succ n ih =>
    intro x0 x1 S H locs ls h hM hl
    rw [wX1_cheapestAtMiddles_6] at h
    refine lv_iload_n hC.1 hC.2.1 dX1_cheapestAtMiddles_6 rfl (lv_at hl 1 rfl) ?_
    refine lv_aload_n hC.1 hC.2.1 dX1_cheapestAtMiddles_7 rfl (lv_at hl 0 rfl) ?_
    obtain ⟨ok_6, h⟩ := h
    refine mm_gr hC hM (ci := 1) (j := 1) ok_6 rfl (by decide) (by decide) tw_177 rfl dX1_cheapestAtMiddles_8 ?_
    obtain ⟨ok_7, h⟩ := h
    refine mm_gi hC hM (ci := 3) (j := 0) ok_7 rfl (by decide) (by decide) tw_90 rfl dX1_cheapestAtMiddles_11 ?_
    refine lv_icmp_ge (tgt := 54) hC.1 hC.2.1 dX1_cheapestAtMiddles_14 (by decide) (fun c_8 => ?_) (fun c_8 => ?_)
    · have h := h.1 c_8
      exact qX1_cheapestAtMiddles_54 hC hr hlk _ _ H locs ls h hM (lv_sub hl [0] rfl)
    · have h := h.2 c_8
      refine lv_aload_n hC.1 hC.2.1 dX1_cheapestAtMiddles_17 rfl (lv_at hl 0 rfl) ?_
      obtain ⟨ok_9, h⟩ := h
      refine mm_gr hC hM (ci := 1) (j := 7) ⟨ok_6.1, ok_9⟩ rfl (by decide) (by decide) tw_183 rfl dX1_cheapestAtMiddles_18 ?_
      refine lv_iload_n hC.1 hC.2.1 dX1_cheapestAtMiddles_21 rfl (lv_at hl 1 rfl) ?_
      refine lv_iconst (v := 2) hC.1 hC.2.1 dX1_cheapestAtMiddles_22 (by decide) ?_
      refine lv_aload_n hC.1 hC.2.1 dX1_cheapestAtMiddles_23 rfl (lv_at hl 0 rfl) ?_
      obtain ⟨ok_10, h⟩ := h
      refine mm_gr hC hM (ci := 1) (j := 5) ⟨ok_6.1, ok_10⟩ rfl (by decide) (by decide) tw_181 rfl dX1_cheapestAtMiddles_24 ?_
      refine lv_iload_n hC.1 hC.2.1 dX1_cheapestAtMiddles_27 rfl (lv_at hl 1 rfl) ?_
      obtain ⟨ok_11, h⟩ := h
      refine mm_il hC hM ok_11 dX1_cheapestAtMiddles_28 ?_
      refine lv_imul hC.1 hC.2.1 dX1_cheapestAtMiddles_29 ?_
      refine lv_aload_n hC.1 hC.2.1 dX1_cheapestAtMiddles_30 rfl (lv_at hl 0 rfl) ?_
      obtain ⟨ok_12, h⟩ := h
      refine mm_gr hC hM (ci := 1) (j := 4) ⟨ok_6.1, ok_12⟩ rfl (by decide) (by decide) tw_180 rfl dX1_cheapestAtMiddles_31 ?_
      refine lv_aload_n hC.1 hC.2.1 dX1_cheapestAtMiddles_34 rfl (lv_at hl 0 rfl) ?_
      refine mm_gr hC hM (ci := 1) (j := 1) ok_6 rfl (by decide) (by decide) tw_177 rfl dX1_cheapestAtMiddles_35 ?_
      obtain ⟨ok_13, h⟩ := h
      refine mm_gr hC hM (ci := 3) (j := 1) ⟨ok_7, ok_13⟩ rfl (by decide) (by decide) tw_96 rfl dX1_cheapestAtMiddles_38 ?_
      refine lv_iload_n hC.1 hC.2.1 dX1_cheapestAtMiddles_41 rfl (lv_at hl 1 rfl) ?_
      obtain ⟨ok_14, h⟩ := h
      refine mm_il hC hM ok_14 dX1_cheapestAtMiddles_42 ?_
      obtain ⟨ok_17, h⟩ := h
      refine mm_ri hM (mm_V (As := [.int (sI S (sR S (sR S x0 1) 1) (x1 : Int32).toNatClampNeg)]) (rest := [.int (2 * (sI S (sR S x0 5) (x1 : Int32).toNatClampNeg)), .int x1, .ref (b0 + (sR S x0 7))]) hC hM hl.1 (mX5_total l G b0 S (sR S x0 4) (sI S (sR S (sR S x0 1) 1) (x1 : Int32).toNatClampNeg) _) h (ci := 5) ok_17 rfl rfl kX5_total tw_489 rfl (by decide) rfl (Nat.le_of_ble_eq_true rfl) dX1_cheapestAtMiddles_43 (by decide)) (fun r_16 S_15 H locs h hM => ?_)
      refine lv_iadd hC.1 hC.2.1 dX1_cheapestAtMiddles_46 ?_
      obtain ⟨ok_18, h⟩ := h
      refine mm_is hC hM ok_18 dX1_cheapestAtMiddles_47 (fun S_19 H locs eS_19 hM => ?_)
      have h := h S_19 eS_19
      obtain ⟨x1_20, ex1_20⟩ : ∃ y : Int32, y = x1 + 1 := ⟨_, rfl⟩
      have h := h x1_20 ex1_20
      refine lv_iinc (v := x1_20) (lv' := [(1, .int x1_20), (0, .ref (b0 + x0))]) hC.1 hC.2.1 dX1_cheapestAtMiddles_48 hl (k := 1) rfl (by rw [ex1_20]; rfl) (by decide) rfl (fun ls hl => ?_)
      refine lv_goto (tgt := 6) hC.1 hC.2.1 dX1_cheapestAtMiddles_51 (by decide) ?_
      exact ih _ _ _ H locs ls h hM (lv_sub hl [1, 0] rfl)
set_option maxHeartbeats 4000000 in
set_option maxRecDepth 100000 in
theorem mX1_cheapestAtMiddles (l : Launch) (G : Gt) (b0 : Nat) (S : St) (o : Nat) (K : Int32 → St → Prop) : CI l G b0 S yX1_cheapestAtMiddles cX1_cheapestAtMiddles 2 (some .int) rmX1_cheapestAtMiddles [.ref (b0 + o)] (wX1_cheapestAtMiddles S o K) K := by
  refine met_of (by decide) (Nat.le_of_ble_eq_true rfl) rfl ?_
  intro p e s m below meth c hC hr hlk hin h H locs ls hM hl
  unfold wX1_cheapestAtMiddles at h
  refine lv_aload_n hC.1 hC.2.1 dX1_cheapestAtMiddles_0 rfl (lv_at hl 0 rfl) ?_
  obtain ⟨ok_23, h⟩ := h
  refine mm_rv hM (mm_V (As := []) (rest := []) hC hM hl.1 (mX1_sumUp l G b0 S o _) h (ci := 1) ok_23 rfl rfl kX1_sumUp tw_481 rfl (by decide) rfl (Nat.le_of_ble_eq_true rfl) dX1_cheapestAtMiddles_1 (by decide)) (fun S_21 H locs h hM => ?_)
  refine lv_iconst (v := 0) hC.1 hC.2.1 dX1_cheapestAtMiddles_4 (by decide) ?_
  refine lv_istore_n (lv' := [(1, .int 0), (0, .ref (b0 + o))]) hC.1 hC.2.1 dX1_cheapestAtMiddles_5 rfl hl (by decide) rfl (fun ls hl => ?_)
  obtain ⟨n1, h⟩ := h
  exact qX1_cheapestAtMiddles_6 hC hr hlk n1 _ _ _ H locs ls h hM (lv_sub hl [1, 0] rfl)
set_option maxHeartbeats 4000000 in
set_option maxRecDepth 100000 in
theorem mX1_costAt (l : Launch) (G : Gt) (b0 : Nat) (S : St) (o : Nat) (x1 : Int32) (x2 : Int32) (K : Int32 → St → Prop) : CI l G b0 S yX1_costAt cX1_costAt 3 (some .int) rmX1_costAt [.ref (b0 + o), .int x1, .int x2] (wX1_costAt S o x1 x2 K) K := by
  refine met_of (by decide) (Nat.le_of_ble_eq_true rfl) rfl ?_
  intro p e s m below meth c hC hr hlk hin h H locs ls hM hl
  unfold wX1_costAt at h
  refine lv_aload_n hC.1 hC.2.1 dX1_costAt_0 rfl (lv_at hl 0 rfl) ?_
  obtain ⟨ok_3, h⟩ := h
  refine mm_rv hM (mm_V (As := []) (rest := []) hC hM hl.1 (mX1_sumUp l G b0 S o _) h (ci := 1) ok_3 rfl rfl kX1_sumUp tw_481 rfl (by decide) rfl (Nat.le_of_ble_eq_true rfl) dX1_costAt_1 (by decide)) (fun S_1 H locs h hM => ?_)
  refine lv_aload_n hC.1 hC.2.1 dX1_costAt_4 rfl (lv_at hl 0 rfl) ?_
  obtain ⟨ok_4, h⟩ := h
  refine mm_gr hC hM (ci := 1) (j := 5) ok_4 rfl (by decide) (by decide) tw_181 rfl dX1_costAt_5 ?_
  refine lv_iload_n hC.1 hC.2.1 dX1_costAt_8 rfl (lv_at hl 1 rfl) ?_
  obtain ⟨ok_5, h⟩ := h
  refine mm_il hC hM ok_5 dX1_costAt_9 ?_
  refine lv_aload_n hC.1 hC.2.1 dX1_costAt_10 rfl (lv_at hl 0 rfl) ?_
  obtain ⟨ok_6, h⟩ := h
  refine mm_gr hC hM (ci := 1) (j := 4) ⟨ok_4.1, ok_6⟩ rfl (by decide) (by decide) tw_180 rfl dX1_costAt_11 ?_
  refine lv_aload_n hC.1 hC.2.1 dX1_costAt_14 rfl (lv_at hl 0 rfl) ?_
  obtain ⟨ok_7, h⟩ := h
  refine mm_gr hC hM (ci := 1) (j := 1) ⟨ok_4.1, ok_7⟩ rfl (by decide) (by decide) tw_177 rfl dX1_costAt_15 ?_
  obtain ⟨ok_8, h⟩ := h
  refine mm_gr hC hM (ci := 3) (j := 1) ok_8 rfl (by decide) (by decide) tw_96 rfl dX1_costAt_18 ?_
  refine lv_iload_n hC.1 hC.2.1 dX1_costAt_21 rfl (lv_at hl 1 rfl) ?_
  obtain ⟨ok_9, h⟩ := h
  refine mm_il hC hM ok_9 dX1_costAt_22 ?_
  refine lv_iload_n hC.1 hC.2.1 dX1_costAt_23 rfl (lv_at hl 2 rfl) ?_
  refine lv_iand hC.1 hC.2.1 dX1_costAt_24 ?_
  obtain ⟨ok_12, h⟩ := h
  refine mm_ri hM (mm_V (As := [.int ((sI S_1 (sR S_1 (sR S_1 o 1) 1) (x1 : Int32).toNatClampNeg) &&& x2)]) (rest := [.int (sI S_1 (sR S_1 o 5) (x1 : Int32).toNatClampNeg)]) hC hM hl.1 (mX5_total l G b0 S_1 (sR S_1 o 4) ((sI S_1 (sR S_1 (sR S_1 o 1) 1) (x1 : Int32).toNatClampNeg) &&& x2) _) h (ci := 5) ok_12 rfl rfl kX5_total tw_489 rfl (by decide) rfl (Nat.le_of_ble_eq_true rfl) dX1_costAt_25 (by decide)) (fun r_11 S_10 H locs h hM => ?_)
  refine lv_iadd hC.1 hC.2.1 dX1_costAt_28 ?_
  exact mm_iret hC hr hlk hM h dX1_costAt_29
set_option maxHeartbeats 4000000 in
set_option maxRecDepth 100000 in
theorem qX1_widestOf_45 {p : Program} {l : Launch} {e : Env} {s : State} {m : MethodId} {args : Array Value} {below : List Frame} {meth : Method} {c : Code} {G : Gt} {b0 : Nat} (hC : CallFix p m c cX1_widestOf 4 s args lw_g RX1) (hr : meth.sig.returnType = (some .int)) (hlk : meth.locks = false) {K : Int32 → St → Prop} {B4 : Nat → Int32 → Int32 → Int32 → St → Prop} (hB4 : ∀ (x0 : Nat) (x1 : Int32) (x2 : Int32) (x3 : Int32) (S : St) (H : Heap) (locs : List Loc) (ls : Array Slot), B4 x0 x1 x2 x3 S → MM G b0 s S H locs → lv_has ls 4 [(0, .ref (b0 + x0)), (1, .int x1), (2, .int x2), (3, .int x3)] → W p l e rmX1_widestOf s m args below meth c H locs 0 0 (MQ below (va_Qi K (ME G b0) (AB b0)) args s 0 0 (AB b0)) (F0 m 4 ls [])) : ∀ (x0 : Nat) (x1 : Int32) (x2 : Int32) (x3 : Int32) (S : St) (H : Heap) (locs : List Loc) (ls : Array Slot), wX1_widestOf_45 K B4 x0 x1 x2 x3 S → MM G b0 s S H locs → lv_has ls 4 [(0, .ref (b0 + x0)), (1, .int x1), (2, .int x2), (3, .int x3)] → W p l e rmX1_widestOf s m args below meth c H locs 0 0 (MQ below (va_Qi K (ME G b0) (AB b0)) args s 0 0 (AB b0)) (F0 m 45 ls []) := by
  intro x0 x1 x2 x3 S H locs ls h hM hl
  unfold wX1_widestOf_45 at h
  obtain ⟨x3_1, ex3_1⟩ : ∃ y : Int32, y = x3 + 1 := ⟨_, rfl⟩
  have h := h x3_1 ex3_1
  refine lv_iinc (v := x3_1) (lv' := [(3, .int x3_1), (0, .ref (b0 + x0)), (1, .int x1), (2, .int x2)]) hC.1 hC.2.1 dX1_widestOf_45 hl (k := 3) rfl (by rw [ex3_1]; rfl) (by decide) rfl (fun ls hl => ?_)
  refine lv_goto (tgt := 4) hC.1 hC.2.1 dX1_widestOf_48 (by decide) ?_
  exact hB4 _ _ _ _ _ H locs ls h hM (lv_sub hl [1, 2, 3, 0] rfl)
set_option maxHeartbeats 4000000 in
set_option maxRecDepth 100000 in
theorem qX1_widestOf_43 {p : Program} {l : Launch} {e : Env} {s : State} {m : MethodId} {args : Array Value} {below : List Frame} {meth : Method} {c : Code} {G : Gt} {b0 : Nat} (hC : CallFix p m c cX1_widestOf 4 s args lw_g RX1) (hr : meth.sig.returnType = (some .int)) (hlk : meth.locks = false) {K : Int32 → St → Prop} {B4 : Nat → Int32 → Int32 → Int32 → St → Prop} (hB4 : ∀ (x0 : Nat) (x1 : Int32) (x2 : Int32) (x3 : Int32) (S : St) (H : Heap) (locs : List Loc) (ls : Array Slot), B4 x0 x1 x2 x3 S → MM G b0 s S H locs → lv_has ls 4 [(0, .ref (b0 + x0)), (1, .int x1), (2, .int x2), (3, .int x3)] → W p l e rmX1_widestOf s m args below meth c H locs 0 0 (MQ below (va_Qi K (ME G b0) (AB b0)) args s 0 0 (AB b0)) (F0 m 4 ls [])) : ∀ (x0 : Nat) (x1 : Int32) (x3 : Int32) (S : St) (H : Heap) (locs : List Loc) (ls : Array Slot), wX1_widestOf_43 K B4 x0 x1 x3 S → MM G b0 s S H locs → lv_has ls 4 [(0, .ref (b0 + x0)), (1, .int x1), (3, .int x3)] → W p l e rmX1_widestOf s m args below meth c H locs 0 0 (MQ below (va_Qi K (ME G b0) (AB b0)) args s 0 0 (AB b0)) (F0 m 43 ls []) := by
  intro x0 x1 x3 S H locs ls h hM hl
  unfold wX1_widestOf_43 at h
  refine lv_iload_n hC.1 hC.2.1 dX1_widestOf_43 rfl (lv_at hl 2 rfl) ?_
  refine lv_istore_n (lv' := [(2, .int x3), (0, .ref (b0 + x0)), (1, .int x1), (3, .int x3)]) hC.1 hC.2.1 dX1_widestOf_44 rfl hl (by decide) rfl (fun ls hl => ?_)
  exact qX1_widestOf_45 hC hr hlk hB4 _ _ _ _ _ H locs ls h hM (lv_sub hl [1, 2, 0, 3] rfl)
set_option maxHeartbeats 4000000 in
set_option maxRecDepth 100000 in
theorem qX1_widestOf_4 {p : Program} {l : Launch} {e : Env} {s : State} {m : MethodId} {args : Array Value} {below : List Frame} {meth : Method} {c : Code} {G : Gt} {b0 : Nat} (hC : CallFix p m c cX1_widestOf 4 s args lw_g RX1) (hr : meth.sig.returnType = (some .int)) (hlk : meth.locks = false) {K : Int32 → St → Prop} : ∀ (n : Nat) (x0 : Nat) (x1 : Int32) (x2 : Int32) (x3 : Int32) (S : St) (H : Heap) (locs : List Loc) (ls : Array Slot), wX1_widestOf_4 K n x0 x1 x2 x3 S → MM G b0 s S H locs → lv_has ls 4 [(0, .ref (b0 + x0)), (1, .int x1), (2, .int x2), (3, .int x3)] → W p l e rmX1_widestOf s m args below meth c H locs 0 0 (MQ below (va_Qi K (ME G b0) (AB b0)) args s 0 0 (AB b0)) (F0 m 4 ls []) := by
  intro n
  induction n with
  | zero =>
    intro x0 x1 x2 x3 S H locs ls h
    exact False.elim h
  | succ n ih =>
    intro x0 x1 x2 x3 S H locs ls h hM hl
    rw [wX1_widestOf_4] at h
    refine lv_iload_n hC.1 hC.2.1 dX1_widestOf_4 rfl (lv_at hl 3 rfl) ?_
    refine lv_aload_n hC.1 hC.2.1 dX1_widestOf_5 rfl (lv_at hl 0 rfl) ?_
    obtain ⟨ok_2, h⟩ := h
    refine mm_gr hC hM (ci := 1) (j := 0) ok_2 rfl (by decide) (by decide) tw_176 rfl dX1_widestOf_6 ?_
    obtain ⟨ok_3, h⟩ := h
    refine mm_gi hC hM (ci := 0) (j := 0) ok_3 rfl (by decide) (by decide) tw_35 rfl dX1_widestOf_9 ?_
    refine lv_icmp_ge (tgt := 51) hC.1 hC.2.1 dX1_widestOf_12 (by decide) (fun c_4 => ?_) (fun c_4 => ?_)
    · have h := h.1 c_4
      refine lv_iload_n hC.1 hC.2.1 dX1_widestOf_51 rfl (lv_at hl 2 rfl) ?_
      exact mm_iret hC hr hlk hM h dX1_widestOf_52
    · have h := h.2 c_4
      refine lv_iload_n hC.1 hC.2.1 dX1_widestOf_15 rfl (lv_at hl 1 rfl) ?_
      refine lv_iload_n hC.1 hC.2.1 dX1_widestOf_16 rfl (lv_at hl 3 rfl) ?_
      refine lv_ishr hC.1 hC.2.1 dX1_widestOf_17 ?_
      refine lv_iconst (v := 1) hC.1 hC.2.1 dX1_widestOf_18 (by decide) ?_
      refine lv_iand hC.1 hC.2.1 dX1_widestOf_19 ?_
      refine lv_if_eq (tgt := 45) hC.1 hC.2.1 dX1_widestOf_20 (by decide) (fun c_5 => ?_) (fun c_5 => ?_)
      · have h := h.1 c_5
        exact qX1_widestOf_45 hC hr hlk ih _ _ _ _ _ H locs ls h hM (lv_sub hl [0, 1, 2, 3] rfl)
      · have h := h.2 c_5
        refine lv_iload_n hC.1 hC.2.1 dX1_widestOf_23 rfl (lv_at hl 2 rfl) ?_
        refine lv_iconst (v := (-1)) hC.1 hC.2.1 dX1_widestOf_24 (by decide) ?_
        refine lv_icmp_eq (tgt := 43) hC.1 hC.2.1 dX1_widestOf_25 (by decide) (fun c_6 => ?_) (fun c_6 => ?_)
        · have h := h.1 c_6
          exact qX1_widestOf_43 hC hr hlk ih _ _ _ _ H locs ls h hM (lv_sub hl [0, 1, 3] rfl)
        · have h := h.2 c_6
          refine lv_aload_n hC.1 hC.2.1 dX1_widestOf_28 rfl (lv_at hl 0 rfl) ?_
          obtain ⟨ok_7, h⟩ := h
          refine mm_gr hC hM (ci := 1) (j := 2) ⟨ok_2.1, ok_7⟩ rfl (by decide) (by decide) tw_178 rfl dX1_widestOf_29 ?_
          refine lv_iload_n hC.1 hC.2.1 dX1_widestOf_32 rfl (lv_at hl 3 rfl) ?_
          obtain ⟨ok_8, h⟩ := h
          refine mm_il hC hM ok_8 dX1_widestOf_33 ?_
          refine lv_aload_n hC.1 hC.2.1 dX1_widestOf_34 rfl (lv_at hl 0 rfl) ?_
          refine mm_gr hC hM (ci := 1) (j := 2) ⟨ok_2.1, ok_7⟩ rfl (by decide) (by decide) tw_178 rfl dX1_widestOf_35 ?_
          refine lv_iload_n hC.1 hC.2.1 dX1_widestOf_38 rfl (lv_at hl 2 rfl) ?_
          obtain ⟨ok_9, h⟩ := h
          refine mm_il hC hM ok_9 dX1_widestOf_39 ?_
          refine lv_icmp_le (tgt := 45) hC.1 hC.2.1 dX1_widestOf_40 (by decide) (fun c_10 => ?_) (fun c_10 => ?_)
          · have h := h.1 c_10
            exact qX1_widestOf_45 hC hr hlk ih _ _ _ _ _ H locs ls h hM (lv_sub hl [0, 1, 2, 3] rfl)
          · have h := h.2 c_10
            exact qX1_widestOf_43 hC hr hlk ih _ _ _ _ H locs ls h hM (lv_sub hl [0, 1, 3] rfl)
set_option maxHeartbeats 4000000 in
set_option maxRecDepth 100000 in
theorem mX1_widestOf (l : Launch) (G : Gt) (b0 : Nat) (S : St) (o : Nat) (x1 : Int32) (K : Int32 → St → Prop) : CI l G b0 S yX1_widestOf cX1_widestOf 4 (some .int) rmX1_widestOf [.ref (b0 + o), .int x1] (wX1_widestOf S o x1 K) K := by
  refine met_of (by decide) (Nat.le_of_ble_eq_true rfl) rfl ?_
  intro p e s m below meth c hC hr hlk hin h H locs ls hM hl
  unfold wX1_widestOf at h
  refine lv_iconst (v := (-1)) hC.1 hC.2.1 dX1_widestOf_0 (by decide) ?_
  refine lv_istore_n (lv' := [(2, .int (-1)), (0, .ref (b0 + o)), (1, .int x1)]) hC.1 hC.2.1 dX1_widestOf_1 rfl hl (by decide) rfl (fun ls hl => ?_)
  refine lv_iconst (v := 0) hC.1 hC.2.1 dX1_widestOf_2 (by decide) ?_
  refine lv_istore_n (lv' := [(3, .int 0), (2, .int (-1)), (0, .ref (b0 + o)), (1, .int x1)]) hC.1 hC.2.1 dX1_widestOf_3 rfl hl (by decide) rfl (fun ls hl => ?_)
  obtain ⟨n1, h⟩ := h
  exact qX1_widestOf_4 hC hr hlk n1 _ _ _ _ _ H locs ls h hM (lv_sub hl [2, 3, 1, 0] rfl)
set_option maxHeartbeats 4000000 in
set_option maxRecDepth 100000 in
theorem qX1_widestGaps_8 {p : Program} {l : Launch} {e : Env} {s : State} {m : MethodId} {args : Array Value} {below : List Frame} {meth : Method} {c : Code} {G : Gt} {b0 : Nat} (hC : CallFix p m c cX1_widestGaps 7 s args lw_g RX1) (hr : meth.sig.returnType = (some .int)) (hlk : meth.locks = false) {K : Int32 → St → Prop} : ∀ (n : Nat) (x0 : Nat) (x2 : Int32) (x3 : Int32) (x4 : Int32) (x5 : Int32) (S : St) (H : Heap) (locs : List Loc) (ls : Array Slot), wX1_widestGaps_8 K n x0 x2 x3 x4 x5 S → MM G b0 s S H locs → lv_has ls 7 [(0, .ref (b0 + x0)), (2, .int x2), (3, .int x3), (4, .int x4), (5, .int x5)] → W p l e rmX1_widestGaps s m args below meth c H locs 0 0 (MQ below (va_Qi K (ME G b0) (AB b0)) args s 0 0 (AB b0)) (F0 m 8 ls []) := by
  intro n
  induction n with
  | zero =>
    intro x0 x2 x3 x4 x5 S H locs ls h
    exact False.elim h
  | succ n ih =>
    intro x0 x2 x3 x4 x5 S H locs ls h hM hl
    rw [wX1_widestGaps_8] at h
    refine lv_iload hC.1 hC.2.1 dX1_widestGaps_8 (lv_at hl 4 rfl) ?_
    refine lv_iload_n hC.1 hC.2.1 dX1_widestGaps_10 rfl (lv_at hl 1 rfl) ?_
    refine lv_icmp_ge (tgt := 62) hC.1 hC.2.1 dX1_widestGaps_11 (by decide) (fun c_1 => ?_) (fun c_1 => ?_)
    · have h := h.1 c_1
      refine lv_iload_n hC.1 hC.2.1 dX1_widestGaps_62 rfl (lv_at hl 2 rfl) ?_
      exact mm_iret hC hr hlk hM h dX1_widestGaps_63
    · have h := h.2 c_1
      refine lv_iload hC.1 hC.2.1 dX1_widestGaps_14 (lv_at hl 3 rfl) ?_
      refine lv_if_eq (tgt := 62) hC.1 hC.2.1 dX1_widestGaps_16 (by decide) (fun c_2 => ?_) (fun c_2 => ?_)
      · have h := h.1 c_2
        refine lv_iload_n hC.1 hC.2.1 dX1_widestGaps_62 rfl (lv_at hl 2 rfl) ?_
        exact mm_iret hC hr hlk hM h dX1_widestGaps_63
      · have h := h.2 c_2
        refine lv_aload_n hC.1 hC.2.1 dX1_widestGaps_19 rfl (lv_at hl 0 rfl) ?_
        refine lv_iload hC.1 hC.2.1 dX1_widestGaps_20 (lv_at hl 3 rfl) ?_
        obtain ⟨ok_5, h⟩ := h
        refine mm_ri hM (mm_V (As := [.int x4]) (rest := []) hC hM hl.1 (mX1_widestOf l G b0 S x0 x4 _) h (ci := 1) ok_5 rfl rfl kX1_widestOf tw_583 rfl (by decide) rfl (Nat.le_of_ble_eq_true rfl) dX1_widestGaps_22 (by decide)) (fun r_4 S_3 H locs h hM => ?_)
        refine lv_istore (lv' := [(6, .int r_4), (0, .ref (b0 + x0)), (2, .int x2), (3, .int x3), (4, .int x4), (5, .int x5)]) hC.1 hC.2.1 dX1_widestGaps_25 hl (by decide) rfl (fun ls hl => ?_)
        refine lv_iload hC.1 hC.2.1 dX1_widestGaps_27 (lv_at hl 0 rfl) ?_
        refine lv_iconst (v := (-1)) hC.1 hC.2.1 dX1_widestGaps_29 (by decide) ?_
        refine lv_icmp_ne (tgt := 35) hC.1 hC.2.1 dX1_widestGaps_30 (by decide) (fun c_6 => ?_) (fun c_6 => ?_)
        · have h := h.2 c_6
          refine lv_iload_n hC.1 hC.2.1 dX1_widestGaps_35 rfl (lv_at hl 3 rfl) ?_
          refine lv_aload_n hC.1 hC.2.1 dX1_widestGaps_36 rfl (lv_at hl 1 rfl) ?_
          obtain ⟨ok_7, h⟩ := h
          refine mm_gr hC hM (ci := 1) (j := 2) ok_7 rfl (by decide) (by decide) tw_178 rfl dX1_widestGaps_37 ?_
          refine lv_iload hC.1 hC.2.1 dX1_widestGaps_40 (lv_at hl 0 rfl) ?_
          obtain ⟨ok_8, h⟩ := h
          refine mm_il hC hM ok_8 dX1_widestGaps_42 ?_
          refine lv_iadd hC.1 hC.2.1 dX1_widestGaps_43 ?_
          refine lv_topi (fun x3_9 ex3_9 => ?_)
          have h := h x3_9 ex3_9
          refine lv_istore_n (lv' := [(3, .int x3_9), (6, .int r_4), (0, .ref (b0 + x0)), (2, .int x2), (4, .int x4), (5, .int x5)]) hC.1 hC.2.1 dX1_widestGaps_44 rfl hl (by decide) rfl (fun ls hl => ?_)
          refine lv_iload hC.1 hC.2.1 dX1_widestGaps_45 (lv_at hl 4 rfl) ?_
          refine lv_iconst (v := 1) hC.1 hC.2.1 dX1_widestGaps_47 (by decide) ?_
          refine lv_iload hC.1 hC.2.1 dX1_widestGaps_48 (lv_at hl 1 rfl) ?_
          refine lv_ishl hC.1 hC.2.1 dX1_widestGaps_50 ?_
          refine lv_iconst (v := (-1)) hC.1 hC.2.1 dX1_widestGaps_51 (by decide) ?_
          refine lv_ixor hC.1 hC.2.1 dX1_widestGaps_52 ?_
          refine lv_iand hC.1 hC.2.1 dX1_widestGaps_53 ?_
          refine lv_topi (fun x4_10 ex4_10 => ?_)
          have h := h x4_10 ex4_10
          refine lv_istore (lv' := [(4, .int x4_10), (3, .int x3_9), (6, .int r_4), (0, .ref (b0 + x0)), (2, .int x2), (5, .int x5)]) hC.1 hC.2.1 dX1_widestGaps_54 hl (by decide) rfl (fun ls hl => ?_)
          obtain ⟨x5_11, ex5_11⟩ : ∃ y : Int32, y = x5 + 1 := ⟨_, rfl⟩
          have h := h x5_11 ex5_11
          refine lv_iinc (v := x5_11) (lv' := [(5, .int x5_11), (4, .int x4_10), (3, .int x3_9), (6, .int r_4), (0, .ref (b0 + x0)), (2, .int x2)]) hC.1 hC.2.1 dX1_widestGaps_56 hl (k := 5) rfl (by rw [ex5_11]; rfl) (by decide) rfl (fun ls hl => ?_)
          refine lv_goto (tgt := 8) hC.1 hC.2.1 dX1_widestGaps_59 (by decide) ?_
          exact ih _ _ _ _ _ _ H locs ls h hM (lv_sub hl [4, 5, 2, 1, 0] rfl)
        · have h := h.1 c_6
          refine lv_iload_n hC.1 hC.2.1 dX1_widestGaps_33 rfl (lv_at hl 3 rfl) ?_
          exact mm_iret hC hr hlk hM h dX1_widestGaps_34
set_option maxHeartbeats 4000000 in
set_option maxRecDepth 100000 in
theorem mX1_widestGaps (l : Launch) (G : Gt) (b0 : Nat) (S : St) (o : Nat) (x1 : Int32) (x2 : Int32) (K : Int32 → St → Prop) : CI l G b0 S yX1_widestGaps cX1_widestGaps 7 (some .int) rmX1_widestGaps [.ref (b0 + o), .int x1, .int x2] (wX1_widestGaps S o x1 x2 K) K := by
  refine met_of (by decide) (Nat.le_of_ble_eq_true rfl) rfl ?_
  intro p e s m below meth c hC hr hlk hin h H locs ls hM hl
  unfold wX1_widestGaps at h
  refine lv_iconst (v := 0) hC.1 hC.2.1 dX1_widestGaps_0 (by decide) ?_
  refine lv_istore_n (lv' := [(3, .int 0), (0, .ref (b0 + o)), (1, .int x1), (2, .int x2)]) hC.1 hC.2.1 dX1_widestGaps_1 rfl hl (by decide) rfl (fun ls hl => ?_)
  refine lv_iload_n hC.1 hC.2.1 dX1_widestGaps_2 rfl (lv_at hl 2 rfl) ?_
  refine lv_istore (lv' := [(4, .int x1), (3, .int 0), (0, .ref (b0 + o)), (1, .int x1), (2, .int x2)]) hC.1 hC.2.1 dX1_widestGaps_3 hl (by decide) rfl (fun ls hl => ?_)
  refine lv_iconst (v := 0) hC.1 hC.2.1 dX1_widestGaps_5 (by decide) ?_
  refine lv_istore (lv' := [(5, .int 0), (4, .int x1), (3, .int 0), (0, .ref (b0 + o)), (1, .int x1), (2, .int x2)]) hC.1 hC.2.1 dX1_widestGaps_6 hl (by decide) rfl (fun ls hl => ?_)
  obtain ⟨n1, h⟩ := h
  exact qX1_widestGaps_8 hC hr hlk n1 _ _ _ _ _ _ H locs ls h hM (lv_sub hl [3, 5, 2, 1, 0] rfl)
set_option maxHeartbeats 4000000 in
set_option maxRecDepth 100000 in
theorem mX1_dearestCost (l : Launch) (G : Gt) (b0 : Nat) (S : St) (o : Nat) (x1 : Int32) (x2 : Int32) (K : Int32 → St → Prop) : CI l G b0 S yX1_dearestCost cX1_dearestCost 3 (some .int) rmX1_dearestCost [.ref (b0 + o), .int x1, .int x2] (wX1_dearestCost S o x1 x2 K) K := by
  refine met_of (by decide) (Nat.le_of_ble_eq_true rfl) rfl ?_
  intro p e s m below meth c hC hr hlk hin h H locs ls hM hl
  unfold wX1_dearestCost at h
  refine lv_aload_n hC.1 hC.2.1 dX1_dearestCost_0 rfl (lv_at hl 0 rfl) ?_
  obtain ⟨ok_3, h⟩ := h
  refine mm_rv hM (mm_V (As := []) (rest := []) hC hM hl.1 (mX1_sumUp l G b0 S o _) h (ci := 1) ok_3 rfl rfl kX1_sumUp tw_481 rfl (by decide) rfl (Nat.le_of_ble_eq_true rfl) dX1_dearestCost_1 (by decide)) (fun S_1 H locs h hM => ?_)
  refine lv_aload_n hC.1 hC.2.1 dX1_dearestCost_4 rfl (lv_at hl 0 rfl) ?_
  obtain ⟨ok_4, h⟩ := h
  refine mm_gr hC hM (ci := 1) (j := 5) ok_4 rfl (by decide) (by decide) tw_181 rfl dX1_dearestCost_5 ?_
  refine lv_iload_n hC.1 hC.2.1 dX1_dearestCost_8 rfl (lv_at hl 1 rfl) ?_
  obtain ⟨ok_5, h⟩ := h
  refine mm_il hC hM ok_5 dX1_dearestCost_9 ?_
  refine lv_aload_n hC.1 hC.2.1 dX1_dearestCost_10 rfl (lv_at hl 0 rfl) ?_
  refine lv_aload_n hC.1 hC.2.1 dX1_dearestCost_11 rfl (lv_at hl 0 rfl) ?_
  obtain ⟨ok_6, h⟩ := h
  refine mm_gr hC hM (ci := 1) (j := 1) ⟨ok_4.1, ok_6⟩ rfl (by decide) (by decide) tw_177 rfl dX1_dearestCost_12 ?_
  obtain ⟨ok_7, h⟩ := h
  refine mm_gr hC hM (ci := 3) (j := 1) ok_7 rfl (by decide) (by decide) tw_96 rfl dX1_dearestCost_15 ?_
  refine lv_iload_n hC.1 hC.2.1 dX1_dearestCost_18 rfl (lv_at hl 1 rfl) ?_
  obtain ⟨ok_8, h⟩ := h
  refine mm_il hC hM ok_8 dX1_dearestCost_19 ?_
  refine lv_iload_n hC.1 hC.2.1 dX1_dearestCost_20 rfl (lv_at hl 2 rfl) ?_
  refine mm_ri hM (mm_V (As := [.int (sI S_1 (sR S_1 (sR S_1 o 1) 1) (x1 : Int32).toNatClampNeg), .int x2]) (rest := [.int (sI S_1 (sR S_1 o 5) (x1 : Int32).toNatClampNeg)]) hC hM hl.1 (mX1_widestGaps l G b0 S_1 o (sI S_1 (sR S_1 (sR S_1 o 1) 1) (x1 : Int32).toNatClampNeg) x2 _) h (ci := 1) ok_4.1 rfl rfl kX1_widestGaps tw_579 rfl (by decide) rfl (Nat.le_of_ble_eq_true rfl) dX1_dearestCost_21 (by decide)) (fun r_10 S_9 H locs h hM => ?_)
  refine lv_iadd hC.1 hC.2.1 dX1_dearestCost_24 ?_
  exact mm_iret hC hr hlk hM h dX1_dearestCost_25
set_option maxHeartbeats 4000000 in
set_option maxRecDepth 100000 in
theorem qX1_rueInWorst_90 {p : Program} {l : Launch} {e : Env} {s : State} {m : MethodId} {args : Array Value} {below : List Frame} {meth : Method} {c : Code} {G : Gt} {b0 : Nat} (hC : CallFix p m c cX1_rueInWorst 6 s args lw_g RX1) (hr : meth.sig.returnType = (some .int)) (hlk : meth.locks = false) {K : Int32 → St → Prop} {B32 : Nat → Int32 → Int32 → Int32 → Int32 → St → Prop} (hB32 : ∀ (x0 : Nat) (x2 : Int32) (x3 : Int32) (x4 : Int32) (x5 : Int32) (S : St) (H : Heap) (locs : List Loc) (ls : Array Slot), B32 x0 x2 x3 x4 x5 S → MM G b0 s S H locs → lv_has ls 6 [(0, .ref (b0 + x0)), (2, .int x2), (3, .int x3), (4, .int x4), (5, .int x5)] → W p l e rmX1_rueInWorst s m args below meth c H locs 0 0 (MQ below (va_Qi K (ME G b0) (AB b0)) args s 0 0 (AB b0)) (F0 m 32 ls [])) : ∀ (x0 : Nat) (x2 : Int32) (x3 : Int32) (x4 : Int32) (x5 : Int32) (S : St) (H : Heap) (locs : List Loc) (ls : Array Slot), wX1_rueInWorst_90 K B32 x0 x2 x3 x4 x5 S → MM G b0 s S H locs → lv_has ls 6 [(0, .ref (b0 + x0)), (2, .int x2), (3, .int x3), (4, .int x4), (5, .int x5)] → W p l e rmX1_rueInWorst s m args below meth c H locs 0 0 (MQ below (va_Qi K (ME G b0) (AB b0)) args s 0 0 (AB b0)) (F0 m 90 ls []) := by
  intro x0 x2 x3 x4 x5 S H locs ls h hM hl
  unfold wX1_rueInWorst_90 at h
  obtain ⟨x5_1, ex5_1⟩ : ∃ y : Int32, y = x5 + 1 := ⟨_, rfl⟩
  have h := h x5_1 ex5_1
  refine lv_iinc (v := x5_1) (lv' := [(5, .int x5_1), (0, .ref (b0 + x0)), (2, .int x2), (3, .int x3), (4, .int x4)]) hC.1 hC.2.1 dX1_rueInWorst_90 hl (k := 4) rfl (by rw [ex5_1]; rfl) (by decide) rfl (fun ls hl => ?_)
  refine lv_goto (tgt := 32) hC.1 hC.2.1 dX1_rueInWorst_93 (by decide) ?_
  exact hB32 _ _ _ _ _ _ H locs ls h hM (lv_sub hl [1, 2, 3, 4, 0] rfl)
set_option maxHeartbeats 4000000 in
set_option maxRecDepth 100000 in
theorem qX1_rueInWorst_96 {p : Program} {l : Launch} {e : Env} {s : State} {m : MethodId} {args : Array Value} {below : List Frame} {meth : Method} {c : Code} {G : Gt} {b0 : Nat} (hC : CallFix p m c cX1_rueInWorst 6 s args lw_g RX1) (hr : meth.sig.returnType = (some .int)) (hlk : meth.locks = false) {K : Int32 → St → Prop} : ∀ (x3 : Int32) (x4 : Int32) (S : St) (H : Heap) (locs : List Loc) (ls : Array Slot), wX1_rueInWorst_96 K x3 x4 S → MM G b0 s S H locs → lv_has ls 6 [(3, .int x3), (4, .int x4)] → W p l e rmX1_rueInWorst s m args below meth c H locs 0 0 (MQ below (va_Qi K (ME G b0) (AB b0)) args s 0 0 (AB b0)) (F0 m 96 ls []) := by
  intro x3 x4 S H locs ls h hM hl
  unfold wX1_rueInWorst_96 at h
  refine lv_iload_n hC.1 hC.2.1 dX1_rueInWorst_96 rfl (lv_at hl 0 rfl) ?_
  refine lv_iload hC.1 hC.2.1 dX1_rueInWorst_97 (lv_at hl 1 rfl) ?_
  refine lv_isub hC.1 hC.2.1 dX1_rueInWorst_99 ?_
  exact mm_iret hC hr hlk hM h dX1_rueInWorst_100
set_option maxHeartbeats 4000000 in
set_option maxRecDepth 100000 in
theorem qX1_rueInWorst_32 {p : Program} {l : Launch} {e : Env} {s : State} {m : MethodId} {args : Array Value} {below : List Frame} {meth : Method} {c : Code} {G : Gt} {b0 : Nat} (hC : CallFix p m c cX1_rueInWorst 6 s args lw_g RX1) (hr : meth.sig.returnType = (some .int)) (hlk : meth.locks = false) {K : Int32 → St → Prop} : ∀ (n : Nat) (x0 : Nat) (x2 : Int32) (x3 : Int32) (x4 : Int32) (x5 : Int32) (S : St) (H : Heap) (locs : List Loc) (ls : Array Slot), wX1_rueInWorst_32 K n x0 x2 x3 x4 x5 S → MM G b0 s S H locs → lv_has ls 6 [(0, .ref (b0 + x0)), (2, .int x2), (3, .int x3), (4, .int x4), (5, .int x5)] → W p l e rmX1_rueInWorst s m args below meth c H locs 0 0 (MQ below (va_Qi K (ME G b0) (AB b0)) args s 0 0 (AB b0)) (F0 m 32 ls []) := by
  intro n
  induction n with
  | zero =>
    intro x0 x2 x3 x4 x5 S H locs ls h
    exact False.elim h
  | succ n ih =>
    intro x0 x2 x3 x4 x5 S H locs ls h hM hl
    rw [wX1_rueInWorst_32] at h
    refine lv_iload hC.1 hC.2.1 dX1_rueInWorst_32 (lv_at hl 4 rfl) ?_
    refine lv_aload_n hC.1 hC.2.1 dX1_rueInWorst_34 rfl (lv_at hl 0 rfl) ?_
    obtain ⟨ok_2, h⟩ := h
    refine mm_gr hC hM (ci := 1) (j := 1) ok_2 rfl (by decide) (by decide) tw_177 rfl dX1_rueInWorst_35 ?_
    obtain ⟨ok_3, h⟩ := h
    refine mm_gi hC hM (ci := 3) (j := 0) ok_3 rfl (by decide) (by decide) tw_90 rfl dX1_rueInWorst_38 ?_
    refine lv_icmp_ge (tgt := 96) hC.1 hC.2.1 dX1_rueInWorst_41 (by decide) (fun c_4 => ?_) (fun c_4 => ?_)
    · have h := h.1 c_4
      exact qX1_rueInWorst_96 hC hr hlk _ _ _ H locs ls h hM (lv_sub hl [2, 3] rfl)
    · have h := h.2 c_4
      refine lv_aload_n hC.1 hC.2.1 dX1_rueInWorst_44 rfl (lv_at hl 0 rfl) ?_
      obtain ⟨ok_5, h⟩ := h
      refine mm_gr hC hM (ci := 1) (j := 5) ⟨ok_2.1, ok_5⟩ rfl (by decide) (by decide) tw_181 rfl dX1_rueInWorst_45 ?_
      refine lv_iload hC.1 hC.2.1 dX1_rueInWorst_48 (lv_at hl 4 rfl) ?_
      obtain ⟨ok_6, h⟩ := h
      refine mm_il hC hM ok_6 dX1_rueInWorst_50 ?_
      refine lv_iload hC.1 hC.2.1 dX1_rueInWorst_51 (lv_at hl 3 rfl) ?_
      refine lv_icmp_ge (tgt := 90) hC.1 hC.2.1 dX1_rueInWorst_53 (by decide) (fun c_7 => ?_) (fun c_7 => ?_)
      · have h := h.1 c_7
        exact qX1_rueInWorst_90 hC hr hlk ih _ _ _ _ _ _ H locs ls h hM (lv_sub hl [0, 1, 2, 3, 4] rfl)
      · have h := h.2 c_7
        refine lv_iload hC.1 hC.2.1 dX1_rueInWorst_56 (lv_at hl 3 rfl) ?_
        refine lv_aload_n hC.1 hC.2.1 dX1_rueInWorst_58 rfl (lv_at hl 0 rfl) ?_
        refine mm_gr hC hM (ci := 1) (j := 5) ⟨ok_2.1, ok_5⟩ rfl (by decide) (by decide) tw_181 rfl dX1_rueInWorst_59 ?_
        refine lv_iload hC.1 hC.2.1 dX1_rueInWorst_62 (lv_at hl 4 rfl) ?_
        refine mm_il hC hM ok_6 dX1_rueInWorst_64 ?_
        refine lv_aload_n hC.1 hC.2.1 dX1_rueInWorst_65 rfl (lv_at hl 0 rfl) ?_
        obtain ⟨ok_8, h⟩ := h
        refine mm_gr hC hM (ci := 1) (j := 4) ⟨ok_2.1, ok_8⟩ rfl (by decide) (by decide) tw_180 rfl dX1_rueInWorst_66 ?_
        refine lv_aload_n hC.1 hC.2.1 dX1_rueInWorst_69 rfl (lv_at hl 0 rfl) ?_
        refine mm_gr hC hM (ci := 1) (j := 1) ok_2 rfl (by decide) (by decide) tw_177 rfl dX1_rueInWorst_70 ?_
        obtain ⟨ok_9, h⟩ := h
        refine mm_gr hC hM (ci := 3) (j := 1) ⟨ok_3, ok_9⟩ rfl (by decide) (by decide) tw_96 rfl dX1_rueInWorst_73 ?_
        refine lv_iload hC.1 hC.2.1 dX1_rueInWorst_76 (lv_at hl 4 rfl) ?_
        obtain ⟨ok_10, h⟩ := h
        refine mm_il hC hM ok_10 dX1_rueInWorst_78 ?_
        refine lv_iload_n hC.1 hC.2.1 dX1_rueInWorst_79 rfl (lv_at hl 1 rfl) ?_
        refine lv_iand hC.1 hC.2.1 dX1_rueInWorst_80 ?_
        obtain ⟨ok_13, h⟩ := h
        refine mm_ri hM (mm_V (As := [.int ((sI S (sR S (sR S x0 1) 1) (x5 : Int32).toNatClampNeg) &&& x2)]) (rest := [.int (sI S (sR S x0 5) (x5 : Int32).toNatClampNeg), .int x4]) hC hM hl.1 (mX5_total l G b0 S (sR S x0 4) ((sI S (sR S (sR S x0 1) 1) (x5 : Int32).toNatClampNeg) &&& x2) _) h (ci := 5) ok_13 rfl rfl kX5_total tw_489 rfl (by decide) rfl (Nat.le_of_ble_eq_true rfl) dX1_rueInWorst_81 (by decide)) (fun r_12 S_11 H locs h hM => ?_)
        refine lv_iadd hC.1 hC.2.1 dX1_rueInWorst_84 ?_
        refine va_mmin hC.1 hC.2.1 (hC.2.2.1.trans hl.1.symm) hC.2.2.2.1 (hC.2.2.2.2 _ tw_516) (hC.2.2.2.2 _ tw_517) (hC.2.2.2.2 _ tw_13) (hC.2.2.2.2 _ tw_518) (by decide) (Nat.le_of_ble_eq_true rfl) (by decide) (by decide) dX1_rueInWorst_85 ?_
        refine lv_topi (fun x4_14 ex4_14 => ?_)
        have h := h x4_14 ex4_14
        refine lv_istore (lv' := [(4, .int x4_14), (0, .ref (b0 + x0)), (2, .int x2), (3, .int x3), (5, .int x5)]) hC.1 hC.2.1 dX1_rueInWorst_88 hl (by decide) rfl (fun ls hl => ?_)
        exact qX1_rueInWorst_90 hC hr hlk ih _ _ _ _ _ _ H locs ls h hM (lv_sub hl [1, 2, 3, 0, 4] rfl)
set_option maxHeartbeats 4000000 in
set_option maxRecDepth 100000 in
theorem mX1_rueInWorst (l : Launch) (G : Gt) (b0 : Nat) (S : St) (o : Nat) (x1 : Int32) (K : Int32 → St → Prop) : CI l G b0 S yX1_rueInWorst cX1_rueInWorst 6 (some .int) rmX1_rueInWorst [.ref (b0 + o), .int x1] (wX1_rueInWorst S o x1 K) K := by
  refine met_of (by decide) (Nat.le_of_ble_eq_true rfl) rfl ?_
  intro p e s m below meth c hC hr hlk hin h H locs ls hM hl
  unfold wX1_rueInWorst at h
  refine lv_aload_n hC.1 hC.2.1 dX1_rueInWorst_0 rfl (lv_at hl 0 rfl) ?_
  obtain ⟨ok_15, h⟩ := h
  refine mm_gr hC hM (ci := 1) (j := 1) ok_15 rfl (by decide) (by decide) tw_177 rfl dX1_rueInWorst_1 ?_
  obtain ⟨ok_16, h⟩ := h
  refine mm_gr hC hM (ci := 3) (j := 1) ok_16 rfl (by decide) (by decide) tw_96 rfl dX1_rueInWorst_4 ?_
  refine lv_iload_n hC.1 hC.2.1 dX1_rueInWorst_7 rfl (lv_at hl 1 rfl) ?_
  obtain ⟨ok_17, h⟩ := h
  refine mm_il hC hM ok_17 dX1_rueInWorst_8 ?_
  refine lv_topi (fun x2_18 ex2_18 => ?_)
  have h := h x2_18 ex2_18
  refine lv_istore_n (lv' := [(2, .int x2_18), (0, .ref (b0 + o)), (1, .int x1)]) hC.1 hC.2.1 dX1_rueInWorst_9 rfl hl (by decide) rfl (fun ls hl => ?_)
  refine lv_aload_n hC.1 hC.2.1 dX1_rueInWorst_10 rfl (lv_at hl 1 rfl) ?_
  obtain ⟨ok_19, h⟩ := h
  refine mm_gr hC hM (ci := 1) (j := 5) ⟨ok_15.1, ok_19⟩ rfl (by decide) (by decide) tw_181 rfl dX1_rueInWorst_11 ?_
  refine lv_iload_n hC.1 hC.2.1 dX1_rueInWorst_14 rfl (lv_at hl 2 rfl) ?_
  obtain ⟨ok_20, h⟩ := h
  refine mm_il hC hM ok_20 dX1_rueInWorst_15 ?_
  refine lv_aload_n hC.1 hC.2.1 dX1_rueInWorst_16 rfl (lv_at hl 1 rfl) ?_
  obtain ⟨ok_21, h⟩ := h
  refine mm_gr hC hM (ci := 1) (j := 4) ⟨ok_15.1, ok_21⟩ rfl (by decide) (by decide) tw_180 rfl dX1_rueInWorst_17 ?_
  refine lv_iload_n hC.1 hC.2.1 dX1_rueInWorst_20 rfl (lv_at hl 0 rfl) ?_
  obtain ⟨ok_24, h⟩ := h
  refine mm_ri hM (mm_V (As := [.int x2_18]) (rest := [.int (sI S (sR S o 5) (x1 : Int32).toNatClampNeg)]) hC hM hl.1 (mX5_total l G b0 S (sR S o 4) x2_18 _) h (ci := 5) ok_24 rfl rfl kX5_total tw_489 rfl (by decide) rfl (Nat.le_of_ble_eq_true rfl) dX1_rueInWorst_21 (by decide)) (fun r_23 S_22 H locs h hM => ?_)
  refine lv_iadd hC.1 hC.2.1 dX1_rueInWorst_24 ?_
  refine lv_topi (fun x3_25 ex3_25 => ?_)
  have h := h x3_25 ex3_25
  refine lv_istore_n (lv' := [(3, .int x3_25), (2, .int x2_18), (0, .ref (b0 + o)), (1, .int x1)]) hC.1 hC.2.1 dX1_rueInWorst_25 rfl hl (by decide) rfl (fun ls hl => ?_)
  refine lv_iload_n hC.1 hC.2.1 dX1_rueInWorst_26 rfl (lv_at hl 0 rfl) ?_
  refine lv_istore (lv' := [(4, .int x3_25), (3, .int x3_25), (2, .int x2_18), (0, .ref (b0 + o)), (1, .int x1)]) hC.1 hC.2.1 dX1_rueInWorst_27 hl (by decide) rfl (fun ls hl => ?_)
  refine lv_iconst (v := 0) hC.1 hC.2.1 dX1_rueInWorst_29 (by decide) ?_
  refine lv_istore (lv' := [(5, .int 0), (4, .int x3_25), (3, .int x3_25), (2, .int x2_18), (0, .ref (b0 + o)), (1, .int x1)]) hC.1 hC.2.1 dX1_rueInWorst_30 hl (by decide) rfl (fun ls hl => ?_)
  obtain ⟨n1, h⟩ := h
  exact qX1_rueInWorst_32 hC hr hlk n1 _ _ _ _ _ _ H locs ls h hM (lv_sub hl [4, 3, 2, 1, 0] rfl)
set_option maxHeartbeats 4000000 in
set_option maxRecDepth 100000 in
theorem mX1_greatestRue (l : Launch) (G : Gt) (b0 : Nat) (S : St) (o : Nat) (x1 : Int32) (K : Int32 → St → Prop) : CI l G b0 S yX1_greatestRue cX1_greatestRue 2 (some .int) rmX1_greatestRue [.ref (b0 + o), .int x1] (wX1_greatestRue S o x1 K) K := by
  refine met_of (by decide) (Nat.le_of_ble_eq_true rfl) rfl ?_
  intro p e s m below meth c hC hr hlk hin h H locs ls hM hl
  unfold wX1_greatestRue at h
  refine lv_aload_n hC.1 hC.2.1 dX1_greatestRue_0 rfl (lv_at hl 0 rfl) ?_
  obtain ⟨ok_3, h⟩ := h
  refine mm_rv hM (mm_V (As := []) (rest := []) hC hM hl.1 (mX1_sumUp l G b0 S o _) h (ci := 1) ok_3 rfl rfl kX1_sumUp tw_481 rfl (by decide) rfl (Nat.le_of_ble_eq_true rfl) dX1_greatestRue_1 (by decide)) (fun S_1 H locs h hM => ?_)
  refine lv_aload_n hC.1 hC.2.1 dX1_greatestRue_4 rfl (lv_at hl 0 rfl) ?_
  refine lv_iload_n hC.1 hC.2.1 dX1_greatestRue_5 rfl (lv_at hl 1 rfl) ?_
  obtain ⟨ok_6, h⟩ := h
  refine mm_ri hM (mm_V (As := [.int x1]) (rest := []) hC hM hl.1 (mX1_rueInWorst l G b0 S_1 o x1 _) h (ci := 1) ok_6 rfl rfl kX1_rueInWorst tw_512 rfl (by decide) rfl (Nat.le_of_ble_eq_true rfl) dX1_greatestRue_6 (by decide)) (fun r_5 S_4 H locs h hM => ?_)
  exact mm_iret hC hr hlk hM h dX1_greatestRue_9
set_option maxHeartbeats 4000000 in
set_option maxRecDepth 100000 in
theorem qX1_rueAll_42 {p : Program} {l : Launch} {e : Env} {s : State} {m : MethodId} {args : Array Value} {below : List Frame} {meth : Method} {c : Code} {G : Gt} {b0 : Nat} (hC : CallFix p m c cX1_rueAll 2 s args lw_g RX1) (hr : meth.sig.returnType = none) (hlk : meth.locks = false) {K : St → Prop} : ∀ (x0 : Nat) (S : St) (H : Heap) (locs : List Loc) (ls : Array Slot), wX1_rueAll_42 K x0 S → MM G b0 s S H locs → lv_has ls 2 [(0, .ref (b0 + x0))] → W p l e rmX1_rueAll s m args below meth c H locs 0 0 (MQ below (va_Qv K (ME G b0) (AB b0)) args s 0 0 (AB b0)) (F0 m 42 ls []) := by
  intro x0 S H locs ls h hM hl
  unfold wX1_rueAll_42 at h
  refine lv_aload_n hC.1 hC.2.1 dX1_rueAll_42 rfl (lv_at hl 0 rfl) ?_
  refine lv_iconst (v := 1) hC.1 hC.2.1 dX1_rueAll_43 (by decide) ?_
  obtain ⟨ok_1, h⟩ := h
  refine mm_pi hC hM (ci := 1) (j := 9) (ty := .boolean) ok_1 rfl (by decide) (by decide) tw_185 rfl rfl (by decide +kernel) rfl rfl dX1_rueAll_44 (fun S_2 H locs eS_2 hM => ?_)
  have h := h S_2 eS_2
  exact mm_vret hC hr hlk hM h dX1_rueAll_47
set_option maxHeartbeats 4000000 in
set_option maxRecDepth 100000 in
theorem qX1_rueAll_14 {p : Program} {l : Launch} {e : Env} {s : State} {m : MethodId} {args : Array Value} {below : List Frame} {meth : Method} {c : Code} {G : Gt} {b0 : Nat} (hC : CallFix p m c cX1_rueAll 2 s args lw_g RX1) (hr : meth.sig.returnType = none) (hlk : meth.locks = false) {K : St → Prop} : ∀ (n : Nat) (x0 : Nat) (x1 : Int32) (S : St) (H : Heap) (locs : List Loc) (ls : Array Slot), wX1_rueAll_14 K n x0 x1 S → MM G b0 s S H locs → lv_has ls 2 [(0, .ref (b0 + x0)), (1, .int x1)] → W p l e rmX1_rueAll s m args below meth c H locs 0 0 (MQ below (va_Qv K (ME G b0) (AB b0)) args s 0 0 (AB b0)) (F0 m 14 ls []) := by
  intro n
  induction n with
  | zero =>
    intro x0 x1 S H locs ls h
    exact False.elim h
  | succ n ih =>
    intro x0 x1 S H locs ls h hM hl
    rw [wX1_rueAll_14] at h
    refine lv_iload_n hC.1 hC.2.1 dX1_rueAll_14 rfl (lv_at hl 1 rfl) ?_
    refine lv_aload_n hC.1 hC.2.1 dX1_rueAll_15 rfl (lv_at hl 0 rfl) ?_
    obtain ⟨ok_3, h⟩ := h
    refine mm_gr hC hM (ci := 1) (j := 1) ok_3 rfl (by decide) (by decide) tw_177 rfl dX1_rueAll_16 ?_
    obtain ⟨ok_4, h⟩ := h
    refine mm_gi hC hM (ci := 3) (j := 0) ok_4 rfl (by decide) (by decide) tw_90 rfl dX1_rueAll_19 ?_
    refine lv_icmp_ge (tgt := 42) hC.1 hC.2.1 dX1_rueAll_22 (by decide) (fun c_5 => ?_) (fun c_5 => ?_)
    · have h := h.1 c_5
      exact qX1_rueAll_42 hC hr hlk _ _ H locs ls h hM (lv_sub hl [0] rfl)
    · have h := h.2 c_5
      refine lv_aload_n hC.1 hC.2.1 dX1_rueAll_25 rfl (lv_at hl 0 rfl) ?_
      obtain ⟨ok_6, h⟩ := h
      refine mm_gr hC hM (ci := 1) (j := 6) ⟨ok_3.1, ok_6⟩ rfl (by decide) (by decide) tw_182 rfl dX1_rueAll_26 ?_
      refine lv_iload_n hC.1 hC.2.1 dX1_rueAll_29 rfl (lv_at hl 1 rfl) ?_
      refine lv_aload_n hC.1 hC.2.1 dX1_rueAll_30 rfl (lv_at hl 0 rfl) ?_
      refine lv_iload_n hC.1 hC.2.1 dX1_rueAll_31 rfl (lv_at hl 1 rfl) ?_
      refine mm_ri hM (mm_V (As := [.int x1]) (rest := [.int x1, .ref (b0 + (sR S x0 6))]) hC hM hl.1 (mX1_rueInWorst l G b0 S x0 x1 _) h (ci := 1) ok_3.1 rfl rfl kX1_rueInWorst tw_512 rfl (by decide) rfl (Nat.le_of_ble_eq_true rfl) dX1_rueAll_32 (by decide)) (fun r_8 S_7 H locs h hM => ?_)
      obtain ⟨ok_9, h⟩ := h
      refine mm_is hC hM ok_9 dX1_rueAll_35 (fun S_10 H locs eS_10 hM => ?_)
      have h := h S_10 eS_10
      obtain ⟨x1_11, ex1_11⟩ : ∃ y : Int32, y = x1 + 1 := ⟨_, rfl⟩
      have h := h x1_11 ex1_11
      refine lv_iinc (v := x1_11) (lv' := [(1, .int x1_11), (0, .ref (b0 + x0))]) hC.1 hC.2.1 dX1_rueAll_36 hl (k := 1) rfl (by rw [ex1_11]; rfl) (by decide) rfl (fun ls hl => ?_)
      refine lv_goto (tgt := 14) hC.1 hC.2.1 dX1_rueAll_39 (by decide) ?_
      exact ih _ _ _ H locs ls h hM (lv_sub hl [1, 0] rfl)
set_option maxHeartbeats 4000000 in
set_option maxRecDepth 100000 in
theorem mX1_rueAll (l : Launch) (G : Gt) (b0 : Nat) (S : St) (o : Nat) (K : St → Prop) : CV l G b0 S yX1_rueAll cX1_rueAll 2 none rmX1_rueAll [.ref (b0 + o)] (wX1_rueAll S o K) K := by
  refine met_of (by decide) (Nat.le_of_ble_eq_true rfl) rfl ?_
  intro p e s m below meth c hC hr hlk hin h H locs ls hM hl
  unfold wX1_rueAll at h
  refine lv_aload_n hC.1 hC.2.1 dX1_rueAll_0 rfl (lv_at hl 0 rfl) ?_
  obtain ⟨ok_12, h⟩ := h
  refine mm_gi hC hM (ci := 1) (j := 9) ok_12 rfl (by decide) (by decide) tw_185 rfl dX1_rueAll_1 ?_
  refine lv_if_eq (tgt := 8) hC.1 hC.2.1 dX1_rueAll_4 (by decide) (fun c_13 => ?_) (fun c_13 => ?_)
  · have h := h.1 c_13
    refine lv_aload_n hC.1 hC.2.1 dX1_rueAll_8 rfl (lv_at hl 0 rfl) ?_
    refine mm_rv hM (mm_V (As := []) (rest := []) hC hM hl.1 (mX1_sumUp l G b0 S o _) h (ci := 1) ok_12 rfl rfl kX1_sumUp tw_481 rfl (by decide) rfl (Nat.le_of_ble_eq_true rfl) dX1_rueAll_9 (by decide)) (fun S_14 H locs h hM => ?_)
    refine lv_iconst (v := 0) hC.1 hC.2.1 dX1_rueAll_12 (by decide) ?_
    refine lv_istore_n (lv' := [(1, .int 0), (0, .ref (b0 + o))]) hC.1 hC.2.1 dX1_rueAll_13 rfl hl (by decide) rfl (fun ls hl => ?_)
    obtain ⟨n1, h⟩ := h
    exact qX1_rueAll_14 hC hr hlk n1 _ _ _ H locs ls h hM (lv_sub hl [1, 0] rfl)
  · have h := h.2 c_13
    exact mm_vret hC hr hlk hM h dX1_rueAll_7
set_option maxHeartbeats 4000000 in
set_option maxRecDepth 100000 in
theorem mX1_leastRued (l : Launch) (G : Gt) (b0 : Nat) (S : St) (o : Nat) (K : Int32 → St → Prop) : CI l G b0 S yX1_leastRued cX1_leastRued 1 (some .int) rmX1_leastRued [.ref (b0 + o)] (wX1_leastRued S o K) K := by
  refine met_of (by decide) (Nat.le_of_ble_eq_true rfl) rfl ?_
  intro p e s m below meth c hC hr hlk hin h H locs ls hM hl
  unfold wX1_leastRued at h
  refine lv_aload_n hC.1 hC.2.1 dX1_leastRued_0 rfl (lv_at hl 0 rfl) ?_
  obtain ⟨ok_3, h⟩ := h
  refine mm_rv hM (mm_V (As := []) (rest := []) hC hM hl.1 (mX1_rueAll l G b0 S o _) h (ci := 1) ok_3 rfl rfl kX1_rueAll tw_531 rfl (by decide) rfl (Nat.le_of_ble_eq_true rfl) dX1_leastRued_1 (by decide)) (fun S_1 H locs h hM => ?_)
  refine lv_aload_n hC.1 hC.2.1 dX1_leastRued_4 rfl (lv_at hl 0 rfl) ?_
  obtain ⟨ok_4, h⟩ := h
  refine mm_gr hC hM (ci := 1) (j := 6) ok_4 rfl (by decide) (by decide) tw_182 rfl dX1_leastRued_5 ?_
  refine lv_aload_n hC.1 hC.2.1 dX1_leastRued_8 rfl (lv_at hl 0 rfl) ?_
  obtain ⟨ok_5, h⟩ := h
  refine mm_gr hC hM (ci := 1) (j := 1) ⟨ok_4.1, ok_5⟩ rfl (by decide) (by decide) tw_177 rfl dX1_leastRued_9 ?_
  obtain ⟨ok_6, h⟩ := h
  refine mm_gi hC hM (ci := 3) (j := 0) ok_6 rfl (by decide) (by decide) tw_90 rfl dX1_leastRued_12 ?_
  refine mm_ri hM (mm_SN (As := [.ref (b0 + (sR S_1 o 6)), .int (sI S_1 (sR S_1 o 1) 0)]) (rest := []) hC hM hl.1 (mX8_firstLeast l G b0 S_1 (sR S_1 o 6) (sI S_1 (sR S_1 o 1) 0) _) h kX8_firstLeast nn_9 rfl (by decide) rfl (Nat.le_of_ble_eq_true rfl) dX1_leastRued_15 (by decide)) (fun r_8 S_7 H locs h hM => ?_)
  exact mm_iret hC hr hlk hM h dX1_leastRued_18
set_option maxHeartbeats 4000000 in
set_option maxRecDepth 100000 in
theorem qX1_howManyLeastRued_43 {p : Program} {l : Launch} {e : Env} {s : State} {m : MethodId} {args : Array Value} {below : List Frame} {meth : Method} {c : Code} {G : Gt} {b0 : Nat} (hC : CallFix p m c cX1_howManyLeastRued 4 s args lw_g RX1) (hr : meth.sig.returnType = (some .int)) (hlk : meth.locks = false) {K : Int32 → St → Prop} {B9 : Nat → Int32 → Int32 → Int32 → St → Prop} (hB9 : ∀ (x0 : Nat) (x1 : Int32) (x2 : Int32) (x3 : Int32) (S : St) (H : Heap) (locs : List Loc) (ls : Array Slot), B9 x0 x1 x2 x3 S → MM G b0 s S H locs → lv_has ls 4 [(0, .ref (b0 + x0)), (1, .int x1), (2, .int x2), (3, .int x3)] → W p l e rmX1_howManyLeastRued s m args below meth c H locs 0 0 (MQ below (va_Qi K (ME G b0) (AB b0)) args s 0 0 (AB b0)) (F0 m 9 ls [])) : ∀ (x0 : Nat) (x1 : Int32) (x2 : Int32) (x3 : Int32) (S : St) (H : Heap) (locs : List Loc) (ls : Array Slot), wX1_howManyLeastRued_43 K B9 x0 x1 x2 x3 S → MM G b0 s S H locs → lv_has ls 4 [(0, .ref (b0 + x0)), (1, .int x1), (2, .int x2), (3, .int x3)] → W p l e rmX1_howManyLeastRued s m args below meth c H locs 0 0 (MQ below (va_Qi K (ME G b0) (AB b0)) args s 0 0 (AB b0)) (F0 m 43 ls []) := by
  intro x0 x1 x2 x3 S H locs ls h hM hl
  unfold wX1_howManyLeastRued_43 at h
  obtain ⟨x3_1, ex3_1⟩ : ∃ y : Int32, y = x3 + 1 := ⟨_, rfl⟩
  have h := h x3_1 ex3_1
  refine lv_iinc (v := x3_1) (lv' := [(3, .int x3_1), (0, .ref (b0 + x0)), (1, .int x1), (2, .int x2)]) hC.1 hC.2.1 dX1_howManyLeastRued_43 hl (k := 3) rfl (by rw [ex3_1]; rfl) (by decide) rfl (fun ls hl => ?_)
  refine lv_goto (tgt := 9) hC.1 hC.2.1 dX1_howManyLeastRued_46 (by decide) ?_
  exact hB9 _ _ _ _ _ H locs ls h hM (lv_sub hl [1, 2, 3, 0] rfl)
set_option maxHeartbeats 4000000 in
set_option maxRecDepth 100000 in
theorem qX1_howManyLeastRued_9 {p : Program} {l : Launch} {e : Env} {s : State} {m : MethodId} {args : Array Value} {below : List Frame} {meth : Method} {c : Code} {G : Gt} {b0 : Nat} (hC : CallFix p m c cX1_howManyLeastRued 4 s args lw_g RX1) (hr : meth.sig.returnType = (some .int)) (hlk : meth.locks = false) {K : Int32 → St → Prop} : ∀ (n : Nat) (x0 : Nat) (x1 : Int32) (x2 : Int32) (x3 : Int32) (S : St) (H : Heap) (locs : List Loc) (ls : Array Slot), wX1_howManyLeastRued_9 K n x0 x1 x2 x3 S → MM G b0 s S H locs → lv_has ls 4 [(0, .ref (b0 + x0)), (1, .int x1), (2, .int x2), (3, .int x3)] → W p l e rmX1_howManyLeastRued s m args below meth c H locs 0 0 (MQ below (va_Qi K (ME G b0) (AB b0)) args s 0 0 (AB b0)) (F0 m 9 ls []) := by
  intro n
  induction n with
  | zero =>
    intro x0 x1 x2 x3 S H locs ls h
    exact False.elim h
  | succ n ih =>
    intro x0 x1 x2 x3 S H locs ls h hM hl
    rw [wX1_howManyLeastRued_9] at h
    refine lv_iload_n hC.1 hC.2.1 dX1_howManyLeastRued_9 rfl (lv_at hl 1 rfl) ?_
    refine lv_iconst (v := (-1)) hC.1 hC.2.1 dX1_howManyLeastRued_10 (by decide) ?_
    refine lv_icmp_eq (tgt := 49) hC.1 hC.2.1 dX1_howManyLeastRued_11 (by decide) (fun c_2 => ?_) (fun c_2 => ?_)
    · have h := h.1 c_2
      refine lv_iload_n hC.1 hC.2.1 dX1_howManyLeastRued_49 rfl (lv_at hl 2 rfl) ?_
      exact mm_iret hC hr hlk hM h dX1_howManyLeastRued_50
    · have h := h.2 c_2
      refine lv_iload_n hC.1 hC.2.1 dX1_howManyLeastRued_14 rfl (lv_at hl 3 rfl) ?_
      refine lv_aload_n hC.1 hC.2.1 dX1_howManyLeastRued_15 rfl (lv_at hl 0 rfl) ?_
      obtain ⟨ok_3, h⟩ := h
      refine mm_gr hC hM (ci := 1) (j := 1) ok_3 rfl (by decide) (by decide) tw_177 rfl dX1_howManyLeastRued_16 ?_
      obtain ⟨ok_4, h⟩ := h
      refine mm_gi hC hM (ci := 3) (j := 0) ok_4 rfl (by decide) (by decide) tw_90 rfl dX1_howManyLeastRued_19 ?_
      refine lv_icmp_ge (tgt := 49) hC.1 hC.2.1 dX1_howManyLeastRued_22 (by decide) (fun c_5 => ?_) (fun c_5 => ?_)
      · have h := h.1 c_5
        refine lv_iload_n hC.1 hC.2.1 dX1_howManyLeastRued_49 rfl (lv_at hl 2 rfl) ?_
        exact mm_iret hC hr hlk hM h dX1_howManyLeastRued_50
      · have h := h.2 c_5
        refine lv_aload_n hC.1 hC.2.1 dX1_howManyLeastRued_25 rfl (lv_at hl 0 rfl) ?_
        obtain ⟨ok_6, h⟩ := h
        refine mm_gr hC hM (ci := 1) (j := 6) ⟨ok_3.1, ok_6⟩ rfl (by decide) (by decide) tw_182 rfl dX1_howManyLeastRued_26 ?_
        refine lv_iload_n hC.1 hC.2.1 dX1_howManyLeastRued_29 rfl (lv_at hl 3 rfl) ?_
        obtain ⟨ok_7, h⟩ := h
        refine mm_il hC hM ok_7 dX1_howManyLeastRued_30 ?_
        refine lv_aload_n hC.1 hC.2.1 dX1_howManyLeastRued_31 rfl (lv_at hl 0 rfl) ?_
        refine mm_gr hC hM (ci := 1) (j := 6) ⟨ok_3.1, ok_6⟩ rfl (by decide) (by decide) tw_182 rfl dX1_howManyLeastRued_32 ?_
        refine lv_iload_n hC.1 hC.2.1 dX1_howManyLeastRued_35 rfl (lv_at hl 1 rfl) ?_
        obtain ⟨ok_8, h⟩ := h
        refine mm_il hC hM ok_8 dX1_howManyLeastRued_36 ?_
        refine lv_icmp_ne (tgt := 43) hC.1 hC.2.1 dX1_howManyLeastRued_37 (by decide) (fun c_9 => ?_) (fun c_9 => ?_)
        · have h := h.2 c_9
          exact qX1_howManyLeastRued_43 hC hr hlk ih _ _ _ _ _ H locs ls h hM (lv_sub hl [0, 1, 2, 3] rfl)
        · have h := h.1 c_9
          obtain ⟨x2_10, ex2_10⟩ : ∃ y : Int32, y = x2 + 1 := ⟨_, rfl⟩
          have h := h x2_10 ex2_10
          refine lv_iinc (v := x2_10) (lv' := [(2, .int x2_10), (0, .ref (b0 + x0)), (1, .int x1), (3, .int x3)]) hC.1 hC.2.1 dX1_howManyLeastRued_40 hl (k := 2) rfl (by rw [ex2_10]; rfl) (by decide) rfl (fun ls hl => ?_)
          exact qX1_howManyLeastRued_43 hC hr hlk ih _ _ _ _ _ H locs ls h hM (lv_sub hl [1, 2, 0, 3] rfl)
set_option maxHeartbeats 4000000 in
set_option maxRecDepth 100000 in
theorem mX1_howManyLeastRued (l : Launch) (G : Gt) (b0 : Nat) (S : St) (o : Nat) (K : Int32 → St → Prop) : CI l G b0 S yX1_howManyLeastRued cX1_howManyLeastRued 4 (some .int) rmX1_howManyLeastRued [.ref (b0 + o)] (wX1_howManyLeastRued S o K) K := by
  refine met_of (by decide) (Nat.le_of_ble_eq_true rfl) rfl ?_
  intro p e s m below meth c hC hr hlk hin h H locs ls hM hl
  unfold wX1_howManyLeastRued at h
  refine lv_aload_n hC.1 hC.2.1 dX1_howManyLeastRued_0 rfl (lv_at hl 0 rfl) ?_
  obtain ⟨ok_13, h⟩ := h
  refine mm_ri hM (mm_V (As := []) (rest := []) hC hM hl.1 (mX1_leastRued l G b0 S o _) h (ci := 1) ok_13 rfl rfl kX1_leastRued tw_543 rfl (by decide) rfl (Nat.le_of_ble_eq_true rfl) dX1_howManyLeastRued_1 (by decide)) (fun r_12 S_11 H locs h hM => ?_)
  refine lv_istore_n (lv' := [(1, .int r_12), (0, .ref (b0 + o))]) hC.1 hC.2.1 dX1_howManyLeastRued_4 rfl hl (by decide) rfl (fun ls hl => ?_)
  refine lv_iconst (v := 0) hC.1 hC.2.1 dX1_howManyLeastRued_5 (by decide) ?_
  refine lv_istore_n (lv' := [(2, .int 0), (1, .int r_12), (0, .ref (b0 + o))]) hC.1 hC.2.1 dX1_howManyLeastRued_6 rfl hl (by decide) rfl (fun ls hl => ?_)
  refine lv_iconst (v := 0) hC.1 hC.2.1 dX1_howManyLeastRued_7 (by decide) ?_
  refine lv_istore_n (lv' := [(3, .int 0), (2, .int 0), (1, .int r_12), (0, .ref (b0 + o))]) hC.1 hC.2.1 dX1_howManyLeastRued_8 rfl hl (by decide) rfl (fun ls hl => ?_)
  obtain ⟨n1, h⟩ := h
  exact qX1_howManyLeastRued_9 hC hr hlk n1 _ _ _ _ _ H locs ls h hM (lv_sub hl [3, 2, 1, 0] rfl)
set_option maxHeartbeats 4000000 in
set_option maxRecDepth 100000 in
theorem qX1_sortByFairestWorldOf_110 {p : Program} {l : Launch} {e : Env} {s : State} {m : MethodId} {args : Array Value} {below : List Frame} {meth : Method} {c : Code} {G : Gt} {b0 : Nat} (hC : CallFix p m c cX1_sortByFairestWorldOf 7 s args lw_g RX1) (hr : meth.sig.returnType = none) (hlk : meth.locks = false) {K : St → Prop} {B15 : Nat → Int32 → Int32 → Int32 → Int32 → St → Prop} (hB15 : ∀ (x0 : Nat) (x1 : Int32) (x2 : Int32) (x3 : Int32) (x4 : Int32) (S : St) (H : Heap) (locs : List Loc) (ls : Array Slot), B15 x0 x1 x2 x3 x4 S → MM G b0 s S H locs → lv_has ls 7 [(0, .ref (b0 + x0)), (1, .int x1), (2, .int x2), (3, .int x3), (4, .int x4)] → W p l e rmX1_sortByFairestWorldOf s m args below meth c H locs 0 0 (MQ below (va_Qv K (ME G b0) (AB b0)) args s 0 0 (AB b0)) (F0 m 15 ls [])) : ∀ (x0 : Nat) (x1 : Int32) (x2 : Int32) (x3 : Int32) (x4 : Int32) (S : St) (H : Heap) (locs : List Loc) (ls : Array Slot), wX1_sortByFairestWorldOf_110 K B15 x0 x1 x2 x3 x4 S → MM G b0 s S H locs → lv_has ls 7 [(0, .ref (b0 + x0)), (1, .int x1), (2, .int x2), (3, .int x3), (4, .int x4)] → W p l e rmX1_sortByFairestWorldOf s m args below meth c H locs 0 0 (MQ below (va_Qv K (ME G b0) (AB b0)) args s 0 0 (AB b0)) (F0 m 110 ls []) := by
  intro x0 x1 x2 x3 x4 S H locs ls h hM hl
  unfold wX1_sortByFairestWorldOf_110 at h
  obtain ⟨x4_1, ex4_1⟩ : ∃ y : Int32, y = x4 + 1 := ⟨_, rfl⟩
  have h := h x4_1 ex4_1
  refine lv_iinc (v := x4_1) (lv' := [(4, .int x4_1), (0, .ref (b0 + x0)), (1, .int x1), (2, .int x2), (3, .int x3)]) hC.1 hC.2.1 dX1_sortByFairestWorldOf_110 hl (k := 4) rfl (by rw [ex4_1]; rfl) (by decide) rfl (fun ls hl => ?_)
  refine lv_goto (tgt := 15) hC.1 hC.2.1 dX1_sortByFairestWorldOf_113 (by decide) ?_
  exact hB15 _ _ _ _ _ _ H locs ls h hM (lv_sub hl [1, 2, 3, 4, 0] rfl)
set_option maxHeartbeats 4000000 in
set_option maxRecDepth 100000 in
theorem qX1_sortByFairestWorldOf_108 {p : Program} {l : Launch} {e : Env} {s : State} {m : MethodId} {args : Array Value} {below : List Frame} {meth : Method} {c : Code} {G : Gt} {b0 : Nat} (hC : CallFix p m c cX1_sortByFairestWorldOf 7 s args lw_g RX1) (hr : meth.sig.returnType = none) (hlk : meth.locks = false) {K : St → Prop} {B15 : Nat → Int32 → Int32 → Int32 → Int32 → St → Prop} (hB15 : ∀ (x0 : Nat) (x1 : Int32) (x2 : Int32) (x3 : Int32) (x4 : Int32) (S : St) (H : Heap) (locs : List Loc) (ls : Array Slot), B15 x0 x1 x2 x3 x4 S → MM G b0 s S H locs → lv_has ls 7 [(0, .ref (b0 + x0)), (1, .int x1), (2, .int x2), (3, .int x3), (4, .int x4)] → W p l e rmX1_sortByFairestWorldOf s m args below meth c H locs 0 0 (MQ below (va_Qv K (ME G b0) (AB b0)) args s 0 0 (AB b0)) (F0 m 15 ls [])) : ∀ (x0 : Nat) (x1 : Int32) (x2 : Int32) (x4 : Int32) (t0 : Int32) (t1 : Int32) (S : St) (H : Heap) (locs : List Loc) (ls : Array Slot), wX1_sortByFairestWorldOf_108 K B15 x0 x1 x2 x4 t0 t1 S → MM G b0 s S H locs → lv_has ls 7 [(0, .ref (b0 + x0)), (1, .int x1), (2, .int x2), (4, .int x4)] → W p l e rmX1_sortByFairestWorldOf s m args below meth c H locs 0 0 (MQ below (va_Qv K (ME G b0) (AB b0)) args s 0 0 (AB b0)) (F0 m 108 ls [.int t1, .int t0]) := by
  intro x0 x1 x2 x4 t0 t1 S H locs ls h hM hl
  unfold wX1_sortByFairestWorldOf_108 at h
  refine lv_ior hC.1 hC.2.1 dX1_sortByFairestWorldOf_108 ?_
  refine lv_topi (fun x3_2 ex3_2 => ?_)
  have h := h x3_2 ex3_2
  refine lv_istore_n (lv' := [(3, .int x3_2), (0, .ref (b0 + x0)), (1, .int x1), (2, .int x2), (4, .int x4)]) hC.1 hC.2.1 dX1_sortByFairestWorldOf_109 rfl hl (by decide) rfl (fun ls hl => ?_)
  exact qX1_sortByFairestWorldOf_110 hC hr hlk hB15 _ _ _ _ _ _ H locs ls h hM (lv_sub hl [1, 2, 3, 0, 4] rfl)
set_option maxHeartbeats 4000000 in
set_option maxRecDepth 100000 in
theorem qX1_sortByFairestWorldOf_116 {p : Program} {l : Launch} {e : Env} {s : State} {m : MethodId} {args : Array Value} {below : List Frame} {meth : Method} {c : Code} {G : Gt} {b0 : Nat} (hC : CallFix p m c cX1_sortByFairestWorldOf 7 s args lw_g RX1) (hr : meth.sig.returnType = none) (hlk : meth.locks = false) {K : St → Prop} : ∀ (x0 : Nat) (x2 : Int32) (x3 : Int32) (S : St) (H : Heap) (locs : List Loc) (ls : Array Slot), wX1_sortByFairestWorldOf_116 K x0 x2 x3 S → MM G b0 s S H locs → lv_has ls 7 [(0, .ref (b0 + x0)), (2, .int x2), (3, .int x3)] → W p l e rmX1_sortByFairestWorldOf s m args below meth c H locs 0 0 (MQ below (va_Qv K (ME G b0) (AB b0)) args s 0 0 (AB b0)) (F0 m 116 ls []) := by
  intro x0 x2 x3 S H locs ls h hM hl
  unfold wX1_sortByFairestWorldOf_116 at h
  refine lv_aload_n hC.1 hC.2.1 dX1_sortByFairestWorldOf_116 rfl (lv_at hl 0 rfl) ?_
  refine lv_dup hC.1 hC.2.1 dX1_sortByFairestWorldOf_117 rfl ?_
  obtain ⟨ok_3, h⟩ := h
  refine mm_gi hC hM (ci := 1) (j := 11) ok_3 rfl (by decide) (by decide) tw_187 rfl dX1_sortByFairestWorldOf_118 ?_
  refine lv_iload_n hC.1 hC.2.1 dX1_sortByFairestWorldOf_121 rfl (lv_at hl 1 rfl) ?_
  refine lv_iand hC.1 hC.2.1 dX1_sortByFairestWorldOf_122 ?_
  refine mm_pi hC hM (ci := 1) (j := 11) (ty := .int) ok_3 rfl (by decide) (by decide) tw_187 rfl rfl (by decide +kernel) rfl rfl dX1_sortByFairestWorldOf_123 (fun S_4 H locs eS_4 hM => ?_)
  have h := h S_4 eS_4
  refine lv_aload_n hC.1 hC.2.1 dX1_sortByFairestWorldOf_126 rfl (lv_at hl 0 rfl) ?_
  refine lv_dup hC.1 hC.2.1 dX1_sortByFairestWorldOf_127 rfl ?_
  obtain ⟨ok_5, h⟩ := h
  refine mm_gi hC hM (ci := 1) (j := 12) ok_5 rfl (by decide) (by decide) tw_188 rfl dX1_sortByFairestWorldOf_128 ?_
  refine lv_iload_n hC.1 hC.2.1 dX1_sortByFairestWorldOf_131 rfl (lv_at hl 2 rfl) ?_
  refine lv_iand hC.1 hC.2.1 dX1_sortByFairestWorldOf_132 ?_
  refine mm_pi hC hM (ci := 1) (j := 12) (ty := .int) ok_5 rfl (by decide) (by decide) tw_188 rfl rfl (by decide +kernel) rfl rfl dX1_sortByFairestWorldOf_133 (fun S_6 H locs eS_6 hM => ?_)
  have h := h S_6 eS_6
  refine lv_aload_n hC.1 hC.2.1 dX1_sortByFairestWorldOf_136 rfl (lv_at hl 0 rfl) ?_
  refine lv_dup hC.1 hC.2.1 dX1_sortByFairestWorldOf_137 rfl ?_
  obtain ⟨ok_7, h⟩ := h
  refine mm_gi hC hM (ci := 1) (j := 13) ok_7 rfl (by decide) (by decide) tw_189 rfl dX1_sortByFairestWorldOf_138 ?_
  refine lv_iload_n hC.1 hC.2.1 dX1_sortByFairestWorldOf_141 rfl (lv_at hl 1 rfl) ?_
  refine lv_ior hC.1 hC.2.1 dX1_sortByFairestWorldOf_142 ?_
  refine mm_pi hC hM (ci := 1) (j := 13) (ty := .int) ok_7 rfl (by decide) (by decide) tw_189 rfl rfl (by decide +kernel) rfl rfl dX1_sortByFairestWorldOf_143 (fun S_8 H locs eS_8 hM => ?_)
  have h := h S_8 eS_8
  exact mm_vret hC hr hlk hM h dX1_sortByFairestWorldOf_146
set_option maxHeartbeats 4000000 in
set_option maxRecDepth 100000 in
theorem qX1_sortByFairestWorldOf_15 {p : Program} {l : Launch} {e : Env} {s : State} {m : MethodId} {args : Array Value} {below : List Frame} {meth : Method} {c : Code} {G : Gt} {b0 : Nat} (hC : CallFix p m c cX1_sortByFairestWorldOf 7 s args lw_g RX1) (hr : meth.sig.returnType = none) (hlk : meth.locks = false) {K : St → Prop} : ∀ (n : Nat) (x0 : Nat) (x1 : Int32) (x2 : Int32) (x3 : Int32) (x4 : Int32) (S : St) (H : Heap) (locs : List Loc) (ls : Array Slot), wX1_sortByFairestWorldOf_15 K n x0 x1 x2 x3 x4 S → MM G b0 s S H locs → lv_has ls 7 [(0, .ref (b0 + x0)), (1, .int x1), (2, .int x2), (3, .int x3), (4, .int x4)] → W p l e rmX1_sortByFairestWorldOf s m args below meth c H locs 0 0 (MQ below (va_Qv K (ME G b0) (AB b0)) args s 0 0 (AB b0)) (F0 m 15 ls []) := by
  intro n
  induction n with
  | zero =>
    intro x0 x1 x2 x3 x4 S H locs ls h
    exact False.elim h
  | succ n ih =>
    intro x0 x1 x2 x3 x4 S H locs ls h hM hl
    rw [wX1_sortByFairestWorldOf_15] at h
    refine lv_iload hC.1 hC.2.1 dX1_sortByFairestWorldOf_15 (lv_at hl 4 rfl) ?_
    refine lv_aload_n hC.1 hC.2.1 dX1_sortByFairestWorldOf_17 rfl (lv_at hl 0 rfl) ?_
    obtain ⟨ok_9, h⟩ := h
    refine mm_gr hC hM (ci := 1) (j := 1) ok_9 rfl (by decide) (by decide) tw_177 rfl dX1_sortByFairestWorldOf_18 ?_
    obtain ⟨ok_10, h⟩ := h
    refine mm_gi hC hM (ci := 3) (j := 0) ok_10 rfl (by decide) (by decide) tw_90 rfl dX1_sortByFairestWorldOf_21 ?_
    refine lv_icmp_ge (tgt := 116) hC.1 hC.2.1 dX1_sortByFairestWorldOf_24 (by decide) (fun c_11 => ?_) (fun c_11 => ?_)
    · have h := h.1 c_11
      exact qX1_sortByFairestWorldOf_116 hC hr hlk _ _ _ _ H locs ls h hM (lv_sub hl [0, 2, 3] rfl)
    · have h := h.2 c_11
      refine lv_aload_n hC.1 hC.2.1 dX1_sortByFairestWorldOf_27 rfl (lv_at hl 0 rfl) ?_
      refine mm_gr hC hM (ci := 1) (j := 1) ok_9 rfl (by decide) (by decide) tw_177 rfl dX1_sortByFairestWorldOf_28 ?_
      obtain ⟨ok_12, h⟩ := h
      refine mm_gr hC hM (ci := 3) (j := 1) ⟨ok_10, ok_12⟩ rfl (by decide) (by decide) tw_96 rfl dX1_sortByFairestWorldOf_31 ?_
      refine lv_iload hC.1 hC.2.1 dX1_sortByFairestWorldOf_34 (lv_at hl 4 rfl) ?_
      obtain ⟨ok_13, h⟩ := h
      refine mm_il hC hM ok_13 dX1_sortByFairestWorldOf_36 ?_
      refine lv_topi (fun x5_14 ex5_14 => ?_)
      have h := h x5_14 ex5_14
      refine lv_istore (lv' := [(5, .int x5_14), (0, .ref (b0 + x0)), (1, .int x1), (2, .int x2), (3, .int x3), (4, .int x4)]) hC.1 hC.2.1 dX1_sortByFairestWorldOf_37 hl (by decide) rfl (fun ls hl => ?_)
      refine lv_aload_n hC.1 hC.2.1 dX1_sortByFairestWorldOf_39 rfl (lv_at hl 1 rfl) ?_
      obtain ⟨ok_15, h⟩ := h
      refine mm_gr hC hM (ci := 1) (j := 5) ⟨ok_9.1, ok_15⟩ rfl (by decide) (by decide) tw_181 rfl dX1_sortByFairestWorldOf_40 ?_
      refine lv_iload hC.1 hC.2.1 dX1_sortByFairestWorldOf_43 (lv_at hl 5 rfl) ?_
      obtain ⟨ok_16, h⟩ := h
      refine mm_il hC hM ok_16 dX1_sortByFairestWorldOf_45 ?_
      refine lv_aload_n hC.1 hC.2.1 dX1_sortByFairestWorldOf_46 rfl (lv_at hl 1 rfl) ?_
      refine mm_gr hC hM (ci := 1) (j := 5) ⟨ok_9.1, ok_15⟩ rfl (by decide) (by decide) tw_181 rfl dX1_sortByFairestWorldOf_47 ?_
      refine lv_iload_n hC.1 hC.2.1 dX1_sortByFairestWorldOf_50 rfl (lv_at hl 2 rfl) ?_
      obtain ⟨ok_17, h⟩ := h
      refine mm_il hC hM ok_17 dX1_sortByFairestWorldOf_51 ?_
      refine lv_icmp_gt (tgt := 110) hC.1 hC.2.1 dX1_sortByFairestWorldOf_52 (by decide) (fun c_18 => ?_) (fun c_18 => ?_)
      · have h := h.1 c_18
        exact qX1_sortByFairestWorldOf_110 hC hr hlk ih _ _ _ _ _ _ H locs ls h hM (lv_sub hl [1, 2, 3, 4, 5] rfl)
      · have h := h.2 c_18
        refine lv_aload_n hC.1 hC.2.1 dX1_sortByFairestWorldOf_55 rfl (lv_at hl 1 rfl) ?_
        refine mm_gr hC hM (ci := 1) (j := 5) ⟨ok_9.1, ok_15⟩ rfl (by decide) (by decide) tw_181 rfl dX1_sortByFairestWorldOf_56 ?_
        refine lv_iload hC.1 hC.2.1 dX1_sortByFairestWorldOf_59 (lv_at hl 5 rfl) ?_
        refine mm_il hC hM ok_16 dX1_sortByFairestWorldOf_61 ?_
        refine lv_aload_n hC.1 hC.2.1 dX1_sortByFairestWorldOf_62 rfl (lv_at hl 1 rfl) ?_
        obtain ⟨ok_19, h⟩ := h
        refine mm_gr hC hM (ci := 1) (j := 4) ⟨ok_9.1, ok_19⟩ rfl (by decide) (by decide) tw_180 rfl dX1_sortByFairestWorldOf_63 ?_
        refine lv_iload hC.1 hC.2.1 dX1_sortByFairestWorldOf_66 (lv_at hl 0 rfl) ?_
        refine lv_iload_n hC.1 hC.2.1 dX1_sortByFairestWorldOf_68 rfl (lv_at hl 3 rfl) ?_
        refine lv_iconst (v := (-1)) hC.1 hC.2.1 dX1_sortByFairestWorldOf_69 (by decide) ?_
        refine lv_ixor hC.1 hC.2.1 dX1_sortByFairestWorldOf_70 ?_
        refine lv_iand hC.1 hC.2.1 dX1_sortByFairestWorldOf_71 ?_
        obtain ⟨ok_22, h⟩ := h
        refine mm_ri hM (mm_V (As := [.int (x5_14 &&& (x2 ^^^ (-1)))]) (rest := [.int (sI S (sR S x0 5) (x4 : Int32).toNatClampNeg)]) hC hM hl.1 (mX5_total l G b0 S (sR S x0 4) (x5_14 &&& (x2 ^^^ (-1))) _) h (ci := 5) ok_22 rfl rfl kX5_total tw_489 rfl (by decide) rfl (Nat.le_of_ble_eq_true rfl) dX1_sortByFairestWorldOf_72 (by decide)) (fun r_21 S_20 H locs h hM => ?_)
        refine lv_iadd hC.1 hC.2.1 dX1_sortByFairestWorldOf_75 ?_
        refine lv_topi (fun x6_23 ex6_23 => ?_)
        have h := h x6_23 ex6_23
        refine lv_istore (lv' := [(6, .int x6_23), (5, .int x5_14), (0, .ref (b0 + x0)), (1, .int x1), (2, .int x2), (3, .int x3), (4, .int x4)]) hC.1 hC.2.1 dX1_sortByFairestWorldOf_76 hl (by decide) rfl (fun ls hl => ?_)
        refine lv_iload hC.1 hC.2.1 dX1_sortByFairestWorldOf_78 (lv_at hl 0 rfl) ?_
        refine lv_aload_n hC.1 hC.2.1 dX1_sortByFairestWorldOf_80 rfl (lv_at hl 2 rfl) ?_
        obtain ⟨ok_24, h⟩ := h
        refine mm_gr hC hM (ci := 1) (j := 5) ok_24 rfl (by decide) (by decide) tw_181 rfl dX1_sortByFairestWorldOf_81 ?_
        refine lv_iload_n hC.1 hC.2.1 dX1_sortByFairestWorldOf_84 rfl (lv_at hl 3 rfl) ?_
        obtain ⟨ok_25, h⟩ := h
        refine mm_il hC hM ok_25 dX1_sortByFairestWorldOf_85 ?_
        refine lv_icmp_ge (tgt := 90) hC.1 hC.2.1 dX1_sortByFairestWorldOf_86 (by decide) (fun c_26 => ?_) (fun c_26 => ?_)
        · have h := h.1 c_26
          refine lv_iload_n hC.1 hC.2.1 dX1_sortByFairestWorldOf_90 rfl (lv_at hl 5 rfl) ?_
          refine lv_iload hC.1 hC.2.1 dX1_sortByFairestWorldOf_91 (lv_at hl 0 rfl) ?_
          refine lv_aload_n hC.1 hC.2.1 dX1_sortByFairestWorldOf_93 rfl (lv_at hl 2 rfl) ?_
          refine mm_gr hC hM (ci := 1) (j := 5) ok_24 rfl (by decide) (by decide) tw_181 rfl dX1_sortByFairestWorldOf_94 ?_
          refine lv_iload_n hC.1 hC.2.1 dX1_sortByFairestWorldOf_97 rfl (lv_at hl 3 rfl) ?_
          refine mm_il hC hM ok_25 dX1_sortByFairestWorldOf_98 ?_
          refine lv_icmp_ne (tgt := 107) hC.1 hC.2.1 dX1_sortByFairestWorldOf_99 (by decide) (fun c_27 => ?_) (fun c_27 => ?_)
          · have h := h.2 c_27
            refine lv_iconst (v := 0) hC.1 hC.2.1 dX1_sortByFairestWorldOf_107 (by decide) ?_
            exact qX1_sortByFairestWorldOf_108 hC hr hlk ih _ _ _ _ _ _ _ H locs ls h hM (lv_sub hl [2, 3, 4, 6] rfl)
          · have h := h.1 c_27
            refine lv_iload hC.1 hC.2.1 dX1_sortByFairestWorldOf_102 (lv_at hl 1 rfl) ?_
            refine lv_goto (tgt := 108) hC.1 hC.2.1 dX1_sortByFairestWorldOf_104 (by decide) ?_
            exact qX1_sortByFairestWorldOf_108 hC hr hlk ih _ _ _ _ _ _ _ H locs ls h hM (lv_sub hl [2, 3, 4, 6] rfl)
        · have h := h.2 c_26
          exact mm_vret hC hr hlk hM h dX1_sortByFairestWorldOf_89
set_option maxHeartbeats 4000000 in
set_option maxRecDepth 100000 in
theorem mX1_sortByFairestWorldOf (l : Launch) (G : Gt) (b0 : Nat) (S : St) (o : Nat) (x1 : Int32) (K : St → Prop) : CV l G b0 S yX1_sortByFairestWorldOf cX1_sortByFairestWorldOf 7 none rmX1_sortByFairestWorldOf [.ref (b0 + o), .int x1] (wX1_sortByFairestWorldOf S o x1 K) K := by
  refine met_of (by decide) (Nat.le_of_ble_eq_true rfl) rfl ?_
  intro p e s m below meth c hC hr hlk hin h H locs ls hM hl
  unfold wX1_sortByFairestWorldOf at h
  refine lv_aload_n hC.1 hC.2.1 dX1_sortByFairestWorldOf_0 rfl (lv_at hl 0 rfl) ?_
  obtain ⟨ok_28, h⟩ := h
  refine mm_gr hC hM (ci := 1) (j := 1) ok_28 rfl (by decide) (by decide) tw_177 rfl dX1_sortByFairestWorldOf_1 ?_
  obtain ⟨ok_29, h⟩ := h
  refine mm_gr hC hM (ci := 3) (j := 1) ok_29 rfl (by decide) (by decide) tw_96 rfl dX1_sortByFairestWorldOf_4 ?_
  refine lv_iload_n hC.1 hC.2.1 dX1_sortByFairestWorldOf_7 rfl (lv_at hl 1 rfl) ?_
  obtain ⟨ok_30, h⟩ := h
  refine mm_il hC hM ok_30 dX1_sortByFairestWorldOf_8 ?_
  refine lv_topi (fun x2_31 ex2_31 => ?_)
  have h := h x2_31 ex2_31
  refine lv_istore_n (lv' := [(2, .int x2_31), (0, .ref (b0 + o)), (1, .int x1)]) hC.1 hC.2.1 dX1_sortByFairestWorldOf_9 rfl hl (by decide) rfl (fun ls hl => ?_)
  refine lv_iload_n hC.1 hC.2.1 dX1_sortByFairestWorldOf_10 rfl (lv_at hl 0 rfl) ?_
  refine lv_istore_n (lv' := [(3, .int x2_31), (2, .int x2_31), (0, .ref (b0 + o)), (1, .int x1)]) hC.1 hC.2.1 dX1_sortByFairestWorldOf_11 rfl hl (by decide) rfl (fun ls hl => ?_)
  refine lv_iconst (v := 0) hC.1 hC.2.1 dX1_sortByFairestWorldOf_12 (by decide) ?_
  refine lv_istore (lv' := [(4, .int 0), (3, .int x2_31), (2, .int x2_31), (0, .ref (b0 + o)), (1, .int x1)]) hC.1 hC.2.1 dX1_sortByFairestWorldOf_13 hl (by decide) rfl (fun ls hl => ?_)
  obtain ⟨n1, h⟩ := h
  exact qX1_sortByFairestWorldOf_15 hC hr hlk n1 _ _ _ _ _ _ H locs ls h hM (lv_sub hl [3, 4, 2, 1, 0] rfl)
set_option maxHeartbeats 4000000 in
set_option maxRecDepth 100000 in
theorem qX1_sortThings_64 {p : Program} {l : Launch} {e : Env} {s : State} {m : MethodId} {args : Array Value} {below : List Frame} {meth : Method} {c : Code} {G : Gt} {b0 : Nat} (hC : CallFix p m c cX1_sortThings 2 s args lw_g RX1) (hr : meth.sig.returnType = none) (hlk : meth.locks = false) {K : St → Prop} : ∀ (x0 : Nat) (S : St) (H : Heap) (locs : List Loc) (ls : Array Slot), wX1_sortThings_64 K x0 S → MM G b0 s S H locs → lv_has ls 2 [(0, .ref (b0 + x0))] → W p l e rmX1_sortThings s m args below meth c H locs 0 0 (MQ below (va_Qv K (ME G b0) (AB b0)) args s 0 0 (AB b0)) (F0 m 64 ls []) := by
  intro x0 S H locs ls h hM hl
  unfold wX1_sortThings_64 at h
  refine lv_aload_n hC.1 hC.2.1 dX1_sortThings_64 rfl (lv_at hl 0 rfl) ?_
  refine lv_iconst (v := 1) hC.1 hC.2.1 dX1_sortThings_65 (by decide) ?_
  obtain ⟨ok_1, h⟩ := h
  refine mm_pi hC hM (ci := 1) (j := 10) (ty := .boolean) ok_1 rfl (by decide) (by decide) tw_186 rfl rfl (by decide +kernel) rfl rfl dX1_sortThings_66 (fun S_2 H locs eS_2 hM => ?_)
  have h := h S_2 eS_2
  exact mm_vret hC hr hlk hM h dX1_sortThings_69
set_option maxHeartbeats 4000000 in
set_option maxRecDepth 100000 in
theorem qX1_sortThings_42 {p : Program} {l : Launch} {e : Env} {s : State} {m : MethodId} {args : Array Value} {below : List Frame} {meth : Method} {c : Code} {G : Gt} {b0 : Nat} (hC : CallFix p m c cX1_sortThings 2 s args lw_g RX1) (hr : meth.sig.returnType = none) (hlk : meth.locks = false) {K : St → Prop} : ∀ (n : Nat) (x0 : Nat) (x1 : Int32) (S : St) (H : Heap) (locs : List Loc) (ls : Array Slot), wX1_sortThings_42 K n x0 x1 S → MM G b0 s S H locs → lv_has ls 2 [(0, .ref (b0 + x0)), (1, .int x1)] → W p l e rmX1_sortThings s m args below meth c H locs 0 0 (MQ below (va_Qv K (ME G b0) (AB b0)) args s 0 0 (AB b0)) (F0 m 42 ls []) := by
  intro n
  induction n with
  | zero =>
    intro x0 x1 S H locs ls h
    exact False.elim h
  | succ n ih =>
    intro x0 x1 S H locs ls h hM hl
    rw [wX1_sortThings_42] at h
    refine lv_iload_n hC.1 hC.2.1 dX1_sortThings_42 rfl (lv_at hl 1 rfl) ?_
    refine lv_aload_n hC.1 hC.2.1 dX1_sortThings_43 rfl (lv_at hl 0 rfl) ?_
    obtain ⟨ok_3, h⟩ := h
    refine mm_gr hC hM (ci := 1) (j := 1) ok_3 rfl (by decide) (by decide) tw_177 rfl dX1_sortThings_44 ?_
    obtain ⟨ok_4, h⟩ := h
    refine mm_gi hC hM (ci := 3) (j := 0) ok_4 rfl (by decide) (by decide) tw_90 rfl dX1_sortThings_47 ?_
    refine lv_icmp_ge (tgt := 64) hC.1 hC.2.1 dX1_sortThings_50 (by decide) (fun c_5 => ?_) (fun c_5 => ?_)
    · have h := h.1 c_5
      exact qX1_sortThings_64 hC hr hlk _ _ H locs ls h hM (lv_sub hl [0] rfl)
    · have h := h.2 c_5
      refine lv_aload_n hC.1 hC.2.1 dX1_sortThings_53 rfl (lv_at hl 0 rfl) ?_
      refine lv_iload_n hC.1 hC.2.1 dX1_sortThings_54 rfl (lv_at hl 1 rfl) ?_
      refine mm_rv hM (mm_V (As := [.int x1]) (rest := []) hC hM hl.1 (mX1_sortByFairestWorldOf l G b0 S x0 x1 _) h (ci := 1) ok_3.1 rfl rfl kX1_sortByFairestWorldOf tw_564 rfl (by decide) rfl (Nat.le_of_ble_eq_true rfl) dX1_sortThings_55 (by decide)) (fun S_6 H locs h hM => ?_)
      obtain ⟨x1_8, ex1_8⟩ : ∃ y : Int32, y = x1 + 1 := ⟨_, rfl⟩
      have h := h x1_8 ex1_8
      refine lv_iinc (v := x1_8) (lv' := [(1, .int x1_8), (0, .ref (b0 + x0))]) hC.1 hC.2.1 dX1_sortThings_58 hl (k := 1) rfl (by rw [ex1_8]; rfl) (by decide) rfl (fun ls hl => ?_)
      refine lv_goto (tgt := 42) hC.1 hC.2.1 dX1_sortThings_61 (by decide) ?_
      exact ih _ _ _ H locs ls h hM (lv_sub hl [1, 0] rfl)
set_option maxHeartbeats 4000000 in
set_option maxRecDepth 100000 in
theorem mX1_sortThings (l : Launch) (G : Gt) (b0 : Nat) (S : St) (o : Nat) (K : St → Prop) : CV l G b0 S yX1_sortThings cX1_sortThings 2 none rmX1_sortThings [.ref (b0 + o)] (wX1_sortThings S o K) K := by
  refine met_of (by decide) (Nat.le_of_ble_eq_true rfl) rfl ?_
  intro p e s m below meth c hC hr hlk hin h H locs ls hM hl
  unfold wX1_sortThings at h
  refine lv_aload_n hC.1 hC.2.1 dX1_sortThings_0 rfl (lv_at hl 0 rfl) ?_
  obtain ⟨ok_9, h⟩ := h
  refine mm_gi hC hM (ci := 1) (j := 10) ok_9 rfl (by decide) (by decide) tw_186 rfl dX1_sortThings_1 ?_
  refine lv_if_eq (tgt := 8) hC.1 hC.2.1 dX1_sortThings_4 (by decide) (fun c_10 => ?_) (fun c_10 => ?_)
  · have h := h.1 c_10
    refine lv_aload_n hC.1 hC.2.1 dX1_sortThings_8 rfl (lv_at hl 0 rfl) ?_
    refine mm_rv hM (mm_V (As := []) (rest := []) hC hM hl.1 (mX1_sumUp l G b0 S o _) h (ci := 1) ok_9 rfl rfl kX1_sumUp tw_481 rfl (by decide) rfl (Nat.le_of_ble_eq_true rfl) dX1_sortThings_9 (by decide)) (fun S_11 H locs h hM => ?_)
    refine lv_aload_n hC.1 hC.2.1 dX1_sortThings_12 rfl (lv_at hl 0 rfl) ?_
    refine lv_iconst (v := 1) hC.1 hC.2.1 dX1_sortThings_13 (by decide) ?_
    refine lv_aload_n hC.1 hC.2.1 dX1_sortThings_14 rfl (lv_at hl 0 rfl) ?_
    obtain ⟨ok_13, h⟩ := h
    refine mm_gr hC hM (ci := 1) (j := 0) ok_13 rfl (by decide) (by decide) tw_176 rfl dX1_sortThings_15 ?_
    obtain ⟨ok_14, h⟩ := h
    refine mm_gi hC hM (ci := 0) (j := 0) ok_14 rfl (by decide) (by decide) tw_35 rfl dX1_sortThings_18 ?_
    refine lv_ishl hC.1 hC.2.1 dX1_sortThings_21 ?_
    refine lv_iconst (v := 1) hC.1 hC.2.1 dX1_sortThings_22 (by decide) ?_
    refine lv_isub hC.1 hC.2.1 dX1_sortThings_23 ?_
    refine mm_pi hC hM (ci := 1) (j := 11) (ty := .int) ok_13.1 rfl (by decide) (by decide) tw_187 rfl rfl (by decide +kernel) rfl rfl dX1_sortThings_24 (fun S_15 H locs eS_15 hM => ?_)
    have h := h S_15 eS_15
    refine lv_aload_n hC.1 hC.2.1 dX1_sortThings_27 rfl (lv_at hl 0 rfl) ?_
    refine lv_aload_n hC.1 hC.2.1 dX1_sortThings_28 rfl (lv_at hl 0 rfl) ?_
    obtain ⟨ok_16, h⟩ := h
    refine mm_gi hC hM (ci := 1) (j := 11) ok_16 rfl (by decide) (by decide) tw_187 rfl dX1_sortThings_29 ?_
    refine mm_pi hC hM (ci := 1) (j := 12) (ty := .int) ok_16 rfl (by decide) (by decide) tw_188 rfl rfl (by decide +kernel) rfl rfl dX1_sortThings_32 (fun S_17 H locs eS_17 hM => ?_)
    have h := h S_17 eS_17
    refine lv_aload_n hC.1 hC.2.1 dX1_sortThings_35 rfl (lv_at hl 0 rfl) ?_
    refine lv_iconst (v := 0) hC.1 hC.2.1 dX1_sortThings_36 (by decide) ?_
    obtain ⟨ok_18, h⟩ := h
    refine mm_pi hC hM (ci := 1) (j := 13) (ty := .int) ok_18 rfl (by decide) (by decide) tw_189 rfl rfl (by decide +kernel) rfl rfl dX1_sortThings_37 (fun S_19 H locs eS_19 hM => ?_)
    have h := h S_19 eS_19
    refine lv_iconst (v := 0) hC.1 hC.2.1 dX1_sortThings_40 (by decide) ?_
    refine lv_istore_n (lv' := [(1, .int 0), (0, .ref (b0 + o))]) hC.1 hC.2.1 dX1_sortThings_41 rfl hl (by decide) rfl (fun ls hl => ?_)
    obtain ⟨n1, h⟩ := h
    exact qX1_sortThings_42 hC hr hlk n1 _ _ _ H locs ls h hM (lv_sub hl [1, 0] rfl)
  · have h := h.2 c_10
    exact mm_vret hC hr hlk hM h dX1_sortThings_7
set_option maxHeartbeats 4000000 in
set_option maxRecDepth 100000 in
theorem mX1_howSure (l : Launch) (G : Gt) (b0 : Nat) (S : St) (o : Nat) (x1 : Int32) (K : Int32 → St → Prop) : CI l G b0 S yX1_howSure cX1_howSure 3 (some .int) rmX1_howSure [.ref (b0 + o), .int x1] (wX1_howSure S o x1 K) K := by
  refine met_of (by decide) (Nat.le_of_ble_eq_true rfl) rfl ?_
  intro p e s m below meth c hC hr hlk hin h H locs ls hM hl
  unfold wX1_howSure at h
  refine lv_aload_n hC.1 hC.2.1 dX1_howSure_0 rfl (lv_at hl 0 rfl) ?_
  obtain ⟨ok_1, h⟩ := h
  refine mm_gr hC hM (ci := 1) (j := 1) ok_1 rfl (by decide) (by decide) tw_177 rfl dX1_howSure_1 ?_
  obtain ⟨ok_2, h⟩ := h
  refine mm_gi hC hM (ci := 3) (j := 0) ok_2 rfl (by decide) (by decide) tw_90 rfl dX1_howSure_4 ?_
  refine lv_if_ne (tgt := 12) hC.1 hC.2.1 dX1_howSure_7 (by decide) (fun c_3 => ?_) (fun c_3 => ?_)
  · have h := h.2 c_3
    refine lv_aload_n hC.1 hC.2.1 dX1_howSure_12 rfl (lv_at hl 0 rfl) ?_
    refine mm_rv hM (mm_V (As := []) (rest := []) hC hM hl.1 (mX1_sortThings l G b0 S o _) h (ci := 1) ok_1.1 rfl rfl kX1_sortThings tw_560 rfl (by decide) rfl (Nat.le_of_ble_eq_true rfl) dX1_howSure_13 (by decide)) (fun S_4 H locs h hM => ?_)
    refine lv_iconst (v := 1) hC.1 hC.2.1 dX1_howSure_16 (by decide) ?_
    refine lv_iload_n hC.1 hC.2.1 dX1_howSure_17 rfl (lv_at hl 1 rfl) ?_
    refine lv_ishl hC.1 hC.2.1 dX1_howSure_18 ?_
    refine lv_topi (fun x2_6 ex2_6 => ?_)
    have h := h x2_6 ex2_6
    refine lv_istore_n (lv' := [(2, .int x2_6), (0, .ref (b0 + o)), (1, .int x1)]) hC.1 hC.2.1 dX1_howSure_19 rfl hl (by decide) rfl (fun ls hl => ?_)
    refine lv_aload_n hC.1 hC.2.1 dX1_howSure_20 rfl (lv_at hl 1 rfl) ?_
    obtain ⟨ok_7, h⟩ := h
    refine mm_gi hC hM (ci := 1) (j := 11) ok_7 rfl (by decide) (by decide) tw_187 rfl dX1_howSure_21 ?_
    refine lv_iload_n hC.1 hC.2.1 dX1_howSure_24 rfl (lv_at hl 0 rfl) ?_
    refine lv_iand hC.1 hC.2.1 dX1_howSure_25 ?_
    refine lv_if_eq (tgt := 31) hC.1 hC.2.1 dX1_howSure_26 (by decide) (fun c_8 => ?_) (fun c_8 => ?_)
    · have h := h.1 c_8
      refine lv_aload_n hC.1 hC.2.1 dX1_howSure_31 rfl (lv_at hl 1 rfl) ?_
      refine mm_gi hC hM (ci := 1) (j := 12) ok_7 rfl (by decide) (by decide) tw_188 rfl dX1_howSure_32 ?_
      refine lv_iload_n hC.1 hC.2.1 dX1_howSure_35 rfl (lv_at hl 0 rfl) ?_
      refine lv_iand hC.1 hC.2.1 dX1_howSure_36 ?_
      refine lv_if_eq (tgt := 42) hC.1 hC.2.1 dX1_howSure_37 (by decide) (fun c_9 => ?_) (fun c_9 => ?_)
      · have h := h.1 c_9
        refine lv_aload_n hC.1 hC.2.1 dX1_howSure_42 rfl (lv_at hl 1 rfl) ?_
        refine mm_gi hC hM (ci := 1) (j := 13) ok_7 rfl (by decide) (by decide) tw_189 rfl dX1_howSure_43 ?_
        refine lv_iload_n hC.1 hC.2.1 dX1_howSure_46 rfl (lv_at hl 0 rfl) ?_
        refine lv_iand hC.1 hC.2.1 dX1_howSure_47 ?_
        refine lv_if_eq (tgt := 55) hC.1 hC.2.1 dX1_howSure_48 (by decide) (fun c_10 => ?_) (fun c_10 => ?_)
        · have h := h.1 c_10
          refine lv_iconst (v := 0) hC.1 hC.2.1 dX1_howSure_55 (by decide) ?_
          exact mm_iret hC hr hlk hM h dX1_howSure_56
        · have h := h.2 c_10
          refine lv_iconst (v := 1) hC.1 hC.2.1 dX1_howSure_51 (by decide) ?_
          refine lv_goto (tgt := 56) hC.1 hC.2.1 dX1_howSure_52 (by decide) ?_
          exact mm_iret hC hr hlk hM h dX1_howSure_56
      · have h := h.2 c_9
        refine lv_iconst (v := 2) hC.1 hC.2.1 dX1_howSure_40 (by decide) ?_
        exact mm_iret hC hr hlk hM h dX1_howSure_41
    · have h := h.2 c_8
      refine lv_iconst (v := 3) hC.1 hC.2.1 dX1_howSure_29 (by decide) ?_
      exact mm_iret hC hr hlk hM h dX1_howSure_30
  · have h := h.1 c_3
    refine lv_iconst (v := 0) hC.1 hC.2.1 dX1_howSure_10 (by decide) ?_
    exact mm_iret hC hr hlk hM h dX1_howSure_11
set_option maxHeartbeats 4000000 in
set_option maxRecDepth 100000 in
theorem qX1_leastDear_50 {p : Program} {l : Launch} {e : Env} {s : State} {m : MethodId} {args : Array Value} {below : List Frame} {meth : Method} {c : Code} {G : Gt} {b0 : Nat} (hC : CallFix p m c cX1_leastDear 3 s args lw_g RX1) (hr : meth.sig.returnType = (some .int)) (hlk : meth.locks = false) {K : Int32 → St → Prop} : ∀ (x0 : Nat) (S : St) (H : Heap) (locs : List Loc) (ls : Array Slot), wX1_leastDear_50 K x0 S → MM G b0 s S H locs → lv_has ls 3 [(0, .ref (b0 + x0))] → W p l e rmX1_leastDear s m args below meth c H locs 0 0 (MQ below (va_Qi K (ME G b0) (AB b0)) args s 0 0 (AB b0)) (F0 m 50 ls []) := by
  intro x0 S H locs ls h hM hl
  unfold wX1_leastDear_50 at h
  refine lv_aload_n hC.1 hC.2.1 dX1_leastDear_50 rfl (lv_at hl 0 rfl) ?_
  obtain ⟨ok_1, h⟩ := h
  refine mm_gr hC hM (ci := 1) (j := 7) ok_1 rfl (by decide) (by decide) tw_183 rfl dX1_leastDear_51 ?_
  refine lv_aload_n hC.1 hC.2.1 dX1_leastDear_54 rfl (lv_at hl 0 rfl) ?_
  obtain ⟨ok_2, h⟩ := h
  refine mm_gr hC hM (ci := 1) (j := 1) ⟨ok_1.1, ok_2⟩ rfl (by decide) (by decide) tw_177 rfl dX1_leastDear_55 ?_
  obtain ⟨ok_3, h⟩ := h
  refine mm_gi hC hM (ci := 3) (j := 0) ok_3 rfl (by decide) (by decide) tw_90 rfl dX1_leastDear_58 ?_
  refine mm_ri hM (mm_SN (As := [.ref (b0 + (sR S x0 7)), .int (sI S (sR S x0 1) 0)]) (rest := []) hC hM hl.1 (mX8_firstLeast l G b0 S (sR S x0 7) (sI S (sR S x0 1) 0) _) h kX8_firstLeast nn_9 rfl (by decide) rfl (Nat.le_of_ble_eq_true rfl) dX1_leastDear_61 (by decide)) (fun r_5 S_4 H locs h hM => ?_)
  exact mm_iret hC hr hlk hM h dX1_leastDear_64
set_option maxHeartbeats 4000000 in
set_option maxRecDepth 100000 in
theorem qX1_leastDear_6 {p : Program} {l : Launch} {e : Env} {s : State} {m : MethodId} {args : Array Value} {below : List Frame} {meth : Method} {c : Code} {G : Gt} {b0 : Nat} (hC : CallFix p m c cX1_leastDear 3 s args lw_g RX1) (hr : meth.sig.returnType = (some .int)) (hlk : meth.locks = false) {K : Int32 → St → Prop} : ∀ (n : Nat) (x0 : Nat) (x1 : Int32) (x2 : Int32) (S : St) (H : Heap) (locs : List Loc) (ls : Array Slot), wX1_leastDear_6 K n x0 x1 x2 S → MM G b0 s S H locs → lv_has ls 3 [(0, .ref (b0 + x0)), (1, .int x1), (2, .int x2)] → W p l e rmX1_leastDear s m args below meth c H locs 0 0 (MQ below (va_Qi K (ME G b0) (AB b0)) args s 0 0 (AB b0)) (F0 m 6 ls []) := by
  intro n
  induction n with
  | zero =>
    intro x0 x1 x2 S H locs ls h
    exact False.elim h
  | succ n ih =>
    intro x0 x1 x2 S H locs ls h hM hl
    rw [wX1_leastDear_6] at h
    refine lv_iload_n hC.1 hC.2.1 dX1_leastDear_6 rfl (lv_at hl 2 rfl) ?_
    refine lv_aload_n hC.1 hC.2.1 dX1_leastDear_7 rfl (lv_at hl 0 rfl) ?_
    obtain ⟨ok_6, h⟩ := h
    refine mm_gr hC hM (ci := 1) (j := 1) ok_6 rfl (by decide) (by decide) tw_177 rfl dX1_leastDear_8 ?_
    obtain ⟨ok_7, h⟩ := h
    refine mm_gi hC hM (ci := 3) (j := 0) ok_7 rfl (by decide) (by decide) tw_90 rfl dX1_leastDear_11 ?_
    refine lv_icmp_ge (tgt := 50) hC.1 hC.2.1 dX1_leastDear_14 (by decide) (fun c_8 => ?_) (fun c_8 => ?_)
    · have h := h.1 c_8
      exact qX1_leastDear_50 hC hr hlk _ _ H locs ls h hM (lv_sub hl [0] rfl)
    · have h := h.2 c_8
      refine lv_aload_n hC.1 hC.2.1 dX1_leastDear_17 rfl (lv_at hl 0 rfl) ?_
      obtain ⟨ok_9, h⟩ := h
      refine mm_gr hC hM (ci := 1) (j := 7) ⟨ok_6.1, ok_9⟩ rfl (by decide) (by decide) tw_183 rfl dX1_leastDear_18 ?_
      refine lv_iload_n hC.1 hC.2.1 dX1_leastDear_21 rfl (lv_at hl 2 rfl) ?_
      refine lv_aload_n hC.1 hC.2.1 dX1_leastDear_22 rfl (lv_at hl 0 rfl) ?_
      obtain ⟨ok_10, h⟩ := h
      refine mm_gr hC hM (ci := 1) (j := 5) ⟨ok_6.1, ok_10⟩ rfl (by decide) (by decide) tw_181 rfl dX1_leastDear_23 ?_
      refine lv_iload_n hC.1 hC.2.1 dX1_leastDear_26 rfl (lv_at hl 2 rfl) ?_
      obtain ⟨ok_11, h⟩ := h
      refine mm_il hC hM ok_11 dX1_leastDear_27 ?_
      refine lv_aload_n hC.1 hC.2.1 dX1_leastDear_28 rfl (lv_at hl 0 rfl) ?_
      refine lv_aload_n hC.1 hC.2.1 dX1_leastDear_29 rfl (lv_at hl 0 rfl) ?_
      refine mm_gr hC hM (ci := 1) (j := 1) ok_6 rfl (by decide) (by decide) tw_177 rfl dX1_leastDear_30 ?_
      obtain ⟨ok_12, h⟩ := h
      refine mm_gr hC hM (ci := 3) (j := 1) ⟨ok_7, ok_12⟩ rfl (by decide) (by decide) tw_96 rfl dX1_leastDear_33 ?_
      refine lv_iload_n hC.1 hC.2.1 dX1_leastDear_36 rfl (lv_at hl 2 rfl) ?_
      obtain ⟨ok_13, h⟩ := h
      refine mm_il hC hM ok_13 dX1_leastDear_37 ?_
      refine lv_iload_n hC.1 hC.2.1 dX1_leastDear_38 rfl (lv_at hl 1 rfl) ?_
      refine mm_ri hM (mm_V (As := [.int (sI S (sR S (sR S x0 1) 1) (x2 : Int32).toNatClampNeg), .int x1]) (rest := [.int (sI S (sR S x0 5) (x2 : Int32).toNatClampNeg), .int x2, .ref (b0 + (sR S x0 7))]) hC hM hl.1 (mX1_widestGaps l G b0 S x0 (sI S (sR S (sR S x0 1) 1) (x2 : Int32).toNatClampNeg) x1 _) h (ci := 1) ok_6.1 rfl rfl kX1_widestGaps tw_579 rfl (by decide) rfl (Nat.le_of_ble_eq_true rfl) dX1_leastDear_39 (by decide)) (fun r_15 S_14 H locs h hM => ?_)
      refine lv_iadd hC.1 hC.2.1 dX1_leastDear_42 ?_
      obtain ⟨ok_16, h⟩ := h
      refine mm_is hC hM ok_16 dX1_leastDear_43 (fun S_17 H locs eS_17 hM => ?_)
      have h := h S_17 eS_17
      obtain ⟨x2_18, ex2_18⟩ : ∃ y : Int32, y = x2 + 1 := ⟨_, rfl⟩
      have h := h x2_18 ex2_18
      refine lv_iinc (v := x2_18) (lv' := [(2, .int x2_18), (0, .ref (b0 + x0)), (1, .int x1)]) hC.1 hC.2.1 dX1_leastDear_44 hl (k := 2) rfl (by rw [ex2_18]; rfl) (by decide) rfl (fun ls hl => ?_)
      refine lv_goto (tgt := 6) hC.1 hC.2.1 dX1_leastDear_47 (by decide) ?_
      exact ih _ _ _ _ H locs ls h hM (lv_sub hl [1, 2, 0] rfl)
set_option maxHeartbeats 4000000 in
set_option maxRecDepth 100000 in
theorem mX1_leastDear (l : Launch) (G : Gt) (b0 : Nat) (S : St) (o : Nat) (x1 : Int32) (K : Int32 → St → Prop) : CI l G b0 S yX1_leastDear cX1_leastDear 3 (some .int) rmX1_leastDear [.ref (b0 + o), .int x1] (wX1_leastDear S o x1 K) K := by
  refine met_of (by decide) (Nat.le_of_ble_eq_true rfl) rfl ?_
  intro p e s m below meth c hC hr hlk hin h H locs ls hM hl
  unfold wX1_leastDear at h
  refine lv_aload_n hC.1 hC.2.1 dX1_leastDear_0 rfl (lv_at hl 0 rfl) ?_
  obtain ⟨ok_21, h⟩ := h
  refine mm_rv hM (mm_V (As := []) (rest := []) hC hM hl.1 (mX1_sumUp l G b0 S o _) h (ci := 1) ok_21 rfl rfl kX1_sumUp tw_481 rfl (by decide) rfl (Nat.le_of_ble_eq_true rfl) dX1_leastDear_1 (by decide)) (fun S_19 H locs h hM => ?_)
  refine lv_iconst (v := 0) hC.1 hC.2.1 dX1_leastDear_4 (by decide) ?_
  refine lv_istore_n (lv' := [(2, .int 0), (0, .ref (b0 + o)), (1, .int x1)]) hC.1 hC.2.1 dX1_leastDear_5 rfl hl (by decide) rfl (fun ls hl => ?_)
  obtain ⟨n1, h⟩ := h
  exact qX1_leastDear_6 hC hr hlk n1 _ _ _ _ H locs ls h hM (lv_sub hl [1, 2, 0] rfl)
set_option maxHeartbeats 4000000 in
set_option maxRecDepth 100000 in
theorem mX1_workOutAnew (l : Launch) (G : Gt) (b0 : Nat) (S : St) (o : Nat) (K : St → Prop) : CV l G b0 S yX1_workOutAnew cX1_workOutAnew 1 none rmX1_workOutAnew [.ref (b0 + o)] (wX1_workOutAnew S o K) K := by
  refine met_of (by decide) (Nat.le_of_ble_eq_true rfl) rfl ?_
  intro p e s m below meth c hC hr hlk hin h H locs ls hM hl
  unfold wX1_workOutAnew at h
  refine lv_aload_n hC.1 hC.2.1 dX1_workOutAnew_0 rfl (lv_at hl 0 rfl) ?_
  refine lv_iconst (v := 0) hC.1 hC.2.1 dX1_workOutAnew_1 (by decide) ?_
  obtain ⟨ok_1, h⟩ := h
  refine mm_pi hC hM (ci := 1) (j := 8) (ty := .boolean) ok_1 rfl (by decide) (by decide) tw_184 rfl rfl (by decide +kernel) rfl rfl dX1_workOutAnew_2 (fun S_2 H locs eS_2 hM => ?_)
  have h := h S_2 eS_2
  refine lv_aload_n hC.1 hC.2.1 dX1_workOutAnew_5 rfl (lv_at hl 0 rfl) ?_
  refine lv_iconst (v := 0) hC.1 hC.2.1 dX1_workOutAnew_6 (by decide) ?_
  obtain ⟨ok_3, h⟩ := h
  refine mm_pi hC hM (ci := 1) (j := 9) (ty := .boolean) ok_3 rfl (by decide) (by decide) tw_185 rfl rfl (by decide +kernel) rfl rfl dX1_workOutAnew_7 (fun S_4 H locs eS_4 hM => ?_)
  have h := h S_4 eS_4
  refine lv_aload_n hC.1 hC.2.1 dX1_workOutAnew_10 rfl (lv_at hl 0 rfl) ?_
  refine lv_iconst (v := 0) hC.1 hC.2.1 dX1_workOutAnew_11 (by decide) ?_
  obtain ⟨ok_5, h⟩ := h
  refine mm_pi hC hM (ci := 1) (j := 10) (ty := .boolean) ok_5 rfl (by decide) (by decide) tw_186 rfl rfl (by decide +kernel) rfl rfl dX1_workOutAnew_12 (fun S_6 H locs eS_6 hM => ?_)
  have h := h S_6 eS_6
  exact mm_vret hC hr hlk hM h dX1_workOutAnew_15
