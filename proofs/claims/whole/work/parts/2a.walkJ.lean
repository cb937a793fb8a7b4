set_option maxHeartbeats 4000000 in
set_option maxRecDepth 100000 in
theorem mJ6_bitCount_0f7a4 (l : Launch) (G : Gt) (b0 : Nat) (S : St) (x0 : Int32) (K : Int32 → St → Prop) : CI l G b0 S yJ6_bitCount_0f7a4 cJ6_bitCount_0f7a4 1 (some .int) rmJ6_bitCount_0f7a4 [.int x0] (wJ6_bitCount_0f7a4 S x0 K) K := by
  refine met_of (by decide) (Nat.le_of_ble_eq_true rfl) rfl ?_
  intro p e s m below meth c hC hr hlk hin h H locs ls hM hl
  unfold wJ6_bitCount_0f7a4 at h
  refine lv_iload_n hC.1 hC.2.1 dJ6_bitCount_0f7a4_0 rfl (lv_at hl 0 rfl) ?_
  refine lv_iload_n hC.1 hC.2.1 dJ6_bitCount_0f7a4_1 rfl (lv_at hl 0 rfl) ?_
  refine lv_iconst (v := 1) hC.1 hC.2.1 dJ6_bitCount_0f7a4_2 (by decide) ?_
  refine lv_iushr hC.1 hC.2.1 dJ6_bitCount_0f7a4_3 rfl ?_
  refine lv_ldcw (v := 1431655765) hC.1 hC.2.1 hC.2.2.2.1 (hC.2.2.2.2 _ tw_119) dJ6_bitCount_0f7a4_4 ?_
  refine lv_iand hC.1 hC.2.1 dJ6_bitCount_0f7a4_7 ?_
  refine lv_isub hC.1 hC.2.1 dJ6_bitCount_0f7a4_8 ?_
  refine lv_topi (fun x0_1 ex0_1 => ?_)
  have h := h x0_1 ex0_1
  refine lv_istore_n (lv' := [(0, .int x0_1)]) hC.1 hC.2.1 dJ6_bitCount_0f7a4_9 rfl hl (by decide) rfl (fun ls hl => ?_)
  refine lv_iload_n hC.1 hC.2.1 dJ6_bitCount_0f7a4_10 rfl (lv_at hl 0 rfl) ?_
  refine lv_ldcw (v := 858993459) hC.1 hC.2.1 hC.2.2.2.1 (hC.2.2.2.2 _ tw_120) dJ6_bitCount_0f7a4_11 ?_
  refine lv_iand hC.1 hC.2.1 dJ6_bitCount_0f7a4_14 ?_
  refine lv_iload_n hC.1 hC.2.1 dJ6_bitCount_0f7a4_15 rfl (lv_at hl 0 rfl) ?_
  refine lv_iconst (v := 2) hC.1 hC.2.1 dJ6_bitCount_0f7a4_16 (by decide) ?_
  refine lv_iushr hC.1 hC.2.1 dJ6_bitCount_0f7a4_17 rfl ?_
  refine lv_ldcw (v := 858993459) hC.1 hC.2.1 hC.2.2.2.1 (hC.2.2.2.2 _ tw_120) dJ6_bitCount_0f7a4_18 ?_
  refine lv_iand hC.1 hC.2.1 dJ6_bitCount_0f7a4_21 ?_
  refine lv_iadd hC.1 hC.2.1 dJ6_bitCount_0f7a4_22 ?_
  refine lv_topi (fun x0_2 ex0_2 => ?_)
  have h := h x0_2 ex0_2
  refine lv_istore_n (lv' := [(0, .int x0_2)]) hC.1 hC.2.1 dJ6_bitCount_0f7a4_23 rfl hl (by decide) rfl (fun ls hl => ?_)
  refine lv_iload_n hC.1 hC.2.1 dJ6_bitCount_0f7a4_24 rfl (lv_at hl 0 rfl) ?_
  refine lv_iload_n hC.1 hC.2.1 dJ6_bitCount_0f7a4_25 rfl (lv_at hl 0 rfl) ?_
  refine lv_iconst (v := 4) hC.1 hC.2.1 dJ6_bitCount_0f7a4_26 (by decide) ?_
  refine lv_iushr hC.1 hC.2.1 dJ6_bitCount_0f7a4_27 rfl ?_
  refine lv_iadd hC.1 hC.2.1 dJ6_bitCount_0f7a4_28 ?_
  refine lv_ldcw (v := 252645135) hC.1 hC.2.1 hC.2.2.2.1 (hC.2.2.2.2 _ tw_121) dJ6_bitCount_0f7a4_29 ?_
  refine lv_iand hC.1 hC.2.1 dJ6_bitCount_0f7a4_32 ?_
  refine lv_topi (fun x0_3 ex0_3 => ?_)
  have h := h x0_3 ex0_3
  refine lv_istore_n (lv' := [(0, .int x0_3)]) hC.1 hC.2.1 dJ6_bitCount_0f7a4_33 rfl hl (by decide) rfl (fun ls hl => ?_)
  refine lv_iload_n hC.1 hC.2.1 dJ6_bitCount_0f7a4_34 rfl (lv_at hl 0 rfl) ?_
  refine lv_iload_n hC.1 hC.2.1 dJ6_bitCount_0f7a4_35 rfl (lv_at hl 0 rfl) ?_
  refine lv_bipush (v := 8) hC.1 hC.2.1 dJ6_bitCount_0f7a4_36 (by decide) ?_
  refine lv_iushr hC.1 hC.2.1 dJ6_bitCount_0f7a4_38 rfl ?_
  refine lv_iadd hC.1 hC.2.1 dJ6_bitCount_0f7a4_39 ?_
  refine lv_topi (fun x0_4 ex0_4 => ?_)
  have h := h x0_4 ex0_4
  refine lv_istore_n (lv' := [(0, .int x0_4)]) hC.1 hC.2.1 dJ6_bitCount_0f7a4_40 rfl hl (by decide) rfl (fun ls hl => ?_)
  refine lv_iload_n hC.1 hC.2.1 dJ6_bitCount_0f7a4_41 rfl (lv_at hl 0 rfl) ?_
  refine lv_iload_n hC.1 hC.2.1 dJ6_bitCount_0f7a4_42 rfl (lv_at hl 0 rfl) ?_
  refine lv_bipush (v := 16) hC.1 hC.2.1 dJ6_bitCount_0f7a4_43 (by decide) ?_
  refine lv_iushr hC.1 hC.2.1 dJ6_bitCount_0f7a4_45 rfl ?_
  refine lv_iadd hC.1 hC.2.1 dJ6_bitCount_0f7a4_46 ?_
  refine lv_topi (fun x0_5 ex0_5 => ?_)
  have h := h x0_5 ex0_5
  refine lv_istore_n (lv' := [(0, .int x0_5)]) hC.1 hC.2.1 dJ6_bitCount_0f7a4_47 rfl hl (by decide) rfl (fun ls hl => ?_)
  refine lv_iload_n hC.1 hC.2.1 dJ6_bitCount_0f7a4_48 rfl (lv_at hl 0 rfl) ?_
  refine lv_bipush (v := 63) hC.1 hC.2.1 dJ6_bitCount_0f7a4_49 (by decide) ?_
  refine lv_iand hC.1 hC.2.1 dJ6_bitCount_0f7a4_51 ?_
  exact mm_iret hC hr hlk hM h dJ6_bitCount_0f7a4_52
set_option maxHeartbeats 4000000 in
set_option maxRecDepth 100000 in
theorem qJ7_fill_53178_5 {p : Program} {l : Launch} {e : Env} {s : State} {m : MethodId} {args : Array Value} {below : List Frame} {meth : Method} {c : Code} {G : Gt} {b0 : Nat} (hC : CallFix p m c cJ7_fill_53178 4 s args lw_g RJ7) (hr : meth.sig.returnType = none) (hlk : meth.locks = false) {K : St → Prop} : ∀ (n : Nat) (x0 : Nat) (x1 : Int32) (x2 : Int32) (x3 : Int32) (S : St) (H : Heap) (locs : List Loc) (ls : Array Slot), wJ7_fill_53178_5 K n x0 x1 x2 x3 S → MM G b0 s S H locs → lv_has ls 4 [(0, .ref (b0 + x0)), (1, .int x1), (2, .int x2), (3, .int x3)] → W p l e rmJ7_fill_53178 s m args below meth c H locs 0 0 (MQ below (va_Qv K (ME G b0) (AB b0)) args s 0 0 (AB b0)) (F0 m 5 ls []) := by
  intro n
  induction n with
  | zero =>
    intro x0 x1 x2 x3 S H locs ls h
    exact False.elim h
  | succ n ih =>
    intro x0 x1 x2 x3 S H locs ls h hM hl
    rw [wJ7_fill_53178_5] at h
    refine lv_iload_n hC.1 hC.2.1 dJ7_fill_53178_5 rfl (lv_at hl 2 rfl) ?_
    refine lv_iload_n hC.1 hC.2.1 dJ7_fill_53178_6 rfl (lv_at hl 3 rfl) ?_
    refine lv_icmp_ge (tgt := 20) hC.1 hC.2.1 dJ7_fill_53178_7 (by decide) (fun c_1 => ?_) (fun c_1 => ?_)
    · have h := h.1 c_1
      exact mm_vret hC hr hlk hM h dJ7_fill_53178_20
    · have h := h.2 c_1
      refine lv_aload_n hC.1 hC.2.1 dJ7_fill_53178_10 rfl (lv_at hl 0 rfl) ?_
      refine lv_iload_n hC.1 hC.2.1 dJ7_fill_53178_11 rfl (lv_at hl 2 rfl) ?_
      refine lv_iload_n hC.1 hC.2.1 dJ7_fill_53178_12 rfl (lv_at hl 1 rfl) ?_
      obtain ⟨ok_2, h⟩ := h
      refine mm_is hC hM ok_2 dJ7_fill_53178_13 (fun S_3 H locs eS_3 hM => ?_)
      have h := h S_3 eS_3
      obtain ⟨x2_4, ex2_4⟩ : ∃ y : Int32, y = x2 + 1 := ⟨_, rfl⟩
      have h := h x2_4 ex2_4
      refine lv_iinc (v := x2_4) (lv' := [(2, .int x2_4), (0, .ref (b0 + x0)), (1, .int x1), (3, .int x3)]) hC.1 hC.2.1 dJ7_fill_53178_14 hl (k := 2) rfl (by rw [ex2_4]; rfl) (by decide) rfl (fun ls hl => ?_)
      refine lv_goto (tgt := 5) hC.1 hC.2.1 dJ7_fill_53178_17 (by decide) ?_
      exact ih _ _ _ _ _ H locs ls h hM (lv_sub hl [1, 2, 0, 3] rfl)
set_option maxHeartbeats 4000000 in
set_option maxRecDepth 100000 in
theorem mJ7_fill_53178 (l : Launch) (G : Gt) (b0 : Nat) (S : St) (x0 : Nat) (x1 : Int32) (K : St → Prop) : CV l G b0 S yJ7_fill_53178 cJ7_fill_53178 4 none rmJ7_fill_53178 [.ref (b0 + x0), .int x1] (wJ7_fill_53178 S x0 x1 K) K := by
  refine met_of (by decide) (Nat.le_of_ble_eq_true rfl) rfl ?_
  intro p e s m below meth c hC hr hlk hin h H locs ls hM hl
  unfold wJ7_fill_53178 at h
  refine lv_iconst (v := 0) hC.1 hC.2.1 dJ7_fill_53178_0 (by decide) ?_
  refine lv_istore_n (lv' := [(2, .int 0), (0, .ref (b0 + x0)), (1, .int x1)]) hC.1 hC.2.1 dJ7_fill_53178_1 rfl hl (by decide) rfl (fun ls hl => ?_)
  refine lv_aload_n hC.1 hC.2.1 dJ7_fill_53178_2 rfl (lv_at hl 1 rfl) ?_
  obtain ⟨ok_5, h⟩ := h
  refine mm_alen hC hM ok_5 dJ7_fill_53178_3 ?_
  refine lv_topi (fun x3_6 ex3_6 => ?_)
  have h := h x3_6 ex3_6
  refine lv_istore_n (lv' := [(3, .int x3_6), (2, .int 0), (0, .ref (b0 + x0)), (1, .int x1)]) hC.1 hC.2.1 dJ7_fill_53178_4 rfl hl (by decide) rfl (fun ls hl => ?_)
  obtain ⟨n1, h⟩ := h
  exact qJ7_fill_53178_5 hC hr hlk n1 _ _ _ _ _ H locs ls h hM (lv_sub hl [2, 3, 1, 0] rfl)
