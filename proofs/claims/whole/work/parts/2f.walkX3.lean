set_option maxHeartbeats 4000000 in
set_option maxRecDepth 100000 in
theorem mX3_has (l : Launch) (G : Gt) (b0 : Nat) (S : St) (o : Nat) (x1 : Int32) (K : Int32 → St → Prop) : CI l G b0 S yX3_has cX3_has 2 (some .boolean) rmX3_has [.ref (b0 + o), .int x1] (wX3_has S o x1 K) K := by
  refine met_of (by decide) (Nat.le_of_ble_eq_true rfl) rfl ?_
  intro p e s m below meth c hC hr hlk hin h H locs ls hM hl
  unfold wX3_has at h
  refine lv_iload_n hC.1 hC.2.1 dX3_has_0 rfl (lv_at hl 1 rfl) ?_
  refine lv_aload_n hC.1 hC.2.1 dX3_has_1 rfl (lv_at hl 0 rfl) ?_
  obtain ⟨ok_1, h⟩ := h
  refine mm_gi hC hM (ci := 3) (j := 0) ok_1 rfl (by decide) (by decide) tw_88 rfl dX3_has_2 ?_
  refine mm_ri hM (mm_SN (As := [.int x1, .int (sI S o 0)]) (rest := []) hC hM hl.1 (mX8_isWithin l G b0 S x1 (sI S o 0) _) h kX8_isWithin nn_8 rfl (by decide) rfl (Nat.le_of_ble_eq_true rfl) dX3_has_5 (by decide)) (fun r_3 S_2 H locs h hM => ?_)
  obtain ⟨nb_4, h⟩ := h
  exact mm_zret hC hr hlk hM nb_4 h dX3_has_8
set_option maxHeartbeats 4000000 in
set_option maxRecDepth 100000 in
theorem qX3_relist_47 {p : Program} {l : Launch} {e : Env} {s : State} {m : MethodId} {args : Array Value} {below : List Frame} {meth : Method} {c : Code} {G : Gt} {b0 : Nat} (hC : CallFix p m c cX3_relist 5 s args lw_g RX3) (hr : meth.sig.returnType = (some .boolean)) (hlk : meth.locks = false) {K : Int32 → St → Prop} {B12 : Nat → Nat → Int32 → Int32 → Int32 → St → Prop} (hB12 : ∀ (x0 : Nat) (x1 : Nat) (x2 : Int32) (x3 : Int32) (x4 : Int32) (S : St) (H : Heap) (locs : List Loc) (ls : Array Slot), B12 x0 x1 x2 x3 x4 S → MM G b0 s S H locs → lv_has ls 5 [(0, .ref (b0 + x0)), (1, .ref (b0 + x1)), (2, .int x2), (3, .int x3), (4, .int x4)] → W p l e rmX3_relist s m args below meth c H locs 0 0 (MQ below (va_Qi K (ME G b0) (AB b0)) args s 0 0 (AB b0)) (F0 m 12 ls [])) : ∀ (x0 : Nat) (x1 : Nat) (x2 : Int32) (x3 : Int32) (x4 : Int32) (S : St) (H : Heap) (locs : List Loc) (ls : Array Slot), wX3_relist_47 K B12 x0 x1 x2 x3 x4 S → MM G b0 s S H locs → lv_has ls 5 [(0, .ref (b0 + x0)), (1, .ref (b0 + x1)), (2, .int x2), (3, .int x3), (4, .int x4)] → W p l e rmX3_relist s m args below meth c H locs 0 0 (MQ below (va_Qi K (ME G b0) (AB b0)) args s 0 0 (AB b0)) (F0 m 47 ls []) := by
  intro x0 x1 x2 x3 x4 S H locs ls h hM hl
  unfold wX3_relist_47 at h
  obtain ⟨x4_1, ex4_1⟩ : ∃ y : Int32, y = x4 + 1 := ⟨_, rfl⟩
  have h := h x4_1 ex4_1
  refine lv_iinc (v := x4_1) (lv' := [(4, .int x4_1), (0, .ref (b0 + x0)), (1, .ref (b0 + x1)), (2, .int x2), (3, .int x3)]) hC.1 hC.2.1 dX3_relist_47 hl (k := 4) rfl (by rw [ex4_1]; rfl) (by decide) rfl (fun ls hl => ?_)
  refine lv_goto (tgt := 12) hC.1 hC.2.1 dX3_relist_50 (by decide) ?_
  exact hB12 _ _ _ _ _ _ H locs ls h hM (lv_sub hl [1, 2, 3, 4, 0] rfl)
set_option maxHeartbeats 4000000 in
set_option maxRecDepth 100000 in
theorem qX3_relist_53 {p : Program} {l : Launch} {e : Env} {s : State} {m : MethodId} {args : Array Value} {below : List Frame} {meth : Method} {c : Code} {G : Gt} {b0 : Nat} (hC : CallFix p m c cX3_relist 5 s args lw_g RX3) (hr : meth.sig.returnType = (some .boolean)) (hlk : meth.locks = false) {K : Int32 → St → Prop} : ∀ (x0 : Nat) (x2 : Int32) (S : St) (H : Heap) (locs : List Loc) (ls : Array Slot), wX3_relist_53 K x0 x2 S → MM G b0 s S H locs → lv_has ls 5 [(0, .ref (b0 + x0)), (2, .int x2)] → W p l e rmX3_relist s m args below meth c H locs 0 0 (MQ below (va_Qi K (ME G b0) (AB b0)) args s 0 0 (AB b0)) (F0 m 53 ls []) := by
  intro x0 x2 S H locs ls h hM hl
  unfold wX3_relist_53 at h
  refine lv_aload_n hC.1 hC.2.1 dX3_relist_53 rfl (lv_at hl 0 rfl) ?_
  obtain ⟨ok_2, h⟩ := h
  refine mm_gr hC hM (ci := 3) (j := 1) ok_2 rfl (by decide) (by decide) tw_94 rfl dX3_relist_54 ?_
  refine lv_astore (lv' := [(4, .ref (b0 + (sR S x0 1))), (0, .ref (b0 + x0)), (2, .int x2)]) hC.1 hC.2.1 dX3_relist_57 hl (by decide) rfl (fun ls hl => ?_)
  refine lv_aload_n hC.1 hC.2.1 dX3_relist_59 rfl (lv_at hl 1 rfl) ?_
  refine lv_aload_n hC.1 hC.2.1 dX3_relist_60 rfl (lv_at hl 1 rfl) ?_
  obtain ⟨ok_3, h⟩ := h
  refine mm_gr hC hM (ci := 3) (j := 2) ⟨ok_2.1, ok_3⟩ rfl (by decide) (by decide) tw_100 rfl dX3_relist_61 ?_
  obtain ⟨nz_5, h⟩ := h
  refine mm_pr hC hM (ci := 3) (j := 1) (ty := (.array .int)) ok_2.1 nz_5 rfl (by decide) (by decide) tw_94 rfl rfl (by decide +kernel) (fun _ => rfl) (fun _ => rfl) dX3_relist_64 (fun S_4 H locs eS_4 hM => ?_)
  have h := h S_4 eS_4
  refine lv_aload_n hC.1 hC.2.1 dX3_relist_67 rfl (lv_at hl 1 rfl) ?_
  refine lv_aload hC.1 hC.2.1 dX3_relist_68 (lv_at hl 0 rfl) ?_
  obtain ⟨ok_6, h⟩ := h
  obtain ⟨nz_8, h⟩ := h
  refine mm_pr hC hM (ci := 3) (j := 2) (ty := (.array .int)) ok_6 nz_8 rfl (by decide) (by decide) tw_100 rfl rfl (by decide +kernel) (fun _ => rfl) (fun _ => rfl) dX3_relist_70 (fun S_7 H locs eS_7 hM => ?_)
  have h := h S_7 eS_7
  refine lv_aload_n hC.1 hC.2.1 dX3_relist_73 rfl (lv_at hl 1 rfl) ?_
  refine lv_iload_n hC.1 hC.2.1 dX3_relist_74 rfl (lv_at hl 2 rfl) ?_
  obtain ⟨ok_9, h⟩ := h
  refine mm_pi hC hM (ci := 3) (j := 0) (ty := .int) ok_9 rfl (by decide) (by decide) tw_88 rfl rfl (by decide +kernel) rfl rfl dX3_relist_75 (fun S_10 H locs eS_10 hM => ?_)
  have h := h S_10 eS_10
  refine lv_iconst (v := 1) hC.1 hC.2.1 dX3_relist_78 (by decide) ?_
  exact mm_zret hC hr hlk hM rfl h dX3_relist_79
set_option maxHeartbeats 4000000 in
set_option maxRecDepth 100000 in
theorem qX3_relist_12 {p : Program} {l : Launch} {e : Env} {s : State} {m : MethodId} {args : Array Value} {below : List Frame} {meth : Method} {c : Code} {G : Gt} {b0 : Nat} (hC : CallFix p m c cX3_relist 5 s args lw_g RX3) (hr : meth.sig.returnType = (some .boolean)) (hlk : meth.locks = false) {K : Int32 → St → Prop} : ∀ (n : Nat) (x0 : Nat) (x1 : Nat) (x2 : Int32) (x3 : Int32) (x4 : Int32) (S : St) (H : Heap) (locs : List Loc) (ls : Array Slot), wX3_relist_12 K n x0 x1 x2 x3 x4 S → MM G b0 s S H locs → lv_has ls 5 [(0, .ref (b0 + x0)), (1, .ref (b0 + x1)), (2, .int x2), (3, .int x3), (4, .int x4)] → W p l e rmX3_relist s m args below meth c H locs 0 0 (MQ below (va_Qi K (ME G b0) (AB b0)) args s 0 0 (AB b0)) (F0 m 12 ls []) := by
  intro n
  induction n with
  | zero =>
    intro x0 x1 x2 x3 x4 S H locs ls h
    exact False.elim h
  | succ n ih =>
    intro x0 x1 x2 x3 x4 S H locs ls h hM hl
    rw [wX3_relist_12] at h
    refine lv_iload hC.1 hC.2.1 dX3_relist_12 (lv_at hl 4 rfl) ?_
    refine lv_iload_n hC.1 hC.2.1 dX3_relist_14 rfl (lv_at hl 3 rfl) ?_
    refine lv_icmp_ge (tgt := 53) hC.1 hC.2.1 dX3_relist_15 (by decide) (fun c_11 => ?_) (fun c_11 => ?_)
    · have h := h.1 c_11
      exact qX3_relist_53 hC hr hlk _ _ _ H locs ls h hM (lv_sub hl [0, 2] rfl)
    · have h := h.2 c_11
      refine lv_aload_n hC.1 hC.2.1 dX3_relist_18 rfl (lv_at hl 1 rfl) ?_
      refine lv_iload hC.1 hC.2.1 dX3_relist_19 (lv_at hl 4 rfl) ?_
      obtain ⟨ok_14, h⟩ := h
      refine mm_ri hM (mm_V (As := [.int x4]) (rest := []) hC hM hl.1 (mX0_allows l G b0 S x1 x4 _) h (ci := 0) ok_14 rfl rfl kX0_allows tw_112 rfl (by decide) rfl (Nat.le_of_ble_eq_true rfl) dX3_relist_21 (by decide)) (fun r_13 S_12 H locs h hM => ?_)
      refine lv_if_eq (tgt := 47) hC.1 hC.2.1 dX3_relist_24 (by decide) (fun c_15 => ?_) (fun c_15 => ?_)
      · have h := h.1 c_15
        exact qX3_relist_47 hC hr hlk ih _ _ _ _ _ _ H locs ls h hM (lv_sub hl [0, 1, 2, 3, 4] rfl)
      · have h := h.2 c_15
        refine lv_iload_n hC.1 hC.2.1 dX3_relist_27 rfl (lv_at hl 2 rfl) ?_
        refine lv_sipush (v := 500) hC.1 hC.2.1 dX3_relist_28 (by decide) ?_
        refine lv_icmp_ne (tgt := 36) hC.1 hC.2.1 dX3_relist_31 (by decide) (fun c_16 => ?_) (fun c_16 => ?_)
        · have h := h.2 c_16
          refine lv_aload_n hC.1 hC.2.1 dX3_relist_36 rfl (lv_at hl 0 rfl) ?_
          obtain ⟨ok_17, h⟩ := h
          refine mm_gr hC hM (ci := 3) (j := 2) ok_17 rfl (by decide) (by decide) tw_100 rfl dX3_relist_37 ?_
          refine lv_iload_n hC.1 hC.2.1 dX3_relist_40 rfl (lv_at hl 2 rfl) ?_
          refine lv_iload hC.1 hC.2.1 dX3_relist_41 (lv_at hl 4 rfl) ?_
          obtain ⟨ok_18, h⟩ := h
          refine mm_is hC hM ok_18 dX3_relist_43 (fun S_19 H locs eS_19 hM => ?_)
          have h := h S_19 eS_19
          obtain ⟨x2_20, ex2_20⟩ : ∃ y : Int32, y = x2 + 1 := ⟨_, rfl⟩
          have h := h x2_20 ex2_20
          refine lv_iinc (v := x2_20) (lv' := [(2, .int x2_20), (0, .ref (b0 + x0)), (1, .ref (b0 + x1)), (3, .int x3), (4, .int x4)]) hC.1 hC.2.1 dX3_relist_44 hl (k := 2) rfl (by rw [ex2_20]; rfl) (by decide) rfl (fun ls hl => ?_)
          exact qX3_relist_47 hC hr hlk ih _ _ _ _ _ _ H locs ls h hM (lv_sub hl [1, 2, 0, 3, 4] rfl)
        · have h := h.1 c_16
          refine lv_iconst (v := 0) hC.1 hC.2.1 dX3_relist_34 (by decide) ?_
          exact mm_zret hC hr hlk hM rfl h dX3_relist_35
set_option maxHeartbeats 4000000 in
set_option maxRecDepth 100000 in
theorem mX3_relist (l : Launch) (G : Gt) (b0 : Nat) (S : St) (o : Nat) (x1 : Nat) (K : Int32 → St → Prop) : CI l G b0 S yX3_relist cX3_relist 5 (some .boolean) rmX3_relist [.ref (b0 + o), .ref (b0 + x1)] (wX3_relist S o x1 K) K := by
  refine met_of (by decide) (Nat.le_of_ble_eq_true rfl) rfl ?_
  intro p e s m below meth c hC hr hlk hin h H locs ls hM hl
  unfold wX3_relist at h
  refine lv_iconst (v := 0) hC.1 hC.2.1 dX3_relist_0 (by decide) ?_
  refine lv_istore_n (lv' := [(2, .int 0), (0, .ref (b0 + o)), (1, .ref (b0 + x1))]) hC.1 hC.2.1 dX3_relist_1 rfl hl (by decide) rfl (fun ls hl => ?_)
  refine lv_iconst (v := 1) hC.1 hC.2.1 dX3_relist_2 (by decide) ?_
  refine lv_aload_n hC.1 hC.2.1 dX3_relist_3 rfl (lv_at hl 2 rfl) ?_
  obtain ⟨ok_21, h⟩ := h
  refine mm_gi hC hM (ci := 0) (j := 0) ok_21 rfl (by decide) (by decide) tw_33 rfl dX3_relist_4 ?_
  refine lv_ishl hC.1 hC.2.1 dX3_relist_7 ?_
  refine lv_topi (fun x3_22 ex3_22 => ?_)
  have h := h x3_22 ex3_22
  refine lv_istore_n (lv' := [(3, .int x3_22), (2, .int 0), (0, .ref (b0 + o)), (1, .ref (b0 + x1))]) hC.1 hC.2.1 dX3_relist_8 rfl hl (by decide) rfl (fun ls hl => ?_)
  refine lv_iconst (v := 0) hC.1 hC.2.1 dX3_relist_9 (by decide) ?_
  refine lv_istore (lv' := [(4, .int 0), (3, .int x3_22), (2, .int 0), (0, .ref (b0 + o)), (1, .ref (b0 + x1))]) hC.1 hC.2.1 dX3_relist_10 hl (by decide) rfl (fun ls hl => ?_)
  obtain ⟨n1, h⟩ := h
  exact qX3_relist_12 hC hr hlk n1 _ _ _ _ _ _ H locs ls h hM (lv_sub hl [3, 4, 2, 1, 0] rfl)
